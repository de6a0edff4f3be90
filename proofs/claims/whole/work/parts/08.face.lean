abbrev rX4_isListPlace : Room := { frames := 0, cells := 0, slots := 0, locals := 0 }
def pX4_isListPlace_15 (Q : Int32 → Prop) (y0 : Int32) : Prop := (y0 = 0 ∨ y0 = 1) ∧ (Q y0)
def pX4_isListPlace_14 (Q : Int32 → Prop)  : Prop := pX4_isListPlace_15 Q 0
def pX4_isListPlace  (x1 : Int32) (Q : Int32 → Prop) : Prop := (x1 < 0 → (pX4_isListPlace_14 Q )) ∧ (¬ x1 < 0 → ((6 ≤ x1 → (pX4_isListPlace_14 Q )) ∧ (¬ 6 ≤ x1 → (pX4_isListPlace_15 Q 1))))
set_option maxHeartbeats 4000000 in
set_option maxRecDepth 100000 in
theorem bX4_isListPlace_15 {p : Program} {l : Launch} {e : Env} {s : State} {m : MethodId} {args : Array Value} {below : List Frame} {meth : Method} {c : Code} {D : va_G} {κ : Nat → ClassId}    {Q : Int32 → Prop} (Cc : Cx D κ RX4 cX4_isListPlace 1 (some .boolean) p s m args meth c)    : ∀ (y0 : Int32) (ls : Array Slot) (hl : lv_has ls 1 []) (h : pX4_isListPlace_15 Q y0), W p l e rX4_isListPlace s m args below meth c s.heap [] 0 0 (MQ below (RQ Q) args s 0 0 (fun _ => False)) (F0 m 15 ls [.int y0]) := by
  obtain ⟨hx, hb, hml, hown, hts, hr, hlk, hE⟩ := id Cc
  intro y0 ls hl h
  unfold pX4_isListPlace_15 at h
  exact W.zret (v := y0) (ty := .boolean) hx hb hr (bool_nar h.1) (fun t ht _ => RQ.mk h.2 ht) (fun _ h9 => by cases h9) dX4_isListPlace_15 (hlocks := hlk)
set_option maxHeartbeats 4000000 in
set_option maxRecDepth 100000 in
theorem bX4_isListPlace_14 {p : Program} {l : Launch} {e : Env} {s : State} {m : MethodId} {args : Array Value} {below : List Frame} {meth : Method} {c : Code} {D : va_G} {κ : Nat → ClassId}    {Q : Int32 → Prop} (Cc : Cx D κ RX4 cX4_isListPlace 1 (some .boolean) p s m args meth c)    : ∀ (ls : Array Slot) (hl : lv_has ls 1 []) (h : pX4_isListPlace_14 Q ), W p l e rX4_isListPlace s m args below meth c s.heap [] 0 0 (MQ below (RQ Q) args s 0 0 (fun _ => False)) (F0 m 14 ls []) := by
  obtain ⟨hx, hb, hml, hown, hts, hr, hlk, hE⟩ := id Cc
  intro ls hl h
  unfold pX4_isListPlace_14 at h
  refine lv_iconst (v := 0) hx hb dX4_isListPlace_14 (by decide) ?_
  exact bX4_isListPlace_15 Cc 0  _ (lv_sub hl [] rfl) h
set_option maxHeartbeats 4000000 in
set_option maxRecDepth 100000 in
theorem mX4_isListPlace (l : Launch) (D : va_G) (κ : Nat → ClassId)   {x1 : Int32} {Q : Int32 → Prop}  (h : pX4_isListPlace  x1 Q) : Met l yX4_isListPlace (wz yX4_isListPlace cX4_isListPlace 1 (some .boolean)) rX4_isListPlace (va_Pc [.int x1] (PE D κ (fun _ => True))) (RQ Q) 0 0 (fun _ => False) := by
  refine Met_of l (own := RX4) (by decide) rfl (Nat.le_of_ble_eq_true rfl) (fun p e s m below meth c Cc hPP ls hl => ?_)
  obtain ⟨hx, hb, hml, hown, hts, hr, hlk, hE⟩ := id Cc
  have hl : lv_has ls 1 [(0, .int x1)] := hl
  unfold pX4_isListPlace at h
  refine lv_iload_n hx hb dX4_isListPlace_0 rfl (lv_at hl 0 rfl) ?_
  refine lv_if_lt (tgt := 14) hx hb dX4_isListPlace_1 (by decide) (fun c1 => ?_) (fun c1 => ?_)
  · have h := h.1 c1
    exact bX4_isListPlace_14 Cc   _ (lv_sub hl [] rfl) h
  · have h := h.2 c1
    refine lv_iload_n hx hb dX4_isListPlace_4 rfl (lv_at hl 0 rfl) ?_
    refine lv_bipush (v := 6) hx hb dX4_isListPlace_5 (by decide) ?_
    refine lv_icmp_ge (tgt := 14) hx hb dX4_isListPlace_7 (by decide) (fun c7 => ?_) (fun c7 => ?_)
    · have h := h.1 c7
      exact bX4_isListPlace_14 Cc   _ (lv_sub hl [] rfl) h
    · have h := h.2 c7
      refine lv_iconst (v := 1) hx hb dX4_isListPlace_10 (by decide) ?_
      refine lv_goto (tgt := 15) hx hb dX4_isListPlace_11 (by decide) ?_
      exact bX4_isListPlace_15 Cc 1  _ (lv_sub hl [] rfl) h
theorem qX4_isListPlace {R : Room} {s : State} {args : Array Value} {own : String} {idx : Nat} (hts : ∀ w ∈ gG, w.before args s = true) (hl : (Cond.methodLink own idx yX4_isListPlace).before args s = true) (hR : rX4_isListPlace.frames + 1 ≤ R.frames ∧ 8 + (1 + 11) + rX4_isListPlace.locals ≤ R.locals) : CallB R s args own idx yX4_isListPlace cX4_isListPlace 1 (some .boolean) (wz yX4_isListPlace cX4_isListPlace 1 (some .boolean)) rX4_isListPlace 0 0 1 ∧ (Cond.static yX4_isListPlace).before args s = true := ⟨kw 1 hts mw_240 rfl rfl (tw_70 hts) hl (by decide +kernel) hR, tw_239 hts⟩
abbrev rX4_isPlace : Room := { frames := 0, cells := 0, slots := 0, locals := 0 }
def pX4_isPlace_15 (Q : Int32 → Prop) (y0 : Int32) : Prop := (y0 = 0 ∨ y0 = 1) ∧ (Q y0)
def pX4_isPlace_14 (Q : Int32 → Prop)  : Prop := pX4_isPlace_15 Q 0
def pX4_isPlace  (x1 : Int32) (Q : Int32 → Prop) : Prop := (x1 < 0 → (pX4_isPlace_14 Q )) ∧ (¬ x1 < 0 → ((8 ≤ x1 → (pX4_isPlace_14 Q )) ∧ (¬ 8 ≤ x1 → (pX4_isPlace_15 Q 1))))
set_option maxHeartbeats 4000000 in
set_option maxRecDepth 100000 in
theorem bX4_isPlace_15 {p : Program} {l : Launch} {e : Env} {s : State} {m : MethodId} {args : Array Value} {below : List Frame} {meth : Method} {c : Code} {D : va_G} {κ : Nat → ClassId}    {Q : Int32 → Prop} (Cc : Cx D κ RX4 cX4_isPlace 1 (some .boolean) p s m args meth c)    : ∀ (y0 : Int32) (ls : Array Slot) (hl : lv_has ls 1 []) (h : pX4_isPlace_15 Q y0), W p l e rX4_isPlace s m args below meth c s.heap [] 0 0 (MQ below (RQ Q) args s 0 0 (fun _ => False)) (F0 m 15 ls [.int y0]) := by
  obtain ⟨hx, hb, hml, hown, hts, hr, hlk, hE⟩ := id Cc
  intro y0 ls hl h
  unfold pX4_isPlace_15 at h
  exact W.zret (v := y0) (ty := .boolean) hx hb hr (bool_nar h.1) (fun t ht _ => RQ.mk h.2 ht) (fun _ h9 => by cases h9) dX4_isPlace_15 (hlocks := hlk)
set_option maxHeartbeats 4000000 in
set_option maxRecDepth 100000 in
theorem bX4_isPlace_14 {p : Program} {l : Launch} {e : Env} {s : State} {m : MethodId} {args : Array Value} {below : List Frame} {meth : Method} {c : Code} {D : va_G} {κ : Nat → ClassId}    {Q : Int32 → Prop} (Cc : Cx D κ RX4 cX4_isPlace 1 (some .boolean) p s m args meth c)    : ∀ (ls : Array Slot) (hl : lv_has ls 1 []) (h : pX4_isPlace_14 Q ), W p l e rX4_isPlace s m args below meth c s.heap [] 0 0 (MQ below (RQ Q) args s 0 0 (fun _ => False)) (F0 m 14 ls []) := by
  obtain ⟨hx, hb, hml, hown, hts, hr, hlk, hE⟩ := id Cc
  intro ls hl h
  unfold pX4_isPlace_14 at h
  refine lv_iconst (v := 0) hx hb dX4_isPlace_14 (by decide) ?_
  exact bX4_isPlace_15 Cc 0  _ (lv_sub hl [] rfl) h
set_option maxHeartbeats 4000000 in
set_option maxRecDepth 100000 in
theorem mX4_isPlace (l : Launch) (D : va_G) (κ : Nat → ClassId)   {x1 : Int32} {Q : Int32 → Prop}  (h : pX4_isPlace  x1 Q) : Met l yX4_isPlace (wz yX4_isPlace cX4_isPlace 1 (some .boolean)) rX4_isPlace (va_Pc [.int x1] (PE D κ (fun _ => True))) (RQ Q) 0 0 (fun _ => False) := by
  refine Met_of l (own := RX4) (by decide) rfl (Nat.le_of_ble_eq_true rfl) (fun p e s m below meth c Cc hPP ls hl => ?_)
  obtain ⟨hx, hb, hml, hown, hts, hr, hlk, hE⟩ := id Cc
  have hl : lv_has ls 1 [(0, .int x1)] := hl
  unfold pX4_isPlace at h
  refine lv_iload_n hx hb dX4_isPlace_0 rfl (lv_at hl 0 rfl) ?_
  refine lv_if_lt (tgt := 14) hx hb dX4_isPlace_1 (by decide) (fun c1 => ?_) (fun c1 => ?_)
  · have h := h.1 c1
    exact bX4_isPlace_14 Cc   _ (lv_sub hl [] rfl) h
  · have h := h.2 c1
    refine lv_iload_n hx hb dX4_isPlace_4 rfl (lv_at hl 0 rfl) ?_
    refine lv_bipush (v := 8) hx hb dX4_isPlace_5 (by decide) ?_
    refine lv_icmp_ge (tgt := 14) hx hb dX4_isPlace_7 (by decide) (fun c7 => ?_) (fun c7 => ?_)
    · have h := h.1 c7
      exact bX4_isPlace_14 Cc   _ (lv_sub hl [] rfl) h
    · have h := h.2 c7
      refine lv_iconst (v := 1) hx hb dX4_isPlace_10 (by decide) ?_
      refine lv_goto (tgt := 15) hx hb dX4_isPlace_11 (by decide) ?_
      exact bX4_isPlace_15 Cc 1  _ (lv_sub hl [] rfl) h
theorem qX4_isPlace {R : Room} {s : State} {args : Array Value} {own : String} {idx : Nat} (hts : ∀ w ∈ gG, w.before args s = true) (hl : (Cond.methodLink own idx yX4_isPlace).before args s = true) (hR : rX4_isPlace.frames + 1 ≤ R.frames ∧ 8 + (1 + 11) + rX4_isPlace.locals ≤ R.locals) : CallB R s args own idx yX4_isPlace cX4_isPlace 1 (some .boolean) (wz yX4_isPlace cX4_isPlace 1 (some .boolean)) rX4_isPlace 0 0 1 ∧ (Cond.static yX4_isPlace).before args s = true := ⟨kw 1 hts mw_243 rfl rfl (tw_70 hts) hl (by decide +kernel) hR, tw_242 hts⟩
abbrev rX4_found : Room := { frames := 0, cells := 0, slots := 0, locals := 0 }
def pX4_found (S : Nat → Mx) (x1 : Int32) (Q : Int32 → (Nat → Mx) → Prop) : Prop := vp_in x1 7 ∧ (vp_in x1 7 ∧ (Q ((-1000001) - x1) (va_up S 5 (st (S 5) 0 x1.toNatClampNeg (((S 5) 0 x1.toNatClampNeg) + 1)))))
set_option maxHeartbeats 4000000 in
set_option maxRecDepth 100000 in
theorem mX4_found (l : Launch) (D : va_G) (κ : Nat → ClassId) (A : Nat → Nat → Nat) {S : Nat → Mx} {x1 : Int32} {Q : Int32 → (Nat → Mx) → Prop} (hI : IX A) (h : pX4_found S x1 Q) : Met l yX4_found (wz yX4_found cX4_found 2 (some .int)) rX4_found (va_Pc [.ref (A 5 0), .int x1] (PE D κ (fun H => PX D κ A S H))) (QWi Q (fun u H => PX D κ A u H) (aX A)) 0 0 (aX A) := by
  refine Met_of l (own := RX4) (by decide) rfl (Nat.le_of_ble_eq_true rfl) (fun p e s m below meth c Cc hPP ls hl => ?_)
  obtain ⟨hx, hb, hml, hown, hts, hr, hlk, hE⟩ := id Cc
  have hl : lv_has ls 2 [(0, .ref (A 5 0)), (1, .int x1)] := hl
  have hP := hPP
  have hS : va_S (aX A) s.heap s.heap [] := va_S.rf
  unfold pX4_found at h
  refine lv_aload_n hx hb dX4_found_0 rfl (lv_at hl 0 rfl) ?_
  refine gSf_6 Cc hP.c5 (tw_215 hts) dX4_found_1 ?_
  refine lv_iload_n hx hb dX4_found_4 rfl (lv_at hl 1 rfl) ?_
  refine lv_dup2_11 hx hb dX4_found_5 rfl rfl ?_
  refine lSf_0 Cc hP.c5 h.1 dX4_found_6 ?_
  have h := h.2
  refine lv_iconst (v := 1) hx hb dX4_found_7 (by decide) ?_
  refine lv_iadd hx hb dX4_found_8 ?_
  refine sSf_0 Cc hP.c5 (hI.ij (k := 5) (by decide)) hS (aX_of (k := 5) (by decide) ⟨2, by decide, rfl⟩) h.1 dX4_found_9 (fun H1 locs1 hB hS1 hk => ?_)
  have h := h.2
  have hP := PX.put (k := 5) (by decide) hI hP hB (fun q _ hq => hk q (fun e => hq ⟨2, by decide, e⟩))
  have hS := hS1
  refine lv_ldc (own := RX4) (v := (-1000001)) hx hb hown (tw_248 hts) dX4_found_10 ?_
  refine lv_iload_n hx hb dX4_found_12 rfl (lv_at hl 1 rfl) ?_
  refine lv_isub hx hb dX4_found_13 ?_
  exact W.iret (v := ((-1000001) - x1)) hx hb hr (fun t ht _ => QWi.mk (u := (va_up S 5 (st (S 5) 0 x1.toNatClampNeg (((S 5) 0 x1.toNatClampNeg) + 1)))) h hP hS ht) hS.2.2 dX4_found_14 (hlocks := hlk)
theorem qX4_found {R : Room} {s : State} {args : Array Value} {own : String} {idx : Nat} (hts : ∀ w ∈ gG, w.before args s = true) (hl : (Cond.methodLink own idx yX4_found).before args s = true) (hR : rX4_found.frames + 1 ≤ R.frames ∧ 8 + (2 + 11) + rX4_found.locals ≤ R.locals) : CallW R s args own RX4 idx yX4_found cX4_found 2 (some .int) (wz yX4_found cX4_found 2 (some .int)) rX4_found 0 0 1 := ⟨kw 1 hts mw_247 rfl rfl (tw_70 hts) hl (by decide +kernel) hR, tw_246 hts, tw_0 hts⟩
abbrev rX4_list : Room := { frames := 1, cells := 0, slots := 0, locals := 21 }
def pX4_list_21 (Q : Int32 → (Nat → Mx) → Prop) (S : Nat → Mx) : Prop := pX4_found S 0 (fun r23 u23 => (Q r23 u23))
def pX4_list (S : Nat → Mx) (x1 : Int32) (x2 : Int32) (x3 : Int32) (Q : Int32 → (Nat → Mx) → Prop) : Prop := pX4_isListPlace x1 (fun r1 => ((r1 = 0 → (pX4_list_21 Q S)) ∧ (¬ r1 = 0 → (pX4_isPlace x2 (fun r8 => ((r8 = 0 → (pX4_list_21 Q S)) ∧ (¬ r8 = 0 → (pX4_isPlace x3 (fun r15 => ((¬ r15 = 0 → (vp_in x1 6 ∧ (∀ v36 : Int32, v36 = ((S 0) 5 x1.toNatClampNeg) → (vp_in x1 6 ∧ (Q v36 (va_up S 0 (st (S 0) 5 x1.toNatClampNeg ((10 * x2) + x3)))))))) ∧ (r15 = 0 → (pX4_list_21 Q S))))))))))))
set_option maxHeartbeats 4000000 in
set_option maxRecDepth 100000 in
theorem bX4_list_21 {p : Program} {l : Launch} {e : Env} {s : State} {m : MethodId} {args : Array Value} {below : List Frame} {meth : Method} {c : Code} {D : va_G} {κ : Nat → ClassId} {A : Nat → Nat → Nat}   {Q : Int32 → (Nat → Mx) → Prop} (Cc : Cx D κ RX4 cX4_list 5 (some .int) p s m args meth c) (hI : IX A)   : ∀ (S : Nat → Mx) (H : Heap) (locs : List Loc) (hP : PX D κ A S H) (hS : va_S (aX A) s.heap H locs) (ls : Array Slot) (hl : lv_has ls 5 [(0, .ref (A 5 0))]) (h : pX4_list_21 Q S), W p l e rX4_list s m args below meth c H locs 0 0 (MQ below (QWi Q (fun u H => PX D κ A u H) (aX A)) args s 0 0 (aX A)) (F0 m 21 ls []) := by
  obtain ⟨hx, hb, hml, hown, hts, hr, hlk, hE⟩ := id Cc
  intro S H locs hP hS ls hl h
  unfold pX4_list_21 at h
  refine lv_aload_n hx hb dX4_list_21 rfl (lv_at hl 0 rfl) ?_
  refine lv_iconst (v := 0) hx hb dX4_list_22 (by decide) ?_
  refine kWi (kV Cc (mX4_found l D κ A hI h) (qX4_found hts (tw_244 hts) ⟨(Nat.le_of_ble_eq_true rfl), (Nat.le_of_ble_eq_true rfl)⟩) (va_recv hE.1 hP.c5 (ci := 4) (q0 := 0) rfl rfl) (rest := []) hP rfl hl.1 rfl (Nat.le_of_ble_eq_true rfl) dX4_list_23 ⟨Nat.zero_le _, Nat.zero_le _⟩) hS (fun q h9 => h9) (fun r23 u23 H1 locs1 h hB hk hS1 => ?_)
  have hP := hB
  have hS := hS1
  exact W.iret (v := r23) hx hb hr (fun t ht _ => QWi.mk (u := u23) h hP hS ht) hS.2.2 dX4_list_26 (hlocks := hlk)
set_option maxHeartbeats 4000000 in
set_option maxRecDepth 100000 in
theorem mX4_list (l : Launch) (D : va_G) (κ : Nat → ClassId) (A : Nat → Nat → Nat) {S : Nat → Mx} {x1 : Int32} {x2 : Int32} {x3 : Int32} {Q : Int32 → (Nat → Mx) → Prop} (hI : IX A) (h : pX4_list S x1 x2 x3 Q) : Met l yX4_list (wz yX4_list cX4_list 5 (some .int)) rX4_list (va_Pc [.ref (A 5 0), .int x1, .int x2, .int x3] (PE D κ (fun H => PX D κ A S H))) (QWi Q (fun u H => PX D κ A u H) (aX A)) 0 0 (aX A) := by
  refine Met_of l (own := RX4) (by decide) rfl (Nat.le_of_ble_eq_true rfl) (fun p e s m below meth c Cc hPP ls hl => ?_)
  obtain ⟨hx, hb, hml, hown, hts, hr, hlk, hE⟩ := id Cc
  have hl : lv_has ls 5 [(0, .ref (A 5 0)), (1, .int x1), (2, .int x2), (3, .int x3)] := hl
  have hP := hPP
  have hS : va_S (aX A) s.heap s.heap [] := va_S.rf
  unfold pX4_list at h
  refine lv_iload_n hx hb dX4_list_0 rfl (lv_at hl 1 rfl) ?_
  refine kR (kS Cc (mX4_isListPlace l D κ h) (qX4_isListPlace hts (tw_238 hts) ⟨(Nat.le_of_ble_eq_true rfl), (Nat.le_of_ble_eq_true rfl)⟩) (rest := []) trivial rfl hl.1 rfl (Nat.le_of_ble_eq_true rfl) dX4_list_1 ⟨Nat.zero_le _, Nat.zero_le _⟩) (fun r1 h => ?_)
  refine lv_if_eq (tgt := 21) hx hb dX4_list_4 (by decide) (fun c4 => ?_) (fun c4 => ?_)
  · have h := h.1 c4
    exact bX4_list_21 Cc hI S _ _ hP hS _ (lv_sub hl [0] rfl) h
  · have h := h.2 c4
    refine lv_iload_n hx hb dX4_list_7 rfl (lv_at hl 2 rfl) ?_
    refine kR (kS Cc (mX4_isPlace l D κ h) (qX4_isPlace hts (tw_241 hts) ⟨(Nat.le_of_ble_eq_true rfl), (Nat.le_of_ble_eq_true rfl)⟩) (rest := []) trivial rfl hl.1 rfl (Nat.le_of_ble_eq_true rfl) dX4_list_8 ⟨Nat.zero_le _, Nat.zero_le _⟩) (fun r8 h => ?_)
    refine lv_if_eq (tgt := 21) hx hb dX4_list_11 (by decide) (fun c11 => ?_) (fun c11 => ?_)
    · have h := h.1 c11
      exact bX4_list_21 Cc hI S _ _ hP hS _ (lv_sub hl [0] rfl) h
    · have h := h.2 c11
      refine lv_iload_n hx hb dX4_list_14 rfl (lv_at hl 3 rfl) ?_
      refine kR (kS Cc (mX4_isPlace l D κ h) (qX4_isPlace hts (tw_241 hts) ⟨(Nat.le_of_ble_eq_true rfl), (Nat.le_of_ble_eq_true rfl)⟩) (rest := []) trivial rfl hl.1 rfl (Nat.le_of_ble_eq_true rfl) dX4_list_15 ⟨Nat.zero_le _, Nat.zero_le _⟩) (fun r15 h => ?_)
      refine lv_if_ne (tgt := 27) hx hb dX4_list_18 (by decide) (fun c18 => ?_) (fun c18 => ?_)
      · have h := h.1 c18
        refine lv_aload_n hx hb dX4_list_27 rfl (lv_at hl 0 rfl) ?_
        refine gSf_0 Cc hP.c5 (tw_209 hts) dX4_list_28 ?_
        refine gCo_5 Cc hP.c0 (tw_108 hts) dX4_list_31 ?_
        refine lv_iload_n hx hb dX4_list_34 rfl (lv_at hl 1 rfl) ?_
        refine lCo_5 Cc hP.c0 h.1 dX4_list_35 ?_
        have h := h.2
        refine lv_topi (fun v36 e36 => ?_)
        have h := h v36 e36
        refine lv_istore (lv' := [(4, .int v36), (0, .ref (A 5 0)), (1, .int x1), (2, .int x2), (3, .int x3)]) hx hb dX4_list_36 hl (by decide) rfl (fun ls hl => ?_)
        refine lv_aload_n hx hb dX4_list_38 rfl (lv_at hl 1 rfl) ?_
        refine gSf_0 Cc hP.c5 (tw_209 hts) dX4_list_39 ?_
        refine gCo_5 Cc hP.c0 (tw_108 hts) dX4_list_42 ?_
        refine lv_iload_n hx hb dX4_list_45 rfl (lv_at hl 2 rfl) ?_
        refine lv_bipush (v := 10) hx hb dX4_list_46 (by decide) ?_
        refine lv_iload_n hx hb dX4_list_48 rfl (lv_at hl 3 rfl) ?_
        refine lv_imul hx hb dX4_list_49 ?_
        refine lv_iload_n hx hb dX4_list_50 rfl (lv_at hl 4 rfl) ?_
        refine lv_iadd hx hb dX4_list_51 ?_
        refine sCo_5 Cc hP.c0 (hI.ij (k := 0) (by decide)) hS (aX_of (k := 0) (by decide) ⟨6, by decide, rfl⟩) h.1 dX4_list_52 (fun H1 locs1 hB hS1 hk => ?_)
        have h := h.2
        have hP := PX.put (k := 0) (by decide) hI hP hB (fun q _ hq => hk q (fun e => hq ⟨6, by decide, e⟩))
        have hS := hS1
        refine lv_iload hx hb dX4_list_53 (lv_at hl 0 rfl) ?_
        exact W.iret (v := v36) hx hb hr (fun t ht _ => QWi.mk (u := (va_up S 0 (st (S 0) 5 x1.toNatClampNeg ((10 * x2) + x3)))) h hP hS ht) hS.2.2 dX4_list_55 (hlocks := hlk)
      · have h := h.2 c18
        exact bX4_list_21 Cc hI S _ _ hP hS _ (lv_sub hl [0] rfl) h
theorem qX4_list {R : Room} {s : State} {args : Array Value} {own : String} {idx : Nat} (hts : ∀ w ∈ gG, w.before args s = true) (hl : (Cond.methodLink own idx yX4_list).before args s = true) (hR : rX4_list.frames + 1 ≤ R.frames ∧ 8 + (5 + 11) + rX4_list.locals ≤ R.locals) : CallW R s args own RX4 idx yX4_list cX4_list 5 (some .int) (wz yX4_list cX4_list 5 (some .int)) rX4_list 0 0 3 := ⟨kw 3 hts mw_237 rfl rfl (tw_70 hts) hl (by decide +kernel) hR, tw_235 hts, tw_236 hts⟩
abbrev rX4_listed : Room := { frames := 1, cells := 0, slots := 0, locals := 21 }
def pX4_listed_24 (Q : Int32 → (Nat → Mx) → Prop) (y0 : Int32) (S : Nat → Mx) : Prop := Q y0 S
def pX4_listed (S : Nat → Mx) (x1 : Int32) (Q : Int32 → (Nat → Mx) → Prop) : Prop := pX4_isListPlace x1 (fun r1 => ((r1 = 0 → (pX4_found S 0 (fun r21 u21 => (pX4_listed_24 Q r21 u21)))) ∧ (¬ r1 = 0 → (vp_in x1 6 ∧ (pX4_listed_24 Q ((S 0) 5 x1.toNatClampNeg) S)))))
set_option maxHeartbeats 4000000 in
set_option maxRecDepth 100000 in
theorem bX4_listed_24 {p : Program} {l : Launch} {e : Env} {s : State} {m : MethodId} {args : Array Value} {below : List Frame} {meth : Method} {c : Code} {D : va_G} {κ : Nat → ClassId} {A : Nat → Nat → Nat}   {Q : Int32 → (Nat → Mx) → Prop} (Cc : Cx D κ RX4 cX4_listed 2 (some .int) p s m args meth c) (hI : IX A)   : ∀ (y0 : Int32) (S : Nat → Mx) (H : Heap) (locs : List Loc) (hP : PX D κ A S H) (hS : va_S (aX A) s.heap H locs) (ls : Array Slot) (hl : lv_has ls 2 []) (h : pX4_listed_24 Q y0 S), W p l e rX4_listed s m args below meth c H locs 0 0 (MQ below (QWi Q (fun u H => PX D κ A u H) (aX A)) args s 0 0 (aX A)) (F0 m 24 ls [.int y0]) := by
  obtain ⟨hx, hb, hml, hown, hts, hr, hlk, hE⟩ := id Cc
  intro y0 S H locs hP hS ls hl h
  unfold pX4_listed_24 at h
  exact W.iret (v := y0) hx hb hr (fun t ht _ => QWi.mk (u := S) h hP hS ht) hS.2.2 dX4_listed_24 (hlocks := hlk)
set_option maxHeartbeats 4000000 in
set_option maxRecDepth 100000 in
theorem mX4_listed (l : Launch) (D : va_G) (κ : Nat → ClassId) (A : Nat → Nat → Nat) {S : Nat → Mx} {x1 : Int32} {Q : Int32 → (Nat → Mx) → Prop} (hI : IX A) (h : pX4_listed S x1 Q) : Met l yX4_listed (wz yX4_listed cX4_listed 2 (some .int)) rX4_listed (va_Pc [.ref (A 5 0), .int x1] (PE D κ (fun H => PX D κ A S H))) (QWi Q (fun u H => PX D κ A u H) (aX A)) 0 0 (aX A) := by
  refine Met_of l (own := RX4) (by decide) rfl (Nat.le_of_ble_eq_true rfl) (fun p e s m below meth c Cc hPP ls hl => ?_)
  obtain ⟨hx, hb, hml, hown, hts, hr, hlk, hE⟩ := id Cc
  have hl : lv_has ls 2 [(0, .ref (A 5 0)), (1, .int x1)] := hl
  have hP := hPP
  have hS : va_S (aX A) s.heap s.heap [] := va_S.rf
  unfold pX4_listed at h
  refine lv_iload_n hx hb dX4_listed_0 rfl (lv_at hl 1 rfl) ?_
  refine kR (kS Cc (mX4_isListPlace l D κ h) (qX4_isListPlace hts (tw_238 hts) ⟨(Nat.le_of_ble_eq_true rfl), (Nat.le_of_ble_eq_true rfl)⟩) (rest := []) trivial rfl hl.1 rfl (Nat.le_of_ble_eq_true rfl) dX4_listed_1 ⟨Nat.zero_le _, Nat.zero_le _⟩) (fun r1 h => ?_)
  refine lv_if_eq (tgt := 19) hx hb dX4_listed_4 (by decide) (fun c4 => ?_) (fun c4 => ?_)
  · have h := h.1 c4
    refine lv_aload_n hx hb dX4_listed_19 rfl (lv_at hl 0 rfl) ?_
    refine lv_iconst (v := 0) hx hb dX4_listed_20 (by decide) ?_
    refine kWi (kV Cc (mX4_found l D κ A hI h) (qX4_found hts (tw_244 hts) ⟨(Nat.le_of_ble_eq_true rfl), (Nat.le_of_ble_eq_true rfl)⟩) (va_recv hE.1 hP.c5 (ci := 4) (q0 := 0) rfl rfl) (rest := []) hP rfl hl.1 rfl (Nat.le_of_ble_eq_true rfl) dX4_listed_21 ⟨Nat.zero_le _, Nat.zero_le _⟩) hS (fun q h9 => h9) (fun r21 u21 H1 locs1 h hB hk hS1 => ?_)
    have hP := hB
    have hS := hS1
    exact bX4_listed_24 Cc hI r21 u21 _ _ hP hS _ (lv_sub hl [] rfl) h
  · have h := h.2 c4
    refine lv_aload_n hx hb dX4_listed_7 rfl (lv_at hl 0 rfl) ?_
    refine gSf_0 Cc hP.c5 (tw_209 hts) dX4_listed_8 ?_
    refine gCo_5 Cc hP.c0 (tw_108 hts) dX4_listed_11 ?_
    refine lv_iload_n hx hb dX4_listed_14 rfl (lv_at hl 1 rfl) ?_
    refine lCo_5 Cc hP.c0 h.1 dX4_listed_15 ?_
    have h := h.2
    refine lv_goto (tgt := 24) hx hb dX4_listed_16 (by decide) ?_
    exact bX4_listed_24 Cc hI ((S 0) 5 x1.toNatClampNeg) S _ _ hP hS _ (lv_sub hl [] rfl) h
theorem qX4_listed {R : Room} {s : State} {args : Array Value} {own : String} {idx : Nat} (hts : ∀ w ∈ gG, w.before args s = true) (hl : (Cond.methodLink own idx yX4_listed).before args s = true) (hR : rX4_listed.frames + 1 ≤ R.frames ∧ 8 + (2 + 11) + rX4_listed.locals ≤ R.locals) : CallW R s args own RX4 idx yX4_listed cX4_listed 2 (some .int) (wz yX4_listed cX4_listed 2 (some .int)) rX4_listed 0 0 1 := ⟨kw 1 hts mw_252 rfl rfl (tw_70 hts) hl (by decide +kernel) hR, tw_250 hts, tw_251 hts⟩
abbrev rX4_isKind : Room := { frames := 0, cells := 0, slots := 0, locals := 0 }
def pX4_isKind_15 (Q : Int32 → Prop) (y0 : Int32) : Prop := (y0 = 0 ∨ y0 = 1) ∧ (Q y0)
def pX4_isKind_14 (Q : Int32 → Prop)  : Prop := pX4_isKind_15 Q 0
def pX4_isKind  (x1 : Int32) (Q : Int32 → Prop) : Prop := (x1 < 0 → (pX4_isKind_14 Q )) ∧ (¬ x1 < 0 → ((7 ≤ x1 → (pX4_isKind_14 Q )) ∧ (¬ 7 ≤ x1 → (pX4_isKind_15 Q 1))))
set_option maxHeartbeats 4000000 in
set_option maxRecDepth 100000 in
theorem bX4_isKind_15 {p : Program} {l : Launch} {e : Env} {s : State} {m : MethodId} {args : Array Value} {below : List Frame} {meth : Method} {c : Code} {D : va_G} {κ : Nat → ClassId}    {Q : Int32 → Prop} (Cc : Cx D κ RX4 cX4_isKind 1 (some .boolean) p s m args meth c)    : ∀ (y0 : Int32) (ls : Array Slot) (hl : lv_has ls 1 []) (h : pX4_isKind_15 Q y0), W p l e rX4_isKind s m args below meth c s.heap [] 0 0 (MQ below (RQ Q) args s 0 0 (fun _ => False)) (F0 m 15 ls [.int y0]) := by
  obtain ⟨hx, hb, hml, hown, hts, hr, hlk, hE⟩ := id Cc
  intro y0 ls hl h
  unfold pX4_isKind_15 at h
  exact W.zret (v := y0) (ty := .boolean) hx hb hr (bool_nar h.1) (fun t ht _ => RQ.mk h.2 ht) (fun _ h9 => by cases h9) dX4_isKind_15 (hlocks := hlk)
set_option maxHeartbeats 4000000 in
set_option maxRecDepth 100000 in
theorem bX4_isKind_14 {p : Program} {l : Launch} {e : Env} {s : State} {m : MethodId} {args : Array Value} {below : List Frame} {meth : Method} {c : Code} {D : va_G} {κ : Nat → ClassId}    {Q : Int32 → Prop} (Cc : Cx D κ RX4 cX4_isKind 1 (some .boolean) p s m args meth c)    : ∀ (ls : Array Slot) (hl : lv_has ls 1 []) (h : pX4_isKind_14 Q ), W p l e rX4_isKind s m args below meth c s.heap [] 0 0 (MQ below (RQ Q) args s 0 0 (fun _ => False)) (F0 m 14 ls []) := by
  obtain ⟨hx, hb, hml, hown, hts, hr, hlk, hE⟩ := id Cc
  intro ls hl h
  unfold pX4_isKind_14 at h
  refine lv_iconst (v := 0) hx hb dX4_isKind_14 (by decide) ?_
  exact bX4_isKind_15 Cc 0  _ (lv_sub hl [] rfl) h
set_option maxHeartbeats 4000000 in
set_option maxRecDepth 100000 in
theorem mX4_isKind (l : Launch) (D : va_G) (κ : Nat → ClassId)   {x1 : Int32} {Q : Int32 → Prop}  (h : pX4_isKind  x1 Q) : Met l yX4_isKind (wz yX4_isKind cX4_isKind 1 (some .boolean)) rX4_isKind (va_Pc [.int x1] (PE D κ (fun _ => True))) (RQ Q) 0 0 (fun _ => False) := by
  refine Met_of l (own := RX4) (by decide) rfl (Nat.le_of_ble_eq_true rfl) (fun p e s m below meth c Cc hPP ls hl => ?_)
  obtain ⟨hx, hb, hml, hown, hts, hr, hlk, hE⟩ := id Cc
  have hl : lv_has ls 1 [(0, .int x1)] := hl
  unfold pX4_isKind at h
  refine lv_iload_n hx hb dX4_isKind_0 rfl (lv_at hl 0 rfl) ?_
  refine lv_if_lt (tgt := 14) hx hb dX4_isKind_1 (by decide) (fun c1 => ?_) (fun c1 => ?_)
  · have h := h.1 c1
    exact bX4_isKind_14 Cc   _ (lv_sub hl [] rfl) h
  · have h := h.2 c1
    refine lv_iload_n hx hb dX4_isKind_4 rfl (lv_at hl 0 rfl) ?_
    refine lv_bipush (v := 7) hx hb dX4_isKind_5 (by decide) ?_
    refine lv_icmp_ge (tgt := 14) hx hb dX4_isKind_7 (by decide) (fun c7 => ?_) (fun c7 => ?_)
    · have h := h.1 c7
      exact bX4_isKind_14 Cc   _ (lv_sub hl [] rfl) h
    · have h := h.2 c7
      refine lv_iconst (v := 1) hx hb dX4_isKind_10 (by decide) ?_
      refine lv_goto (tgt := 15) hx hb dX4_isKind_11 (by decide) ?_
      exact bX4_isKind_15 Cc 1  _ (lv_sub hl [] rfl) h
theorem qX4_isKind {R : Room} {s : State} {args : Array Value} {own : String} {idx : Nat} (hts : ∀ w ∈ gG, w.before args s = true) (hl : (Cond.methodLink own idx yX4_isKind).before args s = true) (hR : rX4_isKind.frames + 1 ≤ R.frames ∧ 8 + (1 + 11) + rX4_isKind.locals ≤ R.locals) : CallB R s args own idx yX4_isKind cX4_isKind 1 (some .boolean) (wz yX4_isKind cX4_isKind 1 (some .boolean)) rX4_isKind 0 0 1 ∧ (Cond.static yX4_isKind).before args s = true := ⟨kw 1 hts mw_259 rfl rfl (tw_70 hts) hl (by decide +kernel) hR, tw_258 hts⟩
abbrev rX4_isEdge : Room := { frames := 0, cells := 0, slots := 0, locals := 0 }
def pX4_isEdge_15 (Q : Int32 → Prop) (y0 : Int32) : Prop := (y0 = 0 ∨ y0 = 1) ∧ (Q y0)
def pX4_isEdge_14 (Q : Int32 → Prop)  : Prop := pX4_isEdge_15 Q 0
def pX4_isEdge  (x1 : Int32) (Q : Int32 → Prop) : Prop := (x1 < 0 → (pX4_isEdge_14 Q )) ∧ (¬ x1 < 0 → ((9 < x1 → (pX4_isEdge_14 Q )) ∧ (¬ 9 < x1 → (pX4_isEdge_15 Q 1))))
set_option maxHeartbeats 4000000 in
set_option maxRecDepth 100000 in
theorem bX4_isEdge_15 {p : Program} {l : Launch} {e : Env} {s : State} {m : MethodId} {args : Array Value} {below : List Frame} {meth : Method} {c : Code} {D : va_G} {κ : Nat → ClassId}    {Q : Int32 → Prop} (Cc : Cx D κ RX4 cX4_isEdge 1 (some .boolean) p s m args meth c)    : ∀ (y0 : Int32) (ls : Array Slot) (hl : lv_has ls 1 []) (h : pX4_isEdge_15 Q y0), W p l e rX4_isEdge s m args below meth c s.heap [] 0 0 (MQ below (RQ Q) args s 0 0 (fun _ => False)) (F0 m 15 ls [.int y0]) := by
  obtain ⟨hx, hb, hml, hown, hts, hr, hlk, hE⟩ := id Cc
  intro y0 ls hl h
  unfold pX4_isEdge_15 at h
  exact W.zret (v := y0) (ty := .boolean) hx hb hr (bool_nar h.1) (fun t ht _ => RQ.mk h.2 ht) (fun _ h9 => by cases h9) dX4_isEdge_15 (hlocks := hlk)
set_option maxHeartbeats 4000000 in
set_option maxRecDepth 100000 in
theorem bX4_isEdge_14 {p : Program} {l : Launch} {e : Env} {s : State} {m : MethodId} {args : Array Value} {below : List Frame} {meth : Method} {c : Code} {D : va_G} {κ : Nat → ClassId}    {Q : Int32 → Prop} (Cc : Cx D κ RX4 cX4_isEdge 1 (some .boolean) p s m args meth c)    : ∀ (ls : Array Slot) (hl : lv_has ls 1 []) (h : pX4_isEdge_14 Q ), W p l e rX4_isEdge s m args below meth c s.heap [] 0 0 (MQ below (RQ Q) args s 0 0 (fun _ => False)) (F0 m 14 ls []) := by
  obtain ⟨hx, hb, hml, hown, hts, hr, hlk, hE⟩ := id Cc
  intro ls hl h
  unfold pX4_isEdge_14 at h
  refine lv_iconst (v := 0) hx hb dX4_isEdge_14 (by decide) ?_
  exact bX4_isEdge_15 Cc 0  _ (lv_sub hl [] rfl) h
set_option maxHeartbeats 4000000 in
set_option maxRecDepth 100000 in
theorem mX4_isEdge (l : Launch) (D : va_G) (κ : Nat → ClassId)   {x1 : Int32} {Q : Int32 → Prop}  (h : pX4_isEdge  x1 Q) : Met l yX4_isEdge (wz yX4_isEdge cX4_isEdge 1 (some .boolean)) rX4_isEdge (va_Pc [.int x1] (PE D κ (fun _ => True))) (RQ Q) 0 0 (fun _ => False) := by
  refine Met_of l (own := RX4) (by decide) rfl (Nat.le_of_ble_eq_true rfl) (fun p e s m below meth c Cc hPP ls hl => ?_)
  obtain ⟨hx, hb, hml, hown, hts, hr, hlk, hE⟩ := id Cc
  have hl : lv_has ls 1 [(0, .int x1)] := hl
  unfold pX4_isEdge at h
  refine lv_iload_n hx hb dX4_isEdge_0 rfl (lv_at hl 0 rfl) ?_
  refine lv_if_lt (tgt := 14) hx hb dX4_isEdge_1 (by decide) (fun c1 => ?_) (fun c1 => ?_)
  · have h := h.1 c1
    exact bX4_isEdge_14 Cc   _ (lv_sub hl [] rfl) h
  · have h := h.2 c1
    refine lv_iload_n hx hb dX4_isEdge_4 rfl (lv_at hl 0 rfl) ?_
    refine lv_bipush (v := 9) hx hb dX4_isEdge_5 (by decide) ?_
    refine lv_icmp_gt (tgt := 14) hx hb dX4_isEdge_7 (by decide) (fun c7 => ?_) (fun c7 => ?_)
    · have h := h.1 c7
      exact bX4_isEdge_14 Cc   _ (lv_sub hl [] rfl) h
    · have h := h.2 c7
      refine lv_iconst (v := 1) hx hb dX4_isEdge_10 (by decide) ?_
      refine lv_goto (tgt := 15) hx hb dX4_isEdge_11 (by decide) ?_
      exact bX4_isEdge_15 Cc 1  _ (lv_sub hl [] rfl) h
theorem qX4_isEdge {R : Room} {s : State} {args : Array Value} {own : String} {idx : Nat} (hts : ∀ w ∈ gG, w.before args s = true) (hl : (Cond.methodLink own idx yX4_isEdge).before args s = true) (hR : rX4_isEdge.frames + 1 ≤ R.frames ∧ 8 + (1 + 11) + rX4_isEdge.locals ≤ R.locals) : CallB R s args own idx yX4_isEdge cX4_isEdge 1 (some .boolean) (wz yX4_isEdge cX4_isEdge 1 (some .boolean)) rX4_isEdge 0 0 1 ∧ (Cond.static yX4_isEdge).before args s = true := ⟨kw 1 hts mw_262 rfl rfl (tw_70 hts) hl (by decide +kernel) hR, tw_261 hts⟩
abbrev rX4_piece : Room := { frames := 1, cells := 0, slots := 0, locals := 24 }
def pX4_piece_21 (Q : Int32 → (Nat → Mx) → Prop) (S : Nat → Mx) : Prop := pX4_found S 0 (fun r23 u23 => (Q r23 u23))
def pX4_piece (S : Nat → Mx) (x1 : Int32) (x2 : Int32) (x3 : Int32) (Q : Int32 → (Nat → Mx) → Prop) : Prop := pX4_isKind x1 (fun r1 => ((r1 = 0 → (pX4_piece_21 Q S)) ∧ (¬ r1 = 0 → (pX4_isEdge x2 (fun r8 => ((r8 = 0 → (pX4_piece_21 Q S)) ∧ (¬ r8 = 0 → (pX4_isEdge x3 (fun r15 => ((¬ r15 = 0 → ((((S 0) 8 0) < 8 → (pX1_addPiece (S 0) x1 x2 x3 (fun r52 u52 => (Q r52 (va_up S 0 u52))))) ∧ (¬ ((S 0) 8 0) < 8 → (pX4_found S 1 (fun r41 u41 => (Q r41 u41)))))) ∧ (r15 = 0 → (pX4_piece_21 Q S))))))))))))
set_option maxHeartbeats 4000000 in
set_option maxRecDepth 100000 in
theorem bX4_piece_21 {p : Program} {l : Launch} {e : Env} {s : State} {m : MethodId} {args : Array Value} {below : List Frame} {meth : Method} {c : Code} {D : va_G} {κ : Nat → ClassId} {A : Nat → Nat → Nat}   {Q : Int32 → (Nat → Mx) → Prop} (Cc : Cx D κ RX4 cX4_piece 4 (some .int) p s m args meth c) (hI : IX A)   : ∀ (S : Nat → Mx) (H : Heap) (locs : List Loc) (hP : PX D κ A S H) (hS : va_S (aX A) s.heap H locs) (ls : Array Slot) (hl : lv_has ls 4 [(0, .ref (A 5 0))]) (h : pX4_piece_21 Q S), W p l e rX4_piece s m args below meth c H locs 0 0 (MQ below (QWi Q (fun u H => PX D κ A u H) (aX A)) args s 0 0 (aX A)) (F0 m 21 ls []) := by
  obtain ⟨hx, hb, hml, hown, hts, hr, hlk, hE⟩ := id Cc
  intro S H locs hP hS ls hl h
  unfold pX4_piece_21 at h
  refine lv_aload_n hx hb dX4_piece_21 rfl (lv_at hl 0 rfl) ?_
  refine lv_iconst (v := 0) hx hb dX4_piece_22 (by decide) ?_
  refine kWi (kV Cc (mX4_found l D κ A hI h) (qX4_found hts (tw_244 hts) ⟨(Nat.le_of_ble_eq_true rfl), (Nat.le_of_ble_eq_true rfl)⟩) (va_recv hE.1 hP.c5 (ci := 4) (q0 := 0) rfl rfl) (rest := []) hP rfl hl.1 rfl (Nat.le_of_ble_eq_true rfl) dX4_piece_23 ⟨Nat.zero_le _, Nat.zero_le _⟩) hS (fun q h9 => h9) (fun r23 u23 H1 locs1 h hB hk hS1 => ?_)
  have hP := hB
  have hS := hS1
  exact W.iret (v := r23) hx hb hr (fun t ht _ => QWi.mk (u := u23) h hP hS ht) hS.2.2 dX4_piece_26 (hlocks := hlk)
set_option maxHeartbeats 4000000 in
set_option maxRecDepth 100000 in
theorem mX4_piece (l : Launch) (D : va_G) (κ : Nat → ClassId) (A : Nat → Nat → Nat) {S : Nat → Mx} {x1 : Int32} {x2 : Int32} {x3 : Int32} {Q : Int32 → (Nat → Mx) → Prop} (hI : IX A) (h : pX4_piece S x1 x2 x3 Q) : Met l yX4_piece (wz yX4_piece cX4_piece 4 (some .int)) rX4_piece (va_Pc [.ref (A 5 0), .int x1, .int x2, .int x3] (PE D κ (fun H => PX D κ A S H))) (QWi Q (fun u H => PX D κ A u H) (aX A)) 0 0 (aX A) := by
  refine Met_of l (own := RX4) (by decide) rfl (Nat.le_of_ble_eq_true rfl) (fun p e s m below meth c Cc hPP ls hl => ?_)
  obtain ⟨hx, hb, hml, hown, hts, hr, hlk, hE⟩ := id Cc
  have hl : lv_has ls 4 [(0, .ref (A 5 0)), (1, .int x1), (2, .int x2), (3, .int x3)] := hl
  have hP := hPP
  have hS : va_S (aX A) s.heap s.heap [] := va_S.rf
  unfold pX4_piece at h
  refine lv_iload_n hx hb dX4_piece_0 rfl (lv_at hl 1 rfl) ?_
  refine kR (kS Cc (mX4_isKind l D κ h) (qX4_isKind hts (tw_257 hts) ⟨(Nat.le_of_ble_eq_true rfl), (Nat.le_of_ble_eq_true rfl)⟩) (rest := []) trivial rfl hl.1 rfl (Nat.le_of_ble_eq_true rfl) dX4_piece_1 ⟨Nat.zero_le _, Nat.zero_le _⟩) (fun r1 h => ?_)
  refine lv_if_eq (tgt := 21) hx hb dX4_piece_4 (by decide) (fun c4 => ?_) (fun c4 => ?_)
  · have h := h.1 c4
    exact bX4_piece_21 Cc hI S _ _ hP hS _ (lv_sub hl [0] rfl) h
  · have h := h.2 c4
    refine lv_iload_n hx hb dX4_piece_7 rfl (lv_at hl 2 rfl) ?_
    refine kR (kS Cc (mX4_isEdge l D κ h) (qX4_isEdge hts (tw_260 hts) ⟨(Nat.le_of_ble_eq_true rfl), (Nat.le_of_ble_eq_true rfl)⟩) (rest := []) trivial rfl hl.1 rfl (Nat.le_of_ble_eq_true rfl) dX4_piece_8 ⟨Nat.zero_le _, Nat.zero_le _⟩) (fun r8 h => ?_)
    refine lv_if_eq (tgt := 21) hx hb dX4_piece_11 (by decide) (fun c11 => ?_) (fun c11 => ?_)
    · have h := h.1 c11
      exact bX4_piece_21 Cc hI S _ _ hP hS _ (lv_sub hl [0] rfl) h
    · have h := h.2 c11
      refine lv_iload_n hx hb dX4_piece_14 rfl (lv_at hl 3 rfl) ?_
      refine kR (kS Cc (mX4_isEdge l D κ h) (qX4_isEdge hts (tw_260 hts) ⟨(Nat.le_of_ble_eq_true rfl), (Nat.le_of_ble_eq_true rfl)⟩) (rest := []) trivial rfl hl.1 rfl (Nat.le_of_ble_eq_true rfl) dX4_piece_15 ⟨Nat.zero_le _, Nat.zero_le _⟩) (fun r15 h => ?_)
      refine lv_if_ne (tgt := 27) hx hb dX4_piece_18 (by decide) (fun c18 => ?_) (fun c18 => ?_)
      · have h := h.1 c18
        refine lv_aload_n hx hb dX4_piece_27 rfl (lv_at hl 0 rfl) ?_
        refine gSf_0 Cc hP.c5 (tw_209 hts) dX4_piece_28 ?_
        refine gCo_8 Cc hP.c0 (tw_117 hts) dX4_piece_31 ?_
        refine lv_bipush (v := 8) hx hb dX4_piece_34 (by decide) ?_
        refine lv_icmp_lt (tgt := 45) hx hb dX4_piece_36 (by decide) (fun c36 => ?_) (fun c36 => ?_)
        · have h := h.1 c36
          refine lv_aload_n hx hb dX4_piece_45 rfl (lv_at hl 0 rfl) ?_
          refine gSf_0 Cc hP.c5 (tw_209 hts) dX4_piece_46 ?_
          refine lv_iload_n hx hb dX4_piece_49 rfl (lv_at hl 1 rfl) ?_
          refine lv_iload_n hx hb dX4_piece_50 rfl (lv_at hl 2 rfl) ?_
          refine lv_iload_n hx hb dX4_piece_51 rfl (lv_at hl 3 rfl) ?_
          refine kWi (kV Cc (mX1_addPiece l D κ (A 0) (hI.ij (k := 0) (by decide)) h) (qX1_addPiece hts (tw_263 hts) ⟨(Nat.le_of_ble_eq_true rfl), (Nat.le_of_ble_eq_true rfl)⟩) (va_recv hE.1 hP.c0 (ci := 1) (q0 := 0) rfl rfl) (rest := []) hP.c0 rfl hl.1 rfl (Nat.le_of_ble_eq_true rfl) dX4_piece_52 ⟨Nat.zero_le _, Nat.zero_le _⟩) hS (fun q h9 => aX_of (k := 0) (by decide) h9) (fun r52 u52 H1 locs1 h hB hk hS1 => ?_)
          have hP := PX.put (k := 0) (by decide) hI hP hB hk
          have hS := hS1
          exact W.iret (v := r52) hx hb hr (fun t ht _ => QWi.mk (u := (va_up S 0 u52)) h hP hS ht) hS.2.2 dX4_piece_55 (hlocks := hlk)
        · have h := h.2 c36
          refine lv_aload_n hx hb dX4_piece_39 rfl (lv_at hl 0 rfl) ?_
          refine lv_iconst (v := 1) hx hb dX4_piece_40 (by decide) ?_
          refine kWi (kV Cc (mX4_found l D κ A hI h) (qX4_found hts (tw_244 hts) ⟨(Nat.le_of_ble_eq_true rfl), (Nat.le_of_ble_eq_true rfl)⟩) (va_recv hE.1 hP.c5 (ci := 4) (q0 := 0) rfl rfl) (rest := []) hP rfl hl.1 rfl (Nat.le_of_ble_eq_true rfl) dX4_piece_41 ⟨Nat.zero_le _, Nat.zero_le _⟩) hS (fun q h9 => h9) (fun r41 u41 H1 locs1 h hB hk hS1 => ?_)
          have hP := hB
          have hS := hS1
          exact W.iret (v := r41) hx hb hr (fun t ht _ => QWi.mk (u := u41) h hP hS ht) hS.2.2 dX4_piece_44 (hlocks := hlk)
      · have h := h.2 c18
        exact bX4_piece_21 Cc hI S _ _ hP hS _ (lv_sub hl [0] rfl) h
theorem qX4_piece {R : Room} {s : State} {args : Array Value} {own : String} {idx : Nat} (hts : ∀ w ∈ gG, w.before args s = true) (hl : (Cond.methodLink own idx yX4_piece).before args s = true) (hR : rX4_piece.frames + 1 ≤ R.frames ∧ 8 + (4 + 11) + rX4_piece.locals ≤ R.locals) : CallW R s args own RX4 idx yX4_piece cX4_piece 4 (some .int) (wz yX4_piece cX4_piece 4 (some .int)) rX4_piece 0 0 3 := ⟨kw 3 hts mw_256 rfl rfl (tw_70 hts) hl (by decide +kernel) hR, tw_254 hts, tw_255 hts⟩
abbrev rX4_of : Room := { frames := 2, cells := 0, slots := 0, locals := 46 }
def pX4_of_21 (Q : Int32 → (Nat → Mx) → Prop) (S : Nat → Mx) : Prop := pX4_found S 0 (fun r23 u23 => (Q r23 u23))
def pX4_of (S : Nat → Mx) (x1 : Int32) (x2 : Int32) (Q : Int32 → (Nat → Mx) → Prop) : Prop := pX1_has (S 0) x1 (fun r5 => ((r5 = 0 → (pX4_of_21 Q S)) ∧ (¬ r5 = 0 → ((x2 < 0 → (pX4_of_21 Q S)) ∧ (¬ x2 < 0 → ((x2 ≤ 6 → (pX1_told (S 0) x1 x2 (fun r33 => (Q r33 S)))) ∧ (¬ x2 ≤ 6 → (pX4_of_21 Q S))))))))
set_option maxHeartbeats 4000000 in
set_option maxRecDepth 100000 in
theorem bX4_of_21 {p : Program} {l : Launch} {e : Env} {s : State} {m : MethodId} {args : Array Value} {below : List Frame} {meth : Method} {c : Code} {D : va_G} {κ : Nat → ClassId} {A : Nat → Nat → Nat}   {Q : Int32 → (Nat → Mx) → Prop} (Cc : Cx D κ RX4 cX4_of 3 (some .int) p s m args meth c) (hI : IX A)   : ∀ (S : Nat → Mx) (H : Heap) (locs : List Loc) (hP : PX D κ A S H) (hS : va_S (aX A) s.heap H locs) (ls : Array Slot) (hl : lv_has ls 3 [(0, .ref (A 5 0))]) (h : pX4_of_21 Q S), W p l e rX4_of s m args below meth c H locs 0 0 (MQ below (QWi Q (fun u H => PX D κ A u H) (aX A)) args s 0 0 (aX A)) (F0 m 21 ls []) := by
  obtain ⟨hx, hb, hml, hown, hts, hr, hlk, hE⟩ := id Cc
  intro S H locs hP hS ls hl h
  unfold pX4_of_21 at h
  refine lv_aload_n hx hb dX4_of_21 rfl (lv_at hl 0 rfl) ?_
  refine lv_iconst (v := 0) hx hb dX4_of_22 (by decide) ?_
  refine kWi (kV Cc (mX4_found l D κ A hI h) (qX4_found hts (tw_244 hts) ⟨(Nat.le_of_ble_eq_true rfl), (Nat.le_of_ble_eq_true rfl)⟩) (va_recv hE.1 hP.c5 (ci := 4) (q0 := 0) rfl rfl) (rest := []) hP rfl hl.1 rfl (Nat.le_of_ble_eq_true rfl) dX4_of_23 ⟨Nat.zero_le _, Nat.zero_le _⟩) hS (fun q h9 => h9) (fun r23 u23 H1 locs1 h hB hk hS1 => ?_)
  have hP := hB
  have hS := hS1
  exact W.iret (v := r23) hx hb hr (fun t ht _ => QWi.mk (u := u23) h hP hS ht) hS.2.2 dX4_of_26 (hlocks := hlk)
set_option maxHeartbeats 4000000 in
set_option maxRecDepth 100000 in
theorem mX4_of (l : Launch) (D : va_G) (κ : Nat → ClassId) (A : Nat → Nat → Nat) {S : Nat → Mx} {x1 : Int32} {x2 : Int32} {Q : Int32 → (Nat → Mx) → Prop} (hI : IX A) (h : pX4_of S x1 x2 Q) : Met l yX4_of (wz yX4_of cX4_of 3 (some .int)) rX4_of (va_Pc [.ref (A 5 0), .int x1, .int x2] (PE D κ (fun H => PX D κ A S H))) (QWi Q (fun u H => PX D κ A u H) (aX A)) 0 0 (aX A) := by
  refine Met_of l (own := RX4) (by decide) rfl (Nat.le_of_ble_eq_true rfl) (fun p e s m below meth c Cc hPP ls hl => ?_)
  obtain ⟨hx, hb, hml, hown, hts, hr, hlk, hE⟩ := id Cc
  have hl : lv_has ls 3 [(0, .ref (A 5 0)), (1, .int x1), (2, .int x2)] := hl
  have hP := hPP
  have hS : va_S (aX A) s.heap s.heap [] := va_S.rf
  unfold pX4_of at h
  refine lv_aload_n hx hb dX4_of_0 rfl (lv_at hl 0 rfl) ?_
  refine gSf_0 Cc hP.c5 (tw_209 hts) dX4_of_1 ?_
  refine lv_iload_n hx hb dX4_of_4 rfl (lv_at hl 1 rfl) ?_
  refine kR (kV Cc (mX1_has l D κ (A 0) h) (qX1_has hts (tw_271 hts) ⟨(Nat.le_of_ble_eq_true rfl), (Nat.le_of_ble_eq_true rfl)⟩) (va_recv hE.1 hP.c0 (ci := 1) (q0 := 0) rfl rfl) (rest := []) hP.c0 rfl hl.1 rfl (Nat.le_of_ble_eq_true rfl) dX4_of_5 ⟨Nat.zero_le _, Nat.zero_le _⟩) (fun r5 h => ?_)
  refine lv_if_eq (tgt := 21) hx hb dX4_of_8 (by decide) (fun c8 => ?_) (fun c8 => ?_)
  · have h := h.1 c8
    exact bX4_of_21 Cc hI S _ _ hP hS _ (lv_sub hl [0] rfl) h
  · have h := h.2 c8
    refine lv_iload_n hx hb dX4_of_11 rfl (lv_at hl 2 rfl) ?_
    refine lv_if_lt (tgt := 21) hx hb dX4_of_12 (by decide) (fun c12 => ?_) (fun c12 => ?_)
    · have h := h.1 c12
      exact bX4_of_21 Cc hI S _ _ hP hS _ (lv_sub hl [0] rfl) h
    · have h := h.2 c12
      refine lv_iload_n hx hb dX4_of_15 rfl (lv_at hl 2 rfl) ?_
      refine lv_bipush (v := 6) hx hb dX4_of_16 (by decide) ?_
      refine lv_icmp_le (tgt := 27) hx hb dX4_of_18 (by decide) (fun c18 => ?_) (fun c18 => ?_)
      · have h := h.1 c18
        refine lv_aload_n hx hb dX4_of_27 rfl (lv_at hl 0 rfl) ?_
        refine gSf_0 Cc hP.c5 (tw_209 hts) dX4_of_28 ?_
        refine lv_iload_n hx hb dX4_of_31 rfl (lv_at hl 1 rfl) ?_
        refine lv_iload_n hx hb dX4_of_32 rfl (lv_at hl 2 rfl) ?_
        refine kR (kV Cc (mX1_told l D κ (A 0) h) (qX1_told hts (tw_275 hts) ⟨(Nat.le_of_ble_eq_true rfl), (Nat.le_of_ble_eq_true rfl)⟩) (va_recv hE.1 hP.c0 (ci := 1) (q0 := 0) rfl rfl) (rest := []) hP.c0 rfl hl.1 rfl (Nat.le_of_ble_eq_true rfl) dX4_of_33 ⟨Nat.zero_le _, Nat.zero_le _⟩) (fun r33 h => ?_)
        exact W.iret (v := r33) hx hb hr (fun t ht _ => QWi.mk (u := S) h hP hS ht) hS.2.2 dX4_of_36 (hlocks := hlk)
      · have h := h.2 c18
        exact bX4_of_21 Cc hI S _ _ hP hS _ (lv_sub hl [0] rfl) h
theorem qX4_of {R : Room} {s : State} {args : Array Value} {own : String} {idx : Nat} (hts : ∀ w ∈ gG, w.before args s = true) (hl : (Cond.methodLink own idx yX4_of).before args s = true) (hR : rX4_of.frames + 1 ≤ R.frames ∧ 8 + (3 + 11) + rX4_of.locals ≤ R.locals) : CallW R s args own RX4 idx yX4_of cX4_of 3 (some .int) (wz yX4_of cX4_of 3 (some .int)) rX4_of 0 0 2 := ⟨kw 2 hts mw_270 rfl rfl (tw_70 hts) hl (by decide +kernel) hR, tw_268 hts, tw_269 hts⟩
abbrev rX4_couldBe : Room := { frames := 1, cells := 0, slots := 0, locals := 20 }
def pX4_couldBe_41 (Q : Int32 → Prop) (x1 : Int32) : Prop := pX4_isEdge x1 (fun r42 => ((r42 = 0 ∨ r42 = 1) ∧ (Q r42)))
def pX4_couldBe_62 (Q : Int32 → Prop) (y0 : Int32) : Prop := (y0 = 0 ∨ y0 = 1) ∧ (Q y0)
def pX4_couldBe_61 (Q : Int32 → Prop)  : Prop := pX4_couldBe_62 Q 0
def pX4_couldBe_77 (Q : Int32 → Prop) (y0 : Int32) : Prop := (y0 = 0 ∨ y0 = 1) ∧ (Q y0)
def pX4_couldBe_72 (Q : Int32 → Prop)  : Prop := pX4_couldBe_77 Q 1
def pX4_couldBe  (x1 : Int32) (x2 : Int32) (Q : Int32 → Prop) : Prop := (x1 = 0 → (pX4_isKind x2 (fun r37 => ((r37 = 0 ∨ r37 = 1) ∧ (Q r37))))) ∧ (x1 = 1 → (pX4_couldBe_41 Q x2)) ∧ (x1 = 2 → (pX4_couldBe_41 Q x2)) ∧ (x1 = 3 → ((x2 < (-1) → (pX4_couldBe_61 Q )) ∧ (¬ x2 < (-1) → ((8 ≤ x2 → (pX4_couldBe_61 Q )) ∧ (¬ 8 ≤ x2 → (pX4_couldBe_62 Q 1)))))) ∧ (x1 = 4 → ((x2 = 0 → (pX4_couldBe_72 Q )) ∧ (¬ x2 = 0 → ((¬ x2 = 1 → (pX4_couldBe_77 Q 0)) ∧ (x2 = 1 → (pX4_couldBe_72 Q )))))) ∧ (¬ x1 = 0 → ¬ x1 = 1 → ¬ x1 = 2 → ¬ x1 = 3 → ¬ x1 = 4 → (Q 0))
set_option maxHeartbeats 4000000 in
set_option maxRecDepth 100000 in
theorem bX4_couldBe_41 {p : Program} {l : Launch} {e : Env} {s : State} {m : MethodId} {args : Array Value} {below : List Frame} {meth : Method} {c : Code} {D : va_G} {κ : Nat → ClassId}    {Q : Int32 → Prop} (Cc : Cx D κ RX4 cX4_couldBe 2 (some .boolean) p s m args meth c)    : ∀ (x1 : Int32) (ls : Array Slot) (hl : lv_has ls 2 [(1, .int x1)]) (h : pX4_couldBe_41 Q x1), W p l e rX4_couldBe s m args below meth c s.heap [] 0 0 (MQ below (RQ Q) args s 0 0 (fun _ => False)) (F0 m 41 ls []) := by
  obtain ⟨hx, hb, hml, hown, hts, hr, hlk, hE⟩ := id Cc
  intro x1 ls hl h
  unfold pX4_couldBe_41 at h
  refine lv_iload_n hx hb dX4_couldBe_41 rfl (lv_at hl 0 rfl) ?_
  refine kR (kS Cc (mX4_isEdge l D κ h) (qX4_isEdge hts (tw_260 hts) ⟨(Nat.le_of_ble_eq_true rfl), (Nat.le_of_ble_eq_true rfl)⟩) (rest := []) trivial rfl hl.1 rfl (Nat.le_of_ble_eq_true rfl) dX4_couldBe_42 ⟨Nat.zero_le _, Nat.zero_le _⟩) (fun r42 h => ?_)
  exact W.zret (v := r42) (ty := .boolean) hx hb hr (bool_nar h.1) (fun t ht _ => RQ.mk h.2 ht) (fun _ h9 => by cases h9) dX4_couldBe_45 (hlocks := hlk)
set_option maxHeartbeats 4000000 in
set_option maxRecDepth 100000 in
theorem bX4_couldBe_62 {p : Program} {l : Launch} {e : Env} {s : State} {m : MethodId} {args : Array Value} {below : List Frame} {meth : Method} {c : Code} {D : va_G} {κ : Nat → ClassId}    {Q : Int32 → Prop} (Cc : Cx D κ RX4 cX4_couldBe 2 (some .boolean) p s m args meth c)    : ∀ (y0 : Int32) (ls : Array Slot) (hl : lv_has ls 2 []) (h : pX4_couldBe_62 Q y0), W p l e rX4_couldBe s m args below meth c s.heap [] 0 0 (MQ below (RQ Q) args s 0 0 (fun _ => False)) (F0 m 62 ls [.int y0]) := by
  obtain ⟨hx, hb, hml, hown, hts, hr, hlk, hE⟩ := id Cc
  intro y0 ls hl h
  unfold pX4_couldBe_62 at h
  exact W.zret (v := y0) (ty := .boolean) hx hb hr (bool_nar h.1) (fun t ht _ => RQ.mk h.2 ht) (fun _ h9 => by cases h9) dX4_couldBe_62 (hlocks := hlk)
set_option maxHeartbeats 4000000 in
set_option maxRecDepth 100000 in
theorem bX4_couldBe_61 {p : Program} {l : Launch} {e : Env} {s : State} {m : MethodId} {args : Array Value} {below : List Frame} {meth : Method} {c : Code} {D : va_G} {κ : Nat → ClassId}    {Q : Int32 → Prop} (Cc : Cx D κ RX4 cX4_couldBe 2 (some .boolean) p s m args meth c)    : ∀ (ls : Array Slot) (hl : lv_has ls 2 []) (h : pX4_couldBe_61 Q ), W p l e rX4_couldBe s m args below meth c s.heap [] 0 0 (MQ below (RQ Q) args s 0 0 (fun _ => False)) (F0 m 61 ls []) := by
  obtain ⟨hx, hb, hml, hown, hts, hr, hlk, hE⟩ := id Cc
  intro ls hl h
  unfold pX4_couldBe_61 at h
  refine lv_iconst (v := 0) hx hb dX4_couldBe_61 (by decide) ?_
  exact bX4_couldBe_62 Cc 0  _ (lv_sub hl [] rfl) h
set_option maxHeartbeats 4000000 in
set_option maxRecDepth 100000 in
theorem bX4_couldBe_77 {p : Program} {l : Launch} {e : Env} {s : State} {m : MethodId} {args : Array Value} {below : List Frame} {meth : Method} {c : Code} {D : va_G} {κ : Nat → ClassId}    {Q : Int32 → Prop} (Cc : Cx D κ RX4 cX4_couldBe 2 (some .boolean) p s m args meth c)    : ∀ (y0 : Int32) (ls : Array Slot) (hl : lv_has ls 2 []) (h : pX4_couldBe_77 Q y0), W p l e rX4_couldBe s m args below meth c s.heap [] 0 0 (MQ below (RQ Q) args s 0 0 (fun _ => False)) (F0 m 77 ls [.int y0]) := by
  obtain ⟨hx, hb, hml, hown, hts, hr, hlk, hE⟩ := id Cc
  intro y0 ls hl h
  unfold pX4_couldBe_77 at h
  exact W.zret (v := y0) (ty := .boolean) hx hb hr (bool_nar h.1) (fun t ht _ => RQ.mk h.2 ht) (fun _ h9 => by cases h9) dX4_couldBe_77 (hlocks := hlk)
set_option maxHeartbeats 4000000 in
set_option maxRecDepth 100000 in
theorem bX4_couldBe_72 {p : Program} {l : Launch} {e : Env} {s : State} {m : MethodId} {args : Array Value} {below : List Frame} {meth : Method} {c : Code} {D : va_G} {κ : Nat → ClassId}    {Q : Int32 → Prop} (Cc : Cx D κ RX4 cX4_couldBe 2 (some .boolean) p s m args meth c)    : ∀ (ls : Array Slot) (hl : lv_has ls 2 []) (h : pX4_couldBe_72 Q ), W p l e rX4_couldBe s m args below meth c s.heap [] 0 0 (MQ below (RQ Q) args s 0 0 (fun _ => False)) (F0 m 72 ls []) := by
  obtain ⟨hx, hb, hml, hown, hts, hr, hlk, hE⟩ := id Cc
  intro ls hl h
  unfold pX4_couldBe_72 at h
  refine lv_iconst (v := 1) hx hb dX4_couldBe_72 (by decide) ?_
  refine lv_goto (tgt := 77) hx hb dX4_couldBe_73 (by decide) ?_
  exact bX4_couldBe_77 Cc 1  _ (lv_sub hl [] rfl) h
set_option maxHeartbeats 4000000 in
set_option maxRecDepth 100000 in
theorem mX4_couldBe (l : Launch) (D : va_G) (κ : Nat → ClassId)   {x1 : Int32} {x2 : Int32} {Q : Int32 → Prop}  (h : pX4_couldBe  x1 x2 Q) : Met l yX4_couldBe (wz yX4_couldBe cX4_couldBe 2 (some .boolean)) rX4_couldBe (va_Pc [.int x1, .int x2] (PE D κ (fun _ => True))) (RQ Q) 0 0 (fun _ => False) := by
  refine Met_of l (own := RX4) (by decide) rfl (Nat.le_of_ble_eq_true rfl) (fun p e s m below meth c Cc hPP ls hl => ?_)
  obtain ⟨hx, hb, hml, hown, hts, hr, hlk, hE⟩ := id Cc
  have hl : lv_has ls 2 [(0, .int x1), (1, .int x2)] := hl
  unfold pX4_couldBe at h
  refine lv_iload_n hx hb dX4_couldBe_0 rfl (lv_at hl 0 rfl) ?_
  by_cases c1_0 : x1 = 0
  · have h := h.1 c1_0
    refine lv_tableIn (tgt := 36) hx hb dX4_couldBe_1 (by rw [c1_0]; decide) (by rw [c1_0]; decide) (by rw [c1_0]; rfl) (by decide) ?_
    refine lv_iload_n hx hb dX4_couldBe_36 rfl (lv_at hl 1 rfl) ?_
    refine kR (kS Cc (mX4_isKind l D κ h) (qX4_isKind hts (tw_257 hts) ⟨(Nat.le_of_ble_eq_true rfl), (Nat.le_of_ble_eq_true rfl)⟩) (rest := []) trivial rfl hl.1 rfl (Nat.le_of_ble_eq_true rfl) dX4_couldBe_37 ⟨Nat.zero_le _, Nat.zero_le _⟩) (fun r37 h => ?_)
    exact W.zret (v := r37) (ty := .boolean) hx hb hr (bool_nar h.1) (fun t ht _ => RQ.mk h.2 ht) (fun _ h9 => by cases h9) dX4_couldBe_40 (hlocks := hlk)
  · have h := h.2
    by_cases c1_1 : x1 = 1
    · have h := h.1 c1_1
      refine lv_tableIn (tgt := 41) hx hb dX4_couldBe_1 (by rw [c1_1]; decide) (by rw [c1_1]; decide) (by rw [c1_1]; rfl) (by decide) ?_
      exact bX4_couldBe_41 Cc x2  _ (lv_sub hl [1] rfl) h
    · have h := h.2
      by_cases c1_2 : x1 = 2
      · have h := h.1 c1_2
        refine lv_tableIn (tgt := 41) hx hb dX4_couldBe_1 (by rw [c1_2]; decide) (by rw [c1_2]; decide) (by rw [c1_2]; rfl) (by decide) ?_
        exact bX4_couldBe_41 Cc x2  _ (lv_sub hl [1] rfl) h
      · have h := h.2
        by_cases c1_3 : x1 = 3
        · have h := h.1 c1_3
          refine lv_tableIn (tgt := 46) hx hb dX4_couldBe_1 (by rw [c1_3]; decide) (by rw [c1_3]; decide) (by rw [c1_3]; rfl) (by decide) ?_
          refine lv_iload_n hx hb dX4_couldBe_46 rfl (lv_at hl 1 rfl) ?_
          refine lv_iconst (v := (-1)) hx hb dX4_couldBe_47 (by decide) ?_
          refine lv_icmp_lt (tgt := 61) hx hb dX4_couldBe_48 (by decide) (fun c48 => ?_) (fun c48 => ?_)
          · have h := h.1 c48
            exact bX4_couldBe_61 Cc   _ (lv_sub hl [] rfl) h
          · have h := h.2 c48
            refine lv_iload_n hx hb dX4_couldBe_51 rfl (lv_at hl 1 rfl) ?_
            refine lv_bipush (v := 8) hx hb dX4_couldBe_52 (by decide) ?_
            refine lv_icmp_ge (tgt := 61) hx hb dX4_couldBe_54 (by decide) (fun c54 => ?_) (fun c54 => ?_)
            · have h := h.1 c54
              exact bX4_couldBe_61 Cc   _ (lv_sub hl [] rfl) h
            · have h := h.2 c54
              refine lv_iconst (v := 1) hx hb dX4_couldBe_57 (by decide) ?_
              refine lv_goto (tgt := 62) hx hb dX4_couldBe_58 (by decide) ?_
              exact bX4_couldBe_62 Cc 1  _ (lv_sub hl [] rfl) h
        · have h := h.2
          by_cases c1_4 : x1 = 4
          · have h := h.1 c1_4
            refine lv_tableIn (tgt := 63) hx hb dX4_couldBe_1 (by rw [c1_4]; decide) (by rw [c1_4]; decide) (by rw [c1_4]; rfl) (by decide) ?_
            refine lv_iload_n hx hb dX4_couldBe_63 rfl (lv_at hl 1 rfl) ?_
            refine lv_if_eq (tgt := 72) hx hb dX4_couldBe_64 (by decide) (fun c64 => ?_) (fun c64 => ?_)
            · have h := h.1 c64
              exact bX4_couldBe_72 Cc   _ (lv_sub hl [] rfl) h
            · have h := h.2 c64
              refine lv_iload_n hx hb dX4_couldBe_67 rfl (lv_at hl 1 rfl) ?_
              refine lv_iconst (v := 1) hx hb dX4_couldBe_68 (by decide) ?_
              refine lv_icmp_ne (tgt := 76) hx hb dX4_couldBe_69 (by decide) (fun c69 => ?_) (fun c69 => ?_)
              · have h := h.1 c69
                refine lv_iconst (v := 0) hx hb dX4_couldBe_76 (by decide) ?_
                exact bX4_couldBe_77 Cc 0  _ (lv_sub hl [] rfl) h
              · have h := h.2 c69
                exact bX4_couldBe_72 Cc   _ (lv_sub hl [] rfl) h
          · have h := h.2
            have h := h c1_0 c1_1 c1_2 c1_3 c1_4
            refine lv_tableOut (tgt := 78) hx hb dX4_couldBe_1 (by have h0 := ne_toInt c1_0 (z := 0) (by decide); have h1 := ne_toInt c1_1 (z := 1) (by decide); have h2 := ne_toInt c1_2 (z := 2) (by decide); have h3 := ne_toInt c1_3 (z := 3) (by decide); have h4 := ne_toInt c1_4 (z := 4) (by decide); omega) (by decide) ?_
            refine lv_iconst (v := 0) hx hb dX4_couldBe_78 (by decide) ?_
            exact W.zret (v := 0) (ty := .boolean) hx hb hr rfl (fun t ht _ => RQ.mk h ht) (fun _ h9 => by cases h9) dX4_couldBe_79 (hlocks := hlk)
theorem qX4_couldBe {R : Room} {s : State} {args : Array Value} {own : String} {idx : Nat} (hts : ∀ w ∈ gG, w.before args s = true) (hl : (Cond.methodLink own idx yX4_couldBe).before args s = true) (hR : rX4_couldBe.frames + 1 ≤ R.frames ∧ 8 + (2 + 11) + rX4_couldBe.locals ≤ R.locals) : CallB R s args own idx yX4_couldBe cX4_couldBe 2 (some .boolean) (wz yX4_couldBe cX4_couldBe 2 (some .boolean)) rX4_couldBe 0 0 2 ∧ (Cond.static yX4_couldBe).before args s = true := ⟨kw 2 hts mw_293 rfl rfl (tw_70 hts) hl (by decide +kernel) hR, tw_292 hts⟩
abbrev rX4_change : Room := { frames := 2, cells := 0, slots := 0, locals := 46 }
def pX4_change_19 (Q : Int32 → (Nat → Mx) → Prop) (S : Nat → Mx) : Prop := pX4_found S 0 (fun r21 u21 => (Q r21 u21))
def pX4_change (S : Nat → Mx) (x1 : Int32) (x2 : Int32) (x3 : Int32) (Q : Int32 → (Nat → Mx) → Prop) : Prop := pX1_has (S 0) x1 (fun r5 => ((r5 = 0 → (pX4_change_19 Q S)) ∧ (¬ r5 = 0 → (pX4_couldBe x2 x3 (fun r13 => ((¬ r13 = 0 → (pX1_told (S 0) x1 x2 (fun r31 => (pX1_become (S 0) x1 x2 x3 (fun u43 => (Q r31 (va_up S 0 u43))))))) ∧ (r13 = 0 → (pX4_change_19 Q S))))))))
set_option maxHeartbeats 4000000 in
set_option maxRecDepth 100000 in
theorem bX4_change_19 {p : Program} {l : Launch} {e : Env} {s : State} {m : MethodId} {args : Array Value} {below : List Frame} {meth : Method} {c : Code} {D : va_G} {κ : Nat → ClassId} {A : Nat → Nat → Nat}   {Q : Int32 → (Nat → Mx) → Prop} (Cc : Cx D κ RX4 cX4_change 5 (some .int) p s m args meth c) (hI : IX A)   : ∀ (S : Nat → Mx) (H : Heap) (locs : List Loc) (hP : PX D κ A S H) (hS : va_S (aX A) s.heap H locs) (ls : Array Slot) (hl : lv_has ls 5 [(0, .ref (A 5 0))]) (h : pX4_change_19 Q S), W p l e rX4_change s m args below meth c H locs 0 0 (MQ below (QWi Q (fun u H => PX D κ A u H) (aX A)) args s 0 0 (aX A)) (F0 m 19 ls []) := by
  obtain ⟨hx, hb, hml, hown, hts, hr, hlk, hE⟩ := id Cc
  intro S H locs hP hS ls hl h
  unfold pX4_change_19 at h
  refine lv_aload_n hx hb dX4_change_19 rfl (lv_at hl 0 rfl) ?_
  refine lv_iconst (v := 0) hx hb dX4_change_20 (by decide) ?_
  refine kWi (kV Cc (mX4_found l D κ A hI h) (qX4_found hts (tw_244 hts) ⟨(Nat.le_of_ble_eq_true rfl), (Nat.le_of_ble_eq_true rfl)⟩) (va_recv hE.1 hP.c5 (ci := 4) (q0 := 0) rfl rfl) (rest := []) hP rfl hl.1 rfl (Nat.le_of_ble_eq_true rfl) dX4_change_21 ⟨Nat.zero_le _, Nat.zero_le _⟩) hS (fun q h9 => h9) (fun r21 u21 H1 locs1 h hB hk hS1 => ?_)
  have hP := hB
  have hS := hS1
  exact W.iret (v := r21) hx hb hr (fun t ht _ => QWi.mk (u := u21) h hP hS ht) hS.2.2 dX4_change_24 (hlocks := hlk)
set_option maxHeartbeats 4000000 in
set_option maxRecDepth 100000 in
theorem mX4_change (l : Launch) (D : va_G) (κ : Nat → ClassId) (A : Nat → Nat → Nat) {S : Nat → Mx} {x1 : Int32} {x2 : Int32} {x3 : Int32} {Q : Int32 → (Nat → Mx) → Prop} (hI : IX A) (h : pX4_change S x1 x2 x3 Q) : Met l yX4_change (wz yX4_change cX4_change 5 (some .int)) rX4_change (va_Pc [.ref (A 5 0), .int x1, .int x2, .int x3] (PE D κ (fun H => PX D κ A S H))) (QWi Q (fun u H => PX D κ A u H) (aX A)) 0 0 (aX A) := by
  refine Met_of l (own := RX4) (by decide) rfl (Nat.le_of_ble_eq_true rfl) (fun p e s m below meth c Cc hPP ls hl => ?_)
  obtain ⟨hx, hb, hml, hown, hts, hr, hlk, hE⟩ := id Cc
  have hl : lv_has ls 5 [(0, .ref (A 5 0)), (1, .int x1), (2, .int x2), (3, .int x3)] := hl
  have hP := hPP
  have hS : va_S (aX A) s.heap s.heap [] := va_S.rf
  unfold pX4_change at h
  refine lv_aload_n hx hb dX4_change_0 rfl (lv_at hl 0 rfl) ?_
  refine gSf_0 Cc hP.c5 (tw_209 hts) dX4_change_1 ?_
  refine lv_iload_n hx hb dX4_change_4 rfl (lv_at hl 1 rfl) ?_
  refine kR (kV Cc (mX1_has l D κ (A 0) h) (qX1_has hts (tw_271 hts) ⟨(Nat.le_of_ble_eq_true rfl), (Nat.le_of_ble_eq_true rfl)⟩) (va_recv hE.1 hP.c0 (ci := 1) (q0 := 0) rfl rfl) (rest := []) hP.c0 rfl hl.1 rfl (Nat.le_of_ble_eq_true rfl) dX4_change_5 ⟨Nat.zero_le _, Nat.zero_le _⟩) (fun r5 h => ?_)
  refine lv_if_eq (tgt := 19) hx hb dX4_change_8 (by decide) (fun c8 => ?_) (fun c8 => ?_)
  · have h := h.1 c8
    exact bX4_change_19 Cc hI S _ _ hP hS _ (lv_sub hl [0] rfl) h
  · have h := h.2 c8
    refine lv_iload_n hx hb dX4_change_11 rfl (lv_at hl 2 rfl) ?_
    refine lv_iload_n hx hb dX4_change_12 rfl (lv_at hl 3 rfl) ?_
    refine kR (kS Cc (mX4_couldBe l D κ h) (qX4_couldBe hts (tw_291 hts) ⟨(Nat.le_of_ble_eq_true rfl), (Nat.le_of_ble_eq_true rfl)⟩) (rest := []) trivial rfl hl.1 rfl (Nat.le_of_ble_eq_true rfl) dX4_change_13 ⟨Nat.zero_le _, Nat.zero_le _⟩) (fun r13 h => ?_)
    refine lv_if_ne (tgt := 25) hx hb dX4_change_16 (by decide) (fun c16 => ?_) (fun c16 => ?_)
    · have h := h.1 c16
      refine lv_aload_n hx hb dX4_change_25 rfl (lv_at hl 0 rfl) ?_
      refine gSf_0 Cc hP.c5 (tw_209 hts) dX4_change_26 ?_
      refine lv_iload_n hx hb dX4_change_29 rfl (lv_at hl 1 rfl) ?_
      refine lv_iload_n hx hb dX4_change_30 rfl (lv_at hl 2 rfl) ?_
      refine kR (kV Cc (mX1_told l D κ (A 0) h) (qX1_told hts (tw_275 hts) ⟨(Nat.le_of_ble_eq_true rfl), (Nat.le_of_ble_eq_true rfl)⟩) (va_recv hE.1 hP.c0 (ci := 1) (q0 := 0) rfl rfl) (rest := []) hP.c0 rfl hl.1 rfl (Nat.le_of_ble_eq_true rfl) dX4_change_31 ⟨Nat.zero_le _, Nat.zero_le _⟩) (fun r31 h => ?_)
      refine lv_istore (lv' := [(4, .int r31), (0, .ref (A 5 0)), (1, .int x1), (2, .int x2), (3, .int x3)]) hx hb dX4_change_34 hl (by decide) rfl (fun ls hl => ?_)
      refine lv_aload_n hx hb dX4_change_36 rfl (lv_at hl 1 rfl) ?_
      refine gSf_0 Cc hP.c5 (tw_209 hts) dX4_change_37 ?_
      refine lv_iload_n hx hb dX4_change_40 rfl (lv_at hl 2 rfl) ?_
      refine lv_iload_n hx hb dX4_change_41 rfl (lv_at hl 3 rfl) ?_
      refine lv_iload_n hx hb dX4_change_42 rfl (lv_at hl 4 rfl) ?_
      refine kWv (kV Cc (mX1_become l D κ (A 0) (hI.ij (k := 0) (by decide)) h) (qX1_become hts (tw_294 hts) ⟨(Nat.le_of_ble_eq_true rfl), (Nat.le_of_ble_eq_true rfl)⟩) (va_recv hE.1 hP.c0 (ci := 1) (q0 := 0) rfl rfl) (rest := []) hP.c0 rfl hl.1 rfl (Nat.le_of_ble_eq_true rfl) dX4_change_43 ⟨Nat.zero_le _, Nat.zero_le _⟩) hS (fun q h9 => aX_of (k := 0) (by decide) h9) (fun  u43 H1 locs1 h hB hk hS1 => ?_)
      have hP := PX.put (k := 0) (by decide) hI hP hB hk
      have hS := hS1
      refine lv_iload hx hb dX4_change_46 (lv_at hl 0 rfl) ?_
      exact W.iret (v := r31) hx hb hr (fun t ht _ => QWi.mk (u := (va_up S 0 u43)) h hP hS ht) hS.2.2 dX4_change_48 (hlocks := hlk)
    · have h := h.2 c16
      exact bX4_change_19 Cc hI S _ _ hP hS _ (lv_sub hl [0] rfl) h
theorem qX4_change {R : Room} {s : State} {args : Array Value} {own : String} {idx : Nat} (hts : ∀ w ∈ gG, w.before args s = true) (hl : (Cond.methodLink own idx yX4_change).before args s = true) (hR : rX4_change.frames + 1 ≤ R.frames ∧ 8 + (5 + 11) + rX4_change.locals ≤ R.locals) : CallW R s args own RX4 idx yX4_change cX4_change 5 (some .int) (wz yX4_change cX4_change 5 (some .int)) rX4_change 0 0 3 := ⟨kw 3 hts mw_290 rfl rfl (tw_70 hts) hl (by decide +kernel) hR, tw_288 hts, tw_289 hts⟩
abbrev rX4_lies : Room := { frames := 1, cells := 0, slots := 0, locals := 21 }
def pX4_lies_28 (Q : Int32 → (Nat → Mx) → Prop) (y0 : Int32) (S : Nat → Mx) : Prop := Q y0 S
def pX4_lies (S : Nat → Mx) (x1 : Int32) (Q : Int32 → (Nat → Mx) → Prop) : Prop := pX1_has (S 0) x1 (fun r5 => ((r5 = 0 → (pX4_found S 0 (fun r25 u25 => (pX4_lies_28 Q r25 u25)))) ∧ (¬ r5 = 0 → (vp_in x1 8 ∧ (pX4_lies_28 Q ((S 0) 4 x1.toNatClampNeg) S)))))
set_option maxHeartbeats 4000000 in
set_option maxRecDepth 100000 in
theorem bX4_lies_28 {p : Program} {l : Launch} {e : Env} {s : State} {m : MethodId} {args : Array Value} {below : List Frame} {meth : Method} {c : Code} {D : va_G} {κ : Nat → ClassId} {A : Nat → Nat → Nat}   {Q : Int32 → (Nat → Mx) → Prop} (Cc : Cx D κ RX4 cX4_lies 2 (some .int) p s m args meth c) (hI : IX A)   : ∀ (y0 : Int32) (S : Nat → Mx) (H : Heap) (locs : List Loc) (hP : PX D κ A S H) (hS : va_S (aX A) s.heap H locs) (ls : Array Slot) (hl : lv_has ls 2 []) (h : pX4_lies_28 Q y0 S), W p l e rX4_lies s m args below meth c H locs 0 0 (MQ below (QWi Q (fun u H => PX D κ A u H) (aX A)) args s 0 0 (aX A)) (F0 m 28 ls [.int y0]) := by
  obtain ⟨hx, hb, hml, hown, hts, hr, hlk, hE⟩ := id Cc
  intro y0 S H locs hP hS ls hl h
  unfold pX4_lies_28 at h
  exact W.iret (v := y0) hx hb hr (fun t ht _ => QWi.mk (u := S) h hP hS ht) hS.2.2 dX4_lies_28 (hlocks := hlk)
set_option maxHeartbeats 4000000 in
set_option maxRecDepth 100000 in
theorem mX4_lies (l : Launch) (D : va_G) (κ : Nat → ClassId) (A : Nat → Nat → Nat) {S : Nat → Mx} {x1 : Int32} {Q : Int32 → (Nat → Mx) → Prop} (hI : IX A) (h : pX4_lies S x1 Q) : Met l yX4_lies (wz yX4_lies cX4_lies 2 (some .int)) rX4_lies (va_Pc [.ref (A 5 0), .int x1] (PE D κ (fun H => PX D κ A S H))) (QWi Q (fun u H => PX D κ A u H) (aX A)) 0 0 (aX A) := by
  refine Met_of l (own := RX4) (by decide) rfl (Nat.le_of_ble_eq_true rfl) (fun p e s m below meth c Cc hPP ls hl => ?_)
  obtain ⟨hx, hb, hml, hown, hts, hr, hlk, hE⟩ := id Cc
  have hl : lv_has ls 2 [(0, .ref (A 5 0)), (1, .int x1)] := hl
  have hP := hPP
  have hS : va_S (aX A) s.heap s.heap [] := va_S.rf
  unfold pX4_lies at h
  refine lv_aload_n hx hb dX4_lies_0 rfl (lv_at hl 0 rfl) ?_
  refine gSf_0 Cc hP.c5 (tw_209 hts) dX4_lies_1 ?_
  refine lv_iload_n hx hb dX4_lies_4 rfl (lv_at hl 1 rfl) ?_
  refine kR (kV Cc (mX1_has l D κ (A 0) h) (qX1_has hts (tw_271 hts) ⟨(Nat.le_of_ble_eq_true rfl), (Nat.le_of_ble_eq_true rfl)⟩) (va_recv hE.1 hP.c0 (ci := 1) (q0 := 0) rfl rfl) (rest := []) hP.c0 rfl hl.1 rfl (Nat.le_of_ble_eq_true rfl) dX4_lies_5 ⟨Nat.zero_le _, Nat.zero_le _⟩) (fun r5 h => ?_)
  refine lv_if_eq (tgt := 23) hx hb dX4_lies_8 (by decide) (fun c8 => ?_) (fun c8 => ?_)
  · have h := h.1 c8
    refine lv_aload_n hx hb dX4_lies_23 rfl (lv_at hl 0 rfl) ?_
    refine lv_iconst (v := 0) hx hb dX4_lies_24 (by decide) ?_
    refine kWi (kV Cc (mX4_found l D κ A hI h) (qX4_found hts (tw_244 hts) ⟨(Nat.le_of_ble_eq_true rfl), (Nat.le_of_ble_eq_true rfl)⟩) (va_recv hE.1 hP.c5 (ci := 4) (q0 := 0) rfl rfl) (rest := []) hP rfl hl.1 rfl (Nat.le_of_ble_eq_true rfl) dX4_lies_25 ⟨Nat.zero_le _, Nat.zero_le _⟩) hS (fun q h9 => h9) (fun r25 u25 H1 locs1 h hB hk hS1 => ?_)
    have hP := hB
    have hS := hS1
    exact bX4_lies_28 Cc hI r25 u25 _ _ hP hS _ (lv_sub hl [] rfl) h
  · have h := h.2 c8
    refine lv_aload_n hx hb dX4_lies_11 rfl (lv_at hl 0 rfl) ?_
    refine gSf_0 Cc hP.c5 (tw_209 hts) dX4_lies_12 ?_
    refine gCo_4 Cc hP.c0 (tw_106 hts) dX4_lies_15 ?_
    refine lv_iload_n hx hb dX4_lies_18 rfl (lv_at hl 1 rfl) ?_
    refine lCo_4 Cc hP.c0 h.1 dX4_lies_19 ?_
    have h := h.2
    refine lv_goto (tgt := 28) hx hb dX4_lies_20 (by decide) ?_
    exact bX4_lies_28 Cc hI ((S 0) 4 x1.toNatClampNeg) S _ _ hP hS _ (lv_sub hl [] rfl) h
theorem qX4_lies {R : Room} {s : State} {args : Array Value} {own : String} {idx : Nat} (hts : ∀ w ∈ gG, w.before args s = true) (hl : (Cond.methodLink own idx yX4_lies).before args s = true) (hR : rX4_lies.frames + 1 ≤ R.frames ∧ 8 + (2 + 11) + rX4_lies.locals ≤ R.locals) : CallW R s args own RX4 idx yX4_lies cX4_lies 2 (some .int) (wz yX4_lies cX4_lies 2 (some .int)) rX4_lies 0 0 1 := ⟨kw 1 hts mw_301 rfl rfl (tw_70 hts) hl (by decide +kernel) hR, tw_299 hts, tw_300 hts⟩
abbrev rX4_gap : Room := { frames := 2, cells := 0, slots := 0, locals := 47 }
def pX4_gap_27 (Q : Int32 → (Nat → Mx) → Prop) (S : Nat → Mx) : Prop := pX4_found S 0 (fun r29 u29 => (Q r29 u29))
def pX4_gap (S : Nat → Mx) (x1 : Int32) (x2 : Int32) (Q : Int32 → (Nat → Mx) → Prop) : Prop := pX1_has (S 0) x1 (fun r5 => ((r5 = 0 → (pX4_gap_27 Q S)) ∧ (¬ r5 = 0 → (pX1_has (S 0) x2 (fun r16 => ((r16 = 0 → (pX4_gap_27 Q S)) ∧ (¬ r16 = 0 → ((¬ x1 = x2 → (pX1_gapOf (S 0) x1 x2 (fun r39 => (Q r39 S)))) ∧ (x1 = x2 → (pX4_gap_27 Q S))))))))))
set_option maxHeartbeats 4000000 in
set_option maxRecDepth 100000 in
theorem bX4_gap_27 {p : Program} {l : Launch} {e : Env} {s : State} {m : MethodId} {args : Array Value} {below : List Frame} {meth : Method} {c : Code} {D : va_G} {κ : Nat → ClassId} {A : Nat → Nat → Nat}   {Q : Int32 → (Nat → Mx) → Prop} (Cc : Cx D κ RX4 cX4_gap 3 (some .int) p s m args meth c) (hI : IX A)   : ∀ (S : Nat → Mx) (H : Heap) (locs : List Loc) (hP : PX D κ A S H) (hS : va_S (aX A) s.heap H locs) (ls : Array Slot) (hl : lv_has ls 3 [(0, .ref (A 5 0))]) (h : pX4_gap_27 Q S), W p l e rX4_gap s m args below meth c H locs 0 0 (MQ below (QWi Q (fun u H => PX D κ A u H) (aX A)) args s 0 0 (aX A)) (F0 m 27 ls []) := by
  obtain ⟨hx, hb, hml, hown, hts, hr, hlk, hE⟩ := id Cc
  intro S H locs hP hS ls hl h
  unfold pX4_gap_27 at h
  refine lv_aload_n hx hb dX4_gap_27 rfl (lv_at hl 0 rfl) ?_
  refine lv_iconst (v := 0) hx hb dX4_gap_28 (by decide) ?_
  refine kWi (kV Cc (mX4_found l D κ A hI h) (qX4_found hts (tw_244 hts) ⟨(Nat.le_of_ble_eq_true rfl), (Nat.le_of_ble_eq_true rfl)⟩) (va_recv hE.1 hP.c5 (ci := 4) (q0 := 0) rfl rfl) (rest := []) hP rfl hl.1 rfl (Nat.le_of_ble_eq_true rfl) dX4_gap_29 ⟨Nat.zero_le _, Nat.zero_le _⟩) hS (fun q h9 => h9) (fun r29 u29 H1 locs1 h hB hk hS1 => ?_)
  have hP := hB
  have hS := hS1
  exact W.iret (v := r29) hx hb hr (fun t ht _ => QWi.mk (u := u29) h hP hS ht) hS.2.2 dX4_gap_32 (hlocks := hlk)
set_option maxHeartbeats 4000000 in
set_option maxRecDepth 100000 in
theorem mX4_gap (l : Launch) (D : va_G) (κ : Nat → ClassId) (A : Nat → Nat → Nat) {S : Nat → Mx} {x1 : Int32} {x2 : Int32} {Q : Int32 → (Nat → Mx) → Prop} (hI : IX A) (h : pX4_gap S x1 x2 Q) : Met l yX4_gap (wz yX4_gap cX4_gap 3 (some .int)) rX4_gap (va_Pc [.ref (A 5 0), .int x1, .int x2] (PE D κ (fun H => PX D κ A S H))) (QWi Q (fun u H => PX D κ A u H) (aX A)) 0 0 (aX A) := by
  refine Met_of l (own := RX4) (by decide) rfl (Nat.le_of_ble_eq_true rfl) (fun p e s m below meth c Cc hPP ls hl => ?_)
  obtain ⟨hx, hb, hml, hown, hts, hr, hlk, hE⟩ := id Cc
  have hl : lv_has ls 3 [(0, .ref (A 5 0)), (1, .int x1), (2, .int x2)] := hl
  have hP := hPP
  have hS : va_S (aX A) s.heap s.heap [] := va_S.rf
  unfold pX4_gap at h
  refine lv_aload_n hx hb dX4_gap_0 rfl (lv_at hl 0 rfl) ?_
  refine gSf_0 Cc hP.c5 (tw_209 hts) dX4_gap_1 ?_
  refine lv_iload_n hx hb dX4_gap_4 rfl (lv_at hl 1 rfl) ?_
  refine kR (kV Cc (mX1_has l D κ (A 0) h) (qX1_has hts (tw_271 hts) ⟨(Nat.le_of_ble_eq_true rfl), (Nat.le_of_ble_eq_true rfl)⟩) (va_recv hE.1 hP.c0 (ci := 1) (q0 := 0) rfl rfl) (rest := []) hP.c0 rfl hl.1 rfl (Nat.le_of_ble_eq_true rfl) dX4_gap_5 ⟨Nat.zero_le _, Nat.zero_le _⟩) (fun r5 h => ?_)
  refine lv_if_eq (tgt := 27) hx hb dX4_gap_8 (by decide) (fun c8 => ?_) (fun c8 => ?_)
  · have h := h.1 c8
    exact bX4_gap_27 Cc hI S _ _ hP hS _ (lv_sub hl [0] rfl) h
  · have h := h.2 c8
    refine lv_aload_n hx hb dX4_gap_11 rfl (lv_at hl 0 rfl) ?_
    refine gSf_0 Cc hP.c5 (tw_209 hts) dX4_gap_12 ?_
    refine lv_iload_n hx hb dX4_gap_15 rfl (lv_at hl 2 rfl) ?_
    refine kR (kV Cc (mX1_has l D κ (A 0) h) (qX1_has hts (tw_271 hts) ⟨(Nat.le_of_ble_eq_true rfl), (Nat.le_of_ble_eq_true rfl)⟩) (va_recv hE.1 hP.c0 (ci := 1) (q0 := 0) rfl rfl) (rest := []) hP.c0 rfl hl.1 rfl (Nat.le_of_ble_eq_true rfl) dX4_gap_16 ⟨Nat.zero_le _, Nat.zero_le _⟩) (fun r16 h => ?_)
    refine lv_if_eq (tgt := 27) hx hb dX4_gap_19 (by decide) (fun c19 => ?_) (fun c19 => ?_)
    · have h := h.1 c19
      exact bX4_gap_27 Cc hI S _ _ hP hS _ (lv_sub hl [0] rfl) h
    · have h := h.2 c19
      refine lv_iload_n hx hb dX4_gap_22 rfl (lv_at hl 1 rfl) ?_
      refine lv_iload_n hx hb dX4_gap_23 rfl (lv_at hl 2 rfl) ?_
      refine lv_icmp_ne (tgt := 33) hx hb dX4_gap_24 (by decide) (fun c24 => ?_) (fun c24 => ?_)
      · have h := h.1 c24
        refine lv_aload_n hx hb dX4_gap_33 rfl (lv_at hl 0 rfl) ?_
        refine gSf_0 Cc hP.c5 (tw_209 hts) dX4_gap_34 ?_
        refine lv_iload_n hx hb dX4_gap_37 rfl (lv_at hl 1 rfl) ?_
        refine lv_iload_n hx hb dX4_gap_38 rfl (lv_at hl 2 rfl) ?_
        refine kR (kV Cc (mX1_gapOf l D κ (A 0) h) (qX1_gapOf hts (tw_306 hts) ⟨(Nat.le_of_ble_eq_true rfl), (Nat.le_of_ble_eq_true rfl)⟩) (va_recv hE.1 hP.c0 (ci := 1) (q0 := 0) rfl rfl) (rest := []) hP.c0 rfl hl.1 rfl (Nat.le_of_ble_eq_true rfl) dX4_gap_39 ⟨Nat.zero_le _, Nat.zero_le _⟩) (fun r39 h => ?_)
        exact W.iret (v := r39) hx hb hr (fun t ht _ => QWi.mk (u := S) h hP hS ht) hS.2.2 dX4_gap_42 (hlocks := hlk)
      · have h := h.2 c24
        exact bX4_gap_27 Cc hI S _ _ hP hS _ (lv_sub hl [0] rfl) h
theorem qX4_gap {R : Room} {s : State} {args : Array Value} {own : String} {idx : Nat} (hts : ∀ w ∈ gG, w.before args s = true) (hl : (Cond.methodLink own idx yX4_gap).before args s = true) (hR : rX4_gap.frames + 1 ≤ R.frames ∧ 8 + (3 + 11) + rX4_gap.locals ≤ R.locals) : CallW R s args own RX4 idx yX4_gap cX4_gap 3 (some .int) (wz yX4_gap cX4_gap 3 (some .int)) rX4_gap 0 0 2 := ⟨kw 2 hts mw_305 rfl rfl (tw_70 hts) hl (by decide +kernel) hR, tw_303 hts, tw_304 hts⟩
abbrev rX4_edge : Room := { frames := 2, cells := 0, slots := 0, locals := 44 }
def pX4_edge_20 (Q : Int32 → (Nat → Mx) → Prop) (S : Nat → Mx) : Prop := pX4_found S 0 (fun r22 u22 => (Q r22 u22))
def pX4_edge (S : Nat → Mx) (x1 : Int32) (x2 : Int32) (Q : Int32 → (Nat → Mx) → Prop) : Prop := pX1_has (S 0) x1 (fun r5 => ((r5 = 0 → (pX4_edge_20 Q S)) ∧ (¬ r5 = 0 → ((x2 < 0 → (pX4_edge_20 Q S)) ∧ (¬ x2 < 0 → ((x2 ≤ 1 → (pX1_edgeOf (S 0) x1 x2 (fun r32 => (Q r32 S)))) ∧ (¬ x2 ≤ 1 → (pX4_edge_20 Q S))))))))
set_option maxHeartbeats 4000000 in
set_option maxRecDepth 100000 in
theorem bX4_edge_20 {p : Program} {l : Launch} {e : Env} {s : State} {m : MethodId} {args : Array Value} {below : List Frame} {meth : Method} {c : Code} {D : va_G} {κ : Nat → ClassId} {A : Nat → Nat → Nat}   {Q : Int32 → (Nat → Mx) → Prop} (Cc : Cx D κ RX4 cX4_edge 3 (some .int) p s m args meth c) (hI : IX A)   : ∀ (S : Nat → Mx) (H : Heap) (locs : List Loc) (hP : PX D κ A S H) (hS : va_S (aX A) s.heap H locs) (ls : Array Slot) (hl : lv_has ls 3 [(0, .ref (A 5 0))]) (h : pX4_edge_20 Q S), W p l e rX4_edge s m args below meth c H locs 0 0 (MQ below (QWi Q (fun u H => PX D κ A u H) (aX A)) args s 0 0 (aX A)) (F0 m 20 ls []) := by
  obtain ⟨hx, hb, hml, hown, hts, hr, hlk, hE⟩ := id Cc
  intro S H locs hP hS ls hl h
  unfold pX4_edge_20 at h
  refine lv_aload_n hx hb dX4_edge_20 rfl (lv_at hl 0 rfl) ?_
  refine lv_iconst (v := 0) hx hb dX4_edge_21 (by decide) ?_
  refine kWi (kV Cc (mX4_found l D κ A hI h) (qX4_found hts (tw_244 hts) ⟨(Nat.le_of_ble_eq_true rfl), (Nat.le_of_ble_eq_true rfl)⟩) (va_recv hE.1 hP.c5 (ci := 4) (q0 := 0) rfl rfl) (rest := []) hP rfl hl.1 rfl (Nat.le_of_ble_eq_true rfl) dX4_edge_22 ⟨Nat.zero_le _, Nat.zero_le _⟩) hS (fun q h9 => h9) (fun r22 u22 H1 locs1 h hB hk hS1 => ?_)
  have hP := hB
  have hS := hS1
  exact W.iret (v := r22) hx hb hr (fun t ht _ => QWi.mk (u := u22) h hP hS ht) hS.2.2 dX4_edge_25 (hlocks := hlk)
set_option maxHeartbeats 4000000 in
set_option maxRecDepth 100000 in
theorem mX4_edge (l : Launch) (D : va_G) (κ : Nat → ClassId) (A : Nat → Nat → Nat) {S : Nat → Mx} {x1 : Int32} {x2 : Int32} {Q : Int32 → (Nat → Mx) → Prop} (hI : IX A) (h : pX4_edge S x1 x2 Q) : Met l yX4_edge (wz yX4_edge cX4_edge 3 (some .int)) rX4_edge (va_Pc [.ref (A 5 0), .int x1, .int x2] (PE D κ (fun H => PX D κ A S H))) (QWi Q (fun u H => PX D κ A u H) (aX A)) 0 0 (aX A) := by
  refine Met_of l (own := RX4) (by decide) rfl (Nat.le_of_ble_eq_true rfl) (fun p e s m below meth c Cc hPP ls hl => ?_)
  obtain ⟨hx, hb, hml, hown, hts, hr, hlk, hE⟩ := id Cc
  have hl : lv_has ls 3 [(0, .ref (A 5 0)), (1, .int x1), (2, .int x2)] := hl
  have hP := hPP
  have hS : va_S (aX A) s.heap s.heap [] := va_S.rf
  unfold pX4_edge at h
  refine lv_aload_n hx hb dX4_edge_0 rfl (lv_at hl 0 rfl) ?_
  refine gSf_0 Cc hP.c5 (tw_209 hts) dX4_edge_1 ?_
  refine lv_iload_n hx hb dX4_edge_4 rfl (lv_at hl 1 rfl) ?_
  refine kR (kV Cc (mX1_has l D κ (A 0) h) (qX1_has hts (tw_271 hts) ⟨(Nat.le_of_ble_eq_true rfl), (Nat.le_of_ble_eq_true rfl)⟩) (va_recv hE.1 hP.c0 (ci := 1) (q0 := 0) rfl rfl) (rest := []) hP.c0 rfl hl.1 rfl (Nat.le_of_ble_eq_true rfl) dX4_edge_5 ⟨Nat.zero_le _, Nat.zero_le _⟩) (fun r5 h => ?_)
  refine lv_if_eq (tgt := 20) hx hb dX4_edge_8 (by decide) (fun c8 => ?_) (fun c8 => ?_)
  · have h := h.1 c8
    exact bX4_edge_20 Cc hI S _ _ hP hS _ (lv_sub hl [0] rfl) h
  · have h := h.2 c8
    refine lv_iload_n hx hb dX4_edge_11 rfl (lv_at hl 2 rfl) ?_
    refine lv_if_lt (tgt := 20) hx hb dX4_edge_12 (by decide) (fun c12 => ?_) (fun c12 => ?_)
    · have h := h.1 c12
      exact bX4_edge_20 Cc hI S _ _ hP hS _ (lv_sub hl [0] rfl) h
    · have h := h.2 c12
      refine lv_iload_n hx hb dX4_edge_15 rfl (lv_at hl 2 rfl) ?_
      refine lv_iconst (v := 1) hx hb dX4_edge_16 (by decide) ?_
      refine lv_icmp_le (tgt := 26) hx hb dX4_edge_17 (by decide) (fun c17 => ?_) (fun c17 => ?_)
      · have h := h.1 c17
        refine lv_aload_n hx hb dX4_edge_26 rfl (lv_at hl 0 rfl) ?_
        refine gSf_0 Cc hP.c5 (tw_209 hts) dX4_edge_27 ?_
        refine lv_iload_n hx hb dX4_edge_30 rfl (lv_at hl 1 rfl) ?_
        refine lv_iload_n hx hb dX4_edge_31 rfl (lv_at hl 2 rfl) ?_
        refine kR (kV Cc (mX1_edgeOf l D κ (A 0) h) (qX1_edgeOf hts (tw_328 hts) ⟨(Nat.le_of_ble_eq_true rfl), (Nat.le_of_ble_eq_true rfl)⟩) (va_recv hE.1 hP.c0 (ci := 1) (q0 := 0) rfl rfl) (rest := []) hP.c0 rfl hl.1 rfl (Nat.le_of_ble_eq_true rfl) dX4_edge_32 ⟨Nat.zero_le _, Nat.zero_le _⟩) (fun r32 h => ?_)
        exact W.iret (v := r32) hx hb hr (fun t ht _ => QWi.mk (u := S) h hP hS ht) hS.2.2 dX4_edge_35 (hlocks := hlk)
      · have h := h.2 c17
        exact bX4_edge_20 Cc hI S _ _ hP hS _ (lv_sub hl [0] rfl) h
theorem qX4_edge {R : Room} {s : State} {args : Array Value} {own : String} {idx : Nat} (hts : ∀ w ∈ gG, w.before args s = true) (hl : (Cond.methodLink own idx yX4_edge).before args s = true) (hR : rX4_edge.frames + 1 ≤ R.frames ∧ 8 + (3 + 11) + rX4_edge.locals ≤ R.locals) : CallW R s args own RX4 idx yX4_edge cX4_edge 3 (some .int) (wz yX4_edge cX4_edge 3 (some .int)) rX4_edge 0 0 2 := ⟨kw 2 hts mw_327 rfl rfl (tw_70 hts) hl (by decide +kernel) hR, tw_325 hts, tw_326 hts⟩
abbrev rX4_swap : Room := { frames := 4, cells := 0, slots := 0, locals := 90 }
def pX4_swap_22 (Q : Int32 → (Nat → Mx) → Prop) (S : Nat → Mx) : Prop := pX4_found S 0 (fun r24 u24 => (Q r24 u24))
def pX4_swap (S : Nat → Mx) (x1 : Int32) (x2 : Int32) (Q : Int32 → (Nat → Mx) → Prop) : Prop := pX1_has (S 0) x1 (fun r5 => ((r5 = 0 → (pX4_swap_22 Q S)) ∧ (¬ r5 = 0 → (pX1_has (S 0) x2 (fun r16 => ((¬ r16 = 0 → (pX1_exchange (S 0) x1 x2 (fun u34 => (pX1_sumOfRow ((va_up S 0 u34) 0) (fun r41 => (Q r41 (va_up S 0 u34))))))) ∧ (r16 = 0 → (pX4_swap_22 Q S))))))))
set_option maxHeartbeats 4000000 in
set_option maxRecDepth 100000 in
theorem bX4_swap_22 {p : Program} {l : Launch} {e : Env} {s : State} {m : MethodId} {args : Array Value} {below : List Frame} {meth : Method} {c : Code} {D : va_G} {κ : Nat → ClassId} {A : Nat → Nat → Nat}   {Q : Int32 → (Nat → Mx) → Prop} (Cc : Cx D κ RX4 cX4_swap 3 (some .int) p s m args meth c) (hI : IX A)   : ∀ (S : Nat → Mx) (H : Heap) (locs : List Loc) (hP : PX D κ A S H) (hS : va_S (aX A) s.heap H locs) (ls : Array Slot) (hl : lv_has ls 3 [(0, .ref (A 5 0))]) (h : pX4_swap_22 Q S), W p l e rX4_swap s m args below meth c H locs 0 0 (MQ below (QWi Q (fun u H => PX D κ A u H) (aX A)) args s 0 0 (aX A)) (F0 m 22 ls []) := by
  obtain ⟨hx, hb, hml, hown, hts, hr, hlk, hE⟩ := id Cc
  intro S H locs hP hS ls hl h
  unfold pX4_swap_22 at h
  refine lv_aload_n hx hb dX4_swap_22 rfl (lv_at hl 0 rfl) ?_
  refine lv_iconst (v := 0) hx hb dX4_swap_23 (by decide) ?_
  refine kWi (kV Cc (mX4_found l D κ A hI h) (qX4_found hts (tw_244 hts) ⟨(Nat.le_of_ble_eq_true rfl), (Nat.le_of_ble_eq_true rfl)⟩) (va_recv hE.1 hP.c5 (ci := 4) (q0 := 0) rfl rfl) (rest := []) hP rfl hl.1 rfl (Nat.le_of_ble_eq_true rfl) dX4_swap_24 ⟨Nat.zero_le _, Nat.zero_le _⟩) hS (fun q h9 => h9) (fun r24 u24 H1 locs1 h hB hk hS1 => ?_)
  have hP := hB
  have hS := hS1
  exact W.iret (v := r24) hx hb hr (fun t ht _ => QWi.mk (u := u24) h hP hS ht) hS.2.2 dX4_swap_27 (hlocks := hlk)
set_option maxHeartbeats 4000000 in
set_option maxRecDepth 100000 in
theorem mX4_swap (l : Launch) (D : va_G) (κ : Nat → ClassId) (A : Nat → Nat → Nat) {S : Nat → Mx} {x1 : Int32} {x2 : Int32} {Q : Int32 → (Nat → Mx) → Prop} (hI : IX A) (h : pX4_swap S x1 x2 Q) : Met l yX4_swap (wz yX4_swap cX4_swap 3 (some .int)) rX4_swap (va_Pc [.ref (A 5 0), .int x1, .int x2] (PE D κ (fun H => PX D κ A S H))) (QWi Q (fun u H => PX D κ A u H) (aX A)) 0 0 (aX A) := by
  refine Met_of l (own := RX4) (by decide) rfl (Nat.le_of_ble_eq_true rfl) (fun p e s m below meth c Cc hPP ls hl => ?_)
  obtain ⟨hx, hb, hml, hown, hts, hr, hlk, hE⟩ := id Cc
  have hl : lv_has ls 3 [(0, .ref (A 5 0)), (1, .int x1), (2, .int x2)] := hl
  have hP := hPP
  have hS : va_S (aX A) s.heap s.heap [] := va_S.rf
  unfold pX4_swap at h
  refine lv_aload_n hx hb dX4_swap_0 rfl (lv_at hl 0 rfl) ?_
  refine gSf_0 Cc hP.c5 (tw_209 hts) dX4_swap_1 ?_
  refine lv_iload_n hx hb dX4_swap_4 rfl (lv_at hl 1 rfl) ?_
  refine kR (kV Cc (mX1_has l D κ (A 0) h) (qX1_has hts (tw_271 hts) ⟨(Nat.le_of_ble_eq_true rfl), (Nat.le_of_ble_eq_true rfl)⟩) (va_recv hE.1 hP.c0 (ci := 1) (q0 := 0) rfl rfl) (rest := []) hP.c0 rfl hl.1 rfl (Nat.le_of_ble_eq_true rfl) dX4_swap_5 ⟨Nat.zero_le _, Nat.zero_le _⟩) (fun r5 h => ?_)
  refine lv_if_eq (tgt := 22) hx hb dX4_swap_8 (by decide) (fun c8 => ?_) (fun c8 => ?_)
  · have h := h.1 c8
    exact bX4_swap_22 Cc hI S _ _ hP hS _ (lv_sub hl [0] rfl) h
  · have h := h.2 c8
    refine lv_aload_n hx hb dX4_swap_11 rfl (lv_at hl 0 rfl) ?_
    refine gSf_0 Cc hP.c5 (tw_209 hts) dX4_swap_12 ?_
    refine lv_iload_n hx hb dX4_swap_15 rfl (lv_at hl 2 rfl) ?_
    refine kR (kV Cc (mX1_has l D κ (A 0) h) (qX1_has hts (tw_271 hts) ⟨(Nat.le_of_ble_eq_true rfl), (Nat.le_of_ble_eq_true rfl)⟩) (va_recv hE.1 hP.c0 (ci := 1) (q0 := 0) rfl rfl) (rest := []) hP.c0 rfl hl.1 rfl (Nat.le_of_ble_eq_true rfl) dX4_swap_16 ⟨Nat.zero_le _, Nat.zero_le _⟩) (fun r16 h => ?_)
    refine lv_if_ne (tgt := 28) hx hb dX4_swap_19 (by decide) (fun c19 => ?_) (fun c19 => ?_)
    · have h := h.1 c19
      refine lv_aload_n hx hb dX4_swap_28 rfl (lv_at hl 0 rfl) ?_
      refine gSf_0 Cc hP.c5 (tw_209 hts) dX4_swap_29 ?_
      refine lv_iload_n hx hb dX4_swap_32 rfl (lv_at hl 1 rfl) ?_
      refine lv_iload_n hx hb dX4_swap_33 rfl (lv_at hl 2 rfl) ?_
      refine kWv (kV Cc (mX1_exchange l D κ (A 0) (hI.ij (k := 0) (by decide)) h) (qX1_exchange hts (tw_336 hts) ⟨(Nat.le_of_ble_eq_true rfl), (Nat.le_of_ble_eq_true rfl)⟩) (va_recv hE.1 hP.c0 (ci := 1) (q0 := 0) rfl rfl) (rest := []) hP.c0 rfl hl.1 rfl (Nat.le_of_ble_eq_true rfl) dX4_swap_34 ⟨Nat.zero_le _, Nat.zero_le _⟩) hS (fun q h9 => aX_of (k := 0) (by decide) h9) (fun  u34 H1 locs1 h hB hk hS1 => ?_)
      have hP := PX.put (k := 0) (by decide) hI hP hB hk
      have hS := hS1
      refine lv_aload_n hx hb dX4_swap_37 rfl (lv_at hl 0 rfl) ?_
      refine gSf_0 Cc hP.c5 (tw_209 hts) dX4_swap_38 ?_
      refine kR (kV Cc (mX1_sumOfRow l D κ (A 0) h) (qX1_sumOfRow hts (tw_341 hts) ⟨(Nat.le_of_ble_eq_true rfl), (Nat.le_of_ble_eq_true rfl)⟩) (va_recv hE.1 hP.c0 (ci := 1) (q0 := 0) rfl rfl) (rest := []) hP.c0 rfl hl.1 rfl (Nat.le_of_ble_eq_true rfl) dX4_swap_41 ⟨Nat.zero_le _, Nat.zero_le _⟩) (fun r41 h => ?_)
      exact W.iret (v := r41) hx hb hr (fun t ht _ => QWi.mk (u := (va_up S 0 u34)) h hP hS ht) hS.2.2 dX4_swap_44 (hlocks := hlk)
    · have h := h.2 c19
      exact bX4_swap_22 Cc hI S _ _ hP hS _ (lv_sub hl [0] rfl) h
theorem qX4_swap {R : Room} {s : State} {args : Array Value} {own : String} {idx : Nat} (hts : ∀ w ∈ gG, w.before args s = true) (hl : (Cond.methodLink own idx yX4_swap).before args s = true) (hR : rX4_swap.frames + 1 ≤ R.frames ∧ 8 + (3 + 11) + rX4_swap.locals ≤ R.locals) : CallW R s args own RX4 idx yX4_swap cX4_swap 3 (some .int) (wz yX4_swap cX4_swap 3 (some .int)) rX4_swap 0 0 2 := ⟨kw 2 hts mw_335 rfl rfl (tw_70 hts) hl (by decide +kernel) hR, tw_333 hts, tw_334 hts⟩
abbrev rX4_go : Room := { frames := 4, cells := 0, slots := 0, locals := 90 }
def pX4_go_11 (Q : Int32 → (Nat → Mx) → Prop) (S : Nat → Mx) : Prop := pX4_found S 0 (fun r13 u13 => (Q r13 u13))
def pX4_go (S : Nat → Mx) (x1 : Int32) (Q : Int32 → (Nat → Mx) → Prop) : Prop := (x1 < 1 → (pX4_go_11 Q S)) ∧ (¬ x1 < 1 → ((x1 ≤ 60 → (((((S 0) 9 0) + x1) ≤ 99999 → (pX1_passYears (S 0) x1 (fun u42 => (pX1_sumOfRow ((va_up S 0 u42) 0) (fun r49 => (Q r49 (va_up S 0 u42))))))) ∧ (¬ (((S 0) 9 0) + x1) ≤ 99999 → (pX4_found S 4 (fun r33 u33 => (Q r33 u33)))))) ∧ (¬ x1 ≤ 60 → (pX4_go_11 Q S))))
set_option maxHeartbeats 4000000 in
set_option maxRecDepth 100000 in
theorem bX4_go_11 {p : Program} {l : Launch} {e : Env} {s : State} {m : MethodId} {args : Array Value} {below : List Frame} {meth : Method} {c : Code} {D : va_G} {κ : Nat → ClassId} {A : Nat → Nat → Nat}   {Q : Int32 → (Nat → Mx) → Prop} (Cc : Cx D κ RX4 cX4_go 2 (some .int) p s m args meth c) (hI : IX A)   : ∀ (S : Nat → Mx) (H : Heap) (locs : List Loc) (hP : PX D κ A S H) (hS : va_S (aX A) s.heap H locs) (ls : Array Slot) (hl : lv_has ls 2 [(0, .ref (A 5 0))]) (h : pX4_go_11 Q S), W p l e rX4_go s m args below meth c H locs 0 0 (MQ below (QWi Q (fun u H => PX D κ A u H) (aX A)) args s 0 0 (aX A)) (F0 m 11 ls []) := by
  obtain ⟨hx, hb, hml, hown, hts, hr, hlk, hE⟩ := id Cc
  intro S H locs hP hS ls hl h
  unfold pX4_go_11 at h
  refine lv_aload_n hx hb dX4_go_11 rfl (lv_at hl 0 rfl) ?_
  refine lv_iconst (v := 0) hx hb dX4_go_12 (by decide) ?_
  refine kWi (kV Cc (mX4_found l D κ A hI h) (qX4_found hts (tw_244 hts) ⟨(Nat.le_of_ble_eq_true rfl), (Nat.le_of_ble_eq_true rfl)⟩) (va_recv hE.1 hP.c5 (ci := 4) (q0 := 0) rfl rfl) (rest := []) hP rfl hl.1 rfl (Nat.le_of_ble_eq_true rfl) dX4_go_13 ⟨Nat.zero_le _, Nat.zero_le _⟩) hS (fun q h9 => h9) (fun r13 u13 H1 locs1 h hB hk hS1 => ?_)
  have hP := hB
  have hS := hS1
  exact W.iret (v := r13) hx hb hr (fun t ht _ => QWi.mk (u := u13) h hP hS ht) hS.2.2 dX4_go_16 (hlocks := hlk)
set_option maxHeartbeats 4000000 in
set_option maxRecDepth 100000 in
theorem mX4_go (l : Launch) (D : va_G) (κ : Nat → ClassId) (A : Nat → Nat → Nat) {S : Nat → Mx} {x1 : Int32} {Q : Int32 → (Nat → Mx) → Prop} (hI : IX A) (h : pX4_go S x1 Q) : Met l yX4_go (wz yX4_go cX4_go 2 (some .int)) rX4_go (va_Pc [.ref (A 5 0), .int x1] (PE D κ (fun H => PX D κ A S H))) (QWi Q (fun u H => PX D κ A u H) (aX A)) 0 0 (aX A) := by
  refine Met_of l (own := RX4) (by decide) rfl (Nat.le_of_ble_eq_true rfl) (fun p e s m below meth c Cc hPP ls hl => ?_)
  obtain ⟨hx, hb, hml, hown, hts, hr, hlk, hE⟩ := id Cc
  have hl : lv_has ls 2 [(0, .ref (A 5 0)), (1, .int x1)] := hl
  have hP := hPP
  have hS : va_S (aX A) s.heap s.heap [] := va_S.rf
  unfold pX4_go at h
  refine lv_iload_n hx hb dX4_go_0 rfl (lv_at hl 1 rfl) ?_
  refine lv_iconst (v := 1) hx hb dX4_go_1 (by decide) ?_
  refine lv_icmp_lt (tgt := 11) hx hb dX4_go_2 (by decide) (fun c2 => ?_) (fun c2 => ?_)
  · have h := h.1 c2
    exact bX4_go_11 Cc hI S _ _ hP hS _ (lv_sub hl [0] rfl) h
  · have h := h.2 c2
    refine lv_iload_n hx hb dX4_go_5 rfl (lv_at hl 1 rfl) ?_
    refine lv_bipush (v := 60) hx hb dX4_go_6 (by decide) ?_
    refine lv_icmp_le (tgt := 17) hx hb dX4_go_8 (by decide) (fun c8 => ?_) (fun c8 => ?_)
    · have h := h.1 c8
      refine lv_aload_n hx hb dX4_go_17 rfl (lv_at hl 0 rfl) ?_
      refine gSf_0 Cc hP.c5 (tw_209 hts) dX4_go_18 ?_
      refine gCo_9 Cc hP.c0 (tw_120 hts) dX4_go_21 ?_
      refine lv_iload_n hx hb dX4_go_24 rfl (lv_at hl 1 rfl) ?_
      refine lv_iadd hx hb dX4_go_25 ?_
      refine lv_ldc (own := RX4) (v := 99999) hx hb hown (tw_355 hts) dX4_go_26 ?_
      refine lv_icmp_le (tgt := 37) hx hb dX4_go_28 (by decide) (fun c28 => ?_) (fun c28 => ?_)
      · have h := h.1 c28
        refine lv_aload_n hx hb dX4_go_37 rfl (lv_at hl 0 rfl) ?_
        refine gSf_0 Cc hP.c5 (tw_209 hts) dX4_go_38 ?_
        refine lv_iload_n hx hb dX4_go_41 rfl (lv_at hl 1 rfl) ?_
        refine kWv (kV Cc (mX1_passYears l D κ (A 0) (hI.ij (k := 0) (by decide)) h) (qX1_passYears hts (tw_356 hts) ⟨(Nat.le_of_ble_eq_true rfl), (Nat.le_of_ble_eq_true rfl)⟩) (va_recv hE.1 hP.c0 (ci := 1) (q0 := 0) rfl rfl) (rest := []) hP.c0 rfl hl.1 rfl (Nat.le_of_ble_eq_true rfl) dX4_go_42 ⟨Nat.zero_le _, Nat.zero_le _⟩) hS (fun q h9 => aX_of (k := 0) (by decide) h9) (fun  u42 H1 locs1 h hB hk hS1 => ?_)
        have hP := PX.put (k := 0) (by decide) hI hP hB hk
        have hS := hS1
        refine lv_aload_n hx hb dX4_go_45 rfl (lv_at hl 0 rfl) ?_
        refine gSf_0 Cc hP.c5 (tw_209 hts) dX4_go_46 ?_
        refine kR (kV Cc (mX1_sumOfRow l D κ (A 0) h) (qX1_sumOfRow hts (tw_341 hts) ⟨(Nat.le_of_ble_eq_true rfl), (Nat.le_of_ble_eq_true rfl)⟩) (va_recv hE.1 hP.c0 (ci := 1) (q0 := 0) rfl rfl) (rest := []) hP.c0 rfl hl.1 rfl (Nat.le_of_ble_eq_true rfl) dX4_go_49 ⟨Nat.zero_le _, Nat.zero_le _⟩) (fun r49 h => ?_)
        exact W.iret (v := r49) hx hb hr (fun t ht _ => QWi.mk (u := (va_up S 0 u42)) h hP hS ht) hS.2.2 dX4_go_52 (hlocks := hlk)
      · have h := h.2 c28
        refine lv_aload_n hx hb dX4_go_31 rfl (lv_at hl 0 rfl) ?_
        refine lv_iconst (v := 4) hx hb dX4_go_32 (by decide) ?_
        refine kWi (kV Cc (mX4_found l D κ A hI h) (qX4_found hts (tw_244 hts) ⟨(Nat.le_of_ble_eq_true rfl), (Nat.le_of_ble_eq_true rfl)⟩) (va_recv hE.1 hP.c5 (ci := 4) (q0 := 0) rfl rfl) (rest := []) hP rfl hl.1 rfl (Nat.le_of_ble_eq_true rfl) dX4_go_33 ⟨Nat.zero_le _, Nat.zero_le _⟩) hS (fun q h9 => h9) (fun r33 u33 H1 locs1 h hB hk hS1 => ?_)
        have hP := hB
        have hS := hS1
        exact W.iret (v := r33) hx hb hr (fun t ht _ => QWi.mk (u := u33) h hP hS ht) hS.2.2 dX4_go_36 (hlocks := hlk)
    · have h := h.2 c8
      exact bX4_go_11 Cc hI S _ _ hP hS _ (lv_sub hl [0] rfl) h
theorem qX4_go {R : Room} {s : State} {args : Array Value} {own : String} {idx : Nat} (hts : ∀ w ∈ gG, w.before args s = true) (hl : (Cond.methodLink own idx yX4_go).before args s = true) (hR : rX4_go.frames + 1 ≤ R.frames ∧ 8 + (2 + 11) + rX4_go.locals ≤ R.locals) : CallW R s args own RX4 idx yX4_go cX4_go 2 (some .int) (wz yX4_go cX4_go 2 (some .int)) rX4_go 0 0 1 := ⟨kw 1 hts mw_354 rfl rfl (tw_70 hts) hl (by decide +kernel) hR, tw_352 hts, tw_353 hts⟩
abbrev rX4_sumExchanged : Room := { frames := 4, cells := 0, slots := 0, locals := 90 }
def pX4_sumExchanged (S : Nat → Mx) (x1 : Int32) (x2 : Int32) (Q : Int32 → (Nat → Mx) → Prop) : Prop := pX1_exchange (S 0) x1 x2 (fun u6 => (pX1_sumOfRow ((va_up S 0 u6) 0) (fun r13 => (pX1_exchange ((va_up S 0 u6) 0) x1 x2 (fun u23 => (Q r13 (va_up (va_up S 0 u6) 0 u23)))))))
set_option maxHeartbeats 4000000 in
set_option maxRecDepth 100000 in
theorem mX4_sumExchanged (l : Launch) (D : va_G) (κ : Nat → ClassId) (A : Nat → Nat → Nat) {S : Nat → Mx} {x1 : Int32} {x2 : Int32} {Q : Int32 → (Nat → Mx) → Prop} (hI : IX A) (h : pX4_sumExchanged S x1 x2 Q) : Met l yX4_sumExchanged (wz yX4_sumExchanged cX4_sumExchanged 4 (some .int)) rX4_sumExchanged (va_Pc [.ref (A 5 0), .int x1, .int x2] (PE D κ (fun H => PX D κ A S H))) (QWi Q (fun u H => PX D κ A u H) (aX A)) 0 0 (aX A) := by
  refine Met_of l (own := RX4) (by decide) rfl (Nat.le_of_ble_eq_true rfl) (fun p e s m below meth c Cc hPP ls hl => ?_)
  obtain ⟨hx, hb, hml, hown, hts, hr, hlk, hE⟩ := id Cc
  have hl : lv_has ls 4 [(0, .ref (A 5 0)), (1, .int x1), (2, .int x2)] := hl
  have hP := hPP
  have hS : va_S (aX A) s.heap s.heap [] := va_S.rf
  unfold pX4_sumExchanged at h
  refine lv_aload_n hx hb dX4_sumExchanged_0 rfl (lv_at hl 0 rfl) ?_
  refine gSf_0 Cc hP.c5 (tw_209 hts) dX4_sumExchanged_1 ?_
  refine lv_iload_n hx hb dX4_sumExchanged_4 rfl (lv_at hl 1 rfl) ?_
  refine lv_iload_n hx hb dX4_sumExchanged_5 rfl (lv_at hl 2 rfl) ?_
  refine kWv (kV Cc (mX1_exchange l D κ (A 0) (hI.ij (k := 0) (by decide)) h) (qX1_exchange hts (tw_336 hts) ⟨(Nat.le_of_ble_eq_true rfl), (Nat.le_of_ble_eq_true rfl)⟩) (va_recv hE.1 hP.c0 (ci := 1) (q0 := 0) rfl rfl) (rest := []) hP.c0 rfl hl.1 rfl (Nat.le_of_ble_eq_true rfl) dX4_sumExchanged_6 ⟨Nat.zero_le _, Nat.zero_le _⟩) hS (fun q h9 => aX_of (k := 0) (by decide) h9) (fun  u6 H1 locs1 h hB hk hS1 => ?_)
  have hP := PX.put (k := 0) (by decide) hI hP hB hk
  have hS := hS1
  refine lv_aload_n hx hb dX4_sumExchanged_9 rfl (lv_at hl 0 rfl) ?_
  refine gSf_0 Cc hP.c5 (tw_209 hts) dX4_sumExchanged_10 ?_
  refine kR (kV Cc (mX1_sumOfRow l D κ (A 0) h) (qX1_sumOfRow hts (tw_341 hts) ⟨(Nat.le_of_ble_eq_true rfl), (Nat.le_of_ble_eq_true rfl)⟩) (va_recv hE.1 hP.c0 (ci := 1) (q0 := 0) rfl rfl) (rest := []) hP.c0 rfl hl.1 rfl (Nat.le_of_ble_eq_true rfl) dX4_sumExchanged_13 ⟨Nat.zero_le _, Nat.zero_le _⟩) (fun r13 h => ?_)
  refine lv_istore_n (lv' := [(3, .int r13), (0, .ref (A 5 0)), (1, .int x1), (2, .int x2)]) hx hb dX4_sumExchanged_16 rfl hl (by decide) rfl (fun ls hl => ?_)
  refine lv_aload_n hx hb dX4_sumExchanged_17 rfl (lv_at hl 1 rfl) ?_
  refine gSf_0 Cc hP.c5 (tw_209 hts) dX4_sumExchanged_18 ?_
  refine lv_iload_n hx hb dX4_sumExchanged_21 rfl (lv_at hl 2 rfl) ?_
  refine lv_iload_n hx hb dX4_sumExchanged_22 rfl (lv_at hl 3 rfl) ?_
  refine kWv (kV Cc (mX1_exchange l D κ (A 0) (hI.ij (k := 0) (by decide)) h) (qX1_exchange hts (tw_336 hts) ⟨(Nat.le_of_ble_eq_true rfl), (Nat.le_of_ble_eq_true rfl)⟩) (va_recv hE.1 hP.c0 (ci := 1) (q0 := 0) rfl rfl) (rest := []) hP.c0 rfl hl.1 rfl (Nat.le_of_ble_eq_true rfl) dX4_sumExchanged_23 ⟨Nat.zero_le _, Nat.zero_le _⟩) hS (fun q h9 => aX_of (k := 0) (by decide) h9) (fun  u23 H1 locs1 h hB hk hS1 => ?_)
  have hP := PX.put (k := 0) (by decide) hI hP hB hk
  have hS := hS1
  refine lv_iload_n hx hb dX4_sumExchanged_26 rfl (lv_at hl 0 rfl) ?_
  exact W.iret (v := r13) hx hb hr (fun t ht _ => QWi.mk (u := (va_up (va_up S 0 u6) 0 u23)) h hP hS ht) hS.2.2 dX4_sumExchanged_27 (hlocks := hlk)
theorem qX4_sumExchanged {R : Room} {s : State} {args : Array Value} {own : String} {idx : Nat} (hts : ∀ w ∈ gG, w.before args s = true) (hl : (Cond.methodLink own idx yX4_sumExchanged).before args s = true) (hR : rX4_sumExchanged.frames + 1 ≤ R.frames ∧ 8 + (4 + 11) + rX4_sumExchanged.locals ≤ R.locals) : CallW R s args own RX4 idx yX4_sumExchanged cX4_sumExchanged 4 (some .int) (wz yX4_sumExchanged cX4_sumExchanged 4 (some .int)) rX4_sumExchanged 0 0 2 := ⟨kw 2 hts mw_430 rfl rfl (tw_70 hts) hl (by decide +kernel) hR, tw_429 hts, tw_7 hts⟩
abbrev rX4_leastExchange : Room := { frames := 5, cells := 0, slots := 0, locals := 113 }
def pX4_leastExchange_66 (ih12 : Int32 → Int32 → Int32 → (Nat → Mx) → Prop) (ih28 : Int32 → Int32 → Int32 → Int32 → (Nat → Mx) → Prop) (Q : Int32 → (Nat → Mx) → Prop) (x1 : Int32) (x2 : Int32) (x3 : Int32) (x4 : Int32) (S : Nat → Mx) : Prop := ih28 x1 x2 x3 (x4 + 1) S
def pX4_leastExchange_28s (ih12 : Int32 → Int32 → Int32 → (Nat → Mx) → Prop) (ih28 : Int32 → Int32 → Int32 → Int32 → (Nat → Mx) → Prop) (Q : Int32 → (Nat → Mx) → Prop) (x1 : Int32) (x2 : Int32) (x3 : Int32) (x4 : Int32) (S : Nat → Mx) : Prop := (((S 0) 8 0) ≤ x4 → (ih12 x1 x2 (x3 + 1) S)) ∧ (¬ ((S 0) 8 0) ≤ x4 → (pX4_sumExchanged S x3 x4 (fun r44 u44 => ((x1 ≤ r44 → (pX4_leastExchange_66 ih12 ih28 Q x1 x2 x3 x4 u44)) ∧ (¬ x1 ≤ r44 → (∀ v65 : Int32, v65 = ((10 * x3) + x4) → (pX4_leastExchange_66 ih12 ih28 Q r44 v65 x3 x4 u44)))))))
noncomputable def pX4_leastExchange_28 (ih12 : Int32 → Int32 → Int32 → (Nat → Mx) → Prop) (Q : Int32 → (Nat → Mx) → Prop) (n : Nat) : Int32 → Int32 → Int32 → Int32 → (Nat → Mx) → Prop := Nat.rec (motive := fun _ => Int32 → Int32 → Int32 → Int32 → (Nat → Mx) → Prop) (fun _ _ _ _ _ => False) (fun _ ih => pX4_leastExchange_28s ih12 ih Q) n
def pX4_leastExchange_12s  (ih12 : Int32 → Int32 → Int32 → (Nat → Mx) → Prop) (Q : Int32 → (Nat → Mx) → Prop) (x1 : Int32) (x2 : Int32) (x3 : Int32) (S : Nat → Mx) : Prop := (((S 0) 8 0) ≤ x3 → (Q x2 S)) ∧ (¬ ((S 0) 8 0) ≤ x3 → (∀ v26 : Int32, v26 = (x3 + 1) → (∃ n, pX4_leastExchange_28 ih12 Q n x1 x2 x3 v26 S)))
noncomputable def pX4_leastExchange_12 (Q : Int32 → (Nat → Mx) → Prop) (n : Nat) : Int32 → Int32 → Int32 → (Nat → Mx) → Prop := Nat.rec (motive := fun _ => Int32 → Int32 → Int32 → (Nat → Mx) → Prop) (fun _ _ _ _ => False) (fun _ ih => pX4_leastExchange_12s ih Q) n
def pX4_leastExchange (S : Nat → Mx)  (Q : Int32 → (Nat → Mx) → Prop) : Prop := pX1_sumOfRow (S 0) (fun r4 => (∃ n, pX4_leastExchange_12 Q n r4 (-1) 0 S))
set_option maxHeartbeats 4000000 in
set_option maxRecDepth 100000 in
theorem bX4_leastExchange_66 {p : Program} {l : Launch} {e : Env} {s : State} {m : MethodId} {args : Array Value} {below : List Frame} {meth : Method} {c : Code} {D : va_G} {κ : Nat → ClassId} {A : Nat → Nat → Nat}  {ih12 : Int32 → Int32 → Int32 → (Nat → Mx) → Prop} {ih28 : Int32 → Int32 → Int32 → Int32 → (Nat → Mx) → Prop} {Q : Int32 → (Nat → Mx) → Prop} (Cc : Cx D κ RX4 cX4_leastExchange 6 (some .int) p s m args meth c) (hI : IX A)  (hih12 : ∀ (x1 : Int32) (x2 : Int32) (x3 : Int32) (S : Nat → Mx) (H : Heap) (locs : List Loc) (hP : PX D κ A S H) (hS : va_S (aX A) s.heap H locs) (ls : Array Slot) (hl : lv_has ls 6 [(0, .ref (A 5 0)), (1, .int x1), (2, .int x2), (3, .int x3)]) (h : ih12 x1 x2 x3 S), W p l e rX4_leastExchange s m args below meth c H locs 0 0 (MQ below (QWi Q (fun u H => PX D κ A u H) (aX A)) args s 0 0 (aX A)) (F0 m 12 ls [])) (hih28 : ∀ (x1 : Int32) (x2 : Int32) (x3 : Int32) (x4 : Int32) (S : Nat → Mx) (H : Heap) (locs : List Loc) (hP : PX D κ A S H) (hS : va_S (aX A) s.heap H locs) (ls : Array Slot) (hl : lv_has ls 6 [(0, .ref (A 5 0)), (1, .int x1), (2, .int x2), (3, .int x3), (4, .int x4)]) (h : ih28 x1 x2 x3 x4 S), W p l e rX4_leastExchange s m args below meth c H locs 0 0 (MQ below (QWi Q (fun u H => PX D κ A u H) (aX A)) args s 0 0 (aX A)) (F0 m 28 ls [])) : ∀ (x1 : Int32) (x2 : Int32) (x3 : Int32) (x4 : Int32) (S : Nat → Mx) (H : Heap) (locs : List Loc) (hP : PX D κ A S H) (hS : va_S (aX A) s.heap H locs) (ls : Array Slot) (hl : lv_has ls 6 [(0, .ref (A 5 0)), (1, .int x1), (2, .int x2), (3, .int x3), (4, .int x4)]) (h : pX4_leastExchange_66 ih12 ih28 Q x1 x2 x3 x4 S), W p l e rX4_leastExchange s m args below meth c H locs 0 0 (MQ below (QWi Q (fun u H => PX D κ A u H) (aX A)) args s 0 0 (aX A)) (F0 m 66 ls []) := by
  obtain ⟨hx, hb, hml, hown, hts, hr, hlk, hE⟩ := id Cc
  intro x1 x2 x3 x4 S H locs hP hS ls hl h
  unfold pX4_leastExchange_66 at h
  refine lv_iinc (v := (x4 + 1)) (lv' := [(4, .int (x4 + 1)), (0, .ref (A 5 0)), (1, .int x1), (2, .int x2), (3, .int x3)]) hx hb dX4_leastExchange_66 hl (k := 4) rfl rfl (by decide) rfl (fun ls hl => ?_)
  refine lv_goto (tgt := 28) hx hb dX4_leastExchange_69 (by decide) ?_
  exact hih28 x1 x2 x3 (x4 + 1) S _ _ hP hS _ (lv_sub hl [1, 2, 3, 4, 0] rfl) h
set_option maxHeartbeats 4000000 in
set_option maxRecDepth 100000 in
theorem bX4_leastExchange_28 {p : Program} {l : Launch} {e : Env} {s : State} {m : MethodId} {args : Array Value} {below : List Frame} {meth : Method} {c : Code} {D : va_G} {κ : Nat → ClassId} {A : Nat → Nat → Nat}  {ih12 : Int32 → Int32 → Int32 → (Nat → Mx) → Prop} {Q : Int32 → (Nat → Mx) → Prop} (Cc : Cx D κ RX4 cX4_leastExchange 6 (some .int) p s m args meth c) (hI : IX A)  (hih12 : ∀ (x1 : Int32) (x2 : Int32) (x3 : Int32) (S : Nat → Mx) (H : Heap) (locs : List Loc) (hP : PX D κ A S H) (hS : va_S (aX A) s.heap H locs) (ls : Array Slot) (hl : lv_has ls 6 [(0, .ref (A 5 0)), (1, .int x1), (2, .int x2), (3, .int x3)]) (h : ih12 x1 x2 x3 S), W p l e rX4_leastExchange s m args below meth c H locs 0 0 (MQ below (QWi Q (fun u H => PX D κ A u H) (aX A)) args s 0 0 (aX A)) (F0 m 12 ls [])) (n : Nat) : ∀ (x1 : Int32) (x2 : Int32) (x3 : Int32) (x4 : Int32) (S : Nat → Mx) (H : Heap) (locs : List Loc) (hP : PX D κ A S H) (hS : va_S (aX A) s.heap H locs) (ls : Array Slot) (hl : lv_has ls 6 [(0, .ref (A 5 0)), (1, .int x1), (2, .int x2), (3, .int x3), (4, .int x4)]) (h : pX4_leastExchange_28 ih12 Q n x1 x2 x3 x4 S), W p l e rX4_leastExchange s m args below meth c H locs 0 0 (MQ below (QWi Q (fun u H => PX D κ A u H) (aX A)) args s 0 0 (aX A)) (F0 m 28 ls []) := by
  obtain ⟨hx, hb, hml, hown, hts, hr, hlk, hE⟩ := id Cc
  induction n with
  | zero =>
    intro x1 x2 x3 x4 S H locs hP hS ls hl h
    exact absurd h (fun z => z)
  | succ n hih28 =>
    intro x1 x2 x3 x4 S H locs hP hS ls hl h
    have h : pX4_leastExchange_28s ih12 (pX4_leastExchange_28 ih12 Q n) Q x1 x2 x3 x4 S := h
    unfold pX4_leastExchange_28s at h
    refine lv_iload hx hb dX4_leastExchange_28 (lv_at hl 4 rfl) ?_
    refine lv_aload_n hx hb dX4_leastExchange_30 rfl (lv_at hl 0 rfl) ?_
    refine gSf_0 Cc hP.c5 (tw_209 hts) dX4_leastExchange_31 ?_
    refine gCo_8 Cc hP.c0 (tw_117 hts) dX4_leastExchange_34 ?_
    refine lv_icmp_ge (tgt := 72) hx hb dX4_leastExchange_37 (by decide) (fun c37 => ?_) (fun c37 => ?_)
    · have h := h.1 c37
      refine lv_iinc (v := (x3 + 1)) (lv' := [(3, .int (x3 + 1)), (0, .ref (A 5 0)), (1, .int x1), (2, .int x2), (4, .int x4)]) hx hb dX4_leastExchange_72 hl (k := 3) rfl rfl (by decide) rfl (fun ls hl => ?_)
      refine lv_goto (tgt := 12) hx hb dX4_leastExchange_75 (by decide) ?_
      exact hih12 x1 x2 (x3 + 1) S _ _ hP hS _ (lv_sub hl [1, 2, 3, 0] rfl) h
    · have h := h.2 c37
      refine lv_aload_n hx hb dX4_leastExchange_40 rfl (lv_at hl 0 rfl) ?_
      refine lv_iload_n hx hb dX4_leastExchange_41 rfl (lv_at hl 3 rfl) ?_
      refine lv_iload hx hb dX4_leastExchange_42 (lv_at hl 4 rfl) ?_
      refine kWi (kV Cc (mX4_sumExchanged l D κ A hI h) (qX4_sumExchanged hts (tw_427 hts) ⟨(Nat.le_of_ble_eq_true rfl), (Nat.le_of_ble_eq_true rfl)⟩) (va_recv hE.1 hP.c5 (ci := 4) (q0 := 0) rfl rfl) (rest := []) hP rfl hl.1 rfl (Nat.le_of_ble_eq_true rfl) dX4_leastExchange_44 ⟨Nat.zero_le _, Nat.zero_le _⟩) hS (fun q h9 => h9) (fun r44 u44 H1 locs1 h hB hk hS1 => ?_)
      have hP := hB
      have hS := hS1
      refine lv_istore (lv' := [(5, .int r44), (0, .ref (A 5 0)), (1, .int x1), (2, .int x2), (3, .int x3), (4, .int x4)]) hx hb dX4_leastExchange_47 hl (by decide) rfl (fun ls hl => ?_)
      refine lv_iload hx hb dX4_leastExchange_49 (lv_at hl 0 rfl) ?_
      refine lv_iload_n hx hb dX4_leastExchange_51 rfl (lv_at hl 2 rfl) ?_
      refine lv_icmp_ge (tgt := 66) hx hb dX4_leastExchange_52 (by decide) (fun c52 => ?_) (fun c52 => ?_)
      · have h := h.1 c52
        exact bX4_leastExchange_66 Cc hI hih12 hih28 x1 x2 x3 x4 u44 _ _ hP hS _ (lv_sub hl [1, 2, 3, 4, 5] rfl) h
      · have h := h.2 c52
        refine lv_iload hx hb dX4_leastExchange_55 (lv_at hl 0 rfl) ?_
        refine lv_istore_n (lv' := [(1, .int r44), (5, .int r44), (0, .ref (A 5 0)), (2, .int x2), (3, .int x3), (4, .int x4)]) hx hb dX4_leastExchange_57 rfl hl (by decide) rfl (fun ls hl => ?_)
        refine lv_bipush (v := 10) hx hb dX4_leastExchange_58 (by decide) ?_
        refine lv_iload_n hx hb dX4_leastExchange_60 rfl (lv_at hl 4 rfl) ?_
        refine lv_imul hx hb dX4_leastExchange_61 ?_
        refine lv_iload hx hb dX4_leastExchange_62 (lv_at hl 5 rfl) ?_
        refine lv_iadd hx hb dX4_leastExchange_64 ?_
        refine lv_topi (fun v65 e65 => ?_)
        have h := h v65 e65
        refine lv_istore_n (lv' := [(2, .int v65), (1, .int r44), (5, .int r44), (0, .ref (A 5 0)), (3, .int x3), (4, .int x4)]) hx hb dX4_leastExchange_65 rfl hl (by decide) rfl (fun ls hl => ?_)
        exact bX4_leastExchange_66 Cc hI hih12 hih28 r44 v65 x3 x4 u44 _ _ hP hS _ (lv_sub hl [3, 1, 0, 4, 5] rfl) h
set_option maxHeartbeats 4000000 in
set_option maxRecDepth 100000 in
theorem bX4_leastExchange_12 {p : Program} {l : Launch} {e : Env} {s : State} {m : MethodId} {args : Array Value} {below : List Frame} {meth : Method} {c : Code} {D : va_G} {κ : Nat → ClassId} {A : Nat → Nat → Nat}   {Q : Int32 → (Nat → Mx) → Prop} (Cc : Cx D κ RX4 cX4_leastExchange 6 (some .int) p s m args meth c) (hI : IX A)   (n : Nat) : ∀ (x1 : Int32) (x2 : Int32) (x3 : Int32) (S : Nat → Mx) (H : Heap) (locs : List Loc) (hP : PX D κ A S H) (hS : va_S (aX A) s.heap H locs) (ls : Array Slot) (hl : lv_has ls 6 [(0, .ref (A 5 0)), (1, .int x1), (2, .int x2), (3, .int x3)]) (h : pX4_leastExchange_12 Q n x1 x2 x3 S), W p l e rX4_leastExchange s m args below meth c H locs 0 0 (MQ below (QWi Q (fun u H => PX D κ A u H) (aX A)) args s 0 0 (aX A)) (F0 m 12 ls []) := by
  obtain ⟨hx, hb, hml, hown, hts, hr, hlk, hE⟩ := id Cc
  induction n with
  | zero =>
    intro x1 x2 x3 S H locs hP hS ls hl h
    exact absurd h (fun z => z)
  | succ n hih12 =>
    intro x1 x2 x3 S H locs hP hS ls hl h
    have h : pX4_leastExchange_12s (pX4_leastExchange_12 Q n) Q x1 x2 x3 S := h
    unfold pX4_leastExchange_12s at h
    refine lv_iload_n hx hb dX4_leastExchange_12 rfl (lv_at hl 3 rfl) ?_
    refine lv_aload_n hx hb dX4_leastExchange_13 rfl (lv_at hl 0 rfl) ?_
    refine gSf_0 Cc hP.c5 (tw_209 hts) dX4_leastExchange_14 ?_
    refine gCo_8 Cc hP.c0 (tw_117 hts) dX4_leastExchange_17 ?_
    refine lv_icmp_ge (tgt := 78) hx hb dX4_leastExchange_20 (by decide) (fun c20 => ?_) (fun c20 => ?_)
    · have h := h.1 c20
      refine lv_iload_n hx hb dX4_leastExchange_78 rfl (lv_at hl 2 rfl) ?_
      exact W.iret (v := x2) hx hb hr (fun t ht _ => QWi.mk (u := S) h hP hS ht) hS.2.2 dX4_leastExchange_79 (hlocks := hlk)
    · have h := h.2 c20
      refine lv_iload_n hx hb dX4_leastExchange_23 rfl (lv_at hl 3 rfl) ?_
      refine lv_iconst (v := 1) hx hb dX4_leastExchange_24 (by decide) ?_
      refine lv_iadd hx hb dX4_leastExchange_25 ?_
      refine lv_topi (fun v26 e26 => ?_)
      have h := h v26 e26
      refine lv_istore (lv' := [(4, .int v26), (0, .ref (A 5 0)), (1, .int x1), (2, .int x2), (3, .int x3)]) hx hb dX4_leastExchange_26 hl (by decide) rfl (fun ls hl => ?_)
      obtain ⟨n, h⟩ := h
      exact bX4_leastExchange_28 Cc hI hih12 n x1 x2 x3 v26 S _ _ hP hS _ (lv_sub hl [1, 2, 3, 4, 0] rfl) h
set_option maxHeartbeats 4000000 in
set_option maxRecDepth 100000 in
theorem mX4_leastExchange (l : Launch) (D : va_G) (κ : Nat → ClassId) (A : Nat → Nat → Nat) {S : Nat → Mx}  {Q : Int32 → (Nat → Mx) → Prop} (hI : IX A) (h : pX4_leastExchange S  Q) : Met l yX4_leastExchange (wz yX4_leastExchange cX4_leastExchange 6 (some .int)) rX4_leastExchange (va_Pc [.ref (A 5 0)] (PE D κ (fun H => PX D κ A S H))) (QWi Q (fun u H => PX D κ A u H) (aX A)) 0 0 (aX A) := by
  refine Met_of l (own := RX4) (by decide) rfl (Nat.le_of_ble_eq_true rfl) (fun p e s m below meth c Cc hPP ls hl => ?_)
  obtain ⟨hx, hb, hml, hown, hts, hr, hlk, hE⟩ := id Cc
  have hl : lv_has ls 6 [(0, .ref (A 5 0))] := hl
  have hP := hPP
  have hS : va_S (aX A) s.heap s.heap [] := va_S.rf
  unfold pX4_leastExchange at h
  refine lv_aload_n hx hb dX4_leastExchange_0 rfl (lv_at hl 0 rfl) ?_
  refine gSf_0 Cc hP.c5 (tw_209 hts) dX4_leastExchange_1 ?_
  refine kR (kV Cc (mX1_sumOfRow l D κ (A 0) h) (qX1_sumOfRow hts (tw_341 hts) ⟨(Nat.le_of_ble_eq_true rfl), (Nat.le_of_ble_eq_true rfl)⟩) (va_recv hE.1 hP.c0 (ci := 1) (q0 := 0) rfl rfl) (rest := []) hP.c0 rfl hl.1 rfl (Nat.le_of_ble_eq_true rfl) dX4_leastExchange_4 ⟨Nat.zero_le _, Nat.zero_le _⟩) (fun r4 h => ?_)
  refine lv_istore_n (lv' := [(1, .int r4), (0, .ref (A 5 0))]) hx hb dX4_leastExchange_7 rfl hl (by decide) rfl (fun ls hl => ?_)
  refine lv_iconst (v := (-1)) hx hb dX4_leastExchange_8 (by decide) ?_
  refine lv_istore_n (lv' := [(2, .int (-1)), (1, .int r4), (0, .ref (A 5 0))]) hx hb dX4_leastExchange_9 rfl hl (by decide) rfl (fun ls hl => ?_)
  refine lv_iconst (v := 0) hx hb dX4_leastExchange_10 (by decide) ?_
  refine lv_istore_n (lv' := [(3, .int 0), (2, .int (-1)), (1, .int r4), (0, .ref (A 5 0))]) hx hb dX4_leastExchange_11 rfl hl (by decide) rfl (fun ls hl => ?_)
  obtain ⟨n, h⟩ := h
  exact bX4_leastExchange_12 Cc hI n r4 (-1) 0 S _ _ hP hS _ (lv_sub hl [3, 2, 1, 0] rfl) h
theorem qX4_leastExchange {R : Room} {s : State} {args : Array Value} {own : String} {idx : Nat} (hts : ∀ w ∈ gG, w.before args s = true) (hl : (Cond.methodLink own idx yX4_leastExchange).before args s = true) (hR : rX4_leastExchange.frames + 1 ≤ R.frames ∧ 8 + (6 + 11) + rX4_leastExchange.locals ≤ R.locals) : CallW R s args own RX4 idx yX4_leastExchange cX4_leastExchange 6 (some .int) (wz yX4_leastExchange cX4_leastExchange 6 (some .int)) rX4_leastExchange 0 0 0 := ⟨kw 0 hts mw_426 rfl rfl (tw_70 hts) hl (by decide +kernel) hR, tw_425 hts, tw_6 hts⟩
abbrev rX4_now : Room := { frames := 6, cells := 0, slots := 0, locals := 138 }
def pX4_now_128 (Q : Int32 → (Nat → Mx) → Prop) (y0 : Int32) (S : Nat → Mx) : Prop := Q y0 S
def pX4_now (S : Nat → Mx) (x1 : Int32) (Q : Int32 → (Nat → Mx) → Prop) : Prop := (x1 = 0 → (Q ((S 0) 9 0) S)) ∧ (x1 = 1 → (pX1_sumOfRow (S 0) (fun r60 => (Q r60 S)))) ∧ (x1 = 2 → (pX1_closedPlaces (S 0) (fun r68 => (Q r68 S)))) ∧ (x1 = 3 → (pX1_grantedPieces (S 0) (fun r76 => (Q r76 S)))) ∧ (x1 = 4 → (pX1_greatestGap (S 0) (fun r84 => (Q r84 S)))) ∧ (x1 = 5 → (Q ((S 0) 7 0) S)) ∧ (x1 = 6 → (pX1_sumOfRow (S 0) (fun r100 => (pX0_leastSum (S 3) (S 0) (fun r111 u111 => (Q (r100 - r111) (va_up S 3 u111))))))) ∧ (x1 = 7 → (pX4_leastExchange S (fun r117 u117 => ((0 ≤ r117 → (pX4_now_128 Q 0 u117)) ∧ (¬ 0 ≤ r117 → (pX4_now_128 Q 1 u117)))))) ∧ (¬ x1 = 0 → ¬ x1 = 1 → ¬ x1 = 2 → ¬ x1 = 3 → ¬ x1 = 4 → ¬ x1 = 5 → ¬ x1 = 6 → ¬ x1 = 7 → (pX4_found S 0 (fun r131 u131 => (Q r131 u131))))
set_option maxHeartbeats 4000000 in
set_option maxRecDepth 100000 in
theorem bX4_now_128 {p : Program} {l : Launch} {e : Env} {s : State} {m : MethodId} {args : Array Value} {below : List Frame} {meth : Method} {c : Code} {D : va_G} {κ : Nat → ClassId} {A : Nat → Nat → Nat}   {Q : Int32 → (Nat → Mx) → Prop} (Cc : Cx D κ RX4 cX4_now 2 (some .int) p s m args meth c) (hI : IX A)   : ∀ (y0 : Int32) (S : Nat → Mx) (H : Heap) (locs : List Loc) (hP : PX D κ A S H) (hS : va_S (aX A) s.heap H locs) (ls : Array Slot) (hl : lv_has ls 2 []) (h : pX4_now_128 Q y0 S), W p l e rX4_now s m args below meth c H locs 0 0 (MQ below (QWi Q (fun u H => PX D κ A u H) (aX A)) args s 0 0 (aX A)) (F0 m 128 ls [.int y0]) := by
  obtain ⟨hx, hb, hml, hown, hts, hr, hlk, hE⟩ := id Cc
  intro y0 S H locs hP hS ls hl h
  unfold pX4_now_128 at h
  exact W.iret (v := y0) hx hb hr (fun t ht _ => QWi.mk (u := S) h hP hS ht) hS.2.2 dX4_now_128 (hlocks := hlk)
set_option maxHeartbeats 4000000 in
set_option maxRecDepth 100000 in
theorem mX4_now (l : Launch) (D : va_G) (κ : Nat → ClassId) (A : Nat → Nat → Nat) {S : Nat → Mx} {x1 : Int32} {Q : Int32 → (Nat → Mx) → Prop} (hI : IX A) (h : pX4_now S x1 Q) : Met l yX4_now (wz yX4_now cX4_now 2 (some .int)) rX4_now (va_Pc [.ref (A 5 0), .int x1] (PE D κ (fun H => PX D κ A S H))) (QWi Q (fun u H => PX D κ A u H) (aX A)) 0 0 (aX A) := by
  refine Met_of l (own := RX4) (by decide) rfl (Nat.le_of_ble_eq_true rfl) (fun p e s m below meth c Cc hPP ls hl => ?_)
  obtain ⟨hx, hb, hml, hown, hts, hr, hlk, hE⟩ := id Cc
  have hl : lv_has ls 2 [(0, .ref (A 5 0)), (1, .int x1)] := hl
  have hP := hPP
  have hS : va_S (aX A) s.heap s.heap [] := va_S.rf
  unfold pX4_now at h
  refine lv_iload_n hx hb dX4_now_0 rfl (lv_at hl 1 rfl) ?_
  by_cases c1_0 : x1 = 0
  · have h := h.1 c1_0
    refine lv_tableIn (tgt := 48) hx hb dX4_now_1 (by rw [c1_0]; decide) (by rw [c1_0]; decide) (by rw [c1_0]; rfl) (by decide) ?_
    refine lv_aload_n hx hb dX4_now_48 rfl (lv_at hl 0 rfl) ?_
    refine gSf_0 Cc hP.c5 (tw_209 hts) dX4_now_49 ?_
    refine gCo_9 Cc hP.c0 (tw_120 hts) dX4_now_52 ?_
    exact W.iret (v := ((S 0) 9 0)) hx hb hr (fun t ht _ => QWi.mk (u := S) h hP hS ht) hS.2.2 dX4_now_55 (hlocks := hlk)
  · have h := h.2
    by_cases c1_1 : x1 = 1
    · have h := h.1 c1_1
      refine lv_tableIn (tgt := 56) hx hb dX4_now_1 (by rw [c1_1]; decide) (by rw [c1_1]; decide) (by rw [c1_1]; rfl) (by decide) ?_
      refine lv_aload_n hx hb dX4_now_56 rfl (lv_at hl 0 rfl) ?_
      refine gSf_0 Cc hP.c5 (tw_209 hts) dX4_now_57 ?_
      refine kR (kV Cc (mX1_sumOfRow l D κ (A 0) h) (qX1_sumOfRow hts (tw_341 hts) ⟨(Nat.le_of_ble_eq_true rfl), (Nat.le_of_ble_eq_true rfl)⟩) (va_recv hE.1 hP.c0 (ci := 1) (q0 := 0) rfl rfl) (rest := []) hP.c0 rfl hl.1 rfl (Nat.le_of_ble_eq_true rfl) dX4_now_60 ⟨Nat.zero_le _, Nat.zero_le _⟩) (fun r60 h => ?_)
      exact W.iret (v := r60) hx hb hr (fun t ht _ => QWi.mk (u := S) h hP hS ht) hS.2.2 dX4_now_63 (hlocks := hlk)
    · have h := h.2
      by_cases c1_2 : x1 = 2
      · have h := h.1 c1_2
        refine lv_tableIn (tgt := 64) hx hb dX4_now_1 (by rw [c1_2]; decide) (by rw [c1_2]; decide) (by rw [c1_2]; rfl) (by decide) ?_
        refine lv_aload_n hx hb dX4_now_64 rfl (lv_at hl 0 rfl) ?_
        refine gSf_0 Cc hP.c5 (tw_209 hts) dX4_now_65 ?_
        refine kR (kV Cc (mX1_closedPlaces l D κ (A 0) h) (qX1_closedPlaces hts (tw_374 hts) ⟨(Nat.le_of_ble_eq_true rfl), (Nat.le_of_ble_eq_true rfl)⟩) (va_recv hE.1 hP.c0 (ci := 1) (q0 := 0) rfl rfl) (rest := []) hP.c0 rfl hl.1 rfl (Nat.le_of_ble_eq_true rfl) dX4_now_68 ⟨Nat.zero_le _, Nat.zero_le _⟩) (fun r68 h => ?_)
        exact W.iret (v := r68) hx hb hr (fun t ht _ => QWi.mk (u := S) h hP hS ht) hS.2.2 dX4_now_71 (hlocks := hlk)
      · have h := h.2
        by_cases c1_3 : x1 = 3
        · have h := h.1 c1_3
          refine lv_tableIn (tgt := 72) hx hb dX4_now_1 (by rw [c1_3]; decide) (by rw [c1_3]; decide) (by rw [c1_3]; rfl) (by decide) ?_
          refine lv_aload_n hx hb dX4_now_72 rfl (lv_at hl 0 rfl) ?_
          refine gSf_0 Cc hP.c5 (tw_209 hts) dX4_now_73 ?_
          refine kR (kV Cc (mX1_grantedPieces l D κ (A 0) h) (qX1_grantedPieces hts (tw_378 hts) ⟨(Nat.le_of_ble_eq_true rfl), (Nat.le_of_ble_eq_true rfl)⟩) (va_recv hE.1 hP.c0 (ci := 1) (q0 := 0) rfl rfl) (rest := []) hP.c0 rfl hl.1 rfl (Nat.le_of_ble_eq_true rfl) dX4_now_76 ⟨Nat.zero_le _, Nat.zero_le _⟩) (fun r76 h => ?_)
          exact W.iret (v := r76) hx hb hr (fun t ht _ => QWi.mk (u := S) h hP hS ht) hS.2.2 dX4_now_79 (hlocks := hlk)
        · have h := h.2
          by_cases c1_4 : x1 = 4
          · have h := h.1 c1_4
            refine lv_tableIn (tgt := 80) hx hb dX4_now_1 (by rw [c1_4]; decide) (by rw [c1_4]; decide) (by rw [c1_4]; rfl) (by decide) ?_
            refine lv_aload_n hx hb dX4_now_80 rfl (lv_at hl 0 rfl) ?_
            refine gSf_0 Cc hP.c5 (tw_209 hts) dX4_now_81 ?_
            refine kR (kV Cc (mX1_greatestGap l D κ (A 0) h) (qX1_greatestGap hts (tw_386 hts) ⟨(Nat.le_of_ble_eq_true rfl), (Nat.le_of_ble_eq_true rfl)⟩) (va_recv hE.1 hP.c0 (ci := 1) (q0 := 0) rfl rfl) (rest := []) hP.c0 rfl hl.1 rfl (Nat.le_of_ble_eq_true rfl) dX4_now_84 ⟨Nat.zero_le _, Nat.zero_le _⟩) (fun r84 h => ?_)
            exact W.iret (v := r84) hx hb hr (fun t ht _ => QWi.mk (u := S) h hP hS ht) hS.2.2 dX4_now_87 (hlocks := hlk)
          · have h := h.2
            by_cases c1_5 : x1 = 5
            · have h := h.1 c1_5
              refine lv_tableIn (tgt := 88) hx hb dX4_now_1 (by rw [c1_5]; decide) (by rw [c1_5]; decide) (by rw [c1_5]; rfl) (by decide) ?_
              refine lv_aload_n hx hb dX4_now_88 rfl (lv_at hl 0 rfl) ?_
              refine gSf_0 Cc hP.c5 (tw_209 hts) dX4_now_89 ?_
              refine gCo_7 Cc hP.c0 (tw_114 hts) dX4_now_92 ?_
              exact W.iret (v := ((S 0) 7 0)) hx hb hr (fun t ht _ => QWi.mk (u := S) h hP hS ht) hS.2.2 dX4_now_95 (hlocks := hlk)
            · have h := h.2
              by_cases c1_6 : x1 = 6
              · have h := h.1 c1_6
                refine lv_tableIn (tgt := 96) hx hb dX4_now_1 (by rw [c1_6]; decide) (by rw [c1_6]; decide) (by rw [c1_6]; rfl) (by decide) ?_
                refine lv_aload_n hx hb dX4_now_96 rfl (lv_at hl 0 rfl) ?_
                refine gSf_0 Cc hP.c5 (tw_209 hts) dX4_now_97 ?_
                refine kR (kV Cc (mX1_sumOfRow l D κ (A 0) h) (qX1_sumOfRow hts (tw_341 hts) ⟨(Nat.le_of_ble_eq_true rfl), (Nat.le_of_ble_eq_true rfl)⟩) (va_recv hE.1 hP.c0 (ci := 1) (q0 := 0) rfl rfl) (rest := []) hP.c0 rfl hl.1 rfl (Nat.le_of_ble_eq_true rfl) dX4_now_100 ⟨Nat.zero_le _, Nat.zero_le _⟩) (fun r100 h => ?_)
                refine lv_aload_n hx hb dX4_now_103 rfl (lv_at hl 0 rfl) ?_
                refine gSf_3 Cc hP.c5 (tw_212 hts) dX4_now_104 ?_
                refine lv_aload_n hx hb dX4_now_107 rfl (lv_at hl 0 rfl) ?_
                refine gSf_0 Cc hP.c5 (tw_209 hts) dX4_now_108 ?_
                refine kWi (kV Cc (mX0_leastSum l D κ (A 3) (A 0) (hI.ij (k := 3) (by decide)) (hI.dj (by decide) (by decide) (by decide)) h) (qX0_leastSum hts (tw_393 hts) ⟨(Nat.le_of_ble_eq_true rfl), (Nat.le_of_ble_eq_true rfl)⟩) (va_recv hE.1 hP.c3 (ci := 0) (q0 := 0) rfl rfl) (rest := [.int r100]) ⟨hP.c3, hP.c0⟩ rfl hl.1 rfl (Nat.le_of_ble_eq_true rfl) dX4_now_111 ⟨Nat.zero_le _, Nat.zero_le _⟩) hS (fun q h9 => aX_of (k := 3) (by decide) h9) (fun r111 u111 H1 locs1 h hB hk hS1 => ?_)
                have hP := PX.put (k := 3) (by decide) hI hP hB hk
                have hS := hS1
                refine lv_isub hx hb dX4_now_114 ?_
                exact W.iret (v := (r100 - r111)) hx hb hr (fun t ht _ => QWi.mk (u := (va_up S 3 u111)) h hP hS ht) hS.2.2 dX4_now_115 (hlocks := hlk)
              · have h := h.2
                by_cases c1_7 : x1 = 7
                · have h := h.1 c1_7
                  refine lv_tableIn (tgt := 116) hx hb dX4_now_1 (by rw [c1_7]; decide) (by rw [c1_7]; decide) (by rw [c1_7]; rfl) (by decide) ?_
                  refine lv_aload_n hx hb dX4_now_116 rfl (lv_at hl 0 rfl) ?_
                  refine kWi (kV Cc (mX4_leastExchange l D κ A hI h) (qX4_leastExchange hts (tw_423 hts) ⟨(Nat.le_of_ble_eq_true rfl), (Nat.le_of_ble_eq_true rfl)⟩) (va_recv hE.1 hP.c5 (ci := 4) (q0 := 0) rfl rfl) (rest := []) hP rfl hl.1 rfl (Nat.le_of_ble_eq_true rfl) dX4_now_117 ⟨Nat.zero_le _, Nat.zero_le _⟩) hS (fun q h9 => h9) (fun r117 u117 H1 locs1 h hB hk hS1 => ?_)
                  have hP := hB
                  have hS := hS1
                  refine lv_if_ge (tgt := 127) hx hb dX4_now_120 (by decide) (fun c120 => ?_) (fun c120 => ?_)
                  · have h := h.1 c120
                    refine lv_iconst (v := 0) hx hb dX4_now_127 (by decide) ?_
                    exact bX4_now_128 Cc hI 0 u117 _ _ hP hS _ (lv_sub hl [] rfl) h
                  · have h := h.2 c120
                    refine lv_iconst (v := 1) hx hb dX4_now_123 (by decide) ?_
                    refine lv_goto (tgt := 128) hx hb dX4_now_124 (by decide) ?_
                    exact bX4_now_128 Cc hI 1 u117 _ _ hP hS _ (lv_sub hl [] rfl) h
                · have h := h.2
                  have h := h c1_0 c1_1 c1_2 c1_3 c1_4 c1_5 c1_6 c1_7
                  refine lv_tableOut (tgt := 129) hx hb dX4_now_1 (by have h0 := ne_toInt c1_0 (z := 0) (by decide); have h1 := ne_toInt c1_1 (z := 1) (by decide); have h2 := ne_toInt c1_2 (z := 2) (by decide); have h3 := ne_toInt c1_3 (z := 3) (by decide); have h4 := ne_toInt c1_4 (z := 4) (by decide); have h5 := ne_toInt c1_5 (z := 5) (by decide); have h6 := ne_toInt c1_6 (z := 6) (by decide); have h7 := ne_toInt c1_7 (z := 7) (by decide); omega) (by decide) ?_
                  refine lv_aload_n hx hb dX4_now_129 rfl (lv_at hl 0 rfl) ?_
                  refine lv_iconst (v := 0) hx hb dX4_now_130 (by decide) ?_
                  refine kWi (kV Cc (mX4_found l D κ A hI h) (qX4_found hts (tw_244 hts) ⟨(Nat.le_of_ble_eq_true rfl), (Nat.le_of_ble_eq_true rfl)⟩) (va_recv hE.1 hP.c5 (ci := 4) (q0 := 0) rfl rfl) (rest := []) hP rfl hl.1 rfl (Nat.le_of_ble_eq_true rfl) dX4_now_131 ⟨Nat.zero_le _, Nat.zero_le _⟩) hS (fun q h9 => h9) (fun r131 u131 H1 locs1 h hB hk hS1 => ?_)
                  have hP := hB
                  have hS := hS1
                  exact W.iret (v := r131) hx hb hr (fun t ht _ => QWi.mk (u := u131) h hP hS ht) hS.2.2 dX4_now_134 (hlocks := hlk)
theorem qX4_now {R : Room} {s : State} {args : Array Value} {own : String} {idx : Nat} (hts : ∀ w ∈ gG, w.before args s = true) (hl : (Cond.methodLink own idx yX4_now).before args s = true) (hR : rX4_now.frames + 1 ≤ R.frames ∧ 8 + (2 + 11) + rX4_now.locals ≤ R.locals) : CallW R s args own RX4 idx yX4_now cX4_now 2 (some .int) (wz yX4_now cX4_now 2 (some .int)) rX4_now 0 0 1 := ⟨kw 1 hts mw_373 rfl rfl (tw_70 hts) hl (by decide +kernel) hR, tw_371 hts, tw_372 hts⟩
abbrev rX4_ahead : Room := { frames := 4, cells := 0, slots := 0, locals := 88 }
def pX4_ahead_43 (Q : Int32 → (Nat → Mx) → Prop) (S : Nat → Mx) : Prop := pX4_found S 0 (fun r45 u45 => (Q r45 u45))
def pX4_ahead_15 (Q : Int32 → (Nat → Mx) → Prop) (x1 : Int32) (x2 : Int32) (x3 : Int32) (y0 : Int32) (S : Nat → Mx) : Prop := pX1_has (S 0) x1 (fun r22 => ((r22 = 0 → (pX4_ahead_43 Q S)) ∧ (¬ r22 = 0 → ((y0 = 0 → (pX4_ahead_43 Q S)) ∧ (¬ y0 = 0 → ((x3 < 0 → (pX4_ahead_43 Q S)) ∧ (¬ x3 < 0 → ((x3 ≤ 100 → (pX1_takeFrom (S 2) (S 0) (fun u57 => (pX1_passYears ((va_up S 2 u57) 2) x3 (fun u65 => (pX1_told ((va_up (va_up S 2 u57) 2 u65) 2) x1 x2 (fun r74 => (Q r74 (va_up (va_up S 2 u57) 2 u65))))))))) ∧ (¬ x3 ≤ 100 → (pX4_ahead_43 Q S))))))))))
def pX4_ahead_10 (Q : Int32 → (Nat → Mx) → Prop) (x1 : Int32) (x2 : Int32) (x3 : Int32) (S : Nat → Mx) : Prop := pX4_ahead_15 Q x1 x2 x3 1 S
def pX4_ahead (S : Nat → Mx) (x1 : Int32) (x2 : Int32) (x3 : Int32) (Q : Int32 → (Nat → Mx) → Prop) : Prop := (x2 = 1 → (pX4_ahead_10 Q x1 x2 x3 S)) ∧ (¬ x2 = 1 → ((¬ x2 = 5 → (pX4_ahead_15 Q x1 x2 x3 0 S)) ∧ (x2 = 5 → (pX4_ahead_10 Q x1 x2 x3 S))))
set_option maxHeartbeats 4000000 in
set_option maxRecDepth 100000 in
theorem bX4_ahead_43 {p : Program} {l : Launch} {e : Env} {s : State} {m : MethodId} {args : Array Value} {below : List Frame} {meth : Method} {c : Code} {D : va_G} {κ : Nat → ClassId} {A : Nat → Nat → Nat}   {Q : Int32 → (Nat → Mx) → Prop} (Cc : Cx D κ RX4 cX4_ahead 5 (some .int) p s m args meth c) (hI : IX A)   : ∀ (S : Nat → Mx) (H : Heap) (locs : List Loc) (hP : PX D κ A S H) (hS : va_S (aX A) s.heap H locs) (ls : Array Slot) (hl : lv_has ls 5 [(0, .ref (A 5 0))]) (h : pX4_ahead_43 Q S), W p l e rX4_ahead s m args below meth c H locs 0 0 (MQ below (QWi Q (fun u H => PX D κ A u H) (aX A)) args s 0 0 (aX A)) (F0 m 43 ls []) := by
  obtain ⟨hx, hb, hml, hown, hts, hr, hlk, hE⟩ := id Cc
  intro S H locs hP hS ls hl h
  unfold pX4_ahead_43 at h
  refine lv_aload_n hx hb dX4_ahead_43 rfl (lv_at hl 0 rfl) ?_
  refine lv_iconst (v := 0) hx hb dX4_ahead_44 (by decide) ?_
  refine kWi (kV Cc (mX4_found l D κ A hI h) (qX4_found hts (tw_244 hts) ⟨(Nat.le_of_ble_eq_true rfl), (Nat.le_of_ble_eq_true rfl)⟩) (va_recv hE.1 hP.c5 (ci := 4) (q0 := 0) rfl rfl) (rest := []) hP rfl hl.1 rfl (Nat.le_of_ble_eq_true rfl) dX4_ahead_45 ⟨Nat.zero_le _, Nat.zero_le _⟩) hS (fun q h9 => h9) (fun r45 u45 H1 locs1 h hB hk hS1 => ?_)
  have hP := hB
  have hS := hS1
  exact W.iret (v := r45) hx hb hr (fun t ht _ => QWi.mk (u := u45) h hP hS ht) hS.2.2 dX4_ahead_48 (hlocks := hlk)
set_option maxHeartbeats 4000000 in
set_option maxRecDepth 100000 in
theorem bX4_ahead_15 {p : Program} {l : Launch} {e : Env} {s : State} {m : MethodId} {args : Array Value} {below : List Frame} {meth : Method} {c : Code} {D : va_G} {κ : Nat → ClassId} {A : Nat → Nat → Nat}   {Q : Int32 → (Nat → Mx) → Prop} (Cc : Cx D κ RX4 cX4_ahead 5 (some .int) p s m args meth c) (hI : IX A)   : ∀ (x1 : Int32) (x2 : Int32) (x3 : Int32) (y0 : Int32) (S : Nat → Mx) (H : Heap) (locs : List Loc) (hP : PX D κ A S H) (hS : va_S (aX A) s.heap H locs) (ls : Array Slot) (hl : lv_has ls 5 [(0, .ref (A 5 0)), (1, .int x1), (2, .int x2), (3, .int x3)]) (h : pX4_ahead_15 Q x1 x2 x3 y0 S), W p l e rX4_ahead s m args below meth c H locs 0 0 (MQ below (QWi Q (fun u H => PX D κ A u H) (aX A)) args s 0 0 (aX A)) (F0 m 15 ls [.int y0]) := by
  obtain ⟨hx, hb, hml, hown, hts, hr, hlk, hE⟩ := id Cc
  intro x1 x2 x3 y0 S H locs hP hS ls hl h
  unfold pX4_ahead_15 at h
  refine lv_istore (lv' := [(4, .int y0), (0, .ref (A 5 0)), (1, .int x1), (2, .int x2), (3, .int x3)]) hx hb dX4_ahead_15 hl (by decide) rfl (fun ls hl => ?_)
  refine lv_aload_n hx hb dX4_ahead_17 rfl (lv_at hl 1 rfl) ?_
  refine gSf_0 Cc hP.c5 (tw_209 hts) dX4_ahead_18 ?_
  refine lv_iload_n hx hb dX4_ahead_21 rfl (lv_at hl 2 rfl) ?_
  refine kR (kV Cc (mX1_has l D κ (A 0) h) (qX1_has hts (tw_271 hts) ⟨(Nat.le_of_ble_eq_true rfl), (Nat.le_of_ble_eq_true rfl)⟩) (va_recv hE.1 hP.c0 (ci := 1) (q0 := 0) rfl rfl) (rest := []) hP.c0 rfl hl.1 rfl (Nat.le_of_ble_eq_true rfl) dX4_ahead_22 ⟨Nat.zero_le _, Nat.zero_le _⟩) (fun r22 h => ?_)
  refine lv_if_eq (tgt := 43) hx hb dX4_ahead_25 (by decide) (fun c25 => ?_) (fun c25 => ?_)
  · have h := h.1 c25
    exact bX4_ahead_43 Cc hI S _ _ hP hS _ (lv_sub hl [1] rfl) h
  · have h := h.2 c25
    refine lv_iload hx hb dX4_ahead_28 (lv_at hl 0 rfl) ?_
    refine lv_if_eq (tgt := 43) hx hb dX4_ahead_30 (by decide) (fun c30 => ?_) (fun c30 => ?_)
    · have h := h.1 c30
      exact bX4_ahead_43 Cc hI S _ _ hP hS _ (lv_sub hl [1] rfl) h
    · have h := h.2 c30
      refine lv_iload_n hx hb dX4_ahead_33 rfl (lv_at hl 4 rfl) ?_
      refine lv_if_lt (tgt := 43) hx hb dX4_ahead_34 (by decide) (fun c34 => ?_) (fun c34 => ?_)
      · have h := h.1 c34
        exact bX4_ahead_43 Cc hI S _ _ hP hS _ (lv_sub hl [1] rfl) h
      · have h := h.2 c34
        refine lv_iload_n hx hb dX4_ahead_37 rfl (lv_at hl 4 rfl) ?_
        refine lv_bipush (v := 100) hx hb dX4_ahead_38 (by decide) ?_
        refine lv_icmp_le (tgt := 49) hx hb dX4_ahead_40 (by decide) (fun c40 => ?_) (fun c40 => ?_)
        · have h := h.1 c40
          refine lv_aload_n hx hb dX4_ahead_49 rfl (lv_at hl 1 rfl) ?_
          refine gSf_2 Cc hP.c5 (tw_211 hts) dX4_ahead_50 ?_
          refine lv_aload_n hx hb dX4_ahead_53 rfl (lv_at hl 1 rfl) ?_
          refine gSf_0 Cc hP.c5 (tw_209 hts) dX4_ahead_54 ?_
          refine kWv (kV Cc (mX1_takeFrom l D κ (A 2) (A 0) (hI.ij (k := 2) (by decide)) (hI.dj (by decide) (by decide) (by decide)) h) (qX1_takeFrom hts (tw_435 hts) ⟨(Nat.le_of_ble_eq_true rfl), (Nat.le_of_ble_eq_true rfl)⟩) (va_recv hE.1 hP.c2 (ci := 1) (q0 := 0) rfl rfl) (rest := []) ⟨hP.c2, hP.c0⟩ rfl hl.1 rfl (Nat.le_of_ble_eq_true rfl) dX4_ahead_57 ⟨Nat.zero_le _, Nat.zero_le _⟩) hS (fun q h9 => aX_of (k := 2) (by decide) h9) (fun  u57 H1 locs1 h hB hk hS1 => ?_)
          have hP := PX.put (k := 2) (by decide) hI hP hB hk
          have hS := hS1
          refine lv_aload_n hx hb dX4_ahead_60 rfl (lv_at hl 1 rfl) ?_
          refine gSf_2 Cc hP.c5 (tw_211 hts) dX4_ahead_61 ?_
          refine lv_iload_n hx hb dX4_ahead_64 rfl (lv_at hl 4 rfl) ?_
          refine kWv (kV Cc (mX1_passYears l D κ (A 2) (hI.ij (k := 2) (by decide)) h) (qX1_passYears hts (tw_356 hts) ⟨(Nat.le_of_ble_eq_true rfl), (Nat.le_of_ble_eq_true rfl)⟩) (va_recv hE.1 hP.c2 (ci := 1) (q0 := 0) rfl rfl) (rest := []) hP.c2 rfl hl.1 rfl (Nat.le_of_ble_eq_true rfl) dX4_ahead_65 ⟨Nat.zero_le _, Nat.zero_le _⟩) hS (fun q h9 => aX_of (k := 2) (by decide) h9) (fun  u65 H1 locs1 h hB hk hS1 => ?_)
          have hP := PX.put (k := 2) (by decide) hI hP hB hk
          have hS := hS1
          refine lv_aload_n hx hb dX4_ahead_68 rfl (lv_at hl 1 rfl) ?_
          refine gSf_2 Cc hP.c5 (tw_211 hts) dX4_ahead_69 ?_
          refine lv_iload_n hx hb dX4_ahead_72 rfl (lv_at hl 2 rfl) ?_
          refine lv_iload_n hx hb dX4_ahead_73 rfl (lv_at hl 3 rfl) ?_
          refine kR (kV Cc (mX1_told l D κ (A 2) h) (qX1_told hts (tw_275 hts) ⟨(Nat.le_of_ble_eq_true rfl), (Nat.le_of_ble_eq_true rfl)⟩) (va_recv hE.1 hP.c2 (ci := 1) (q0 := 0) rfl rfl) (rest := []) hP.c2 rfl hl.1 rfl (Nat.le_of_ble_eq_true rfl) dX4_ahead_74 ⟨Nat.zero_le _, Nat.zero_le _⟩) (fun r74 h => ?_)
          exact W.iret (v := r74) hx hb hr (fun t ht _ => QWi.mk (u := (va_up (va_up S 2 u57) 2 u65)) h hP hS ht) hS.2.2 dX4_ahead_77 (hlocks := hlk)
        · have h := h.2 c40
          exact bX4_ahead_43 Cc hI S _ _ hP hS _ (lv_sub hl [1] rfl) h
set_option maxHeartbeats 4000000 in
set_option maxRecDepth 100000 in
theorem bX4_ahead_10 {p : Program} {l : Launch} {e : Env} {s : State} {m : MethodId} {args : Array Value} {below : List Frame} {meth : Method} {c : Code} {D : va_G} {κ : Nat → ClassId} {A : Nat → Nat → Nat}   {Q : Int32 → (Nat → Mx) → Prop} (Cc : Cx D κ RX4 cX4_ahead 5 (some .int) p s m args meth c) (hI : IX A)   : ∀ (x1 : Int32) (x2 : Int32) (x3 : Int32) (S : Nat → Mx) (H : Heap) (locs : List Loc) (hP : PX D κ A S H) (hS : va_S (aX A) s.heap H locs) (ls : Array Slot) (hl : lv_has ls 5 [(0, .ref (A 5 0)), (1, .int x1), (2, .int x2), (3, .int x3)]) (h : pX4_ahead_10 Q x1 x2 x3 S), W p l e rX4_ahead s m args below meth c H locs 0 0 (MQ below (QWi Q (fun u H => PX D κ A u H) (aX A)) args s 0 0 (aX A)) (F0 m 10 ls []) := by
  obtain ⟨hx, hb, hml, hown, hts, hr, hlk, hE⟩ := id Cc
  intro x1 x2 x3 S H locs hP hS ls hl h
  unfold pX4_ahead_10 at h
  refine lv_iconst (v := 1) hx hb dX4_ahead_10 (by decide) ?_
  refine lv_goto (tgt := 15) hx hb dX4_ahead_11 (by decide) ?_
  exact bX4_ahead_15 Cc hI x1 x2 x3 1 S _ _ hP hS _ (lv_sub hl [0, 1, 2, 3] rfl) h
set_option maxHeartbeats 4000000 in
set_option maxRecDepth 100000 in
theorem mX4_ahead (l : Launch) (D : va_G) (κ : Nat → ClassId) (A : Nat → Nat → Nat) {S : Nat → Mx} {x1 : Int32} {x2 : Int32} {x3 : Int32} {Q : Int32 → (Nat → Mx) → Prop} (hI : IX A) (h : pX4_ahead S x1 x2 x3 Q) : Met l yX4_ahead (wz yX4_ahead cX4_ahead 5 (some .int)) rX4_ahead (va_Pc [.ref (A 5 0), .int x1, .int x2, .int x3] (PE D κ (fun H => PX D κ A S H))) (QWi Q (fun u H => PX D κ A u H) (aX A)) 0 0 (aX A) := by
  refine Met_of l (own := RX4) (by decide) rfl (Nat.le_of_ble_eq_true rfl) (fun p e s m below meth c Cc hPP ls hl => ?_)
  obtain ⟨hx, hb, hml, hown, hts, hr, hlk, hE⟩ := id Cc
  have hl : lv_has ls 5 [(0, .ref (A 5 0)), (1, .int x1), (2, .int x2), (3, .int x3)] := hl
  have hP := hPP
  have hS : va_S (aX A) s.heap s.heap [] := va_S.rf
  unfold pX4_ahead at h
  refine lv_iload_n hx hb dX4_ahead_0 rfl (lv_at hl 2 rfl) ?_
  refine lv_iconst (v := 1) hx hb dX4_ahead_1 (by decide) ?_
  refine lv_icmp_eq (tgt := 10) hx hb dX4_ahead_2 (by decide) (fun c2 => ?_) (fun c2 => ?_)
  · have h := h.1 c2
    exact bX4_ahead_10 Cc hI x1 x2 x3 S _ _ hP hS _ (lv_sub hl [0, 1, 2, 3] rfl) h
  · have h := h.2 c2
    refine lv_iload_n hx hb dX4_ahead_5 rfl (lv_at hl 2 rfl) ?_
    refine lv_iconst (v := 5) hx hb dX4_ahead_6 (by decide) ?_
    refine lv_icmp_ne (tgt := 14) hx hb dX4_ahead_7 (by decide) (fun c7 => ?_) (fun c7 => ?_)
    · have h := h.1 c7
      refine lv_iconst (v := 0) hx hb dX4_ahead_14 (by decide) ?_
      exact bX4_ahead_15 Cc hI x1 x2 x3 0 S _ _ hP hS _ (lv_sub hl [0, 1, 2, 3] rfl) h
    · have h := h.2 c7
      exact bX4_ahead_10 Cc hI x1 x2 x3 S _ _ hP hS _ (lv_sub hl [0, 1, 2, 3] rfl) h
theorem qX4_ahead {R : Room} {s : State} {args : Array Value} {own : String} {idx : Nat} (hts : ∀ w ∈ gG, w.before args s = true) (hl : (Cond.methodLink own idx yX4_ahead).before args s = true) (hR : rX4_ahead.frames + 1 ≤ R.frames ∧ 8 + (5 + 11) + rX4_ahead.locals ≤ R.locals) : CallW R s args own RX4 idx yX4_ahead cX4_ahead 5 (some .int) (wz yX4_ahead cX4_ahead 5 (some .int)) rX4_ahead 0 0 3 := ⟨kw 3 hts mw_434 rfl rfl (tw_70 hts) hl (by decide +kernel) hR, tw_432 hts, tw_433 hts⟩
abbrev rX4_sum : Room := { frames := 4, cells := 0, slots := 0, locals := 90 }
def pX4_sum_10 (Q : Int32 → (Nat → Mx) → Prop) (S : Nat → Mx) : Prop := pX4_found S 0 (fun r12 u12 => (Q r12 u12))
def pX4_sum (S : Nat → Mx) (x1 : Int32) (Q : Int32 → (Nat → Mx) → Prop) : Prop := (x1 < 0 → (pX4_sum_10 Q S)) ∧ (¬ x1 < 0 → ((x1 ≤ 100 → (pX1_takeFrom (S 2) (S 0) (fun u24 => (pX1_passYears ((va_up S 2 u24) 2) x1 (fun u32 => (pX1_sumOfRow ((va_up (va_up S 2 u24) 2 u32) 2) (fun r39 => (Q r39 (va_up (va_up S 2 u24) 2 u32))))))))) ∧ (¬ x1 ≤ 100 → (pX4_sum_10 Q S))))
set_option maxHeartbeats 4000000 in
set_option maxRecDepth 100000 in
theorem bX4_sum_10 {p : Program} {l : Launch} {e : Env} {s : State} {m : MethodId} {args : Array Value} {below : List Frame} {meth : Method} {c : Code} {D : va_G} {κ : Nat → ClassId} {A : Nat → Nat → Nat}   {Q : Int32 → (Nat → Mx) → Prop} (Cc : Cx D κ RX4 cX4_sum 2 (some .int) p s m args meth c) (hI : IX A)   : ∀ (S : Nat → Mx) (H : Heap) (locs : List Loc) (hP : PX D κ A S H) (hS : va_S (aX A) s.heap H locs) (ls : Array Slot) (hl : lv_has ls 2 [(0, .ref (A 5 0))]) (h : pX4_sum_10 Q S), W p l e rX4_sum s m args below meth c H locs 0 0 (MQ below (QWi Q (fun u H => PX D κ A u H) (aX A)) args s 0 0 (aX A)) (F0 m 10 ls []) := by
  obtain ⟨hx, hb, hml, hown, hts, hr, hlk, hE⟩ := id Cc
  intro S H locs hP hS ls hl h
  unfold pX4_sum_10 at h
  refine lv_aload_n hx hb dX4_sum_10 rfl (lv_at hl 0 rfl) ?_
  refine lv_iconst (v := 0) hx hb dX4_sum_11 (by decide) ?_
  refine kWi (kV Cc (mX4_found l D κ A hI h) (qX4_found hts (tw_244 hts) ⟨(Nat.le_of_ble_eq_true rfl), (Nat.le_of_ble_eq_true rfl)⟩) (va_recv hE.1 hP.c5 (ci := 4) (q0 := 0) rfl rfl) (rest := []) hP rfl hl.1 rfl (Nat.le_of_ble_eq_true rfl) dX4_sum_12 ⟨Nat.zero_le _, Nat.zero_le _⟩) hS (fun q h9 => h9) (fun r12 u12 H1 locs1 h hB hk hS1 => ?_)
  have hP := hB
  have hS := hS1
  exact W.iret (v := r12) hx hb hr (fun t ht _ => QWi.mk (u := u12) h hP hS ht) hS.2.2 dX4_sum_15 (hlocks := hlk)
set_option maxHeartbeats 4000000 in
set_option maxRecDepth 100000 in
theorem mX4_sum (l : Launch) (D : va_G) (κ : Nat → ClassId) (A : Nat → Nat → Nat) {S : Nat → Mx} {x1 : Int32} {Q : Int32 → (Nat → Mx) → Prop} (hI : IX A) (h : pX4_sum S x1 Q) : Met l yX4_sum (wz yX4_sum cX4_sum 2 (some .int)) rX4_sum (va_Pc [.ref (A 5 0), .int x1] (PE D κ (fun H => PX D κ A S H))) (QWi Q (fun u H => PX D κ A u H) (aX A)) 0 0 (aX A) := by
  refine Met_of l (own := RX4) (by decide) rfl (Nat.le_of_ble_eq_true rfl) (fun p e s m below meth c Cc hPP ls hl => ?_)
  obtain ⟨hx, hb, hml, hown, hts, hr, hlk, hE⟩ := id Cc
  have hl : lv_has ls 2 [(0, .ref (A 5 0)), (1, .int x1)] := hl
  have hP := hPP
  have hS : va_S (aX A) s.heap s.heap [] := va_S.rf
  unfold pX4_sum at h
  refine lv_iload_n hx hb dX4_sum_0 rfl (lv_at hl 1 rfl) ?_
  refine lv_if_lt (tgt := 10) hx hb dX4_sum_1 (by decide) (fun c1 => ?_) (fun c1 => ?_)
  · have h := h.1 c1
    exact bX4_sum_10 Cc hI S _ _ hP hS _ (lv_sub hl [0] rfl) h
  · have h := h.2 c1
    refine lv_iload_n hx hb dX4_sum_4 rfl (lv_at hl 1 rfl) ?_
    refine lv_bipush (v := 100) hx hb dX4_sum_5 (by decide) ?_
    refine lv_icmp_le (tgt := 16) hx hb dX4_sum_7 (by decide) (fun c7 => ?_) (fun c7 => ?_)
    · have h := h.1 c7
      refine lv_aload_n hx hb dX4_sum_16 rfl (lv_at hl 0 rfl) ?_
      refine gSf_2 Cc hP.c5 (tw_211 hts) dX4_sum_17 ?_
      refine lv_aload_n hx hb dX4_sum_20 rfl (lv_at hl 0 rfl) ?_
      refine gSf_0 Cc hP.c5 (tw_209 hts) dX4_sum_21 ?_
      refine kWv (kV Cc (mX1_takeFrom l D κ (A 2) (A 0) (hI.ij (k := 2) (by decide)) (hI.dj (by decide) (by decide) (by decide)) h) (qX1_takeFrom hts (tw_435 hts) ⟨(Nat.le_of_ble_eq_true rfl), (Nat.le_of_ble_eq_true rfl)⟩) (va_recv hE.1 hP.c2 (ci := 1) (q0 := 0) rfl rfl) (rest := []) ⟨hP.c2, hP.c0⟩ rfl hl.1 rfl (Nat.le_of_ble_eq_true rfl) dX4_sum_24 ⟨Nat.zero_le _, Nat.zero_le _⟩) hS (fun q h9 => aX_of (k := 2) (by decide) h9) (fun  u24 H1 locs1 h hB hk hS1 => ?_)
      have hP := PX.put (k := 2) (by decide) hI hP hB hk
      have hS := hS1
      refine lv_aload_n hx hb dX4_sum_27 rfl (lv_at hl 0 rfl) ?_
      refine gSf_2 Cc hP.c5 (tw_211 hts) dX4_sum_28 ?_
      refine lv_iload_n hx hb dX4_sum_31 rfl (lv_at hl 1 rfl) ?_
      refine kWv (kV Cc (mX1_passYears l D κ (A 2) (hI.ij (k := 2) (by decide)) h) (qX1_passYears hts (tw_356 hts) ⟨(Nat.le_of_ble_eq_true rfl), (Nat.le_of_ble_eq_true rfl)⟩) (va_recv hE.1 hP.c2 (ci := 1) (q0 := 0) rfl rfl) (rest := []) hP.c2 rfl hl.1 rfl (Nat.le_of_ble_eq_true rfl) dX4_sum_32 ⟨Nat.zero_le _, Nat.zero_le _⟩) hS (fun q h9 => aX_of (k := 2) (by decide) h9) (fun  u32 H1 locs1 h hB hk hS1 => ?_)
      have hP := PX.put (k := 2) (by decide) hI hP hB hk
      have hS := hS1
      refine lv_aload_n hx hb dX4_sum_35 rfl (lv_at hl 0 rfl) ?_
      refine gSf_2 Cc hP.c5 (tw_211 hts) dX4_sum_36 ?_
      refine kR (kV Cc (mX1_sumOfRow l D κ (A 2) h) (qX1_sumOfRow hts (tw_341 hts) ⟨(Nat.le_of_ble_eq_true rfl), (Nat.le_of_ble_eq_true rfl)⟩) (va_recv hE.1 hP.c2 (ci := 1) (q0 := 0) rfl rfl) (rest := []) hP.c2 rfl hl.1 rfl (Nat.le_of_ble_eq_true rfl) dX4_sum_39 ⟨Nat.zero_le _, Nat.zero_le _⟩) (fun r39 h => ?_)
      exact W.iret (v := r39) hx hb hr (fun t ht _ => QWi.mk (u := (va_up (va_up S 2 u24) 2 u32)) h hP hS ht) hS.2.2 dX4_sum_42 (hlocks := hlk)
    · have h := h.2 c7
      exact bX4_sum_10 Cc hI S _ _ hP hS _ (lv_sub hl [0] rfl) h
theorem qX4_sum {R : Room} {s : State} {args : Array Value} {own : String} {idx : Nat} (hts : ∀ w ∈ gG, w.before args s = true) (hl : (Cond.methodLink own idx yX4_sum).before args s = true) (hR : rX4_sum.frames + 1 ≤ R.frames ∧ 8 + (2 + 11) + rX4_sum.locals ≤ R.locals) : CallW R s args own RX4 idx yX4_sum cX4_sum 2 (some .int) (wz yX4_sum cX4_sum 2 (some .int)) rX4_sum 0 0 1 := ⟨kw 1 hts mw_445 rfl rfl (tw_70 hts) hl (by decide +kernel) hR, tw_443 hts, tw_444 hts⟩
abbrev rX4_isToldSum : Room := { frames := 0, cells := 0, slots := 0, locals := 0 }
def pX4_isToldSum_16 (Q : Int32 → Prop) (y0 : Int32) : Prop := (y0 = 0 ∨ y0 = 1) ∧ (Q y0)
def pX4_isToldSum_15 (Q : Int32 → Prop)  : Prop := pX4_isToldSum_16 Q 0
def pX4_isToldSum  (x1 : Int32) (Q : Int32 → Prop) : Prop := (x1 < 0 → (pX4_isToldSum_15 Q )) ∧ (¬ x1 < 0 → ((999 < x1 → (pX4_isToldSum_15 Q )) ∧ (¬ 999 < x1 → (pX4_isToldSum_16 Q 1))))
set_option maxHeartbeats 4000000 in
set_option maxRecDepth 100000 in
theorem bX4_isToldSum_16 {p : Program} {l : Launch} {e : Env} {s : State} {m : MethodId} {args : Array Value} {below : List Frame} {meth : Method} {c : Code} {D : va_G} {κ : Nat → ClassId}    {Q : Int32 → Prop} (Cc : Cx D κ RX4 cX4_isToldSum 1 (some .boolean) p s m args meth c)    : ∀ (y0 : Int32) (ls : Array Slot) (hl : lv_has ls 1 []) (h : pX4_isToldSum_16 Q y0), W p l e rX4_isToldSum s m args below meth c s.heap [] 0 0 (MQ below (RQ Q) args s 0 0 (fun _ => False)) (F0 m 16 ls [.int y0]) := by
  obtain ⟨hx, hb, hml, hown, hts, hr, hlk, hE⟩ := id Cc
  intro y0 ls hl h
  unfold pX4_isToldSum_16 at h
  exact W.zret (v := y0) (ty := .boolean) hx hb hr (bool_nar h.1) (fun t ht _ => RQ.mk h.2 ht) (fun _ h9 => by cases h9) dX4_isToldSum_16 (hlocks := hlk)
set_option maxHeartbeats 4000000 in
set_option maxRecDepth 100000 in
theorem bX4_isToldSum_15 {p : Program} {l : Launch} {e : Env} {s : State} {m : MethodId} {args : Array Value} {below : List Frame} {meth : Method} {c : Code} {D : va_G} {κ : Nat → ClassId}    {Q : Int32 → Prop} (Cc : Cx D κ RX4 cX4_isToldSum 1 (some .boolean) p s m args meth c)    : ∀ (ls : Array Slot) (hl : lv_has ls 1 []) (h : pX4_isToldSum_15 Q ), W p l e rX4_isToldSum s m args below meth c s.heap [] 0 0 (MQ below (RQ Q) args s 0 0 (fun _ => False)) (F0 m 15 ls []) := by
  obtain ⟨hx, hb, hml, hown, hts, hr, hlk, hE⟩ := id Cc
  intro ls hl h
  unfold pX4_isToldSum_15 at h
  refine lv_iconst (v := 0) hx hb dX4_isToldSum_15 (by decide) ?_
  exact bX4_isToldSum_16 Cc 0  _ (lv_sub hl [] rfl) h
set_option maxHeartbeats 4000000 in
set_option maxRecDepth 100000 in
theorem mX4_isToldSum (l : Launch) (D : va_G) (κ : Nat → ClassId)   {x1 : Int32} {Q : Int32 → Prop}  (h : pX4_isToldSum  x1 Q) : Met l yX4_isToldSum (wz yX4_isToldSum cX4_isToldSum 1 (some .boolean)) rX4_isToldSum (va_Pc [.int x1] (PE D κ (fun _ => True))) (RQ Q) 0 0 (fun _ => False) := by
  refine Met_of l (own := RX4) (by decide) rfl (Nat.le_of_ble_eq_true rfl) (fun p e s m below meth c Cc hPP ls hl => ?_)
  obtain ⟨hx, hb, hml, hown, hts, hr, hlk, hE⟩ := id Cc
  have hl : lv_has ls 1 [(0, .int x1)] := hl
  unfold pX4_isToldSum at h
  refine lv_iload_n hx hb dX4_isToldSum_0 rfl (lv_at hl 0 rfl) ?_
  refine lv_if_lt (tgt := 15) hx hb dX4_isToldSum_1 (by decide) (fun c1 => ?_) (fun c1 => ?_)
  · have h := h.1 c1
    exact bX4_isToldSum_15 Cc   _ (lv_sub hl [] rfl) h
  · have h := h.2 c1
    refine lv_iload_n hx hb dX4_isToldSum_4 rfl (lv_at hl 0 rfl) ?_
    refine lv_sipush (v := 999) hx hb dX4_isToldSum_5 (by decide) ?_
    refine lv_icmp_gt (tgt := 15) hx hb dX4_isToldSum_8 (by decide) (fun c8 => ?_) (fun c8 => ?_)
    · have h := h.1 c8
      exact bX4_isToldSum_15 Cc   _ (lv_sub hl [] rfl) h
    · have h := h.2 c8
      refine lv_iconst (v := 1) hx hb dX4_isToldSum_11 (by decide) ?_
      refine lv_goto (tgt := 16) hx hb dX4_isToldSum_12 (by decide) ?_
      exact bX4_isToldSum_16 Cc 1  _ (lv_sub hl [] rfl) h
theorem qX4_isToldSum {R : Room} {s : State} {args : Array Value} {own : String} {idx : Nat} (hts : ∀ w ∈ gG, w.before args s = true) (hl : (Cond.methodLink own idx yX4_isToldSum).before args s = true) (hR : rX4_isToldSum.frames + 1 ≤ R.frames ∧ 8 + (1 + 11) + rX4_isToldSum.locals ≤ R.locals) : CallB R s args own idx yX4_isToldSum cX4_isToldSum 1 (some .boolean) (wz yX4_isToldSum cX4_isToldSum 1 (some .boolean)) rX4_isToldSum 0 0 1 ∧ (Cond.static yX4_isToldSum).before args s = true := ⟨kw 1 hts mw_452 rfl rfl (tw_70 hts) hl (by decide +kernel) hR, tw_451 hts⟩
abbrev rX4_when : Room := { frames := 4, cells := 0, slots := 0, locals := 90 }
def pX4_when_26s  (ih26 : Int32 → Int32 → (Nat → Mx) → Prop) (Q : Int32 → (Nat → Mx) → Prop) (x1 : Int32) (x2 : Int32) (S : Nat → Mx) : Prop := (200 < x2 → (pX4_found S 3 (fun r61 u61 => (Q r61 u61)))) ∧ (¬ 200 < x2 → (pX1_sumOfRow (S 2) (fun r37 => ((x1 < r37 → (pX1_passYear (S 2) (fun u50 => (ih26 x1 (x2 + 1) (va_up S 2 u50))))) ∧ (¬ x1 < r37 → (Q x2 S))))))
noncomputable def pX4_when_26 (Q : Int32 → (Nat → Mx) → Prop) (n : Nat) : Int32 → Int32 → (Nat → Mx) → Prop := Nat.rec (motive := fun _ => Int32 → Int32 → (Nat → Mx) → Prop) (fun _ _ _ => False) (fun _ ih => pX4_when_26s ih Q) n
def pX4_when (S : Nat → Mx) (x1 : Int32) (Q : Int32 → (Nat → Mx) → Prop) : Prop := pX4_isToldSum x1 (fun r1 => ((¬ r1 = 0 → (pX1_takeFrom (S 2) (S 0) (fun u21 => (∃ n, pX4_when_26 Q n x1 0 (va_up S 2 u21))))) ∧ (r1 = 0 → (pX4_found S 0 (fun r9 u9 => (Q r9 u9))))))
set_option maxHeartbeats 4000000 in
set_option maxRecDepth 100000 in
theorem bX4_when_26 {p : Program} {l : Launch} {e : Env} {s : State} {m : MethodId} {args : Array Value} {below : List Frame} {meth : Method} {c : Code} {D : va_G} {κ : Nat → ClassId} {A : Nat → Nat → Nat}   {Q : Int32 → (Nat → Mx) → Prop} (Cc : Cx D κ RX4 cX4_when 3 (some .int) p s m args meth c) (hI : IX A)   (n : Nat) : ∀ (x1 : Int32) (x2 : Int32) (S : Nat → Mx) (H : Heap) (locs : List Loc) (hP : PX D κ A S H) (hS : va_S (aX A) s.heap H locs) (ls : Array Slot) (hl : lv_has ls 3 [(0, .ref (A 5 0)), (1, .int x1), (2, .int x2)]) (h : pX4_when_26 Q n x1 x2 S), W p l e rX4_when s m args below meth c H locs 0 0 (MQ below (QWi Q (fun u H => PX D κ A u H) (aX A)) args s 0 0 (aX A)) (F0 m 26 ls []) := by
  obtain ⟨hx, hb, hml, hown, hts, hr, hlk, hE⟩ := id Cc
  induction n with
  | zero =>
    intro x1 x2 S H locs hP hS ls hl h
    exact absurd h (fun z => z)
  | succ n hih26 =>
    intro x1 x2 S H locs hP hS ls hl h
    have h : pX4_when_26s (pX4_when_26 Q n) Q x1 x2 S := h
    unfold pX4_when_26s at h
    refine lv_iload_n hx hb dX4_when_26 rfl (lv_at hl 2 rfl) ?_
    refine lv_sipush (v := 200) hx hb dX4_when_27 (by decide) ?_
    refine lv_icmp_gt (tgt := 59) hx hb dX4_when_30 (by decide) (fun c30 => ?_) (fun c30 => ?_)
    · have h := h.1 c30
      refine lv_aload_n hx hb dX4_when_59 rfl (lv_at hl 0 rfl) ?_
      refine lv_iconst (v := 3) hx hb dX4_when_60 (by decide) ?_
      refine kWi (kV Cc (mX4_found l D κ A hI h) (qX4_found hts (tw_244 hts) ⟨(Nat.le_of_ble_eq_true rfl), (Nat.le_of_ble_eq_true rfl)⟩) (va_recv hE.1 hP.c5 (ci := 4) (q0 := 0) rfl rfl) (rest := []) hP rfl hl.1 rfl (Nat.le_of_ble_eq_true rfl) dX4_when_61 ⟨Nat.zero_le _, Nat.zero_le _⟩) hS (fun q h9 => h9) (fun r61 u61 H1 locs1 h hB hk hS1 => ?_)
      have hP := hB
      have hS := hS1
      exact W.iret (v := r61) hx hb hr (fun t ht _ => QWi.mk (u := u61) h hP hS ht) hS.2.2 dX4_when_64 (hlocks := hlk)
    · have h := h.2 c30
      refine lv_aload_n hx hb dX4_when_33 rfl (lv_at hl 0 rfl) ?_
      refine gSf_2 Cc hP.c5 (tw_211 hts) dX4_when_34 ?_
      refine kR (kV Cc (mX1_sumOfRow l D κ (A 2) h) (qX1_sumOfRow hts (tw_341 hts) ⟨(Nat.le_of_ble_eq_true rfl), (Nat.le_of_ble_eq_true rfl)⟩) (va_recv hE.1 hP.c2 (ci := 1) (q0 := 0) rfl rfl) (rest := []) hP.c2 rfl hl.1 rfl (Nat.le_of_ble_eq_true rfl) dX4_when_37 ⟨Nat.zero_le _, Nat.zero_le _⟩) (fun r37 h => ?_)
      refine lv_iload_n hx hb dX4_when_40 rfl (lv_at hl 1 rfl) ?_
      refine lv_icmp_gt (tgt := 46) hx hb dX4_when_41 (by decide) (fun c41 => ?_) (fun c41 => ?_)
      · have h := h.1 c41
        refine lv_aload_n hx hb dX4_when_46 rfl (lv_at hl 0 rfl) ?_
        refine gSf_2 Cc hP.c5 (tw_211 hts) dX4_when_47 ?_
        refine kWv (kV Cc (mX1_passYear l D κ (A 2) (hI.ij (k := 2) (by decide)) h) (qX1_passYear hts (tw_453 hts) ⟨(Nat.le_of_ble_eq_true rfl), (Nat.le_of_ble_eq_true rfl)⟩) (va_recv hE.1 hP.c2 (ci := 1) (q0 := 0) rfl rfl) (rest := []) hP.c2 rfl hl.1 rfl (Nat.le_of_ble_eq_true rfl) dX4_when_50 ⟨Nat.zero_le _, Nat.zero_le _⟩) hS (fun q h9 => aX_of (k := 2) (by decide) h9) (fun  u50 H1 locs1 h hB hk hS1 => ?_)
        have hP := PX.put (k := 2) (by decide) hI hP hB hk
        have hS := hS1
        refine lv_iinc (v := (x2 + 1)) (lv' := [(2, .int (x2 + 1)), (0, .ref (A 5 0)), (1, .int x1)]) hx hb dX4_when_53 hl (k := 2) rfl rfl (by decide) rfl (fun ls hl => ?_)
        refine lv_goto (tgt := 26) hx hb dX4_when_56 (by decide) ?_
        exact hih26 x1 (x2 + 1) (va_up S 2 u50) _ _ hP hS _ (lv_sub hl [1, 2, 0] rfl) h
      · have h := h.2 c41
        refine lv_iload_n hx hb dX4_when_44 rfl (lv_at hl 2 rfl) ?_
        exact W.iret (v := x2) hx hb hr (fun t ht _ => QWi.mk (u := S) h hP hS ht) hS.2.2 dX4_when_45 (hlocks := hlk)
set_option maxHeartbeats 4000000 in
set_option maxRecDepth 100000 in
theorem mX4_when (l : Launch) (D : va_G) (κ : Nat → ClassId) (A : Nat → Nat → Nat) {S : Nat → Mx} {x1 : Int32} {Q : Int32 → (Nat → Mx) → Prop} (hI : IX A) (h : pX4_when S x1 Q) : Met l yX4_when (wz yX4_when cX4_when 3 (some .int)) rX4_when (va_Pc [.ref (A 5 0), .int x1] (PE D κ (fun H => PX D κ A S H))) (QWi Q (fun u H => PX D κ A u H) (aX A)) 0 0 (aX A) := by
  refine Met_of l (own := RX4) (by decide) rfl (Nat.le_of_ble_eq_true rfl) (fun p e s m below meth c Cc hPP ls hl => ?_)
  obtain ⟨hx, hb, hml, hown, hts, hr, hlk, hE⟩ := id Cc
  have hl : lv_has ls 3 [(0, .ref (A 5 0)), (1, .int x1)] := hl
  have hP := hPP
  have hS : va_S (aX A) s.heap s.heap [] := va_S.rf
  unfold pX4_when at h
  refine lv_iload_n hx hb dX4_when_0 rfl (lv_at hl 1 rfl) ?_
  refine kR (kS Cc (mX4_isToldSum l D κ h) (qX4_isToldSum hts (tw_450 hts) ⟨(Nat.le_of_ble_eq_true rfl), (Nat.le_of_ble_eq_true rfl)⟩) (rest := []) trivial rfl hl.1 rfl (Nat.le_of_ble_eq_true rfl) dX4_when_1 ⟨Nat.zero_le _, Nat.zero_le _⟩) (fun r1 h => ?_)
  refine lv_if_ne (tgt := 13) hx hb dX4_when_4 (by decide) (fun c4 => ?_) (fun c4 => ?_)
  · have h := h.1 c4
    refine lv_aload_n hx hb dX4_when_13 rfl (lv_at hl 0 rfl) ?_
    refine gSf_2 Cc hP.c5 (tw_211 hts) dX4_when_14 ?_
    refine lv_aload_n hx hb dX4_when_17 rfl (lv_at hl 0 rfl) ?_
    refine gSf_0 Cc hP.c5 (tw_209 hts) dX4_when_18 ?_
    refine kWv (kV Cc (mX1_takeFrom l D κ (A 2) (A 0) (hI.ij (k := 2) (by decide)) (hI.dj (by decide) (by decide) (by decide)) h) (qX1_takeFrom hts (tw_435 hts) ⟨(Nat.le_of_ble_eq_true rfl), (Nat.le_of_ble_eq_true rfl)⟩) (va_recv hE.1 hP.c2 (ci := 1) (q0 := 0) rfl rfl) (rest := []) ⟨hP.c2, hP.c0⟩ rfl hl.1 rfl (Nat.le_of_ble_eq_true rfl) dX4_when_21 ⟨Nat.zero_le _, Nat.zero_le _⟩) hS (fun q h9 => aX_of (k := 2) (by decide) h9) (fun  u21 H1 locs1 h hB hk hS1 => ?_)
    have hP := PX.put (k := 2) (by decide) hI hP hB hk
    have hS := hS1
    refine lv_iconst (v := 0) hx hb dX4_when_24 (by decide) ?_
    refine lv_istore_n (lv' := [(2, .int 0), (0, .ref (A 5 0)), (1, .int x1)]) hx hb dX4_when_25 rfl hl (by decide) rfl (fun ls hl => ?_)
    obtain ⟨n, h⟩ := h
    exact bX4_when_26 Cc hI n x1 0 (va_up S 2 u21) _ _ hP hS _ (lv_sub hl [1, 2, 0] rfl) h
  · have h := h.2 c4
    refine lv_aload_n hx hb dX4_when_7 rfl (lv_at hl 0 rfl) ?_
    refine lv_iconst (v := 0) hx hb dX4_when_8 (by decide) ?_
    refine kWi (kV Cc (mX4_found l D κ A hI h) (qX4_found hts (tw_244 hts) ⟨(Nat.le_of_ble_eq_true rfl), (Nat.le_of_ble_eq_true rfl)⟩) (va_recv hE.1 hP.c5 (ci := 4) (q0 := 0) rfl rfl) (rest := []) hP rfl hl.1 rfl (Nat.le_of_ble_eq_true rfl) dX4_when_9 ⟨Nat.zero_le _, Nat.zero_le _⟩) hS (fun q h9 => h9) (fun r9 u9 H1 locs1 h hB hk hS1 => ?_)
    have hP := hB
    have hS := hS1
    exact W.iret (v := r9) hx hb hr (fun t ht _ => QWi.mk (u := u9) h hP hS ht) hS.2.2 dX4_when_12 (hlocks := hlk)
theorem qX4_when {R : Room} {s : State} {args : Array Value} {own : String} {idx : Nat} (hts : ∀ w ∈ gG, w.before args s = true) (hl : (Cond.methodLink own idx yX4_when).before args s = true) (hR : rX4_when.frames + 1 ≤ R.frames ∧ 8 + (3 + 11) + rX4_when.locals ≤ R.locals) : CallW R s args own RX4 idx yX4_when cX4_when 3 (some .int) (wz yX4_when cX4_when 3 (some .int)) rX4_when 0 0 1 := ⟨kw 1 hts mw_449 rfl rfl (tw_70 hts) hl (by decide +kernel) hR, tw_447 hts, tw_448 hts⟩
abbrev rX4_comes : Room := { frames := 3, cells := 0, slots := 0, locals := 81 }
def pX4_comes_18 (Q : Int32 → (Nat → Mx) → Prop) (S : Nat → Mx) : Prop := pX4_found S 0 (fun r20 u20 => (Q r20 u20))
def pX4_comes_37s  (ih37 : Int32 → Int32 → Int32 → (Nat → Mx) → Prop) (Q : Int32 → (Nat → Mx) → Prop) (x1 : Int32) (x2 : Int32) (x3 : Int32) (S : Nat → Mx) : Prop := (200 < x3 → (pX4_found S 3 (fun r73 u73 => (Q r73 u73)))) ∧ (¬ 200 < x3 → (pX1_placeOf (S 2) x1 (fun r49 => ((¬ r49 = x2 → (pX1_passYear (S 2) (fun u62 => (ih37 x1 x2 (x3 + 1) (va_up S 2 u62))))) ∧ (r49 = x2 → (Q x3 S))))))
noncomputable def pX4_comes_37 (Q : Int32 → (Nat → Mx) → Prop) (n : Nat) : Int32 → Int32 → Int32 → (Nat → Mx) → Prop := Nat.rec (motive := fun _ => Int32 → Int32 → Int32 → (Nat → Mx) → Prop) (fun _ _ _ _ => False) (fun _ ih => pX4_comes_37s ih Q) n
def pX4_comes (S : Nat → Mx) (x1 : Int32) (x2 : Int32) (Q : Int32 → (Nat → Mx) → Prop) : Prop := pX1_has (S 0) x1 (fun r5 => ((r5 = 0 → (pX4_comes_18 Q S)) ∧ (¬ r5 = 0 → (pX4_isPlace x2 (fun r12 => ((¬ r12 = 0 → (pX1_takeFrom (S 2) (S 0) (fun u32 => (∃ n, pX4_comes_37 Q n x1 x2 0 (va_up S 2 u32))))) ∧ (r12 = 0 → (pX4_comes_18 Q S))))))))
set_option maxHeartbeats 4000000 in
set_option maxRecDepth 100000 in
theorem bX4_comes_18 {p : Program} {l : Launch} {e : Env} {s : State} {m : MethodId} {args : Array Value} {below : List Frame} {meth : Method} {c : Code} {D : va_G} {κ : Nat → ClassId} {A : Nat → Nat → Nat}   {Q : Int32 → (Nat → Mx) → Prop} (Cc : Cx D κ RX4 cX4_comes 4 (some .int) p s m args meth c) (hI : IX A)   : ∀ (S : Nat → Mx) (H : Heap) (locs : List Loc) (hP : PX D κ A S H) (hS : va_S (aX A) s.heap H locs) (ls : Array Slot) (hl : lv_has ls 4 [(0, .ref (A 5 0))]) (h : pX4_comes_18 Q S), W p l e rX4_comes s m args below meth c H locs 0 0 (MQ below (QWi Q (fun u H => PX D κ A u H) (aX A)) args s 0 0 (aX A)) (F0 m 18 ls []) := by
  obtain ⟨hx, hb, hml, hown, hts, hr, hlk, hE⟩ := id Cc
  intro S H locs hP hS ls hl h
  unfold pX4_comes_18 at h
  refine lv_aload_n hx hb dX4_comes_18 rfl (lv_at hl 0 rfl) ?_
  refine lv_iconst (v := 0) hx hb dX4_comes_19 (by decide) ?_
  refine kWi (kV Cc (mX4_found l D κ A hI h) (qX4_found hts (tw_244 hts) ⟨(Nat.le_of_ble_eq_true rfl), (Nat.le_of_ble_eq_true rfl)⟩) (va_recv hE.1 hP.c5 (ci := 4) (q0 := 0) rfl rfl) (rest := []) hP rfl hl.1 rfl (Nat.le_of_ble_eq_true rfl) dX4_comes_20 ⟨Nat.zero_le _, Nat.zero_le _⟩) hS (fun q h9 => h9) (fun r20 u20 H1 locs1 h hB hk hS1 => ?_)
  have hP := hB
  have hS := hS1
  exact W.iret (v := r20) hx hb hr (fun t ht _ => QWi.mk (u := u20) h hP hS ht) hS.2.2 dX4_comes_23 (hlocks := hlk)
set_option maxHeartbeats 4000000 in
set_option maxRecDepth 100000 in
theorem bX4_comes_37 {p : Program} {l : Launch} {e : Env} {s : State} {m : MethodId} {args : Array Value} {below : List Frame} {meth : Method} {c : Code} {D : va_G} {κ : Nat → ClassId} {A : Nat → Nat → Nat}   {Q : Int32 → (Nat → Mx) → Prop} (Cc : Cx D κ RX4 cX4_comes 4 (some .int) p s m args meth c) (hI : IX A)   (n : Nat) : ∀ (x1 : Int32) (x2 : Int32) (x3 : Int32) (S : Nat → Mx) (H : Heap) (locs : List Loc) (hP : PX D κ A S H) (hS : va_S (aX A) s.heap H locs) (ls : Array Slot) (hl : lv_has ls 4 [(0, .ref (A 5 0)), (1, .int x1), (2, .int x2), (3, .int x3)]) (h : pX4_comes_37 Q n x1 x2 x3 S), W p l e rX4_comes s m args below meth c H locs 0 0 (MQ below (QWi Q (fun u H => PX D κ A u H) (aX A)) args s 0 0 (aX A)) (F0 m 37 ls []) := by
  obtain ⟨hx, hb, hml, hown, hts, hr, hlk, hE⟩ := id Cc
  induction n with
  | zero =>
    intro x1 x2 x3 S H locs hP hS ls hl h
    exact absurd h (fun z => z)
  | succ n hih37 =>
    intro x1 x2 x3 S H locs hP hS ls hl h
    have h : pX4_comes_37s (pX4_comes_37 Q n) Q x1 x2 x3 S := h
    unfold pX4_comes_37s at h
    refine lv_iload_n hx hb dX4_comes_37 rfl (lv_at hl 3 rfl) ?_
    refine lv_sipush (v := 200) hx hb dX4_comes_38 (by decide) ?_
    refine lv_icmp_gt (tgt := 71) hx hb dX4_comes_41 (by decide) (fun c41 => ?_) (fun c41 => ?_)
    · have h := h.1 c41
      refine lv_aload_n hx hb dX4_comes_71 rfl (lv_at hl 0 rfl) ?_
      refine lv_iconst (v := 3) hx hb dX4_comes_72 (by decide) ?_
      refine kWi (kV Cc (mX4_found l D κ A hI h) (qX4_found hts (tw_244 hts) ⟨(Nat.le_of_ble_eq_true rfl), (Nat.le_of_ble_eq_true rfl)⟩) (va_recv hE.1 hP.c5 (ci := 4) (q0 := 0) rfl rfl) (rest := []) hP rfl hl.1 rfl (Nat.le_of_ble_eq_true rfl) dX4_comes_73 ⟨Nat.zero_le _, Nat.zero_le _⟩) hS (fun q h9 => h9) (fun r73 u73 H1 locs1 h hB hk hS1 => ?_)
      have hP := hB
      have hS := hS1
      exact W.iret (v := r73) hx hb hr (fun t ht _ => QWi.mk (u := u73) h hP hS ht) hS.2.2 dX4_comes_76 (hlocks := hlk)
    · have h := h.2 c41
      refine lv_aload_n hx hb dX4_comes_44 rfl (lv_at hl 0 rfl) ?_
      refine gSf_2 Cc hP.c5 (tw_211 hts) dX4_comes_45 ?_
      refine lv_iload_n hx hb dX4_comes_48 rfl (lv_at hl 1 rfl) ?_
      refine kR (kV Cc (mX1_placeOf l D κ (A 2) h) (qX1_placeOf hts (tw_458 hts) ⟨(Nat.le_of_ble_eq_true rfl), (Nat.le_of_ble_eq_true rfl)⟩) (va_recv hE.1 hP.c2 (ci := 1) (q0 := 0) rfl rfl) (rest := []) hP.c2 rfl hl.1 rfl (Nat.le_of_ble_eq_true rfl) dX4_comes_49 ⟨Nat.zero_le _, Nat.zero_le _⟩) (fun r49 h => ?_)
      refine lv_iload_n hx hb dX4_comes_52 rfl (lv_at hl 2 rfl) ?_
      refine lv_icmp_ne (tgt := 58) hx hb dX4_comes_53 (by decide) (fun c53 => ?_) (fun c53 => ?_)
      · have h := h.1 c53
        refine lv_aload_n hx hb dX4_comes_58 rfl (lv_at hl 0 rfl) ?_
        refine gSf_2 Cc hP.c5 (tw_211 hts) dX4_comes_59 ?_
        refine kWv (kV Cc (mX1_passYear l D κ (A 2) (hI.ij (k := 2) (by decide)) h) (qX1_passYear hts (tw_453 hts) ⟨(Nat.le_of_ble_eq_true rfl), (Nat.le_of_ble_eq_true rfl)⟩) (va_recv hE.1 hP.c2 (ci := 1) (q0 := 0) rfl rfl) (rest := []) hP.c2 rfl hl.1 rfl (Nat.le_of_ble_eq_true rfl) dX4_comes_62 ⟨Nat.zero_le _, Nat.zero_le _⟩) hS (fun q h9 => aX_of (k := 2) (by decide) h9) (fun  u62 H1 locs1 h hB hk hS1 => ?_)
        have hP := PX.put (k := 2) (by decide) hI hP hB hk
        have hS := hS1
        refine lv_iinc (v := (x3 + 1)) (lv' := [(3, .int (x3 + 1)), (0, .ref (A 5 0)), (1, .int x1), (2, .int x2)]) hx hb dX4_comes_65 hl (k := 3) rfl rfl (by decide) rfl (fun ls hl => ?_)
        refine lv_goto (tgt := 37) hx hb dX4_comes_68 (by decide) ?_
        exact hih37 x1 x2 (x3 + 1) (va_up S 2 u62) _ _ hP hS _ (lv_sub hl [1, 2, 3, 0] rfl) h
      · have h := h.2 c53
        refine lv_iload_n hx hb dX4_comes_56 rfl (lv_at hl 3 rfl) ?_
        exact W.iret (v := x3) hx hb hr (fun t ht _ => QWi.mk (u := S) h hP hS ht) hS.2.2 dX4_comes_57 (hlocks := hlk)
set_option maxHeartbeats 4000000 in
set_option maxRecDepth 100000 in
theorem mX4_comes (l : Launch) (D : va_G) (κ : Nat → ClassId) (A : Nat → Nat → Nat) {S : Nat → Mx} {x1 : Int32} {x2 : Int32} {Q : Int32 → (Nat → Mx) → Prop} (hI : IX A) (h : pX4_comes S x1 x2 Q) : Met l yX4_comes (wz yX4_comes cX4_comes 4 (some .int)) rX4_comes (va_Pc [.ref (A 5 0), .int x1, .int x2] (PE D κ (fun H => PX D κ A S H))) (QWi Q (fun u H => PX D κ A u H) (aX A)) 0 0 (aX A) := by
  refine Met_of l (own := RX4) (by decide) rfl (Nat.le_of_ble_eq_true rfl) (fun p e s m below meth c Cc hPP ls hl => ?_)
  obtain ⟨hx, hb, hml, hown, hts, hr, hlk, hE⟩ := id Cc
  have hl : lv_has ls 4 [(0, .ref (A 5 0)), (1, .int x1), (2, .int x2)] := hl
  have hP := hPP
  have hS : va_S (aX A) s.heap s.heap [] := va_S.rf
  unfold pX4_comes at h
  refine lv_aload_n hx hb dX4_comes_0 rfl (lv_at hl 0 rfl) ?_
  refine gSf_0 Cc hP.c5 (tw_209 hts) dX4_comes_1 ?_
  refine lv_iload_n hx hb dX4_comes_4 rfl (lv_at hl 1 rfl) ?_
  refine kR (kV Cc (mX1_has l D κ (A 0) h) (qX1_has hts (tw_271 hts) ⟨(Nat.le_of_ble_eq_true rfl), (Nat.le_of_ble_eq_true rfl)⟩) (va_recv hE.1 hP.c0 (ci := 1) (q0 := 0) rfl rfl) (rest := []) hP.c0 rfl hl.1 rfl (Nat.le_of_ble_eq_true rfl) dX4_comes_5 ⟨Nat.zero_le _, Nat.zero_le _⟩) (fun r5 h => ?_)
  refine lv_if_eq (tgt := 18) hx hb dX4_comes_8 (by decide) (fun c8 => ?_) (fun c8 => ?_)
  · have h := h.1 c8
    exact bX4_comes_18 Cc hI S _ _ hP hS _ (lv_sub hl [0] rfl) h
  · have h := h.2 c8
    refine lv_iload_n hx hb dX4_comes_11 rfl (lv_at hl 2 rfl) ?_
    refine kR (kS Cc (mX4_isPlace l D κ h) (qX4_isPlace hts (tw_241 hts) ⟨(Nat.le_of_ble_eq_true rfl), (Nat.le_of_ble_eq_true rfl)⟩) (rest := []) trivial rfl hl.1 rfl (Nat.le_of_ble_eq_true rfl) dX4_comes_12 ⟨Nat.zero_le _, Nat.zero_le _⟩) (fun r12 h => ?_)
    refine lv_if_ne (tgt := 24) hx hb dX4_comes_15 (by decide) (fun c15 => ?_) (fun c15 => ?_)
    · have h := h.1 c15
      refine lv_aload_n hx hb dX4_comes_24 rfl (lv_at hl 0 rfl) ?_
      refine gSf_2 Cc hP.c5 (tw_211 hts) dX4_comes_25 ?_
      refine lv_aload_n hx hb dX4_comes_28 rfl (lv_at hl 0 rfl) ?_
      refine gSf_0 Cc hP.c5 (tw_209 hts) dX4_comes_29 ?_
      refine kWv (kV Cc (mX1_takeFrom l D κ (A 2) (A 0) (hI.ij (k := 2) (by decide)) (hI.dj (by decide) (by decide) (by decide)) h) (qX1_takeFrom hts (tw_435 hts) ⟨(Nat.le_of_ble_eq_true rfl), (Nat.le_of_ble_eq_true rfl)⟩) (va_recv hE.1 hP.c2 (ci := 1) (q0 := 0) rfl rfl) (rest := []) ⟨hP.c2, hP.c0⟩ rfl hl.1 rfl (Nat.le_of_ble_eq_true rfl) dX4_comes_32 ⟨Nat.zero_le _, Nat.zero_le _⟩) hS (fun q h9 => aX_of (k := 2) (by decide) h9) (fun  u32 H1 locs1 h hB hk hS1 => ?_)
      have hP := PX.put (k := 2) (by decide) hI hP hB hk
      have hS := hS1
      refine lv_iconst (v := 0) hx hb dX4_comes_35 (by decide) ?_
      refine lv_istore_n (lv' := [(3, .int 0), (0, .ref (A 5 0)), (1, .int x1), (2, .int x2)]) hx hb dX4_comes_36 rfl hl (by decide) rfl (fun ls hl => ?_)
      obtain ⟨n, h⟩ := h
      exact bX4_comes_37 Cc hI n x1 x2 0 (va_up S 2 u32) _ _ hP hS _ (lv_sub hl [1, 2, 3, 0] rfl) h
    · have h := h.2 c15
      exact bX4_comes_18 Cc hI S _ _ hP hS _ (lv_sub hl [0] rfl) h
theorem qX4_comes {R : Room} {s : State} {args : Array Value} {own : String} {idx : Nat} (hts : ∀ w ∈ gG, w.before args s = true) (hl : (Cond.methodLink own idx yX4_comes).before args s = true) (hR : rX4_comes.frames + 1 ≤ R.frames ∧ 8 + (4 + 11) + rX4_comes.locals ≤ R.locals) : CallW R s args own RX4 idx yX4_comes cX4_comes 4 (some .int) (wz yX4_comes cX4_comes 4 (some .int)) rX4_comes 0 0 2 := ⟨kw 2 hts mw_457 rfl rfl (tw_70 hts) hl (by decide +kernel) hR, tw_455 hts, tw_456 hts⟩
abbrev rX4_granted : Room := { frames := 3, cells := 0, slots := 0, locals := 81 }
def pX4_granted_30s  (ih30 : Int32 → Int32 → (Nat → Mx) → Prop) (Q : Int32 → (Nat → Mx) → Prop) (x1 : Int32) (x2 : Int32) (S : Nat → Mx) : Prop := (200 < x2 → (pX4_found S 3 (fun r65 u65 => (Q r65 u65)))) ∧ (¬ 200 < x2 → (pX1_isGranted (S 2) x1 (fun r42 => ((r42 = 0 → (pX1_passYear (S 2) (fun u54 => (ih30 x1 (x2 + 1) (va_up S 2 u54))))) ∧ (¬ r42 = 0 → (Q x2 S))))))
noncomputable def pX4_granted_30 (Q : Int32 → (Nat → Mx) → Prop) (n : Nat) : Int32 → Int32 → (Nat → Mx) → Prop := Nat.rec (motive := fun _ => Int32 → Int32 → (Nat → Mx) → Prop) (fun _ _ _ => False) (fun _ ih => pX4_granted_30s ih Q) n
def pX4_granted (S : Nat → Mx) (x1 : Int32) (Q : Int32 → (Nat → Mx) → Prop) : Prop := pX1_has (S 0) x1 (fun r5 => ((¬ r5 = 0 → (pX1_takeFrom (S 2) (S 0) (fun u25 => (∃ n, pX4_granted_30 Q n x1 0 (va_up S 2 u25))))) ∧ (r5 = 0 → (pX4_found S 0 (fun r13 u13 => (Q r13 u13))))))
set_option maxHeartbeats 4000000 in
set_option maxRecDepth 100000 in
theorem bX4_granted_30 {p : Program} {l : Launch} {e : Env} {s : State} {m : MethodId} {args : Array Value} {below : List Frame} {meth : Method} {c : Code} {D : va_G} {κ : Nat → ClassId} {A : Nat → Nat → Nat}   {Q : Int32 → (Nat → Mx) → Prop} (Cc : Cx D κ RX4 cX4_granted 3 (some .int) p s m args meth c) (hI : IX A)   (n : Nat) : ∀ (x1 : Int32) (x2 : Int32) (S : Nat → Mx) (H : Heap) (locs : List Loc) (hP : PX D κ A S H) (hS : va_S (aX A) s.heap H locs) (ls : Array Slot) (hl : lv_has ls 3 [(0, .ref (A 5 0)), (1, .int x1), (2, .int x2)]) (h : pX4_granted_30 Q n x1 x2 S), W p l e rX4_granted s m args below meth c H locs 0 0 (MQ below (QWi Q (fun u H => PX D κ A u H) (aX A)) args s 0 0 (aX A)) (F0 m 30 ls []) := by
  obtain ⟨hx, hb, hml, hown, hts, hr, hlk, hE⟩ := id Cc
  induction n with
  | zero =>
    intro x1 x2 S H locs hP hS ls hl h
    exact absurd h (fun z => z)
  | succ n hih30 =>
    intro x1 x2 S H locs hP hS ls hl h
    have h : pX4_granted_30s (pX4_granted_30 Q n) Q x1 x2 S := h
    unfold pX4_granted_30s at h
    refine lv_iload_n hx hb dX4_granted_30 rfl (lv_at hl 2 rfl) ?_
    refine lv_sipush (v := 200) hx hb dX4_granted_31 (by decide) ?_
    refine lv_icmp_gt (tgt := 63) hx hb dX4_granted_34 (by decide) (fun c34 => ?_) (fun c34 => ?_)
    · have h := h.1 c34
      refine lv_aload_n hx hb dX4_granted_63 rfl (lv_at hl 0 rfl) ?_
      refine lv_iconst (v := 3) hx hb dX4_granted_64 (by decide) ?_
      refine kWi (kV Cc (mX4_found l D κ A hI h) (qX4_found hts (tw_244 hts) ⟨(Nat.le_of_ble_eq_true rfl), (Nat.le_of_ble_eq_true rfl)⟩) (va_recv hE.1 hP.c5 (ci := 4) (q0 := 0) rfl rfl) (rest := []) hP rfl hl.1 rfl (Nat.le_of_ble_eq_true rfl) dX4_granted_65 ⟨Nat.zero_le _, Nat.zero_le _⟩) hS (fun q h9 => h9) (fun r65 u65 H1 locs1 h hB hk hS1 => ?_)
      have hP := hB
      have hS := hS1
      exact W.iret (v := r65) hx hb hr (fun t ht _ => QWi.mk (u := u65) h hP hS ht) hS.2.2 dX4_granted_68 (hlocks := hlk)
    · have h := h.2 c34
      refine lv_aload_n hx hb dX4_granted_37 rfl (lv_at hl 0 rfl) ?_
      refine gSf_2 Cc hP.c5 (tw_211 hts) dX4_granted_38 ?_
      refine lv_iload_n hx hb dX4_granted_41 rfl (lv_at hl 1 rfl) ?_
      refine kR (kV Cc (mX1_isGranted l D κ (A 2) h) (qX1_isGranted hts (tw_463 hts) ⟨(Nat.le_of_ble_eq_true rfl), (Nat.le_of_ble_eq_true rfl)⟩) (va_recv hE.1 hP.c2 (ci := 1) (q0 := 0) rfl rfl) (rest := []) hP.c2 rfl hl.1 rfl (Nat.le_of_ble_eq_true rfl) dX4_granted_42 ⟨Nat.zero_le _, Nat.zero_le _⟩) (fun r42 h => ?_)
      refine lv_if_eq (tgt := 50) hx hb dX4_granted_45 (by decide) (fun c45 => ?_) (fun c45 => ?_)
      · have h := h.1 c45
        refine lv_aload_n hx hb dX4_granted_50 rfl (lv_at hl 0 rfl) ?_
        refine gSf_2 Cc hP.c5 (tw_211 hts) dX4_granted_51 ?_
        refine kWv (kV Cc (mX1_passYear l D κ (A 2) (hI.ij (k := 2) (by decide)) h) (qX1_passYear hts (tw_453 hts) ⟨(Nat.le_of_ble_eq_true rfl), (Nat.le_of_ble_eq_true rfl)⟩) (va_recv hE.1 hP.c2 (ci := 1) (q0 := 0) rfl rfl) (rest := []) hP.c2 rfl hl.1 rfl (Nat.le_of_ble_eq_true rfl) dX4_granted_54 ⟨Nat.zero_le _, Nat.zero_le _⟩) hS (fun q h9 => aX_of (k := 2) (by decide) h9) (fun  u54 H1 locs1 h hB hk hS1 => ?_)
        have hP := PX.put (k := 2) (by decide) hI hP hB hk
        have hS := hS1
        refine lv_iinc (v := (x2 + 1)) (lv' := [(2, .int (x2 + 1)), (0, .ref (A 5 0)), (1, .int x1)]) hx hb dX4_granted_57 hl (k := 2) rfl rfl (by decide) rfl (fun ls hl => ?_)
        refine lv_goto (tgt := 30) hx hb dX4_granted_60 (by decide) ?_
        exact hih30 x1 (x2 + 1) (va_up S 2 u54) _ _ hP hS _ (lv_sub hl [1, 2, 0] rfl) h
      · have h := h.2 c45
        refine lv_iload_n hx hb dX4_granted_48 rfl (lv_at hl 2 rfl) ?_
        exact W.iret (v := x2) hx hb hr (fun t ht _ => QWi.mk (u := S) h hP hS ht) hS.2.2 dX4_granted_49 (hlocks := hlk)
set_option maxHeartbeats 4000000 in
set_option maxRecDepth 100000 in
theorem mX4_granted (l : Launch) (D : va_G) (κ : Nat → ClassId) (A : Nat → Nat → Nat) {S : Nat → Mx} {x1 : Int32} {Q : Int32 → (Nat → Mx) → Prop} (hI : IX A) (h : pX4_granted S x1 Q) : Met l yX4_granted (wz yX4_granted cX4_granted 3 (some .int)) rX4_granted (va_Pc [.ref (A 5 0), .int x1] (PE D κ (fun H => PX D κ A S H))) (QWi Q (fun u H => PX D κ A u H) (aX A)) 0 0 (aX A) := by
  refine Met_of l (own := RX4) (by decide) rfl (Nat.le_of_ble_eq_true rfl) (fun p e s m below meth c Cc hPP ls hl => ?_)
  obtain ⟨hx, hb, hml, hown, hts, hr, hlk, hE⟩ := id Cc
  have hl : lv_has ls 3 [(0, .ref (A 5 0)), (1, .int x1)] := hl
  have hP := hPP
  have hS : va_S (aX A) s.heap s.heap [] := va_S.rf
  unfold pX4_granted at h
  refine lv_aload_n hx hb dX4_granted_0 rfl (lv_at hl 0 rfl) ?_
  refine gSf_0 Cc hP.c5 (tw_209 hts) dX4_granted_1 ?_
  refine lv_iload_n hx hb dX4_granted_4 rfl (lv_at hl 1 rfl) ?_
  refine kR (kV Cc (mX1_has l D κ (A 0) h) (qX1_has hts (tw_271 hts) ⟨(Nat.le_of_ble_eq_true rfl), (Nat.le_of_ble_eq_true rfl)⟩) (va_recv hE.1 hP.c0 (ci := 1) (q0 := 0) rfl rfl) (rest := []) hP.c0 rfl hl.1 rfl (Nat.le_of_ble_eq_true rfl) dX4_granted_5 ⟨Nat.zero_le _, Nat.zero_le _⟩) (fun r5 h => ?_)
  refine lv_if_ne (tgt := 17) hx hb dX4_granted_8 (by decide) (fun c8 => ?_) (fun c8 => ?_)
  · have h := h.1 c8
    refine lv_aload_n hx hb dX4_granted_17 rfl (lv_at hl 0 rfl) ?_
    refine gSf_2 Cc hP.c5 (tw_211 hts) dX4_granted_18 ?_
    refine lv_aload_n hx hb dX4_granted_21 rfl (lv_at hl 0 rfl) ?_
    refine gSf_0 Cc hP.c5 (tw_209 hts) dX4_granted_22 ?_
    refine kWv (kV Cc (mX1_takeFrom l D κ (A 2) (A 0) (hI.ij (k := 2) (by decide)) (hI.dj (by decide) (by decide) (by decide)) h) (qX1_takeFrom hts (tw_435 hts) ⟨(Nat.le_of_ble_eq_true rfl), (Nat.le_of_ble_eq_true rfl)⟩) (va_recv hE.1 hP.c2 (ci := 1) (q0 := 0) rfl rfl) (rest := []) ⟨hP.c2, hP.c0⟩ rfl hl.1 rfl (Nat.le_of_ble_eq_true rfl) dX4_granted_25 ⟨Nat.zero_le _, Nat.zero_le _⟩) hS (fun q h9 => aX_of (k := 2) (by decide) h9) (fun  u25 H1 locs1 h hB hk hS1 => ?_)
    have hP := PX.put (k := 2) (by decide) hI hP hB hk
    have hS := hS1
    refine lv_iconst (v := 0) hx hb dX4_granted_28 (by decide) ?_
    refine lv_istore_n (lv' := [(2, .int 0), (0, .ref (A 5 0)), (1, .int x1)]) hx hb dX4_granted_29 rfl hl (by decide) rfl (fun ls hl => ?_)
    obtain ⟨n, h⟩ := h
    exact bX4_granted_30 Cc hI n x1 0 (va_up S 2 u25) _ _ hP hS _ (lv_sub hl [1, 2, 0] rfl) h
  · have h := h.2 c8
    refine lv_aload_n hx hb dX4_granted_11 rfl (lv_at hl 0 rfl) ?_
    refine lv_iconst (v := 0) hx hb dX4_granted_12 (by decide) ?_
    refine kWi (kV Cc (mX4_found l D κ A hI h) (qX4_found hts (tw_244 hts) ⟨(Nat.le_of_ble_eq_true rfl), (Nat.le_of_ble_eq_true rfl)⟩) (va_recv hE.1 hP.c5 (ci := 4) (q0 := 0) rfl rfl) (rest := []) hP rfl hl.1 rfl (Nat.le_of_ble_eq_true rfl) dX4_granted_13 ⟨Nat.zero_le _, Nat.zero_le _⟩) hS (fun q h9 => h9) (fun r13 u13 H1 locs1 h hB hk hS1 => ?_)
    have hP := hB
    have hS := hS1
    exact W.iret (v := r13) hx hb hr (fun t ht _ => QWi.mk (u := u13) h hP hS ht) hS.2.2 dX4_granted_16 (hlocks := hlk)
theorem qX4_granted {R : Room} {s : State} {args : Array Value} {own : String} {idx : Nat} (hts : ∀ w ∈ gG, w.before args s = true) (hl : (Cond.methodLink own idx yX4_granted).before args s = true) (hR : rX4_granted.frames + 1 ≤ R.frames ∧ 8 + (3 + 11) + rX4_granted.locals ≤ R.locals) : CallW R s args own RX4 idx yX4_granted cX4_granted 3 (some .int) (wz yX4_granted cX4_granted 3 (some .int)) rX4_granted 0 0 1 := ⟨kw 1 hts mw_462 rfl rfl (tw_70 hts) hl (by decide +kernel) hR, tw_460 hts, tw_461 hts⟩
abbrev rX4_best : Room := { frames := 4, cells := 0, slots := 0, locals := 95 }
def pX4_best (S : Nat → Mx)  (Q : Int32 → (Nat → Mx) → Prop) : Prop := pX0_leastSum (S 3) (S 0) (fun r8 u8 => (Q r8 (va_up S 3 u8)))
set_option maxHeartbeats 4000000 in
set_option maxRecDepth 100000 in
theorem mX4_best (l : Launch) (D : va_G) (κ : Nat → ClassId) (A : Nat → Nat → Nat) {S : Nat → Mx}  {Q : Int32 → (Nat → Mx) → Prop} (hI : IX A) (h : pX4_best S  Q) : Met l yX4_best (wz yX4_best cX4_best 1 (some .int)) rX4_best (va_Pc [.ref (A 5 0)] (PE D κ (fun H => PX D κ A S H))) (QWi Q (fun u H => PX D κ A u H) (aX A)) 0 0 (aX A) := by
  refine Met_of l (own := RX4) (by decide) rfl (Nat.le_of_ble_eq_true rfl) (fun p e s m below meth c Cc hPP ls hl => ?_)
  obtain ⟨hx, hb, hml, hown, hts, hr, hlk, hE⟩ := id Cc
  have hl : lv_has ls 1 [(0, .ref (A 5 0))] := hl
  have hP := hPP
  have hS : va_S (aX A) s.heap s.heap [] := va_S.rf
  unfold pX4_best at h
  refine lv_aload_n hx hb dX4_best_0 rfl (lv_at hl 0 rfl) ?_
  refine gSf_3 Cc hP.c5 (tw_212 hts) dX4_best_1 ?_
  refine lv_aload_n hx hb dX4_best_4 rfl (lv_at hl 0 rfl) ?_
  refine gSf_0 Cc hP.c5 (tw_209 hts) dX4_best_5 ?_
  refine kWi (kV Cc (mX0_leastSum l D κ (A 3) (A 0) (hI.ij (k := 3) (by decide)) (hI.dj (by decide) (by decide) (by decide)) h) (qX0_leastSum hts (tw_393 hts) ⟨(Nat.le_of_ble_eq_true rfl), (Nat.le_of_ble_eq_true rfl)⟩) (va_recv hE.1 hP.c3 (ci := 0) (q0 := 0) rfl rfl) (rest := []) ⟨hP.c3, hP.c0⟩ rfl hl.1 rfl (Nat.le_of_ble_eq_true rfl) dX4_best_8 ⟨Nat.zero_le _, Nat.zero_le _⟩) hS (fun q h9 => aX_of (k := 3) (by decide) h9) (fun r8 u8 H1 locs1 h hB hk hS1 => ?_)
  have hP := PX.put (k := 3) (by decide) hI hP hB hk
  have hS := hS1
  exact W.iret (v := r8) hx hb hr (fun t ht _ => QWi.mk (u := (va_up S 3 u8)) h hP hS ht) hS.2.2 dX4_best_11 (hlocks := hlk)
theorem qX4_best {R : Room} {s : State} {args : Array Value} {own : String} {idx : Nat} (hts : ∀ w ∈ gG, w.before args s = true) (hl : (Cond.methodLink own idx yX4_best).before args s = true) (hR : rX4_best.frames + 1 ≤ R.frames ∧ 8 + (1 + 11) + rX4_best.locals ≤ R.locals) : CallW R s args own RX4 idx yX4_best cX4_best 1 (some .int) (wz yX4_best cX4_best 1 (some .int)) rX4_best 0 0 0 := ⟨kw 0 hts mw_467 rfl rfl (tw_70 hts) hl (by decide +kernel) hR, tw_465 hts, tw_466 hts⟩
abbrev rX4_bestAt : Room := { frames := 4, cells := 0, slots := 0, locals := 98 }
def pX4_bestAt_31 (Q : Int32 → (Nat → Mx) → Prop) (y0 : Int32) (S : Nat → Mx) : Prop := Q y0 S
def pX4_bestAt (S : Nat → Mx) (x1 : Int32) (Q : Int32 → (Nat → Mx) → Prop) : Prop := pX1_has (S 0) x1 (fun r5 => ((r5 = 0 → (pX4_found S 0 (fun r28 u28 => (pX4_bestAt_31 Q r28 u28)))) ∧ (¬ r5 = 0 → (pX0_pieceAt (S 3) (S 0) x1 (fun r20 u20 => (pX4_bestAt_31 Q r20 (va_up S 3 u20)))))))
set_option maxHeartbeats 4000000 in
set_option maxRecDepth 100000 in
theorem bX4_bestAt_31 {p : Program} {l : Launch} {e : Env} {s : State} {m : MethodId} {args : Array Value} {below : List Frame} {meth : Method} {c : Code} {D : va_G} {κ : Nat → ClassId} {A : Nat → Nat → Nat}   {Q : Int32 → (Nat → Mx) → Prop} (Cc : Cx D κ RX4 cX4_bestAt 2 (some .int) p s m args meth c) (hI : IX A)   : ∀ (y0 : Int32) (S : Nat → Mx) (H : Heap) (locs : List Loc) (hP : PX D κ A S H) (hS : va_S (aX A) s.heap H locs) (ls : Array Slot) (hl : lv_has ls 2 []) (h : pX4_bestAt_31 Q y0 S), W p l e rX4_bestAt s m args below meth c H locs 0 0 (MQ below (QWi Q (fun u H => PX D κ A u H) (aX A)) args s 0 0 (aX A)) (F0 m 31 ls [.int y0]) := by
  obtain ⟨hx, hb, hml, hown, hts, hr, hlk, hE⟩ := id Cc
  intro y0 S H locs hP hS ls hl h
  unfold pX4_bestAt_31 at h
  exact W.iret (v := y0) hx hb hr (fun t ht _ => QWi.mk (u := S) h hP hS ht) hS.2.2 dX4_bestAt_31 (hlocks := hlk)
set_option maxHeartbeats 4000000 in
set_option maxRecDepth 100000 in
theorem mX4_bestAt (l : Launch) (D : va_G) (κ : Nat → ClassId) (A : Nat → Nat → Nat) {S : Nat → Mx} {x1 : Int32} {Q : Int32 → (Nat → Mx) → Prop} (hI : IX A) (h : pX4_bestAt S x1 Q) : Met l yX4_bestAt (wz yX4_bestAt cX4_bestAt 2 (some .int)) rX4_bestAt (va_Pc [.ref (A 5 0), .int x1] (PE D κ (fun H => PX D κ A S H))) (QWi Q (fun u H => PX D κ A u H) (aX A)) 0 0 (aX A) := by
  refine Met_of l (own := RX4) (by decide) rfl (Nat.le_of_ble_eq_true rfl) (fun p e s m below meth c Cc hPP ls hl => ?_)
  obtain ⟨hx, hb, hml, hown, hts, hr, hlk, hE⟩ := id Cc
  have hl : lv_has ls 2 [(0, .ref (A 5 0)), (1, .int x1)] := hl
  have hP := hPP
  have hS : va_S (aX A) s.heap s.heap [] := va_S.rf
  unfold pX4_bestAt at h
  refine lv_aload_n hx hb dX4_bestAt_0 rfl (lv_at hl 0 rfl) ?_
  refine gSf_0 Cc hP.c5 (tw_209 hts) dX4_bestAt_1 ?_
  refine lv_iload_n hx hb dX4_bestAt_4 rfl (lv_at hl 1 rfl) ?_
  refine kR (kV Cc (mX1_has l D κ (A 0) h) (qX1_has hts (tw_271 hts) ⟨(Nat.le_of_ble_eq_true rfl), (Nat.le_of_ble_eq_true rfl)⟩) (va_recv hE.1 hP.c0 (ci := 1) (q0 := 0) rfl rfl) (rest := []) hP.c0 rfl hl.1 rfl (Nat.le_of_ble_eq_true rfl) dX4_bestAt_5 ⟨Nat.zero_le _, Nat.zero_le _⟩) (fun r5 h => ?_)
  refine lv_if_eq (tgt := 26) hx hb dX4_bestAt_8 (by decide) (fun c8 => ?_) (fun c8 => ?_)
  · have h := h.1 c8
    refine lv_aload_n hx hb dX4_bestAt_26 rfl (lv_at hl 0 rfl) ?_
    refine lv_iconst (v := 0) hx hb dX4_bestAt_27 (by decide) ?_
    refine kWi (kV Cc (mX4_found l D κ A hI h) (qX4_found hts (tw_244 hts) ⟨(Nat.le_of_ble_eq_true rfl), (Nat.le_of_ble_eq_true rfl)⟩) (va_recv hE.1 hP.c5 (ci := 4) (q0 := 0) rfl rfl) (rest := []) hP rfl hl.1 rfl (Nat.le_of_ble_eq_true rfl) dX4_bestAt_28 ⟨Nat.zero_le _, Nat.zero_le _⟩) hS (fun q h9 => h9) (fun r28 u28 H1 locs1 h hB hk hS1 => ?_)
    have hP := hB
    have hS := hS1
    exact bX4_bestAt_31 Cc hI r28 u28 _ _ hP hS _ (lv_sub hl [] rfl) h
  · have h := h.2 c8
    refine lv_aload_n hx hb dX4_bestAt_11 rfl (lv_at hl 0 rfl) ?_
    refine gSf_3 Cc hP.c5 (tw_212 hts) dX4_bestAt_12 ?_
    refine lv_aload_n hx hb dX4_bestAt_15 rfl (lv_at hl 0 rfl) ?_
    refine gSf_0 Cc hP.c5 (tw_209 hts) dX4_bestAt_16 ?_
    refine lv_iload_n hx hb dX4_bestAt_19 rfl (lv_at hl 1 rfl) ?_
    refine kWi (kV Cc (mX0_pieceAt l D κ (A 3) (A 0) (hI.ij (k := 3) (by decide)) (hI.dj (by decide) (by decide) (by decide)) h) (qX0_pieceAt hts (tw_472 hts) ⟨(Nat.le_of_ble_eq_true rfl), (Nat.le_of_ble_eq_true rfl)⟩) (va_recv hE.1 hP.c3 (ci := 0) (q0 := 0) rfl rfl) (rest := []) ⟨hP.c3, hP.c0⟩ rfl hl.1 rfl (Nat.le_of_ble_eq_true rfl) dX4_bestAt_20 ⟨Nat.zero_le _, Nat.zero_le _⟩) hS (fun q h9 => aX_of (k := 3) (by decide) h9) (fun r20 u20 H1 locs1 h hB hk hS1 => ?_)
    have hP := PX.put (k := 3) (by decide) hI hP hB hk
    have hS := hS1
    refine lv_goto (tgt := 31) hx hb dX4_bestAt_23 (by decide) ?_
    exact bX4_bestAt_31 Cc hI r20 (va_up S 3 u20) _ _ hP hS _ (lv_sub hl [] rfl) h
theorem qX4_bestAt {R : Room} {s : State} {args : Array Value} {own : String} {idx : Nat} (hts : ∀ w ∈ gG, w.before args s = true) (hl : (Cond.methodLink own idx yX4_bestAt).before args s = true) (hR : rX4_bestAt.frames + 1 ≤ R.frames ∧ 8 + (2 + 11) + rX4_bestAt.locals ≤ R.locals) : CallW R s args own RX4 idx yX4_bestAt cX4_bestAt 2 (some .int) (wz yX4_bestAt cX4_bestAt 2 (some .int)) rX4_bestAt 0 0 1 := ⟨kw 1 hts mw_471 rfl rfl (tw_70 hts) hl (by decide +kernel) hR, tw_469 hts, tw_470 hts⟩
abbrev rX4_settle : Room := { frames := 6, cells := 0, slots := 0, locals := 138 }
def pX4_settle_46 (Q : Int32 → (Nat → Mx) → Prop) (x1 : Int32) (S : Nat → Mx) : Prop := Q x1 S
def pX4_settle_4s  (ih4 : Int32 → Int32 → (Nat → Mx) → Prop) (Q : Int32 → (Nat → Mx) → Prop) (x1 : Int32) (x2 : Int32) (S : Nat → Mx) : Prop := (1000000 ≤ x2 → (pX4_settle_46 Q x1 S)) ∧ (¬ 1000000 ≤ x2 → (pX4_leastExchange S (fun r11 u11 => ((0 ≤ r11 → (pX1_exchange (u11 0) (r11 / 10) (r11 - r11 / 10 * 10) (fun u34 => (ih4 (x1 + 1) (x2 + 1) (va_up u11 0 u34))))) ∧ (¬ 0 ≤ r11 → (pX4_settle_46 Q x1 u11))))))
noncomputable def pX4_settle_4 (Q : Int32 → (Nat → Mx) → Prop) (n : Nat) : Int32 → Int32 → (Nat → Mx) → Prop := Nat.rec (motive := fun _ => Int32 → Int32 → (Nat → Mx) → Prop) (fun _ _ _ => False) (fun _ ih => pX4_settle_4s ih Q) n
def pX4_settle (S : Nat → Mx)  (Q : Int32 → (Nat → Mx) → Prop) : Prop := ∃ n, pX4_settle_4 Q n 0 0 S
set_option maxHeartbeats 4000000 in
set_option maxRecDepth 100000 in
theorem bX4_settle_46 {p : Program} {l : Launch} {e : Env} {s : State} {m : MethodId} {args : Array Value} {below : List Frame} {meth : Method} {c : Code} {D : va_G} {κ : Nat → ClassId} {A : Nat → Nat → Nat}   {Q : Int32 → (Nat → Mx) → Prop} (Cc : Cx D κ RX4 cX4_settle 4 (some .int) p s m args meth c) (hI : IX A)   : ∀ (x1 : Int32) (S : Nat → Mx) (H : Heap) (locs : List Loc) (hP : PX D κ A S H) (hS : va_S (aX A) s.heap H locs) (ls : Array Slot) (hl : lv_has ls 4 [(1, .int x1)]) (h : pX4_settle_46 Q x1 S), W p l e rX4_settle s m args below meth c H locs 0 0 (MQ below (QWi Q (fun u H => PX D κ A u H) (aX A)) args s 0 0 (aX A)) (F0 m 46 ls []) := by
  obtain ⟨hx, hb, hml, hown, hts, hr, hlk, hE⟩ := id Cc
  intro x1 S H locs hP hS ls hl h
  unfold pX4_settle_46 at h
  refine lv_iload_n hx hb dX4_settle_46 rfl (lv_at hl 0 rfl) ?_
  exact W.iret (v := x1) hx hb hr (fun t ht _ => QWi.mk (u := S) h hP hS ht) hS.2.2 dX4_settle_47 (hlocks := hlk)
set_option maxHeartbeats 4000000 in
set_option maxRecDepth 100000 in
theorem bX4_settle_4 {p : Program} {l : Launch} {e : Env} {s : State} {m : MethodId} {args : Array Value} {below : List Frame} {meth : Method} {c : Code} {D : va_G} {κ : Nat → ClassId} {A : Nat → Nat → Nat}   {Q : Int32 → (Nat → Mx) → Prop} (Cc : Cx D κ RX4 cX4_settle 4 (some .int) p s m args meth c) (hI : IX A)   (n : Nat) : ∀ (x1 : Int32) (x2 : Int32) (S : Nat → Mx) (H : Heap) (locs : List Loc) (hP : PX D κ A S H) (hS : va_S (aX A) s.heap H locs) (ls : Array Slot) (hl : lv_has ls 4 [(0, .ref (A 5 0)), (1, .int x1), (2, .int x2)]) (h : pX4_settle_4 Q n x1 x2 S), W p l e rX4_settle s m args below meth c H locs 0 0 (MQ below (QWi Q (fun u H => PX D κ A u H) (aX A)) args s 0 0 (aX A)) (F0 m 4 ls []) := by
  obtain ⟨hx, hb, hml, hown, hts, hr, hlk, hE⟩ := id Cc
  induction n with
  | zero =>
    intro x1 x2 S H locs hP hS ls hl h
    exact absurd h (fun z => z)
  | succ n hih4 =>
    intro x1 x2 S H locs hP hS ls hl h
    have h : pX4_settle_4s (pX4_settle_4 Q n) Q x1 x2 S := h
    unfold pX4_settle_4s at h
    refine lv_iload_n hx hb dX4_settle_4 rfl (lv_at hl 2 rfl) ?_
    refine lv_ldc (own := RX4) (v := 1000000) hx hb hown (tw_480 hts) dX4_settle_5 ?_
    refine lv_icmp_ge (tgt := 46) hx hb dX4_settle_7 (by decide) (fun c7 => ?_) (fun c7 => ?_)
    · have h := h.1 c7
      exact bX4_settle_46 Cc hI x1 S _ _ hP hS _ (lv_sub hl [1] rfl) h
    · have h := h.2 c7
      refine lv_aload_n hx hb dX4_settle_10 rfl (lv_at hl 0 rfl) ?_
      refine kWi (kV Cc (mX4_leastExchange l D κ A hI h) (qX4_leastExchange hts (tw_423 hts) ⟨(Nat.le_of_ble_eq_true rfl), (Nat.le_of_ble_eq_true rfl)⟩) (va_recv hE.1 hP.c5 (ci := 4) (q0 := 0) rfl rfl) (rest := []) hP rfl hl.1 rfl (Nat.le_of_ble_eq_true rfl) dX4_settle_11 ⟨Nat.zero_le _, Nat.zero_le _⟩) hS (fun q h9 => h9) (fun r11 u11 H1 locs1 h hB hk hS1 => ?_)
      have hP := hB
      have hS := hS1
      refine lv_istore_n (lv' := [(3, .int r11), (0, .ref (A 5 0)), (1, .int x1), (2, .int x2)]) hx hb dX4_settle_14 rfl hl (by decide) rfl (fun ls hl => ?_)
      refine lv_iload_n hx hb dX4_settle_15 rfl (lv_at hl 0 rfl) ?_
      refine lv_if_ge (tgt := 22) hx hb dX4_settle_16 (by decide) (fun c16 => ?_) (fun c16 => ?_)
      · have h := h.1 c16
        refine lv_aload_n hx hb dX4_settle_22 rfl (lv_at hl 1 rfl) ?_
        refine gSf_0 Cc hP.c5 (tw_209 hts) dX4_settle_23 ?_
        refine lv_iload_n hx hb dX4_settle_26 rfl (lv_at hl 0 rfl) ?_
        refine lv_bipush (v := 10) hx hb dX4_settle_27 (by decide) ?_
        refine lv_idiv hx hb dX4_settle_29 (by decide) ?_
        refine lv_iload_n hx hb dX4_settle_30 rfl (lv_at hl 0 rfl) ?_
        refine lv_bipush (v := 10) hx hb dX4_settle_31 (by decide) ?_
        refine lv_irem hx hb dX4_settle_33 (by decide) ?_
        refine kWv (kV Cc (mX1_exchange l D κ (A 0) (hI.ij (k := 0) (by decide)) h) (qX1_exchange hts (tw_336 hts) ⟨(Nat.le_of_ble_eq_true rfl), (Nat.le_of_ble_eq_true rfl)⟩) (va_recv hE.1 hP.c0 (ci := 1) (q0 := 0) rfl rfl) (rest := []) hP.c0 rfl hl.1 rfl (Nat.le_of_ble_eq_true rfl) dX4_settle_34 ⟨Nat.zero_le _, Nat.zero_le _⟩) hS (fun q h9 => aX_of (k := 0) (by decide) h9) (fun  u34 H1 locs1 h hB hk hS1 => ?_)
        have hP := PX.put (k := 0) (by decide) hI hP hB hk
        have hS := hS1
        refine lv_iinc (v := (x1 + 1)) (lv' := [(1, .int (x1 + 1)), (3, .int r11), (0, .ref (A 5 0)), (2, .int x2)]) hx hb dX4_settle_37 hl (k := 2) rfl rfl (by decide) rfl (fun ls hl => ?_)
        refine lv_iinc (v := (x2 + 1)) (lv' := [(2, .int (x2 + 1)), (1, .int (x1 + 1)), (3, .int r11), (0, .ref (A 5 0))]) hx hb dX4_settle_40 hl (k := 3) rfl rfl (by decide) rfl (fun ls hl => ?_)
        refine lv_goto (tgt := 4) hx hb dX4_settle_43 (by decide) ?_
        exact hih4 (x1 + 1) (x2 + 1) (va_up u11 0 u34) _ _ hP hS _ (lv_sub hl [3, 1, 0] rfl) h
      · have h := h.2 c16
        refine lv_goto (tgt := 46) hx hb dX4_settle_19 (by decide) ?_
        exact bX4_settle_46 Cc hI x1 u11 _ _ hP hS _ (lv_sub hl [2] rfl) h
set_option maxHeartbeats 4000000 in
set_option maxRecDepth 100000 in
theorem mX4_settle (l : Launch) (D : va_G) (κ : Nat → ClassId) (A : Nat → Nat → Nat) {S : Nat → Mx}  {Q : Int32 → (Nat → Mx) → Prop} (hI : IX A) (h : pX4_settle S  Q) : Met l yX4_settle (wz yX4_settle cX4_settle 4 (some .int)) rX4_settle (va_Pc [.ref (A 5 0)] (PE D κ (fun H => PX D κ A S H))) (QWi Q (fun u H => PX D κ A u H) (aX A)) 0 0 (aX A) := by
  refine Met_of l (own := RX4) (by decide) rfl (Nat.le_of_ble_eq_true rfl) (fun p e s m below meth c Cc hPP ls hl => ?_)
  obtain ⟨hx, hb, hml, hown, hts, hr, hlk, hE⟩ := id Cc
  have hl : lv_has ls 4 [(0, .ref (A 5 0))] := hl
  have hP := hPP
  have hS : va_S (aX A) s.heap s.heap [] := va_S.rf
  unfold pX4_settle at h
  refine lv_iconst (v := 0) hx hb dX4_settle_0 (by decide) ?_
  refine lv_istore_n (lv' := [(1, .int 0), (0, .ref (A 5 0))]) hx hb dX4_settle_1 rfl hl (by decide) rfl (fun ls hl => ?_)
  refine lv_iconst (v := 0) hx hb dX4_settle_2 (by decide) ?_
  refine lv_istore_n (lv' := [(2, .int 0), (1, .int 0), (0, .ref (A 5 0))]) hx hb dX4_settle_3 rfl hl (by decide) rfl (fun ls hl => ?_)
  obtain ⟨n, h⟩ := h
  exact bX4_settle_4 Cc hI n 0 0 S _ _ hP hS _ (lv_sub hl [2, 1, 0] rfl) h
theorem qX4_settle {R : Room} {s : State} {args : Array Value} {own : String} {idx : Nat} (hts : ∀ w ∈ gG, w.before args s = true) (hl : (Cond.methodLink own idx yX4_settle).before args s = true) (hR : rX4_settle.frames + 1 ≤ R.frames ∧ 8 + (4 + 11) + rX4_settle.locals ≤ R.locals) : CallW R s args own RX4 idx yX4_settle cX4_settle 4 (some .int) (wz yX4_settle cX4_settle 4 (some .int)) rX4_settle 0 0 0 := ⟨kw 0 hts mw_479 rfl rfl (tw_70 hts) hl (by decide +kernel) hR, tw_477 hts, tw_478 hts⟩
abbrev rX4_bestValueFor : Room := { frames := 4, cells := 0, slots := 0, locals := 95 }
def pX4_bestValueFor_66 (ih21 : Int32 → Int32 → Int32 → Int32 → Int32 → Int32 → (Nat → Mx) → Prop) (Q : Int32 → (Nat → Mx) → Prop) (x1 : Int32) (x2 : Int32) (x3 : Int32) (x4 : Int32) (x5 : Int32) (x6 : Int32) (S : Nat → Mx) : Prop := ih21 x1 x2 x3 x4 x5 (x6 + 1) S
def pX4_bestValueFor_21s  (ih21 : Int32 → Int32 → Int32 → Int32 → Int32 → Int32 → (Nat → Mx) → Prop) (Q : Int32 → (Nat → Mx) → Prop) (x1 : Int32) (x2 : Int32) (x3 : Int32) (x4 : Int32) (x5 : Int32) (x6 : Int32) (S : Nat → Mx) : Prop := (x3 < x6 → (Q x5 S)) ∧ (¬ x3 < x6 → (pX1_become (S 2) x1 x2 x6 (fun u35 => (pX0_leastSum ((va_up S 2 u35) 3) ((va_up S 2 u35) 2) (fun r46 u46 => ((x4 ≤ r46 → (pX4_bestValueFor_66 ih21 Q x1 x2 x3 x4 x5 x6 (va_up (va_up S 2 u35) 3 u46))) ∧ (¬ x4 ≤ r46 → (pX4_bestValueFor_66 ih21 Q x1 x2 x3 r46 x6 x6 (va_up (va_up S 2 u35) 3 u46)))))))))
noncomputable def pX4_bestValueFor_21 (Q : Int32 → (Nat → Mx) → Prop) (n : Nat) : Int32 → Int32 → Int32 → Int32 → Int32 → Int32 → (Nat → Mx) → Prop := Nat.rec (motive := fun _ => Int32 → Int32 → Int32 → Int32 → Int32 → Int32 → (Nat → Mx) → Prop) (fun _ _ _ _ _ _ _ => False) (fun _ ih => pX4_bestValueFor_21s ih Q) n
def pX4_bestValueFor (S : Nat → Mx) (x1 : Int32) (x2 : Int32) (x3 : Int32) (Q : Int32 → (Nat → Mx) → Prop) : Prop := pX1_takeFrom (S 2) (S 0) (fun u8 => (∃ n, pX4_bestValueFor_21 Q n x1 x2 x3 1000000 0 0 (va_up S 2 u8)))
set_option maxHeartbeats 4000000 in
set_option maxRecDepth 100000 in
theorem bX4_bestValueFor_66 {p : Program} {l : Launch} {e : Env} {s : State} {m : MethodId} {args : Array Value} {below : List Frame} {meth : Method} {c : Code} {D : va_G} {κ : Nat → ClassId} {A : Nat → Nat → Nat}  {ih21 : Int32 → Int32 → Int32 → Int32 → Int32 → Int32 → (Nat → Mx) → Prop} {Q : Int32 → (Nat → Mx) → Prop} (Cc : Cx D κ RX4 cX4_bestValueFor 8 (some .int) p s m args meth c) (hI : IX A)  (hih21 : ∀ (x1 : Int32) (x2 : Int32) (x3 : Int32) (x4 : Int32) (x5 : Int32) (x6 : Int32) (S : Nat → Mx) (H : Heap) (locs : List Loc) (hP : PX D κ A S H) (hS : va_S (aX A) s.heap H locs) (ls : Array Slot) (hl : lv_has ls 8 [(0, .ref (A 5 0)), (1, .int x1), (2, .int x2), (3, .int x3), (4, .int x4), (5, .int x5), (6, .int x6)]) (h : ih21 x1 x2 x3 x4 x5 x6 S), W p l e rX4_bestValueFor s m args below meth c H locs 0 0 (MQ below (QWi Q (fun u H => PX D κ A u H) (aX A)) args s 0 0 (aX A)) (F0 m 21 ls [])) : ∀ (x1 : Int32) (x2 : Int32) (x3 : Int32) (x4 : Int32) (x5 : Int32) (x6 : Int32) (S : Nat → Mx) (H : Heap) (locs : List Loc) (hP : PX D κ A S H) (hS : va_S (aX A) s.heap H locs) (ls : Array Slot) (hl : lv_has ls 8 [(0, .ref (A 5 0)), (1, .int x1), (2, .int x2), (3, .int x3), (4, .int x4), (5, .int x5), (6, .int x6)]) (h : pX4_bestValueFor_66 ih21 Q x1 x2 x3 x4 x5 x6 S), W p l e rX4_bestValueFor s m args below meth c H locs 0 0 (MQ below (QWi Q (fun u H => PX D κ A u H) (aX A)) args s 0 0 (aX A)) (F0 m 66 ls []) := by
  obtain ⟨hx, hb, hml, hown, hts, hr, hlk, hE⟩ := id Cc
  intro x1 x2 x3 x4 x5 x6 S H locs hP hS ls hl h
  unfold pX4_bestValueFor_66 at h
  refine lv_iinc (v := (x6 + 1)) (lv' := [(6, .int (x6 + 1)), (0, .ref (A 5 0)), (1, .int x1), (2, .int x2), (3, .int x3), (4, .int x4), (5, .int x5)]) hx hb dX4_bestValueFor_66 hl (k := 6) rfl rfl (by decide) rfl (fun ls hl => ?_)
  refine lv_goto (tgt := 21) hx hb dX4_bestValueFor_69 (by decide) ?_
  exact hih21 x1 x2 x3 x4 x5 (x6 + 1) S _ _ hP hS _ (lv_sub hl [1, 2, 3, 4, 5, 6, 0] rfl) h
set_option maxHeartbeats 4000000 in
set_option maxRecDepth 100000 in
theorem bX4_bestValueFor_21 {p : Program} {l : Launch} {e : Env} {s : State} {m : MethodId} {args : Array Value} {below : List Frame} {meth : Method} {c : Code} {D : va_G} {κ : Nat → ClassId} {A : Nat → Nat → Nat}   {Q : Int32 → (Nat → Mx) → Prop} (Cc : Cx D κ RX4 cX4_bestValueFor 8 (some .int) p s m args meth c) (hI : IX A)   (n : Nat) : ∀ (x1 : Int32) (x2 : Int32) (x3 : Int32) (x4 : Int32) (x5 : Int32) (x6 : Int32) (S : Nat → Mx) (H : Heap) (locs : List Loc) (hP : PX D κ A S H) (hS : va_S (aX A) s.heap H locs) (ls : Array Slot) (hl : lv_has ls 8 [(0, .ref (A 5 0)), (1, .int x1), (2, .int x2), (3, .int x3), (4, .int x4), (5, .int x5), (6, .int x6)]) (h : pX4_bestValueFor_21 Q n x1 x2 x3 x4 x5 x6 S), W p l e rX4_bestValueFor s m args below meth c H locs 0 0 (MQ below (QWi Q (fun u H => PX D κ A u H) (aX A)) args s 0 0 (aX A)) (F0 m 21 ls []) := by
  obtain ⟨hx, hb, hml, hown, hts, hr, hlk, hE⟩ := id Cc
  induction n with
  | zero =>
    intro x1 x2 x3 x4 x5 x6 S H locs hP hS ls hl h
    exact absurd h (fun z => z)
  | succ n hih21 =>
    intro x1 x2 x3 x4 x5 x6 S H locs hP hS ls hl h
    have h : pX4_bestValueFor_21s (pX4_bestValueFor_21 Q n) Q x1 x2 x3 x4 x5 x6 S := h
    unfold pX4_bestValueFor_21s at h
    refine lv_iload hx hb dX4_bestValueFor_21 (lv_at hl 6 rfl) ?_
    refine lv_iload_n hx hb dX4_bestValueFor_23 rfl (lv_at hl 3 rfl) ?_
    refine lv_icmp_gt (tgt := 72) hx hb dX4_bestValueFor_24 (by decide) (fun c24 => ?_) (fun c24 => ?_)
    · have h := h.1 c24
      refine lv_iload hx hb dX4_bestValueFor_72 (lv_at hl 5 rfl) ?_
      exact W.iret (v := x5) hx hb hr (fun t ht _ => QWi.mk (u := S) h hP hS ht) hS.2.2 dX4_bestValueFor_74 (hlocks := hlk)
    · have h := h.2 c24
      refine lv_aload_n hx hb dX4_bestValueFor_27 rfl (lv_at hl 0 rfl) ?_
      refine gSf_2 Cc hP.c5 (tw_211 hts) dX4_bestValueFor_28 ?_
      refine lv_iload_n hx hb dX4_bestValueFor_31 rfl (lv_at hl 1 rfl) ?_
      refine lv_iload_n hx hb dX4_bestValueFor_32 rfl (lv_at hl 2 rfl) ?_
      refine lv_iload hx hb dX4_bestValueFor_33 (lv_at hl 6 rfl) ?_
      refine kWv (kV Cc (mX1_become l D κ (A 2) (hI.ij (k := 2) (by decide)) h) (qX1_become hts (tw_294 hts) ⟨(Nat.le_of_ble_eq_true rfl), (Nat.le_of_ble_eq_true rfl)⟩) (va_recv hE.1 hP.c2 (ci := 1) (q0 := 0) rfl rfl) (rest := []) hP.c2 rfl hl.1 rfl (Nat.le_of_ble_eq_true rfl) dX4_bestValueFor_35 ⟨Nat.zero_le _, Nat.zero_le _⟩) hS (fun q h9 => aX_of (k := 2) (by decide) h9) (fun  u35 H1 locs1 h hB hk hS1 => ?_)
      have hP := PX.put (k := 2) (by decide) hI hP hB hk
      have hS := hS1
      refine lv_aload_n hx hb dX4_bestValueFor_38 rfl (lv_at hl 0 rfl) ?_
      refine gSf_3 Cc hP.c5 (tw_212 hts) dX4_bestValueFor_39 ?_
      refine lv_aload_n hx hb dX4_bestValueFor_42 rfl (lv_at hl 0 rfl) ?_
      refine gSf_2 Cc hP.c5 (tw_211 hts) dX4_bestValueFor_43 ?_
      refine kWi (kV Cc (mX0_leastSum l D κ (A 3) (A 2) (hI.ij (k := 3) (by decide)) (hI.dj (by decide) (by decide) (by decide)) h) (qX0_leastSum hts (tw_393 hts) ⟨(Nat.le_of_ble_eq_true rfl), (Nat.le_of_ble_eq_true rfl)⟩) (va_recv hE.1 hP.c3 (ci := 0) (q0 := 0) rfl rfl) (rest := []) ⟨hP.c3, hP.c2⟩ rfl hl.1 rfl (Nat.le_of_ble_eq_true rfl) dX4_bestValueFor_46 ⟨Nat.zero_le _, Nat.zero_le _⟩) hS (fun q h9 => aX_of (k := 3) (by decide) h9) (fun r46 u46 H1 locs1 h hB hk hS1 => ?_)
      have hP := PX.put (k := 3) (by decide) hI hP hB hk
      have hS := hS1
      refine lv_istore (lv' := [(7, .int r46), (0, .ref (A 5 0)), (1, .int x1), (2, .int x2), (3, .int x3), (4, .int x4), (5, .int x5), (6, .int x6)]) hx hb dX4_bestValueFor_49 hl (by decide) rfl (fun ls hl => ?_)
      refine lv_iload hx hb dX4_bestValueFor_51 (lv_at hl 0 rfl) ?_
      refine lv_iload hx hb dX4_bestValueFor_53 (lv_at hl 5 rfl) ?_
      refine lv_icmp_ge (tgt := 66) hx hb dX4_bestValueFor_55 (by decide) (fun c55 => ?_) (fun c55 => ?_)
      · have h := h.1 c55
        exact bX4_bestValueFor_66 Cc hI hih21 x1 x2 x3 x4 x5 x6 (va_up (va_up S 2 u35) 3 u46) _ _ hP hS _ (lv_sub hl [1, 2, 3, 4, 5, 6, 7] rfl) h
      · have h := h.2 c55
        refine lv_iload hx hb dX4_bestValueFor_58 (lv_at hl 0 rfl) ?_
        refine lv_istore (lv' := [(4, .int r46), (7, .int r46), (0, .ref (A 5 0)), (1, .int x1), (2, .int x2), (3, .int x3), (5, .int x5), (6, .int x6)]) hx hb dX4_bestValueFor_60 hl (by decide) rfl (fun ls hl => ?_)
        refine lv_iload hx hb dX4_bestValueFor_62 (lv_at hl 7 rfl) ?_
        refine lv_istore (lv' := [(5, .int x6), (4, .int r46), (7, .int r46), (0, .ref (A 5 0)), (1, .int x1), (2, .int x2), (3, .int x3), (6, .int x6)]) hx hb dX4_bestValueFor_64 hl (by decide) rfl (fun ls hl => ?_)
        exact bX4_bestValueFor_66 Cc hI hih21 x1 x2 x3 r46 x6 x6 (va_up (va_up S 2 u35) 3 u46) _ _ hP hS _ (lv_sub hl [3, 4, 5, 6, 1, 0, 7] rfl) h
set_option maxHeartbeats 4000000 in
set_option maxRecDepth 100000 in
theorem mX4_bestValueFor (l : Launch) (D : va_G) (κ : Nat → ClassId) (A : Nat → Nat → Nat) {S : Nat → Mx} {x1 : Int32} {x2 : Int32} {x3 : Int32} {Q : Int32 → (Nat → Mx) → Prop} (hI : IX A) (h : pX4_bestValueFor S x1 x2 x3 Q) : Met l yX4_bestValueFor (wz yX4_bestValueFor cX4_bestValueFor 8 (some .int)) rX4_bestValueFor (va_Pc [.ref (A 5 0), .int x1, .int x2, .int x3] (PE D κ (fun H => PX D κ A S H))) (QWi Q (fun u H => PX D κ A u H) (aX A)) 0 0 (aX A) := by
  refine Met_of l (own := RX4) (by decide) rfl (Nat.le_of_ble_eq_true rfl) (fun p e s m below meth c Cc hPP ls hl => ?_)
  obtain ⟨hx, hb, hml, hown, hts, hr, hlk, hE⟩ := id Cc
  have hl : lv_has ls 8 [(0, .ref (A 5 0)), (1, .int x1), (2, .int x2), (3, .int x3)] := hl
  have hP := hPP
  have hS : va_S (aX A) s.heap s.heap [] := va_S.rf
  unfold pX4_bestValueFor at h
  refine lv_aload_n hx hb dX4_bestValueFor_0 rfl (lv_at hl 0 rfl) ?_
  refine gSf_2 Cc hP.c5 (tw_211 hts) dX4_bestValueFor_1 ?_
  refine lv_aload_n hx hb dX4_bestValueFor_4 rfl (lv_at hl 0 rfl) ?_
  refine gSf_0 Cc hP.c5 (tw_209 hts) dX4_bestValueFor_5 ?_
  refine kWv (kV Cc (mX1_takeFrom l D κ (A 2) (A 0) (hI.ij (k := 2) (by decide)) (hI.dj (by decide) (by decide) (by decide)) h) (qX1_takeFrom hts (tw_435 hts) ⟨(Nat.le_of_ble_eq_true rfl), (Nat.le_of_ble_eq_true rfl)⟩) (va_recv hE.1 hP.c2 (ci := 1) (q0 := 0) rfl rfl) (rest := []) ⟨hP.c2, hP.c0⟩ rfl hl.1 rfl (Nat.le_of_ble_eq_true rfl) dX4_bestValueFor_8 ⟨Nat.zero_le _, Nat.zero_le _⟩) hS (fun q h9 => aX_of (k := 2) (by decide) h9) (fun  u8 H1 locs1 h hB hk hS1 => ?_)
  have hP := PX.put (k := 2) (by decide) hI hP hB hk
  have hS := hS1
  refine lv_ldc (own := RX4) (v := 1000000) hx hb hown (tw_480 hts) dX4_bestValueFor_11 ?_
  refine lv_istore (lv' := [(4, .int 1000000), (0, .ref (A 5 0)), (1, .int x1), (2, .int x2), (3, .int x3)]) hx hb dX4_bestValueFor_13 hl (by decide) rfl (fun ls hl => ?_)
  refine lv_iconst (v := 0) hx hb dX4_bestValueFor_15 (by decide) ?_
  refine lv_istore (lv' := [(5, .int 0), (4, .int 1000000), (0, .ref (A 5 0)), (1, .int x1), (2, .int x2), (3, .int x3)]) hx hb dX4_bestValueFor_16 hl (by decide) rfl (fun ls hl => ?_)
  refine lv_iconst (v := 0) hx hb dX4_bestValueFor_18 (by decide) ?_
  refine lv_istore (lv' := [(6, .int 0), (5, .int 0), (4, .int 1000000), (0, .ref (A 5 0)), (1, .int x1), (2, .int x2), (3, .int x3)]) hx hb dX4_bestValueFor_19 hl (by decide) rfl (fun ls hl => ?_)
  obtain ⟨n, h⟩ := h
  exact bX4_bestValueFor_21 Cc hI n x1 x2 x3 1000000 0 0 (va_up S 2 u8) _ _ hP hS _ (lv_sub hl [3, 4, 5, 6, 2, 1, 0] rfl) h
theorem qX4_bestValueFor {R : Room} {s : State} {args : Array Value} {own : String} {idx : Nat} (hts : ∀ w ∈ gG, w.before args s = true) (hl : (Cond.methodLink own idx yX4_bestValueFor).before args s = true) (hR : rX4_bestValueFor.frames + 1 ≤ R.frames ∧ 8 + (8 + 11) + rX4_bestValueFor.locals ≤ R.locals) : CallW R s args own RX4 idx yX4_bestValueFor cX4_bestValueFor 8 (some .int) (wz yX4_bestValueFor cX4_bestValueFor 8 (some .int)) rX4_bestValueFor 0 0 3 := ⟨kw 3 hts mw_488 rfl rfl (tw_70 hts) hl (by decide +kernel) hR, tw_487 hts, tw_8 hts⟩
abbrev rX4_edgeFor : Room := { frames := 5, cells := 0, slots := 0, locals := 122 }
def pX4_edgeFor_27 (Q : Int32 → (Nat → Mx) → Prop) (y0 : Int32) (S : Nat → Mx) : Prop := Q y0 S
def pX4_edgeFor (S : Nat → Mx) (x1 : Int32) (Q : Int32 → (Nat → Mx) → Prop) : Prop := pX1_has (S 0) x1 (fun r5 => ((r5 = 0 → (pX4_found S 0 (fun r24 u24 => (pX4_edgeFor_27 Q r24 u24)))) ∧ (¬ r5 = 0 → (pX4_bestValueFor S x1 1 9 (fun r16 u16 => (pX4_edgeFor_27 Q r16 u16))))))
set_option maxHeartbeats 4000000 in
set_option maxRecDepth 100000 in
theorem bX4_edgeFor_27 {p : Program} {l : Launch} {e : Env} {s : State} {m : MethodId} {args : Array Value} {below : List Frame} {meth : Method} {c : Code} {D : va_G} {κ : Nat → ClassId} {A : Nat → Nat → Nat}   {Q : Int32 → (Nat → Mx) → Prop} (Cc : Cx D κ RX4 cX4_edgeFor 2 (some .int) p s m args meth c) (hI : IX A)   : ∀ (y0 : Int32) (S : Nat → Mx) (H : Heap) (locs : List Loc) (hP : PX D κ A S H) (hS : va_S (aX A) s.heap H locs) (ls : Array Slot) (hl : lv_has ls 2 []) (h : pX4_edgeFor_27 Q y0 S), W p l e rX4_edgeFor s m args below meth c H locs 0 0 (MQ below (QWi Q (fun u H => PX D κ A u H) (aX A)) args s 0 0 (aX A)) (F0 m 27 ls [.int y0]) := by
  obtain ⟨hx, hb, hml, hown, hts, hr, hlk, hE⟩ := id Cc
  intro y0 S H locs hP hS ls hl h
  unfold pX4_edgeFor_27 at h
  exact W.iret (v := y0) hx hb hr (fun t ht _ => QWi.mk (u := S) h hP hS ht) hS.2.2 dX4_edgeFor_27 (hlocks := hlk)
set_option maxHeartbeats 4000000 in
set_option maxRecDepth 100000 in
theorem mX4_edgeFor (l : Launch) (D : va_G) (κ : Nat → ClassId) (A : Nat → Nat → Nat) {S : Nat → Mx} {x1 : Int32} {Q : Int32 → (Nat → Mx) → Prop} (hI : IX A) (h : pX4_edgeFor S x1 Q) : Met l yX4_edgeFor (wz yX4_edgeFor cX4_edgeFor 2 (some .int)) rX4_edgeFor (va_Pc [.ref (A 5 0), .int x1] (PE D κ (fun H => PX D κ A S H))) (QWi Q (fun u H => PX D κ A u H) (aX A)) 0 0 (aX A) := by
  refine Met_of l (own := RX4) (by decide) rfl (Nat.le_of_ble_eq_true rfl) (fun p e s m below meth c Cc hPP ls hl => ?_)
  obtain ⟨hx, hb, hml, hown, hts, hr, hlk, hE⟩ := id Cc
  have hl : lv_has ls 2 [(0, .ref (A 5 0)), (1, .int x1)] := hl
  have hP := hPP
  have hS : va_S (aX A) s.heap s.heap [] := va_S.rf
  unfold pX4_edgeFor at h
  refine lv_aload_n hx hb dX4_edgeFor_0 rfl (lv_at hl 0 rfl) ?_
  refine gSf_0 Cc hP.c5 (tw_209 hts) dX4_edgeFor_1 ?_
  refine lv_iload_n hx hb dX4_edgeFor_4 rfl (lv_at hl 1 rfl) ?_
  refine kR (kV Cc (mX1_has l D κ (A 0) h) (qX1_has hts (tw_271 hts) ⟨(Nat.le_of_ble_eq_true rfl), (Nat.le_of_ble_eq_true rfl)⟩) (va_recv hE.1 hP.c0 (ci := 1) (q0 := 0) rfl rfl) (rest := []) hP.c0 rfl hl.1 rfl (Nat.le_of_ble_eq_true rfl) dX4_edgeFor_5 ⟨Nat.zero_le _, Nat.zero_le _⟩) (fun r5 h => ?_)
  refine lv_if_eq (tgt := 22) hx hb dX4_edgeFor_8 (by decide) (fun c8 => ?_) (fun c8 => ?_)
  · have h := h.1 c8
    refine lv_aload_n hx hb dX4_edgeFor_22 rfl (lv_at hl 0 rfl) ?_
    refine lv_iconst (v := 0) hx hb dX4_edgeFor_23 (by decide) ?_
    refine kWi (kV Cc (mX4_found l D κ A hI h) (qX4_found hts (tw_244 hts) ⟨(Nat.le_of_ble_eq_true rfl), (Nat.le_of_ble_eq_true rfl)⟩) (va_recv hE.1 hP.c5 (ci := 4) (q0 := 0) rfl rfl) (rest := []) hP rfl hl.1 rfl (Nat.le_of_ble_eq_true rfl) dX4_edgeFor_24 ⟨Nat.zero_le _, Nat.zero_le _⟩) hS (fun q h9 => h9) (fun r24 u24 H1 locs1 h hB hk hS1 => ?_)
    have hP := hB
    have hS := hS1
    exact bX4_edgeFor_27 Cc hI r24 u24 _ _ hP hS _ (lv_sub hl [] rfl) h
  · have h := h.2 c8
    refine lv_aload_n hx hb dX4_edgeFor_11 rfl (lv_at hl 0 rfl) ?_
    refine lv_iload_n hx hb dX4_edgeFor_12 rfl (lv_at hl 1 rfl) ?_
    refine lv_iconst (v := 1) hx hb dX4_edgeFor_13 (by decide) ?_
    refine lv_bipush (v := 9) hx hb dX4_edgeFor_14 (by decide) ?_
    refine kWi (kV Cc (mX4_bestValueFor l D κ A hI h) (qX4_bestValueFor hts (tw_485 hts) ⟨(Nat.le_of_ble_eq_true rfl), (Nat.le_of_ble_eq_true rfl)⟩) (va_recv hE.1 hP.c5 (ci := 4) (q0 := 0) rfl rfl) (rest := []) hP rfl hl.1 rfl (Nat.le_of_ble_eq_true rfl) dX4_edgeFor_16 ⟨Nat.zero_le _, Nat.zero_le _⟩) hS (fun q h9 => h9) (fun r16 u16 H1 locs1 h hB hk hS1 => ?_)
    have hP := hB
    have hS := hS1
    refine lv_goto (tgt := 27) hx hb dX4_edgeFor_19 (by decide) ?_
    exact bX4_edgeFor_27 Cc hI r16 u16 _ _ hP hS _ (lv_sub hl [] rfl) h
theorem qX4_edgeFor {R : Room} {s : State} {args : Array Value} {own : String} {idx : Nat} (hts : ∀ w ∈ gG, w.before args s = true) (hl : (Cond.methodLink own idx yX4_edgeFor).before args s = true) (hR : rX4_edgeFor.frames + 1 ≤ R.frames ∧ 8 + (2 + 11) + rX4_edgeFor.locals ≤ R.locals) : CallW R s args own RX4 idx yX4_edgeFor cX4_edgeFor 2 (some .int) (wz yX4_edgeFor cX4_edgeFor 2 (some .int)) rX4_edgeFor 0 0 1 := ⟨kw 1 hts mw_484 rfl rfl (tw_70 hts) hl (by decide +kernel) hR, tw_482 hts, tw_483 hts⟩
abbrev rX4_kindFor : Room := { frames := 5, cells := 0, slots := 0, locals := 122 }
def pX4_kindFor_27 (Q : Int32 → (Nat → Mx) → Prop) (y0 : Int32) (S : Nat → Mx) : Prop := Q y0 S
def pX4_kindFor (S : Nat → Mx) (x1 : Int32) (Q : Int32 → (Nat → Mx) → Prop) : Prop := pX1_has (S 0) x1 (fun r5 => ((r5 = 0 → (pX4_found S 0 (fun r24 u24 => (pX4_kindFor_27 Q r24 u24)))) ∧ (¬ r5 = 0 → (pX4_bestValueFor S x1 0 6 (fun r16 u16 => (pX4_kindFor_27 Q r16 u16))))))
set_option maxHeartbeats 4000000 in
set_option maxRecDepth 100000 in
theorem bX4_kindFor_27 {p : Program} {l : Launch} {e : Env} {s : State} {m : MethodId} {args : Array Value} {below : List Frame} {meth : Method} {c : Code} {D : va_G} {κ : Nat → ClassId} {A : Nat → Nat → Nat}   {Q : Int32 → (Nat → Mx) → Prop} (Cc : Cx D κ RX4 cX4_kindFor 2 (some .int) p s m args meth c) (hI : IX A)   : ∀ (y0 : Int32) (S : Nat → Mx) (H : Heap) (locs : List Loc) (hP : PX D κ A S H) (hS : va_S (aX A) s.heap H locs) (ls : Array Slot) (hl : lv_has ls 2 []) (h : pX4_kindFor_27 Q y0 S), W p l e rX4_kindFor s m args below meth c H locs 0 0 (MQ below (QWi Q (fun u H => PX D κ A u H) (aX A)) args s 0 0 (aX A)) (F0 m 27 ls [.int y0]) := by
  obtain ⟨hx, hb, hml, hown, hts, hr, hlk, hE⟩ := id Cc
  intro y0 S H locs hP hS ls hl h
  unfold pX4_kindFor_27 at h
  exact W.iret (v := y0) hx hb hr (fun t ht _ => QWi.mk (u := S) h hP hS ht) hS.2.2 dX4_kindFor_27 (hlocks := hlk)
set_option maxHeartbeats 4000000 in
set_option maxRecDepth 100000 in
theorem mX4_kindFor (l : Launch) (D : va_G) (κ : Nat → ClassId) (A : Nat → Nat → Nat) {S : Nat → Mx} {x1 : Int32} {Q : Int32 → (Nat → Mx) → Prop} (hI : IX A) (h : pX4_kindFor S x1 Q) : Met l yX4_kindFor (wz yX4_kindFor cX4_kindFor 2 (some .int)) rX4_kindFor (va_Pc [.ref (A 5 0), .int x1] (PE D κ (fun H => PX D κ A S H))) (QWi Q (fun u H => PX D κ A u H) (aX A)) 0 0 (aX A) := by
  refine Met_of l (own := RX4) (by decide) rfl (Nat.le_of_ble_eq_true rfl) (fun p e s m below meth c Cc hPP ls hl => ?_)
  obtain ⟨hx, hb, hml, hown, hts, hr, hlk, hE⟩ := id Cc
  have hl : lv_has ls 2 [(0, .ref (A 5 0)), (1, .int x1)] := hl
  have hP := hPP
  have hS : va_S (aX A) s.heap s.heap [] := va_S.rf
  unfold pX4_kindFor at h
  refine lv_aload_n hx hb dX4_kindFor_0 rfl (lv_at hl 0 rfl) ?_
  refine gSf_0 Cc hP.c5 (tw_209 hts) dX4_kindFor_1 ?_
  refine lv_iload_n hx hb dX4_kindFor_4 rfl (lv_at hl 1 rfl) ?_
  refine kR (kV Cc (mX1_has l D κ (A 0) h) (qX1_has hts (tw_271 hts) ⟨(Nat.le_of_ble_eq_true rfl), (Nat.le_of_ble_eq_true rfl)⟩) (va_recv hE.1 hP.c0 (ci := 1) (q0 := 0) rfl rfl) (rest := []) hP.c0 rfl hl.1 rfl (Nat.le_of_ble_eq_true rfl) dX4_kindFor_5 ⟨Nat.zero_le _, Nat.zero_le _⟩) (fun r5 h => ?_)
  refine lv_if_eq (tgt := 22) hx hb dX4_kindFor_8 (by decide) (fun c8 => ?_) (fun c8 => ?_)
  · have h := h.1 c8
    refine lv_aload_n hx hb dX4_kindFor_22 rfl (lv_at hl 0 rfl) ?_
    refine lv_iconst (v := 0) hx hb dX4_kindFor_23 (by decide) ?_
    refine kWi (kV Cc (mX4_found l D κ A hI h) (qX4_found hts (tw_244 hts) ⟨(Nat.le_of_ble_eq_true rfl), (Nat.le_of_ble_eq_true rfl)⟩) (va_recv hE.1 hP.c5 (ci := 4) (q0 := 0) rfl rfl) (rest := []) hP rfl hl.1 rfl (Nat.le_of_ble_eq_true rfl) dX4_kindFor_24 ⟨Nat.zero_le _, Nat.zero_le _⟩) hS (fun q h9 => h9) (fun r24 u24 H1 locs1 h hB hk hS1 => ?_)
    have hP := hB
    have hS := hS1
    exact bX4_kindFor_27 Cc hI r24 u24 _ _ hP hS _ (lv_sub hl [] rfl) h
  · have h := h.2 c8
    refine lv_aload_n hx hb dX4_kindFor_11 rfl (lv_at hl 0 rfl) ?_
    refine lv_iload_n hx hb dX4_kindFor_12 rfl (lv_at hl 1 rfl) ?_
    refine lv_iconst (v := 0) hx hb dX4_kindFor_13 (by decide) ?_
    refine lv_bipush (v := 6) hx hb dX4_kindFor_14 (by decide) ?_
    refine kWi (kV Cc (mX4_bestValueFor l D κ A hI h) (qX4_bestValueFor hts (tw_485 hts) ⟨(Nat.le_of_ble_eq_true rfl), (Nat.le_of_ble_eq_true rfl)⟩) (va_recv hE.1 hP.c5 (ci := 4) (q0 := 0) rfl rfl) (rest := []) hP rfl hl.1 rfl (Nat.le_of_ble_eq_true rfl) dX4_kindFor_16 ⟨Nat.zero_le _, Nat.zero_le _⟩) hS (fun q h9 => h9) (fun r16 u16 H1 locs1 h hB hk hS1 => ?_)
    have hP := hB
    have hS := hS1
    refine lv_goto (tgt := 27) hx hb dX4_kindFor_19 (by decide) ?_
    exact bX4_kindFor_27 Cc hI r16 u16 _ _ hP hS _ (lv_sub hl [] rfl) h
theorem qX4_kindFor {R : Room} {s : State} {args : Array Value} {own : String} {idx : Nat} (hts : ∀ w ∈ gG, w.before args s = true) (hl : (Cond.methodLink own idx yX4_kindFor).before args s = true) (hR : rX4_kindFor.frames + 1 ≤ R.frames ∧ 8 + (2 + 11) + rX4_kindFor.locals ≤ R.locals) : CallW R s args own RX4 idx yX4_kindFor cX4_kindFor 2 (some .int) (wz yX4_kindFor cX4_kindFor 2 (some .int)) rX4_kindFor 0 0 1 := ⟨kw 1 hts mw_492 rfl rfl (tw_70 hts) hl (by decide +kernel) hR, tw_490 hts, tw_491 hts⟩
abbrev rJ6_bitCount_0f7a4 : Room := { frames := 0, cells := 0, slots := 0, locals := 0 }
def pJ6_bitCount_0f7a4  (x1 : Int32) (Q : Int32 → Prop) : Prop := ∀ v9 : Int32, v9 = (x1 - (((x1.toUInt32 >>> ((1 : Int32).toUInt32 &&& Int32.toUInt32 31)).toInt32) &&& 1431655765)) → (∀ v23 : Int32, v23 = ((v9 &&& 858993459) + (((v9.toUInt32 >>> ((2 : Int32).toUInt32 &&& Int32.toUInt32 31)).toInt32) &&& 858993459)) → (∀ v33 : Int32, v33 = ((v23 + ((v23.toUInt32 >>> ((4 : Int32).toUInt32 &&& Int32.toUInt32 31)).toInt32)) &&& 252645135) → (∀ v40 : Int32, v40 = (v33 + ((v33.toUInt32 >>> ((8 : Int32).toUInt32 &&& Int32.toUInt32 31)).toInt32)) → (∀ v47 : Int32, v47 = (v40 + ((v40.toUInt32 >>> ((16 : Int32).toUInt32 &&& Int32.toUInt32 31)).toInt32)) → (Q (v47 &&& 63))))))
set_option maxHeartbeats 4000000 in
set_option maxRecDepth 100000 in
theorem mJ6_bitCount_0f7a4 (l : Launch) (D : va_G) (κ : Nat → ClassId)   {x1 : Int32} {Q : Int32 → Prop}  (h : pJ6_bitCount_0f7a4  x1 Q) : Met l yJ6_bitCount_0f7a4 (wz yJ6_bitCount_0f7a4 cJ6_bitCount_0f7a4 1 (some .int)) rJ6_bitCount_0f7a4 (va_Pc [.int x1] (PE D κ (fun _ => True))) (RQ Q) 0 0 (fun _ => False) := by
  refine Met_of l (own := RJ6) (by decide) rfl (Nat.le_of_ble_eq_true rfl) (fun p e s m below meth c Cc hPP ls hl => ?_)
  obtain ⟨hx, hb, hml, hown, hts, hr, hlk, hE⟩ := id Cc
  have hl : lv_has ls 1 [(0, .int x1)] := hl
  unfold pJ6_bitCount_0f7a4 at h
  refine lv_iload_n hx hb dJ6_bitCount_0f7a4_0 rfl (lv_at hl 0 rfl) ?_
  refine lv_iload_n hx hb dJ6_bitCount_0f7a4_1 rfl (lv_at hl 0 rfl) ?_
  refine lv_iconst (v := 1) hx hb dJ6_bitCount_0f7a4_2 (by decide) ?_
  refine lv_iushr (v := (x1.toUInt32 >>> ((1 : Int32).toUInt32 &&& Int32.toUInt32 31)).toInt32) hx hb dJ6_bitCount_0f7a4_3 rfl ?_
  refine lv_ldcw (own := RJ6) (v := 1431655765) hx hb hown (tw_500 hts) dJ6_bitCount_0f7a4_4 ?_
  refine lv_iand hx hb dJ6_bitCount_0f7a4_7 ?_
  refine lv_isub hx hb dJ6_bitCount_0f7a4_8 ?_
  refine lv_topi (fun v9 e9 => ?_)
  have h := h v9 e9
  refine lv_istore_n (lv' := [(0, .int v9)]) hx hb dJ6_bitCount_0f7a4_9 rfl hl (by decide) rfl (fun ls hl => ?_)
  refine lv_iload_n hx hb dJ6_bitCount_0f7a4_10 rfl (lv_at hl 0 rfl) ?_
  refine lv_ldcw (own := RJ6) (v := 858993459) hx hb hown (tw_501 hts) dJ6_bitCount_0f7a4_11 ?_
  refine lv_iand hx hb dJ6_bitCount_0f7a4_14 ?_
  refine lv_iload_n hx hb dJ6_bitCount_0f7a4_15 rfl (lv_at hl 0 rfl) ?_
  refine lv_iconst (v := 2) hx hb dJ6_bitCount_0f7a4_16 (by decide) ?_
  refine lv_iushr (v := (v9.toUInt32 >>> ((2 : Int32).toUInt32 &&& Int32.toUInt32 31)).toInt32) hx hb dJ6_bitCount_0f7a4_17 rfl ?_
  refine lv_ldcw (own := RJ6) (v := 858993459) hx hb hown (tw_501 hts) dJ6_bitCount_0f7a4_18 ?_
  refine lv_iand hx hb dJ6_bitCount_0f7a4_21 ?_
  refine lv_iadd hx hb dJ6_bitCount_0f7a4_22 ?_
  refine lv_topi (fun v23 e23 => ?_)
  have h := h v23 e23
  refine lv_istore_n (lv' := [(0, .int v23)]) hx hb dJ6_bitCount_0f7a4_23 rfl hl (by decide) rfl (fun ls hl => ?_)
  refine lv_iload_n hx hb dJ6_bitCount_0f7a4_24 rfl (lv_at hl 0 rfl) ?_
  refine lv_iload_n hx hb dJ6_bitCount_0f7a4_25 rfl (lv_at hl 0 rfl) ?_
  refine lv_iconst (v := 4) hx hb dJ6_bitCount_0f7a4_26 (by decide) ?_
  refine lv_iushr (v := (v23.toUInt32 >>> ((4 : Int32).toUInt32 &&& Int32.toUInt32 31)).toInt32) hx hb dJ6_bitCount_0f7a4_27 rfl ?_
  refine lv_iadd hx hb dJ6_bitCount_0f7a4_28 ?_
  refine lv_ldcw (own := RJ6) (v := 252645135) hx hb hown (tw_502 hts) dJ6_bitCount_0f7a4_29 ?_
  refine lv_iand hx hb dJ6_bitCount_0f7a4_32 ?_
  refine lv_topi (fun v33 e33 => ?_)
  have h := h v33 e33
  refine lv_istore_n (lv' := [(0, .int v33)]) hx hb dJ6_bitCount_0f7a4_33 rfl hl (by decide) rfl (fun ls hl => ?_)
  refine lv_iload_n hx hb dJ6_bitCount_0f7a4_34 rfl (lv_at hl 0 rfl) ?_
  refine lv_iload_n hx hb dJ6_bitCount_0f7a4_35 rfl (lv_at hl 0 rfl) ?_
  refine lv_bipush (v := 8) hx hb dJ6_bitCount_0f7a4_36 (by decide) ?_
  refine lv_iushr (v := (v33.toUInt32 >>> ((8 : Int32).toUInt32 &&& Int32.toUInt32 31)).toInt32) hx hb dJ6_bitCount_0f7a4_38 rfl ?_
  refine lv_iadd hx hb dJ6_bitCount_0f7a4_39 ?_
  refine lv_topi (fun v40 e40 => ?_)
  have h := h v40 e40
  refine lv_istore_n (lv' := [(0, .int v40)]) hx hb dJ6_bitCount_0f7a4_40 rfl hl (by decide) rfl (fun ls hl => ?_)
  refine lv_iload_n hx hb dJ6_bitCount_0f7a4_41 rfl (lv_at hl 0 rfl) ?_
  refine lv_iload_n hx hb dJ6_bitCount_0f7a4_42 rfl (lv_at hl 0 rfl) ?_
  refine lv_bipush (v := 16) hx hb dJ6_bitCount_0f7a4_43 (by decide) ?_
  refine lv_iushr (v := (v40.toUInt32 >>> ((16 : Int32).toUInt32 &&& Int32.toUInt32 31)).toInt32) hx hb dJ6_bitCount_0f7a4_45 rfl ?_
  refine lv_iadd hx hb dJ6_bitCount_0f7a4_46 ?_
  refine lv_topi (fun v47 e47 => ?_)
  have h := h v47 e47
  refine lv_istore_n (lv' := [(0, .int v47)]) hx hb dJ6_bitCount_0f7a4_47 rfl hl (by decide) rfl (fun ls hl => ?_)
  refine lv_iload_n hx hb dJ6_bitCount_0f7a4_48 rfl (lv_at hl 0 rfl) ?_
  refine lv_bipush (v := 63) hx hb dJ6_bitCount_0f7a4_49 (by decide) ?_
  refine lv_iand hx hb dJ6_bitCount_0f7a4_51 ?_
  exact W.iret (v := (v47 &&& 63)) hx hb hr (fun t ht _ => RQ.mk h ht) (fun _ h9 => by cases h9) dJ6_bitCount_0f7a4_52 (hlocks := hlk)
theorem qJ6_bitCount_0f7a4 {R : Room} {s : State} {args : Array Value} {own : String} {idx : Nat} (hts : ∀ w ∈ gG, w.before args s = true) (hl : (Cond.methodLink own idx yJ6_bitCount_0f7a4).before args s = true) (hR : rJ6_bitCount_0f7a4.frames + 1 ≤ R.frames ∧ 8 + (1 + 11) + rJ6_bitCount_0f7a4.locals ≤ R.locals) : CallB R s args own idx yJ6_bitCount_0f7a4 cJ6_bitCount_0f7a4 1 (some .int) (wz yJ6_bitCount_0f7a4 cJ6_bitCount_0f7a4 1 (some .int)) rJ6_bitCount_0f7a4 0 0 1 ∧ (Cond.static yJ6_bitCount_0f7a4).before args s = true := ⟨kw 1 hts mw_499 rfl rfl (tw_78 hts) hl (by decide +kernel) hR, tw_498 hts⟩
abbrev rX4_turn : Room := { frames := 4, cells := 0, slots := 0, locals := 90 }
def pX4_turn_93 (ih32 : Int32 → Int32 → Int32 → Int32 → (Nat → Mx) → Prop) (Q : Int32 → (Nat → Mx) → Prop) (x1 : Int32) (x2 : Int32) (x3 : Int32) (x4 : Int32) (S : Nat → Mx) : Prop := ih32 x1 x2 x3 (x4 + 1) S
def pX4_turn_114 (Q : Int32 → (Nat → Mx) → Prop) (y0 : Int32) (S : Nat → Mx) : Prop := Q y0 S
def pX4_turn_32s  (ih32 : Int32 → Int32 → Int32 → Int32 → (Nat → Mx) → Prop) (Q : Int32 → (Nat → Mx) → Prop) (x1 : Int32) (x2 : Int32) (x3 : Int32) (x4 : Int32) (S : Nat → Mx) : Prop := ((1 <<< (((S 0) 8 0) &&& 31)) ≤ x4 → ((8 < x2 → (pX4_found S 3 (fun r111 u111 => (pX4_turn_114 Q r111 u111)))) ∧ (¬ 8 < x2 → (pX4_turn_114 Q x3 S)))) ∧ (¬ (1 <<< (((S 0) 8 0) &&& 31)) ≤ x4 → (pJ6_bitCount_0f7a4 x4 (fun r48 => ((x2 ≤ r48 → (pX4_turn_93 ih32 Q x1 x2 x3 x4 S)) ∧ (¬ x2 ≤ r48 → (pX1_sumOfRow ((va_up S 2 (st (S 2) 7 0 (((S 0) 7 0) ^^^ x4))) 2) (fun r80 => ((x1 < r80 → (pX4_turn_93 ih32 Q x1 x2 x3 x4 (va_up S 2 (st (S 2) 7 0 (((S 0) 7 0) ^^^ x4))))) ∧ (¬ x1 < r80 → (pX4_turn_93 ih32 Q x1 r48 x4 x4 (va_up S 2 (st (S 2) 7 0 (((S 0) 7 0) ^^^ x4)))))))))))))
noncomputable def pX4_turn_32 (Q : Int32 → (Nat → Mx) → Prop) (n : Nat) : Int32 → Int32 → Int32 → Int32 → (Nat → Mx) → Prop := Nat.rec (motive := fun _ => Int32 → Int32 → Int32 → Int32 → (Nat → Mx) → Prop) (fun _ _ _ _ _ => False) (fun _ ih => pX4_turn_32s ih Q) n
def pX4_turn (S : Nat → Mx) (x1 : Int32) (Q : Int32 → (Nat → Mx) → Prop) : Prop := pX4_isToldSum x1 (fun r1 => ((¬ r1 = 0 → (pX1_takeFrom (S 2) (S 0) (fun u21 => (∃ n, pX4_turn_32 Q n x1 9 0 0 (va_up S 2 u21))))) ∧ (r1 = 0 → (pX4_found S 0 (fun r9 u9 => (Q r9 u9))))))
set_option maxHeartbeats 4000000 in
set_option maxRecDepth 100000 in
theorem bX4_turn_93 {p : Program} {l : Launch} {e : Env} {s : State} {m : MethodId} {args : Array Value} {below : List Frame} {meth : Method} {c : Code} {D : va_G} {κ : Nat → ClassId} {A : Nat → Nat → Nat}  {ih32 : Int32 → Int32 → Int32 → Int32 → (Nat → Mx) → Prop} {Q : Int32 → (Nat → Mx) → Prop} (Cc : Cx D κ RX4 cX4_turn 6 (some .int) p s m args meth c) (hI : IX A)  (hih32 : ∀ (x1 : Int32) (x2 : Int32) (x3 : Int32) (x4 : Int32) (S : Nat → Mx) (H : Heap) (locs : List Loc) (hP : PX D κ A S H) (hS : va_S (aX A) s.heap H locs) (ls : Array Slot) (hl : lv_has ls 6 [(0, .ref (A 5 0)), (1, .int x1), (2, .int x2), (3, .int x3), (4, .int x4)]) (h : ih32 x1 x2 x3 x4 S), W p l e rX4_turn s m args below meth c H locs 0 0 (MQ below (QWi Q (fun u H => PX D κ A u H) (aX A)) args s 0 0 (aX A)) (F0 m 32 ls [])) : ∀ (x1 : Int32) (x2 : Int32) (x3 : Int32) (x4 : Int32) (S : Nat → Mx) (H : Heap) (locs : List Loc) (hP : PX D κ A S H) (hS : va_S (aX A) s.heap H locs) (ls : Array Slot) (hl : lv_has ls 6 [(0, .ref (A 5 0)), (1, .int x1), (2, .int x2), (3, .int x3), (4, .int x4)]) (h : pX4_turn_93 ih32 Q x1 x2 x3 x4 S), W p l e rX4_turn s m args below meth c H locs 0 0 (MQ below (QWi Q (fun u H => PX D κ A u H) (aX A)) args s 0 0 (aX A)) (F0 m 93 ls []) := by
  obtain ⟨hx, hb, hml, hown, hts, hr, hlk, hE⟩ := id Cc
  intro x1 x2 x3 x4 S H locs hP hS ls hl h
  unfold pX4_turn_93 at h
  refine lv_iinc (v := (x4 + 1)) (lv' := [(4, .int (x4 + 1)), (0, .ref (A 5 0)), (1, .int x1), (2, .int x2), (3, .int x3)]) hx hb dX4_turn_93 hl (k := 4) rfl rfl (by decide) rfl (fun ls hl => ?_)
  refine lv_goto (tgt := 32) hx hb dX4_turn_96 (by decide) ?_
  exact hih32 x1 x2 x3 (x4 + 1) S _ _ hP hS _ (lv_sub hl [1, 2, 3, 4, 0] rfl) h
set_option maxHeartbeats 4000000 in
set_option maxRecDepth 100000 in
theorem bX4_turn_114 {p : Program} {l : Launch} {e : Env} {s : State} {m : MethodId} {args : Array Value} {below : List Frame} {meth : Method} {c : Code} {D : va_G} {κ : Nat → ClassId} {A : Nat → Nat → Nat}   {Q : Int32 → (Nat → Mx) → Prop} (Cc : Cx D κ RX4 cX4_turn 6 (some .int) p s m args meth c) (hI : IX A)   : ∀ (y0 : Int32) (S : Nat → Mx) (H : Heap) (locs : List Loc) (hP : PX D κ A S H) (hS : va_S (aX A) s.heap H locs) (ls : Array Slot) (hl : lv_has ls 6 []) (h : pX4_turn_114 Q y0 S), W p l e rX4_turn s m args below meth c H locs 0 0 (MQ below (QWi Q (fun u H => PX D κ A u H) (aX A)) args s 0 0 (aX A)) (F0 m 114 ls [.int y0]) := by
  obtain ⟨hx, hb, hml, hown, hts, hr, hlk, hE⟩ := id Cc
  intro y0 S H locs hP hS ls hl h
  unfold pX4_turn_114 at h
  exact W.iret (v := y0) hx hb hr (fun t ht _ => QWi.mk (u := S) h hP hS ht) hS.2.2 dX4_turn_114 (hlocks := hlk)
set_option maxHeartbeats 4000000 in
set_option maxRecDepth 100000 in
theorem bX4_turn_32 {p : Program} {l : Launch} {e : Env} {s : State} {m : MethodId} {args : Array Value} {below : List Frame} {meth : Method} {c : Code} {D : va_G} {κ : Nat → ClassId} {A : Nat → Nat → Nat}   {Q : Int32 → (Nat → Mx) → Prop} (Cc : Cx D κ RX4 cX4_turn 6 (some .int) p s m args meth c) (hI : IX A)   (n : Nat) : ∀ (x1 : Int32) (x2 : Int32) (x3 : Int32) (x4 : Int32) (S : Nat → Mx) (H : Heap) (locs : List Loc) (hP : PX D κ A S H) (hS : va_S (aX A) s.heap H locs) (ls : Array Slot) (hl : lv_has ls 6 [(0, .ref (A 5 0)), (1, .int x1), (2, .int x2), (3, .int x3), (4, .int x4)]) (h : pX4_turn_32 Q n x1 x2 x3 x4 S), W p l e rX4_turn s m args below meth c H locs 0 0 (MQ below (QWi Q (fun u H => PX D κ A u H) (aX A)) args s 0 0 (aX A)) (F0 m 32 ls []) := by
  obtain ⟨hx, hb, hml, hown, hts, hr, hlk, hE⟩ := id Cc
  induction n with
  | zero =>
    intro x1 x2 x3 x4 S H locs hP hS ls hl h
    exact absurd h (fun z => z)
  | succ n hih32 =>
    intro x1 x2 x3 x4 S H locs hP hS ls hl h
    have h : pX4_turn_32s (pX4_turn_32 Q n) Q x1 x2 x3 x4 S := h
    unfold pX4_turn_32s at h
    refine lv_iload hx hb dX4_turn_32 (lv_at hl 4 rfl) ?_
    refine lv_iconst (v := 1) hx hb dX4_turn_34 (by decide) ?_
    refine lv_aload_n hx hb dX4_turn_35 rfl (lv_at hl 0 rfl) ?_
    refine gSf_0 Cc hP.c5 (tw_209 hts) dX4_turn_36 ?_
    refine gCo_8 Cc hP.c0 (tw_117 hts) dX4_turn_39 ?_
    refine lv_ishl hx hb dX4_turn_42 ?_
    refine lv_icmp_ge (tgt := 99) hx hb dX4_turn_43 (by decide) (fun c43 => ?_) (fun c43 => ?_)
    · have h := h.1 c43
      refine lv_iload_n hx hb dX4_turn_99 rfl (lv_at hl 2 rfl) ?_
      refine lv_bipush (v := 8) hx hb dX4_turn_100 (by decide) ?_
      refine lv_icmp_gt (tgt := 109) hx hb dX4_turn_102 (by decide) (fun c102 => ?_) (fun c102 => ?_)
      · have h := h.1 c102
        refine lv_aload_n hx hb dX4_turn_109 rfl (lv_at hl 0 rfl) ?_
        refine lv_iconst (v := 3) hx hb dX4_turn_110 (by decide) ?_
        refine kWi (kV Cc (mX4_found l D κ A hI h) (qX4_found hts (tw_244 hts) ⟨(Nat.le_of_ble_eq_true rfl), (Nat.le_of_ble_eq_true rfl)⟩) (va_recv hE.1 hP.c5 (ci := 4) (q0 := 0) rfl rfl) (rest := []) hP rfl hl.1 rfl (Nat.le_of_ble_eq_true rfl) dX4_turn_111 ⟨Nat.zero_le _, Nat.zero_le _⟩) hS (fun q h9 => h9) (fun r111 u111 H1 locs1 h hB hk hS1 => ?_)
        have hP := hB
        have hS := hS1
        exact bX4_turn_114 Cc hI r111 u111 _ _ hP hS _ (lv_sub hl [] rfl) h
      · have h := h.2 c102
        refine lv_iload_n hx hb dX4_turn_105 rfl (lv_at hl 3 rfl) ?_
        refine lv_goto (tgt := 114) hx hb dX4_turn_106 (by decide) ?_
        exact bX4_turn_114 Cc hI x3 S _ _ hP hS _ (lv_sub hl [] rfl) h
    · have h := h.2 c43
      refine lv_iload hx hb dX4_turn_46 (lv_at hl 4 rfl) ?_
      refine kR (kS Cc (mJ6_bitCount_0f7a4 l D κ h) (qJ6_bitCount_0f7a4 hts (tw_497 hts) ⟨(Nat.le_of_ble_eq_true rfl), (Nat.le_of_ble_eq_true rfl)⟩) (rest := []) trivial rfl hl.1 rfl (Nat.le_of_ble_eq_true rfl) dX4_turn_48 ⟨Nat.zero_le _, Nat.zero_le _⟩) (fun r48 h => ?_)
      refine lv_istore (lv' := [(5, .int r48), (0, .ref (A 5 0)), (1, .int x1), (2, .int x2), (3, .int x3), (4, .int x4)]) hx hb dX4_turn_51 hl (by decide) rfl (fun ls hl => ?_)
      refine lv_iload hx hb dX4_turn_53 (lv_at hl 0 rfl) ?_
      refine lv_iload_n hx hb dX4_turn_55 rfl (lv_at hl 3 rfl) ?_
      refine lv_icmp_ge (tgt := 93) hx hb dX4_turn_56 (by decide) (fun c56 => ?_) (fun c56 => ?_)
      · have h := h.1 c56
        exact bX4_turn_93 Cc hI hih32 x1 x2 x3 x4 S _ _ hP hS _ (lv_sub hl [1, 2, 3, 4, 5] rfl) h
      · have h := h.2 c56
        refine lv_aload_n hx hb dX4_turn_59 rfl (lv_at hl 1 rfl) ?_
        refine gSf_2 Cc hP.c5 (tw_211 hts) dX4_turn_60 ?_
        refine lv_aload_n hx hb dX4_turn_63 rfl (lv_at hl 1 rfl) ?_
        refine gSf_0 Cc hP.c5 (tw_209 hts) dX4_turn_64 ?_
        refine gCo_7 Cc hP.c0 (tw_114 hts) dX4_turn_67 ?_
        refine lv_iload hx hb dX4_turn_70 (lv_at hl 5 rfl) ?_
        refine lv_ixor hx hb dX4_turn_72 ?_
        refine uCo_7 Cc hP.c2 (hI.ij (k := 2) (by decide)) hS (aX_of (k := 2) (by decide) ⟨0, by decide, rfl⟩) (tw_114 hts) dX4_turn_73 (fun H1 locs1 hB hS1 hk => ?_)
        have hP := PX.put (k := 2) (by decide) hI hP hB (fun q _ hq => hk q (fun e => hq ⟨0, by decide, e⟩))
        have hS := hS1
        refine lv_aload_n hx hb dX4_turn_76 rfl (lv_at hl 1 rfl) ?_
        refine gSf_2 Cc hP.c5 (tw_211 hts) dX4_turn_77 ?_
        refine kR (kV Cc (mX1_sumOfRow l D κ (A 2) h) (qX1_sumOfRow hts (tw_341 hts) ⟨(Nat.le_of_ble_eq_true rfl), (Nat.le_of_ble_eq_true rfl)⟩) (va_recv hE.1 hP.c2 (ci := 1) (q0 := 0) rfl rfl) (rest := []) hP.c2 rfl hl.1 rfl (Nat.le_of_ble_eq_true rfl) dX4_turn_80 ⟨Nat.zero_le _, Nat.zero_le _⟩) (fun r80 h => ?_)
        refine lv_iload_n hx hb dX4_turn_83 rfl (lv_at hl 2 rfl) ?_
        refine lv_icmp_gt (tgt := 93) hx hb dX4_turn_84 (by decide) (fun c84 => ?_) (fun c84 => ?_)
        · have h := h.1 c84
          exact bX4_turn_93 Cc hI hih32 x1 x2 x3 x4 (va_up S 2 (st (S 2) 7 0 (((S 0) 7 0) ^^^ x4))) _ _ hP hS _ (lv_sub hl [1, 2, 3, 4, 5] rfl) h
        · have h := h.2 c84
          refine lv_iload hx hb dX4_turn_87 (lv_at hl 0 rfl) ?_
          refine lv_istore_n (lv' := [(2, .int r48), (5, .int r48), (0, .ref (A 5 0)), (1, .int x1), (3, .int x3), (4, .int x4)]) hx hb dX4_turn_89 rfl hl (by decide) rfl (fun ls hl => ?_)
          refine lv_iload hx hb dX4_turn_90 (lv_at hl 5 rfl) ?_
          refine lv_istore_n (lv' := [(3, .int x4), (2, .int r48), (5, .int r48), (0, .ref (A 5 0)), (1, .int x1), (4, .int x4)]) hx hb dX4_turn_92 rfl hl (by decide) rfl (fun ls hl => ?_)
          exact bX4_turn_93 Cc hI hih32 x1 r48 x4 x4 (va_up S 2 (st (S 2) 7 0 (((S 0) 7 0) ^^^ x4))) _ _ hP hS _ (lv_sub hl [3, 4, 1, 0, 5] rfl) h
set_option maxHeartbeats 4000000 in
set_option maxRecDepth 100000 in
theorem mX4_turn (l : Launch) (D : va_G) (κ : Nat → ClassId) (A : Nat → Nat → Nat) {S : Nat → Mx} {x1 : Int32} {Q : Int32 → (Nat → Mx) → Prop} (hI : IX A) (h : pX4_turn S x1 Q) : Met l yX4_turn (wz yX4_turn cX4_turn 6 (some .int)) rX4_turn (va_Pc [.ref (A 5 0), .int x1] (PE D κ (fun H => PX D κ A S H))) (QWi Q (fun u H => PX D κ A u H) (aX A)) 0 0 (aX A) := by
  refine Met_of l (own := RX4) (by decide) rfl (Nat.le_of_ble_eq_true rfl) (fun p e s m below meth c Cc hPP ls hl => ?_)
  obtain ⟨hx, hb, hml, hown, hts, hr, hlk, hE⟩ := id Cc
  have hl : lv_has ls 6 [(0, .ref (A 5 0)), (1, .int x1)] := hl
  have hP := hPP
  have hS : va_S (aX A) s.heap s.heap [] := va_S.rf
  unfold pX4_turn at h
  refine lv_iload_n hx hb dX4_turn_0 rfl (lv_at hl 1 rfl) ?_
  refine kR (kS Cc (mX4_isToldSum l D κ h) (qX4_isToldSum hts (tw_450 hts) ⟨(Nat.le_of_ble_eq_true rfl), (Nat.le_of_ble_eq_true rfl)⟩) (rest := []) trivial rfl hl.1 rfl (Nat.le_of_ble_eq_true rfl) dX4_turn_1 ⟨Nat.zero_le _, Nat.zero_le _⟩) (fun r1 h => ?_)
  refine lv_if_ne (tgt := 13) hx hb dX4_turn_4 (by decide) (fun c4 => ?_) (fun c4 => ?_)
  · have h := h.1 c4
    refine lv_aload_n hx hb dX4_turn_13 rfl (lv_at hl 0 rfl) ?_
    refine gSf_2 Cc hP.c5 (tw_211 hts) dX4_turn_14 ?_
    refine lv_aload_n hx hb dX4_turn_17 rfl (lv_at hl 0 rfl) ?_
    refine gSf_0 Cc hP.c5 (tw_209 hts) dX4_turn_18 ?_
    refine kWv (kV Cc (mX1_takeFrom l D κ (A 2) (A 0) (hI.ij (k := 2) (by decide)) (hI.dj (by decide) (by decide) (by decide)) h) (qX1_takeFrom hts (tw_435 hts) ⟨(Nat.le_of_ble_eq_true rfl), (Nat.le_of_ble_eq_true rfl)⟩) (va_recv hE.1 hP.c2 (ci := 1) (q0 := 0) rfl rfl) (rest := []) ⟨hP.c2, hP.c0⟩ rfl hl.1 rfl (Nat.le_of_ble_eq_true rfl) dX4_turn_21 ⟨Nat.zero_le _, Nat.zero_le _⟩) hS (fun q h9 => aX_of (k := 2) (by decide) h9) (fun  u21 H1 locs1 h hB hk hS1 => ?_)
    have hP := PX.put (k := 2) (by decide) hI hP hB hk
    have hS := hS1
    refine lv_bipush (v := 9) hx hb dX4_turn_24 (by decide) ?_
    refine lv_istore_n (lv' := [(2, .int 9), (0, .ref (A 5 0)), (1, .int x1)]) hx hb dX4_turn_26 rfl hl (by decide) rfl (fun ls hl => ?_)
    refine lv_iconst (v := 0) hx hb dX4_turn_27 (by decide) ?_
    refine lv_istore_n (lv' := [(3, .int 0), (2, .int 9), (0, .ref (A 5 0)), (1, .int x1)]) hx hb dX4_turn_28 rfl hl (by decide) rfl (fun ls hl => ?_)
    refine lv_iconst (v := 0) hx hb dX4_turn_29 (by decide) ?_
    refine lv_istore (lv' := [(4, .int 0), (3, .int 0), (2, .int 9), (0, .ref (A 5 0)), (1, .int x1)]) hx hb dX4_turn_30 hl (by decide) rfl (fun ls hl => ?_)
    obtain ⟨n, h⟩ := h
    exact bX4_turn_32 Cc hI n x1 9 0 0 (va_up S 2 u21) _ _ hP hS _ (lv_sub hl [3, 4, 2, 1, 0] rfl) h
  · have h := h.2 c4
    refine lv_aload_n hx hb dX4_turn_7 rfl (lv_at hl 0 rfl) ?_
    refine lv_iconst (v := 0) hx hb dX4_turn_8 (by decide) ?_
    refine kWi (kV Cc (mX4_found l D κ A hI h) (qX4_found hts (tw_244 hts) ⟨(Nat.le_of_ble_eq_true rfl), (Nat.le_of_ble_eq_true rfl)⟩) (va_recv hE.1 hP.c5 (ci := 4) (q0 := 0) rfl rfl) (rest := []) hP rfl hl.1 rfl (Nat.le_of_ble_eq_true rfl) dX4_turn_9 ⟨Nat.zero_le _, Nat.zero_le _⟩) hS (fun q h9 => h9) (fun r9 u9 H1 locs1 h hB hk hS1 => ?_)
    have hP := hB
    have hS := hS1
    exact W.iret (v := r9) hx hb hr (fun t ht _ => QWi.mk (u := u9) h hP hS ht) hS.2.2 dX4_turn_12 (hlocks := hlk)
theorem qX4_turn {R : Room} {s : State} {args : Array Value} {own : String} {idx : Nat} (hts : ∀ w ∈ gG, w.before args s = true) (hl : (Cond.methodLink own idx yX4_turn).before args s = true) (hR : rX4_turn.frames + 1 ≤ R.frames ∧ 8 + (6 + 11) + rX4_turn.locals ≤ R.locals) : CallW R s args own RX4 idx yX4_turn cX4_turn 6 (some .int) (wz yX4_turn cX4_turn 6 (some .int)) rX4_turn 0 0 1 := ⟨kw 1 hts mw_496 rfl rfl (tw_70 hts) hl (by decide +kernel) hR, tw_494 hts, tw_495 hts⟩
abbrev rX4_isSheet : Room := { frames := 0, cells := 0, slots := 0, locals := 0 }
def pX4_isSheet_14 (Q : Int32 → Prop) (y0 : Int32) : Prop := (y0 = 0 ∨ y0 = 1) ∧ (Q y0)
def pX4_isSheet_13 (Q : Int32 → Prop)  : Prop := pX4_isSheet_14 Q 0
def pX4_isSheet  (x1 : Int32) (Q : Int32 → Prop) : Prop := (x1 < 0 → (pX4_isSheet_13 Q )) ∧ (¬ x1 < 0 → ((4 ≤ x1 → (pX4_isSheet_13 Q )) ∧ (¬ 4 ≤ x1 → (pX4_isSheet_14 Q 1))))
set_option maxHeartbeats 4000000 in
set_option maxRecDepth 100000 in
theorem bX4_isSheet_14 {p : Program} {l : Launch} {e : Env} {s : State} {m : MethodId} {args : Array Value} {below : List Frame} {meth : Method} {c : Code} {D : va_G} {κ : Nat → ClassId}    {Q : Int32 → Prop} (Cc : Cx D κ RX4 cX4_isSheet 1 (some .boolean) p s m args meth c)    : ∀ (y0 : Int32) (ls : Array Slot) (hl : lv_has ls 1 []) (h : pX4_isSheet_14 Q y0), W p l e rX4_isSheet s m args below meth c s.heap [] 0 0 (MQ below (RQ Q) args s 0 0 (fun _ => False)) (F0 m 14 ls [.int y0]) := by
  obtain ⟨hx, hb, hml, hown, hts, hr, hlk, hE⟩ := id Cc
  intro y0 ls hl h
  unfold pX4_isSheet_14 at h
  exact W.zret (v := y0) (ty := .boolean) hx hb hr (bool_nar h.1) (fun t ht _ => RQ.mk h.2 ht) (fun _ h9 => by cases h9) dX4_isSheet_14 (hlocks := hlk)
set_option maxHeartbeats 4000000 in
set_option maxRecDepth 100000 in
theorem bX4_isSheet_13 {p : Program} {l : Launch} {e : Env} {s : State} {m : MethodId} {args : Array Value} {below : List Frame} {meth : Method} {c : Code} {D : va_G} {κ : Nat → ClassId}    {Q : Int32 → Prop} (Cc : Cx D κ RX4 cX4_isSheet 1 (some .boolean) p s m args meth c)    : ∀ (ls : Array Slot) (hl : lv_has ls 1 []) (h : pX4_isSheet_13 Q ), W p l e rX4_isSheet s m args below meth c s.heap [] 0 0 (MQ below (RQ Q) args s 0 0 (fun _ => False)) (F0 m 13 ls []) := by
  obtain ⟨hx, hb, hml, hown, hts, hr, hlk, hE⟩ := id Cc
  intro ls hl h
  unfold pX4_isSheet_13 at h
  refine lv_iconst (v := 0) hx hb dX4_isSheet_13 (by decide) ?_
  exact bX4_isSheet_14 Cc 0  _ (lv_sub hl [] rfl) h
set_option maxHeartbeats 4000000 in
set_option maxRecDepth 100000 in
theorem mX4_isSheet (l : Launch) (D : va_G) (κ : Nat → ClassId)   {x1 : Int32} {Q : Int32 → Prop}  (h : pX4_isSheet  x1 Q) : Met l yX4_isSheet (wz yX4_isSheet cX4_isSheet 1 (some .boolean)) rX4_isSheet (va_Pc [.int x1] (PE D κ (fun _ => True))) (RQ Q) 0 0 (fun _ => False) := by
  refine Met_of l (own := RX4) (by decide) rfl (Nat.le_of_ble_eq_true rfl) (fun p e s m below meth c Cc hPP ls hl => ?_)
  obtain ⟨hx, hb, hml, hown, hts, hr, hlk, hE⟩ := id Cc
  have hl : lv_has ls 1 [(0, .int x1)] := hl
  unfold pX4_isSheet at h
  refine lv_iload_n hx hb dX4_isSheet_0 rfl (lv_at hl 0 rfl) ?_
  refine lv_if_lt (tgt := 13) hx hb dX4_isSheet_1 (by decide) (fun c1 => ?_) (fun c1 => ?_)
  · have h := h.1 c1
    exact bX4_isSheet_13 Cc   _ (lv_sub hl [] rfl) h
  · have h := h.2 c1
    refine lv_iload_n hx hb dX4_isSheet_4 rfl (lv_at hl 0 rfl) ?_
    refine lv_iconst (v := 4) hx hb dX4_isSheet_5 (by decide) ?_
    refine lv_icmp_ge (tgt := 13) hx hb dX4_isSheet_6 (by decide) (fun c6 => ?_) (fun c6 => ?_)
    · have h := h.1 c6
      exact bX4_isSheet_13 Cc   _ (lv_sub hl [] rfl) h
    · have h := h.2 c6
      refine lv_iconst (v := 1) hx hb dX4_isSheet_9 (by decide) ?_
      refine lv_goto (tgt := 14) hx hb dX4_isSheet_10 (by decide) ?_
      exact bX4_isSheet_14 Cc 1  _ (lv_sub hl [] rfl) h
theorem qX4_isSheet {R : Room} {s : State} {args : Array Value} {own : String} {idx : Nat} (hts : ∀ w ∈ gG, w.before args s = true) (hl : (Cond.methodLink own idx yX4_isSheet).before args s = true) (hR : rX4_isSheet.frames + 1 ≤ R.frames ∧ 8 + (1 + 11) + rX4_isSheet.locals ≤ R.locals) : CallB R s args own idx yX4_isSheet cX4_isSheet 1 (some .boolean) (wz yX4_isSheet cX4_isSheet 1 (some .boolean)) rX4_isSheet 0 0 1 ∧ (Cond.static yX4_isSheet).before args s = true := ⟨kw 1 hts mw_513 rfl rfl (tw_70 hts) hl (by decide +kernel) hR, tw_512 hts⟩
abbrev rX4_wrongSheet : Room := { frames := 1, cells := 0, slots := 0, locals := 20 }
def pX4_wrongSheet_26 (S : Nat → Mx) (Q : Int32 → Prop) (y0 : Int32) : Prop := Q y0
def pX4_wrongSheet (S : Nat → Mx) (x1 : Int32) (Q : Int32 → Prop) : Prop := pX4_isSheet x1 (fun r1 => ((¬ r1 = 0 → (vp_in x1 4 ∧ ((¬ ((S (x1.toNatClampNeg + 6)) 1 0) = 0 → (pX4_wrongSheet_26 S Q (-1))) ∧ (((S (x1.toNatClampNeg + 6)) 1 0) = 0 → (pX4_wrongSheet_26 S Q 5))))) ∧ (r1 = 0 → (Q 0))))
set_option maxHeartbeats 4000000 in
set_option maxRecDepth 100000 in
theorem bX4_wrongSheet_26 {p : Program} {l : Launch} {e : Env} {s : State} {m : MethodId} {args : Array Value} {below : List Frame} {meth : Method} {c : Code} {D : va_G} {κ : Nat → ClassId} {A : Nat → Nat → Nat} {S : Nat → Mx}  {Q : Int32 → Prop} (Cc : Cx D κ RX4 cX4_wrongSheet 2 (some .int) p s m args meth c)  (hP : PX D κ A S s.heap)  : ∀ (y0 : Int32) (ls : Array Slot) (hl : lv_has ls 2 []) (h : pX4_wrongSheet_26 S Q y0), W p l e rX4_wrongSheet s m args below meth c s.heap [] 0 0 (MQ below (RQ Q) args s 0 0 (fun _ => False)) (F0 m 26 ls [.int y0]) := by
  obtain ⟨hx, hb, hml, hown, hts, hr, hlk, hE⟩ := id Cc
  intro y0 ls hl h
  unfold pX4_wrongSheet_26 at h
  exact W.iret (v := y0) hx hb hr (fun t ht _ => RQ.mk h ht) (fun _ h9 => by cases h9) dX4_wrongSheet_26 (hlocks := hlk)
set_option maxHeartbeats 4000000 in
set_option maxRecDepth 100000 in
theorem mX4_wrongSheet (l : Launch) (D : va_G) (κ : Nat → ClassId) (A : Nat → Nat → Nat) {S : Nat → Mx} {x1 : Int32} {Q : Int32 → Prop}  (h : pX4_wrongSheet S x1 Q) : Met l yX4_wrongSheet (wz yX4_wrongSheet cX4_wrongSheet 2 (some .int)) rX4_wrongSheet (va_Pc [.ref (A 5 0), .int x1] (PE D κ (fun H => PX D κ A S H))) (RQ Q) 0 0 (fun _ => False) := by
  refine Met_of l (own := RX4) (by decide) rfl (Nat.le_of_ble_eq_true rfl) (fun p e s m below meth c Cc hPP ls hl => ?_)
  obtain ⟨hx, hb, hml, hown, hts, hr, hlk, hE⟩ := id Cc
  have hl : lv_has ls 2 [(0, .ref (A 5 0)), (1, .int x1)] := hl
  have hP := hPP
  unfold pX4_wrongSheet at h
  refine lv_iload_n hx hb dX4_wrongSheet_0 rfl (lv_at hl 1 rfl) ?_
  refine kR (kS Cc (mX4_isSheet l D κ h) (qX4_isSheet hts (tw_511 hts) ⟨(Nat.le_of_ble_eq_true rfl), (Nat.le_of_ble_eq_true rfl)⟩) (rest := []) trivial rfl hl.1 rfl (Nat.le_of_ble_eq_true rfl) dX4_wrongSheet_1 ⟨Nat.zero_le _, Nat.zero_le _⟩) (fun r1 h => ?_)
  refine lv_if_ne (tgt := 9) hx hb dX4_wrongSheet_4 (by decide) (fun c4 => ?_) (fun c4 => ?_)
  · have h := h.1 c4
    refine lv_aload_n hx hb dX4_wrongSheet_9 rfl (lv_at hl 0 rfl) ?_
    refine gSf_5 Cc hP.c5 (tw_214 hts) dX4_wrongSheet_10 ?_
    refine lv_iload_n hx hb dX4_wrongSheet_13 rfl (lv_at hl 1 rfl) ?_
    refine lSf_s Cc hP.c5 h.1 dX4_wrongSheet_14 ?_
    have hj14 := vin_lt h.1
    have h := h.2
    refine gSh_1 Cc (hP.cs hj14) (tw_199 hts) dX4_wrongSheet_15 ?_
    refine lv_if_ne (tgt := 25) hx hb dX4_wrongSheet_18 (by decide) (fun c18 => ?_) (fun c18 => ?_)
    · have h := h.1 c18
      refine lv_iconst (v := (-1)) hx hb dX4_wrongSheet_25 (by decide) ?_
      exact bX4_wrongSheet_26 Cc hP (-1)  _ (lv_sub hl [] rfl) h
    · have h := h.2 c18
      refine lv_iconst (v := 5) hx hb dX4_wrongSheet_21 (by decide) ?_
      refine lv_goto (tgt := 26) hx hb dX4_wrongSheet_22 (by decide) ?_
      exact bX4_wrongSheet_26 Cc hP 5  _ (lv_sub hl [] rfl) h
  · have h := h.2 c4
    refine lv_iconst (v := 0) hx hb dX4_wrongSheet_7 (by decide) ?_
    exact W.iret (v := 0) hx hb hr (fun t ht _ => RQ.mk h ht) (fun _ h9 => by cases h9) dX4_wrongSheet_8 (hlocks := hlk)
theorem qX4_wrongSheet {R : Room} {s : State} {args : Array Value} {own : String} {idx : Nat} (hts : ∀ w ∈ gG, w.before args s = true) (hl : (Cond.methodLink own idx yX4_wrongSheet).before args s = true) (hR : rX4_wrongSheet.frames + 1 ≤ R.frames ∧ 8 + (2 + 11) + rX4_wrongSheet.locals ≤ R.locals) : CallW R s args own RX4 idx yX4_wrongSheet cX4_wrongSheet 2 (some .int) (wz yX4_wrongSheet cX4_wrongSheet 2 (some .int)) rX4_wrongSheet 0 0 1 := ⟨kw 1 hts mw_510 rfl rfl (tw_70 hts) hl (by decide +kernel) hR, tw_509 hts, tw_9 hts⟩
abbrev rX4_trialGoesAs : Room := { frames := 4, cells := 0, slots := 0, locals := 90 }
def pX4_trialGoesAs_45 (j : Nat) (ih12 : Int32 → Int32 → (Nat → Mx) → Prop) (Q : Int32 → (Nat → Mx) → Prop) (x2 : Int32) (x3 : Int32) (S : Nat → Mx) : Prop := pX1_passYear (S 2) (fun u49 => (ih12 x2 (x3 + 1) (va_up S 2 u49)))
def pX4_trialGoesAs_12s (j : Nat) (ih12 : Int32 → Int32 → (Nat → Mx) → Prop) (Q : Int32 → (Nat → Mx) → Prop) (x2 : Int32) (x3 : Int32) (S : Nat → Mx) : Prop := (x2 ≤ x3 → (Q 1 S)) ∧ (¬ x2 ≤ x3 → (vp_in x3 40 ∧ ((((S (j + 6)) 0 x3.toNatClampNeg) = (-1) → (pX4_trialGoesAs_45 j ih12 Q x2 x3 S)) ∧ (¬ ((S (j + 6)) 0 x3.toNatClampNeg) = (-1) → (vp_in x3 40 ∧ (pX1_sumOfRow (S 2) (fun r37 => ((((S (j + 6)) 0 x3.toNatClampNeg) = r37 → (pX4_trialGoesAs_45 j ih12 Q x2 x3 S)) ∧ (¬ ((S (j + 6)) 0 x3.toNatClampNeg) = r37 → (Q 0 S))))))))))
noncomputable def pX4_trialGoesAs_12 (j : Nat) (Q : Int32 → (Nat → Mx) → Prop) (n : Nat) : Int32 → Int32 → (Nat → Mx) → Prop := Nat.rec (motive := fun _ => Int32 → Int32 → (Nat → Mx) → Prop) (fun _ _ _ => False) (fun _ ih => pX4_trialGoesAs_12s j ih Q) n
def pX4_trialGoesAs (S : Nat → Mx) (j : Nat) (Q : Int32 → (Nat → Mx) → Prop) : Prop := ∀ v6 : Int32, v6 = (if 12 < ((S (j + 6)) 2 0) then 12 else ((S (j + 6)) 2 0)) → (∃ n, pX4_trialGoesAs_12 j Q n v6 0 S)
set_option maxHeartbeats 4000000 in
set_option maxRecDepth 100000 in
theorem bX4_trialGoesAs_45 {p : Program} {l : Launch} {e : Env} {s : State} {m : MethodId} {args : Array Value} {below : List Frame} {meth : Method} {c : Code} {D : va_G} {κ : Nat → ClassId} {A : Nat → Nat → Nat} {j : Nat} {ih12 : Int32 → Int32 → (Nat → Mx) → Prop} {Q : Int32 → (Nat → Mx) → Prop} (Cc : Cx D κ RX4 cX4_trialGoesAs 4 (some .boolean) p s m args meth c) (hj : j < 4) (hI : IX A)  (hih12 : ∀ (x2 : Int32) (x3 : Int32) (S : Nat → Mx) (H : Heap) (locs : List Loc) (hP : PX D κ A S H) (hS : va_S (aX A) s.heap H locs) (ls : Array Slot) (hl : lv_has ls 4 [(0, .ref (A 5 0)), (1, .ref (A (j + 6) 0)), (2, .int x2), (3, .int x3)]) (h : ih12 x2 x3 S), W p l e rX4_trialGoesAs s m args below meth c H locs 0 0 (MQ below (QWi Q (fun u H => PX D κ A u H) (aX A)) args s 0 0 (aX A)) (F0 m 12 ls [])) : ∀ (x2 : Int32) (x3 : Int32) (S : Nat → Mx) (H : Heap) (locs : List Loc) (hP : PX D κ A S H) (hS : va_S (aX A) s.heap H locs) (ls : Array Slot) (hl : lv_has ls 4 [(0, .ref (A 5 0)), (1, .ref (A (j + 6) 0)), (2, .int x2), (3, .int x3)]) (h : pX4_trialGoesAs_45 j ih12 Q x2 x3 S), W p l e rX4_trialGoesAs s m args below meth c H locs 0 0 (MQ below (QWi Q (fun u H => PX D κ A u H) (aX A)) args s 0 0 (aX A)) (F0 m 45 ls []) := by
  obtain ⟨hx, hb, hml, hown, hts, hr, hlk, hE⟩ := id Cc
  intro x2 x3 S H locs hP hS ls hl h
  unfold pX4_trialGoesAs_45 at h
  refine lv_aload_n hx hb dX4_trialGoesAs_45 rfl (lv_at hl 0 rfl) ?_
  refine gSf_2 Cc hP.c5 (tw_211 hts) dX4_trialGoesAs_46 ?_
  refine kWv (kV Cc (mX1_passYear l D κ (A 2) (hI.ij (k := 2) (by decide)) h) (qX1_passYear hts (tw_453 hts) ⟨(Nat.le_of_ble_eq_true rfl), (Nat.le_of_ble_eq_true rfl)⟩) (va_recv hE.1 hP.c2 (ci := 1) (q0 := 0) rfl rfl) (rest := []) hP.c2 rfl hl.1 rfl (Nat.le_of_ble_eq_true rfl) dX4_trialGoesAs_49 ⟨Nat.zero_le _, Nat.zero_le _⟩) hS (fun q h9 => aX_of (k := 2) (by decide) h9) (fun  u49 H1 locs1 h hB hk hS1 => ?_)
  have hP := PX.put (k := 2) (by decide) hI hP hB hk
  have hS := hS1
  refine lv_iinc (v := (x3 + 1)) (lv' := [(3, .int (x3 + 1)), (0, .ref (A 5 0)), (1, .ref (A (j + 6) 0)), (2, .int x2)]) hx hb dX4_trialGoesAs_52 hl (k := 3) rfl rfl (by decide) rfl (fun ls hl => ?_)
  refine lv_goto (tgt := 12) hx hb dX4_trialGoesAs_55 (by decide) ?_
  exact hih12 x2 (x3 + 1) (va_up S 2 u49) _ _ hP hS _ (lv_sub hl [1, 2, 3, 0] rfl) h
set_option maxHeartbeats 4000000 in
set_option maxRecDepth 100000 in
theorem bX4_trialGoesAs_12 {p : Program} {l : Launch} {e : Env} {s : State} {m : MethodId} {args : Array Value} {below : List Frame} {meth : Method} {c : Code} {D : va_G} {κ : Nat → ClassId} {A : Nat → Nat → Nat} {j : Nat}  {Q : Int32 → (Nat → Mx) → Prop} (Cc : Cx D κ RX4 cX4_trialGoesAs 4 (some .boolean) p s m args meth c) (hj : j < 4) (hI : IX A)   (n : Nat) : ∀ (x2 : Int32) (x3 : Int32) (S : Nat → Mx) (H : Heap) (locs : List Loc) (hP : PX D κ A S H) (hS : va_S (aX A) s.heap H locs) (ls : Array Slot) (hl : lv_has ls 4 [(0, .ref (A 5 0)), (1, .ref (A (j + 6) 0)), (2, .int x2), (3, .int x3)]) (h : pX4_trialGoesAs_12 j Q n x2 x3 S), W p l e rX4_trialGoesAs s m args below meth c H locs 0 0 (MQ below (QWi Q (fun u H => PX D κ A u H) (aX A)) args s 0 0 (aX A)) (F0 m 12 ls []) := by
  obtain ⟨hx, hb, hml, hown, hts, hr, hlk, hE⟩ := id Cc
  induction n with
  | zero =>
    intro x2 x3 S H locs hP hS ls hl h
    exact absurd h (fun z => z)
  | succ n hih12 =>
    intro x2 x3 S H locs hP hS ls hl h
    have h : pX4_trialGoesAs_12s j (pX4_trialGoesAs_12 j Q n) Q x2 x3 S := h
    unfold pX4_trialGoesAs_12s at h
    refine lv_iload_n hx hb dX4_trialGoesAs_12 rfl (lv_at hl 3 rfl) ?_
    refine lv_iload_n hx hb dX4_trialGoesAs_13 rfl (lv_at hl 2 rfl) ?_
    refine lv_icmp_ge (tgt := 58) hx hb dX4_trialGoesAs_14 (by decide) (fun c14 => ?_) (fun c14 => ?_)
    · have h := h.1 c14
      refine lv_iconst (v := 1) hx hb dX4_trialGoesAs_58 (by decide) ?_
      exact W.zret (v := 1) (ty := .boolean) hx hb hr rfl (fun t ht _ => QWi.mk (u := S) h hP hS ht) hS.2.2 dX4_trialGoesAs_59 (hlocks := hlk)
    · have h := h.2 c14
      refine lv_aload_n hx hb dX4_trialGoesAs_17 rfl (lv_at hl 1 rfl) ?_
      refine gSh_0 Cc (hP.cs hj) (tw_197 hts) dX4_trialGoesAs_18 ?_
      refine lv_iload_n hx hb dX4_trialGoesAs_21 rfl (lv_at hl 3 rfl) ?_
      refine lSh_0 Cc (hP.cs hj) h.1 dX4_trialGoesAs_22 ?_
      have h := h.2
      refine lv_iconst (v := (-1)) hx hb dX4_trialGoesAs_23 (by decide) ?_
      refine lv_icmp_eq (tgt := 45) hx hb dX4_trialGoesAs_24 (by decide) (fun c24 => ?_) (fun c24 => ?_)
      · have h := h.1 c24
        exact bX4_trialGoesAs_45 Cc hj hI hih12 x2 x3 S _ _ hP hS _ (lv_sub hl [0, 1, 2, 3] rfl) h
      · have h := h.2 c24
        refine lv_aload_n hx hb dX4_trialGoesAs_27 rfl (lv_at hl 1 rfl) ?_
        refine gSh_0 Cc (hP.cs hj) (tw_197 hts) dX4_trialGoesAs_28 ?_
        refine lv_iload_n hx hb dX4_trialGoesAs_31 rfl (lv_at hl 3 rfl) ?_
        refine lSh_0 Cc (hP.cs hj) h.1 dX4_trialGoesAs_32 ?_
        have h := h.2
        refine lv_aload_n hx hb dX4_trialGoesAs_33 rfl (lv_at hl 0 rfl) ?_
        refine gSf_2 Cc hP.c5 (tw_211 hts) dX4_trialGoesAs_34 ?_
        refine kR (kV Cc (mX1_sumOfRow l D κ (A 2) h) (qX1_sumOfRow hts (tw_341 hts) ⟨(Nat.le_of_ble_eq_true rfl), (Nat.le_of_ble_eq_true rfl)⟩) (va_recv hE.1 hP.c2 (ci := 1) (q0 := 0) rfl rfl) (rest := [.int ((S (j + 6)) 0 x3.toNatClampNeg)]) hP.c2 rfl hl.1 rfl (Nat.le_of_ble_eq_true rfl) dX4_trialGoesAs_37 ⟨Nat.zero_le _, Nat.zero_le _⟩) (fun r37 h => ?_)
        refine lv_icmp_eq (tgt := 45) hx hb dX4_trialGoesAs_40 (by decide) (fun c40 => ?_) (fun c40 => ?_)
        · have h := h.1 c40
          exact bX4_trialGoesAs_45 Cc hj hI hih12 x2 x3 S _ _ hP hS _ (lv_sub hl [0, 1, 2, 3] rfl) h
        · have h := h.2 c40
          refine lv_iconst (v := 0) hx hb dX4_trialGoesAs_43 (by decide) ?_
          exact W.zret (v := 0) (ty := .boolean) hx hb hr rfl (fun t ht _ => QWi.mk (u := S) h hP hS ht) hS.2.2 dX4_trialGoesAs_44 (hlocks := hlk)
set_option maxHeartbeats 4000000 in
set_option maxRecDepth 100000 in
theorem mX4_trialGoesAs (l : Launch) (D : va_G) (κ : Nat → ClassId) (A : Nat → Nat → Nat) {S : Nat → Mx} {j : Nat} {Q : Int32 → (Nat → Mx) → Prop} (hj : j < 4) (hI : IX A) (h : pX4_trialGoesAs S j Q) : Met l yX4_trialGoesAs (wz yX4_trialGoesAs cX4_trialGoesAs 4 (some .boolean)) rX4_trialGoesAs (va_Pc [.ref (A 5 0), .ref (A (j + 6) 0)] (PE D κ (fun H => PX D κ A S H))) (QWi Q (fun u H => PX D κ A u H) (aX A)) 0 0 (aX A) := by
  refine Met_of l (own := RX4) (by decide) rfl (Nat.le_of_ble_eq_true rfl) (fun p e s m below meth c Cc hPP ls hl => ?_)
  obtain ⟨hx, hb, hml, hown, hts, hr, hlk, hE⟩ := id Cc
  have hl : lv_has ls 4 [(0, .ref (A 5 0)), (1, .ref (A (j + 6) 0))] := hl
  have hP := hPP
  have hS : va_S (aX A) s.heap s.heap [] := va_S.rf
  unfold pX4_trialGoesAs at h
  refine lv_aload_n hx hb dX4_trialGoesAs_0 rfl (lv_at hl 1 rfl) ?_
  refine gSh_2 Cc (hP.cs hj) (tw_201 hts) dX4_trialGoesAs_1 ?_
  refine lv_bipush (v := 12) hx hb dX4_trialGoesAs_4 (by decide) ?_
  refine va_mmin hx hb (hml.trans hl.1.symm) hown (tw_518 hts) (tw_417 hts) (tw_76 hts) (tw_418 hts) (Nat.le_of_ble_eq_true rfl) (Nat.le_of_ble_eq_true rfl) (Nat.zero_le _) (Nat.zero_le _) dX4_trialGoesAs_6 ?_
  refine lv_topi (fun v6 e6 => ?_)
  have h := h v6 e6
  refine lv_istore_n (lv' := [(2, .int v6), (0, .ref (A 5 0)), (1, .ref (A (j + 6) 0))]) hx hb dX4_trialGoesAs_9 rfl hl (by decide) rfl (fun ls hl => ?_)
  refine lv_iconst (v := 0) hx hb dX4_trialGoesAs_10 (by decide) ?_
  refine lv_istore_n (lv' := [(3, .int 0), (2, .int v6), (0, .ref (A 5 0)), (1, .ref (A (j + 6) 0))]) hx hb dX4_trialGoesAs_11 rfl hl (by decide) rfl (fun ls hl => ?_)
  obtain ⟨n, h⟩ := h
  exact bX4_trialGoesAs_12 Cc hj hI n v6 0 S _ _ hP hS _ (lv_sub hl [2, 3, 1, 0] rfl) h
theorem qX4_trialGoesAs {R : Room} {s : State} {args : Array Value} {own : String} {idx : Nat} (hts : ∀ w ∈ gG, w.before args s = true) (hl : (Cond.methodLink own idx yX4_trialGoesAs).before args s = true) (hR : rX4_trialGoesAs.frames + 1 ≤ R.frames ∧ 8 + (4 + 11) + rX4_trialGoesAs.locals ≤ R.locals) : CallW R s args own RX4 idx yX4_trialGoesAs cX4_trialGoesAs 4 (some .boolean) (wz yX4_trialGoesAs cX4_trialGoesAs 4 (some .boolean)) rX4_trialGoesAs 0 0 1 := ⟨kw 1 hts mw_517 rfl rfl (tw_70 hts) hl (by decide +kernel) hR, tw_516 hts, tw_10 hts⟩
abbrev rX4_fits : Room := { frames := 5, cells := 0, slots := 0, locals := 113 }
def pX4_fits_105 (ih39 : Int32 → Int32 → Int32 → Int32 → (Nat → Mx) → Prop) (ih49 : Int32 → Int32 → Int32 → Int32 → Int32 → (Nat → Mx) → Prop) (Q : Int32 → (Nat → Mx) → Prop) (x1 : Int32) (x2 : Int32) (x4 : Int32) (x5 : Int32) (x6 : Int32) (S : Nat → Mx) : Prop := ih49 x1 x2 x4 x5 (x6 + 1) S
def pX4_fits_49s (ih39 : Int32 → Int32 → Int32 → Int32 → (Nat → Mx) → Prop) (ih49 : Int32 → Int32 → Int32 → Int32 → Int32 → (Nat → Mx) → Prop) (Q : Int32 → (Nat → Mx) → Prop) (x1 : Int32) (x2 : Int32) (x4 : Int32) (x5 : Int32) (x6 : Int32) (S : Nat → Mx) : Prop := (9 < x6 → (ih39 x1 x2 x4 (x5 + 1) S)) ∧ (¬ 9 < x6 → (pX1_takeFrom (S 2) (S 0) (fun u64 => (vp_in x2 8 ∧ (vp_in x2 8 ∧ (vp_in x1 4 ∧ (pX4_trialGoesAs (va_up (va_up (va_up S 2 u64) 2 (st ((va_up S 2 u64) 2) 1 x2.toNatClampNeg x5)) 2 (st ((va_up (va_up S 2 u64) 2 (st ((va_up S 2 u64) 2) 1 x2.toNatClampNeg x5)) 2) 2 x2.toNatClampNeg x6)) x1.toNatClampNeg (fun r96 u96 => ((r96 = 0 → (pX4_fits_105 ih39 ih49 Q x1 x2 x4 x5 x6 u96)) ∧ (¬ r96 = 0 → (pX4_fits_105 ih39 ih49 Q x1 x2 (x4 + 1) x5 x6 u96)))))))))))
noncomputable def pX4_fits_49 (ih39 : Int32 → Int32 → Int32 → Int32 → (Nat → Mx) → Prop) (Q : Int32 → (Nat → Mx) → Prop) (n : Nat) : Int32 → Int32 → Int32 → Int32 → Int32 → (Nat → Mx) → Prop := Nat.rec (motive := fun _ => Int32 → Int32 → Int32 → Int32 → Int32 → (Nat → Mx) → Prop) (fun _ _ _ _ _ _ => False) (fun _ ih => pX4_fits_49s ih39 ih Q) n
def pX4_fits_39s  (ih39 : Int32 → Int32 → Int32 → Int32 → (Nat → Mx) → Prop) (Q : Int32 → (Nat → Mx) → Prop) (x1 : Int32) (x2 : Int32) (x4 : Int32) (x5 : Int32) (S : Nat → Mx) : Prop := (9 < x5 → (Q x4 S)) ∧ (¬ 9 < x5 → (∃ n, pX4_fits_49 ih39 Q n x1 x2 x4 x5 0 S))
noncomputable def pX4_fits_39 (Q : Int32 → (Nat → Mx) → Prop) (n : Nat) : Int32 → Int32 → Int32 → Int32 → (Nat → Mx) → Prop := Nat.rec (motive := fun _ => Int32 → Int32 → Int32 → Int32 → (Nat → Mx) → Prop) (fun _ _ _ _ _ => False) (fun _ ih => pX4_fits_39s ih Q) n
def pX4_fits (S : Nat → Mx) (x1 : Int32) (x2 : Int32) (Q : Int32 → (Nat → Mx) → Prop) : Prop := pX4_wrongSheet S x1 (fun r2 => ((r2 < 0 → (pX1_has (S 0) x2 (fun r21 => ((¬ r21 = 0 → (∃ n, pX4_fits_39 Q n x1 x2 0 0 S)) ∧ (r21 = 0 → (pX4_found S 0 (fun r29 u29 => (Q r29 u29)))))))) ∧ (¬ r2 < 0 → (pX4_found S r2 (fun r12 u12 => (Q r12 u12))))))
set_option maxHeartbeats 4000000 in
set_option maxRecDepth 100000 in
theorem bX4_fits_105 {p : Program} {l : Launch} {e : Env} {s : State} {m : MethodId} {args : Array Value} {below : List Frame} {meth : Method} {c : Code} {D : va_G} {κ : Nat → ClassId} {A : Nat → Nat → Nat}  {ih39 : Int32 → Int32 → Int32 → Int32 → (Nat → Mx) → Prop} {ih49 : Int32 → Int32 → Int32 → Int32 → Int32 → (Nat → Mx) → Prop} {Q : Int32 → (Nat → Mx) → Prop} (Cc : Cx D κ RX4 cX4_fits 7 (some .int) p s m args meth c) (hI : IX A)  (hih39 : ∀ (x1 : Int32) (x2 : Int32) (x4 : Int32) (x5 : Int32) (S : Nat → Mx) (H : Heap) (locs : List Loc) (hP : PX D κ A S H) (hS : va_S (aX A) s.heap H locs) (ls : Array Slot) (hl : lv_has ls 7 [(0, .ref (A 5 0)), (1, .int x1), (2, .int x2), (4, .int x4), (5, .int x5)]) (h : ih39 x1 x2 x4 x5 S), W p l e rX4_fits s m args below meth c H locs 0 0 (MQ below (QWi Q (fun u H => PX D κ A u H) (aX A)) args s 0 0 (aX A)) (F0 m 39 ls [])) (hih49 : ∀ (x1 : Int32) (x2 : Int32) (x4 : Int32) (x5 : Int32) (x6 : Int32) (S : Nat → Mx) (H : Heap) (locs : List Loc) (hP : PX D κ A S H) (hS : va_S (aX A) s.heap H locs) (ls : Array Slot) (hl : lv_has ls 7 [(0, .ref (A 5 0)), (1, .int x1), (2, .int x2), (4, .int x4), (5, .int x5), (6, .int x6)]) (h : ih49 x1 x2 x4 x5 x6 S), W p l e rX4_fits s m args below meth c H locs 0 0 (MQ below (QWi Q (fun u H => PX D κ A u H) (aX A)) args s 0 0 (aX A)) (F0 m 49 ls [])) : ∀ (x1 : Int32) (x2 : Int32) (x4 : Int32) (x5 : Int32) (x6 : Int32) (S : Nat → Mx) (H : Heap) (locs : List Loc) (hP : PX D κ A S H) (hS : va_S (aX A) s.heap H locs) (ls : Array Slot) (hl : lv_has ls 7 [(0, .ref (A 5 0)), (1, .int x1), (2, .int x2), (4, .int x4), (5, .int x5), (6, .int x6)]) (h : pX4_fits_105 ih39 ih49 Q x1 x2 x4 x5 x6 S), W p l e rX4_fits s m args below meth c H locs 0 0 (MQ below (QWi Q (fun u H => PX D κ A u H) (aX A)) args s 0 0 (aX A)) (F0 m 105 ls []) := by
  obtain ⟨hx, hb, hml, hown, hts, hr, hlk, hE⟩ := id Cc
  intro x1 x2 x4 x5 x6 S H locs hP hS ls hl h
  unfold pX4_fits_105 at h
  refine lv_iinc (v := (x6 + 1)) (lv' := [(6, .int (x6 + 1)), (0, .ref (A 5 0)), (1, .int x1), (2, .int x2), (4, .int x4), (5, .int x5)]) hx hb dX4_fits_105 hl (k := 5) rfl rfl (by decide) rfl (fun ls hl => ?_)
  refine lv_goto (tgt := 49) hx hb dX4_fits_108 (by decide) ?_
  exact hih49 x1 x2 x4 x5 (x6 + 1) S _ _ hP hS _ (lv_sub hl [1, 2, 3, 4, 5, 0] rfl) h
set_option maxHeartbeats 4000000 in
set_option maxRecDepth 100000 in
theorem bX4_fits_49 {p : Program} {l : Launch} {e : Env} {s : State} {m : MethodId} {args : Array Value} {below : List Frame} {meth : Method} {c : Code} {D : va_G} {κ : Nat → ClassId} {A : Nat → Nat → Nat}  {ih39 : Int32 → Int32 → Int32 → Int32 → (Nat → Mx) → Prop} {Q : Int32 → (Nat → Mx) → Prop} (Cc : Cx D κ RX4 cX4_fits 7 (some .int) p s m args meth c) (hI : IX A)  (hih39 : ∀ (x1 : Int32) (x2 : Int32) (x4 : Int32) (x5 : Int32) (S : Nat → Mx) (H : Heap) (locs : List Loc) (hP : PX D κ A S H) (hS : va_S (aX A) s.heap H locs) (ls : Array Slot) (hl : lv_has ls 7 [(0, .ref (A 5 0)), (1, .int x1), (2, .int x2), (4, .int x4), (5, .int x5)]) (h : ih39 x1 x2 x4 x5 S), W p l e rX4_fits s m args below meth c H locs 0 0 (MQ below (QWi Q (fun u H => PX D κ A u H) (aX A)) args s 0 0 (aX A)) (F0 m 39 ls [])) (n : Nat) : ∀ (x1 : Int32) (x2 : Int32) (x4 : Int32) (x5 : Int32) (x6 : Int32) (S : Nat → Mx) (H : Heap) (locs : List Loc) (hP : PX D κ A S H) (hS : va_S (aX A) s.heap H locs) (ls : Array Slot) (hl : lv_has ls 7 [(0, .ref (A 5 0)), (1, .int x1), (2, .int x2), (4, .int x4), (5, .int x5), (6, .int x6)]) (h : pX4_fits_49 ih39 Q n x1 x2 x4 x5 x6 S), W p l e rX4_fits s m args below meth c H locs 0 0 (MQ below (QWi Q (fun u H => PX D κ A u H) (aX A)) args s 0 0 (aX A)) (F0 m 49 ls []) := by
  obtain ⟨hx, hb, hml, hown, hts, hr, hlk, hE⟩ := id Cc
  induction n with
  | zero =>
    intro x1 x2 x4 x5 x6 S H locs hP hS ls hl h
    exact absurd h (fun z => z)
  | succ n hih49 =>
    intro x1 x2 x4 x5 x6 S H locs hP hS ls hl h
    have h : pX4_fits_49s ih39 (pX4_fits_49 ih39 Q n) Q x1 x2 x4 x5 x6 S := h
    unfold pX4_fits_49s at h
    refine lv_iload hx hb dX4_fits_49 (lv_at hl 5 rfl) ?_
    refine lv_bipush (v := 9) hx hb dX4_fits_51 (by decide) ?_
    refine lv_icmp_gt (tgt := 111) hx hb dX4_fits_53 (by decide) (fun c53 => ?_) (fun c53 => ?_)
    · have h := h.1 c53
      refine lv_iinc (v := (x5 + 1)) (lv' := [(5, .int (x5 + 1)), (0, .ref (A 5 0)), (1, .int x1), (2, .int x2), (4, .int x4), (6, .int x6)]) hx hb dX4_fits_111 hl (k := 4) rfl rfl (by decide) rfl (fun ls hl => ?_)
      refine lv_goto (tgt := 39) hx hb dX4_fits_114 (by decide) ?_
      exact hih39 x1 x2 x4 (x5 + 1) S _ _ hP hS _ (lv_sub hl [1, 2, 3, 4, 0] rfl) h
    · have h := h.2 c53
      refine lv_aload_n hx hb dX4_fits_56 rfl (lv_at hl 0 rfl) ?_
      refine gSf_2 Cc hP.c5 (tw_211 hts) dX4_fits_57 ?_
      refine lv_aload_n hx hb dX4_fits_60 rfl (lv_at hl 0 rfl) ?_
      refine gSf_0 Cc hP.c5 (tw_209 hts) dX4_fits_61 ?_
      refine kWv (kV Cc (mX1_takeFrom l D κ (A 2) (A 0) (hI.ij (k := 2) (by decide)) (hI.dj (by decide) (by decide) (by decide)) h) (qX1_takeFrom hts (tw_435 hts) ⟨(Nat.le_of_ble_eq_true rfl), (Nat.le_of_ble_eq_true rfl)⟩) (va_recv hE.1 hP.c2 (ci := 1) (q0 := 0) rfl rfl) (rest := []) ⟨hP.c2, hP.c0⟩ rfl hl.1 rfl (Nat.le_of_ble_eq_true rfl) dX4_fits_64 ⟨Nat.zero_le _, Nat.zero_le _⟩) hS (fun q h9 => aX_of (k := 2) (by decide) h9) (fun  u64 H1 locs1 h hB hk hS1 => ?_)
      have hP := PX.put (k := 2) (by decide) hI hP hB hk
      have hS := hS1
      refine lv_aload_n hx hb dX4_fits_67 rfl (lv_at hl 0 rfl) ?_
      refine gSf_2 Cc hP.c5 (tw_211 hts) dX4_fits_68 ?_
      refine gCo_1 Cc hP.c2 (tw_100 hts) dX4_fits_71 ?_
      refine lv_iload_n hx hb dX4_fits_74 rfl (lv_at hl 2 rfl) ?_
      refine lv_iload hx hb dX4_fits_75 (lv_at hl 4 rfl) ?_
      refine sCo_1 Cc hP.c2 (hI.ij (k := 2) (by decide)) hS (aX_of (k := 2) (by decide) ⟨2, by decide, rfl⟩) h.1 dX4_fits_77 (fun H1 locs1 hB hS1 hk => ?_)
      have h := h.2
      have hP := PX.put (k := 2) (by decide) hI hP hB (fun q _ hq => hk q (fun e => hq ⟨2, by decide, e⟩))
      have hS := hS1
      refine lv_aload_n hx hb dX4_fits_78 rfl (lv_at hl 0 rfl) ?_
      refine gSf_2 Cc hP.c5 (tw_211 hts) dX4_fits_79 ?_
      refine gCo_2 Cc hP.c2 (tw_102 hts) dX4_fits_82 ?_
      refine lv_iload_n hx hb dX4_fits_85 rfl (lv_at hl 2 rfl) ?_
      refine lv_iload hx hb dX4_fits_86 (lv_at hl 5 rfl) ?_
      refine sCo_2 Cc hP.c2 (hI.ij (k := 2) (by decide)) hS (aX_of (k := 2) (by decide) ⟨3, by decide, rfl⟩) h.1 dX4_fits_88 (fun H1 locs1 hB hS1 hk => ?_)
      have h := h.2
      have hP := PX.put (k := 2) (by decide) hI hP hB (fun q _ hq => hk q (fun e => hq ⟨3, by decide, e⟩))
      have hS := hS1
      refine lv_aload_n hx hb dX4_fits_89 rfl (lv_at hl 0 rfl) ?_
      refine lv_aload_n hx hb dX4_fits_90 rfl (lv_at hl 0 rfl) ?_
      refine gSf_5 Cc hP.c5 (tw_214 hts) dX4_fits_91 ?_
      refine lv_iload_n hx hb dX4_fits_94 rfl (lv_at hl 1 rfl) ?_
      refine lSf_s Cc hP.c5 h.1 dX4_fits_95 ?_
      have hj95 := vin_lt h.1
      have h := h.2
      refine kWi (kV Cc (mX4_trialGoesAs l D κ A hj95 hI h) (qX4_trialGoesAs hts (tw_514 hts) ⟨(Nat.le_of_ble_eq_true rfl), (Nat.le_of_ble_eq_true rfl)⟩) (va_recv hE.1 hP.c5 (ci := 4) (q0 := 0) rfl rfl) (rest := []) hP rfl hl.1 rfl (Nat.le_of_ble_eq_true rfl) dX4_fits_96 ⟨Nat.zero_le _, Nat.zero_le _⟩) hS (fun q h9 => h9) (fun r96 u96 H1 locs1 h hB hk hS1 => ?_)
      have hP := hB
      have hS := hS1
      refine lv_if_eq (tgt := 105) hx hb dX4_fits_99 (by decide) (fun c99 => ?_) (fun c99 => ?_)
      · have h := h.1 c99
        exact bX4_fits_105 Cc hI hih39 hih49 x1 x2 x4 x5 x6 u96 _ _ hP hS _ (lv_sub hl [0, 1, 2, 3, 4, 5] rfl) h
      · have h := h.2 c99
        refine lv_iinc (v := (x4 + 1)) (lv' := [(4, .int (x4 + 1)), (0, .ref (A 5 0)), (1, .int x1), (2, .int x2), (5, .int x5), (6, .int x6)]) hx hb dX4_fits_102 hl (k := 3) rfl rfl (by decide) rfl (fun ls hl => ?_)
        exact bX4_fits_105 Cc hI hih39 hih49 x1 x2 (x4 + 1) x5 x6 u96 _ _ hP hS _ (lv_sub hl [1, 2, 3, 0, 4, 5] rfl) h
set_option maxHeartbeats 4000000 in
set_option maxRecDepth 100000 in
theorem bX4_fits_39 {p : Program} {l : Launch} {e : Env} {s : State} {m : MethodId} {args : Array Value} {below : List Frame} {meth : Method} {c : Code} {D : va_G} {κ : Nat → ClassId} {A : Nat → Nat → Nat}   {Q : Int32 → (Nat → Mx) → Prop} (Cc : Cx D κ RX4 cX4_fits 7 (some .int) p s m args meth c) (hI : IX A)   (n : Nat) : ∀ (x1 : Int32) (x2 : Int32) (x4 : Int32) (x5 : Int32) (S : Nat → Mx) (H : Heap) (locs : List Loc) (hP : PX D κ A S H) (hS : va_S (aX A) s.heap H locs) (ls : Array Slot) (hl : lv_has ls 7 [(0, .ref (A 5 0)), (1, .int x1), (2, .int x2), (4, .int x4), (5, .int x5)]) (h : pX4_fits_39 Q n x1 x2 x4 x5 S), W p l e rX4_fits s m args below meth c H locs 0 0 (MQ below (QWi Q (fun u H => PX D κ A u H) (aX A)) args s 0 0 (aX A)) (F0 m 39 ls []) := by
  obtain ⟨hx, hb, hml, hown, hts, hr, hlk, hE⟩ := id Cc
  induction n with
  | zero =>
    intro x1 x2 x4 x5 S H locs hP hS ls hl h
    exact absurd h (fun z => z)
  | succ n hih39 =>
    intro x1 x2 x4 x5 S H locs hP hS ls hl h
    have h : pX4_fits_39s (pX4_fits_39 Q n) Q x1 x2 x4 x5 S := h
    unfold pX4_fits_39s at h
    refine lv_iload hx hb dX4_fits_39 (lv_at hl 4 rfl) ?_
    refine lv_bipush (v := 9) hx hb dX4_fits_41 (by decide) ?_
    refine lv_icmp_gt (tgt := 117) hx hb dX4_fits_43 (by decide) (fun c43 => ?_) (fun c43 => ?_)
    · have h := h.1 c43
      refine lv_iload hx hb dX4_fits_117 (lv_at hl 3 rfl) ?_
      exact W.iret (v := x4) hx hb hr (fun t ht _ => QWi.mk (u := S) h hP hS ht) hS.2.2 dX4_fits_119 (hlocks := hlk)
    · have h := h.2 c43
      refine lv_iconst (v := 0) hx hb dX4_fits_46 (by decide) ?_
      refine lv_istore (lv' := [(6, .int 0), (0, .ref (A 5 0)), (1, .int x1), (2, .int x2), (4, .int x4), (5, .int x5)]) hx hb dX4_fits_47 hl (by decide) rfl (fun ls hl => ?_)
      obtain ⟨n, h⟩ := h
      exact bX4_fits_49 Cc hI hih39 n x1 x2 x4 x5 0 S _ _ hP hS _ (lv_sub hl [1, 2, 3, 4, 5, 0] rfl) h
set_option maxHeartbeats 4000000 in
set_option maxRecDepth 100000 in
theorem mX4_fits (l : Launch) (D : va_G) (κ : Nat → ClassId) (A : Nat → Nat → Nat) {S : Nat → Mx} {x1 : Int32} {x2 : Int32} {Q : Int32 → (Nat → Mx) → Prop} (hI : IX A) (h : pX4_fits S x1 x2 Q) : Met l yX4_fits (wz yX4_fits cX4_fits 7 (some .int)) rX4_fits (va_Pc [.ref (A 5 0), .int x1, .int x2] (PE D κ (fun H => PX D κ A S H))) (QWi Q (fun u H => PX D κ A u H) (aX A)) 0 0 (aX A) := by
  refine Met_of l (own := RX4) (by decide) rfl (Nat.le_of_ble_eq_true rfl) (fun p e s m below meth c Cc hPP ls hl => ?_)
  obtain ⟨hx, hb, hml, hown, hts, hr, hlk, hE⟩ := id Cc
  have hl : lv_has ls 7 [(0, .ref (A 5 0)), (1, .int x1), (2, .int x2)] := hl
  have hP := hPP
  have hS : va_S (aX A) s.heap s.heap [] := va_S.rf
  unfold pX4_fits at h
  refine lv_aload_n hx hb dX4_fits_0 rfl (lv_at hl 0 rfl) ?_
  refine lv_iload_n hx hb dX4_fits_1 rfl (lv_at hl 1 rfl) ?_
  refine kR (kV Cc (mX4_wrongSheet l D κ A h) (qX4_wrongSheet hts (tw_507 hts) ⟨(Nat.le_of_ble_eq_true rfl), (Nat.le_of_ble_eq_true rfl)⟩) (va_recv hE.1 hP.c5 (ci := 4) (q0 := 0) rfl rfl) (rest := []) hP rfl hl.1 rfl (Nat.le_of_ble_eq_true rfl) dX4_fits_2 ⟨Nat.zero_le _, Nat.zero_le _⟩) (fun r2 h => ?_)
  refine lv_istore_n (lv' := [(3, .int r2), (0, .ref (A 5 0)), (1, .int x1), (2, .int x2)]) hx hb dX4_fits_5 rfl hl (by decide) rfl (fun ls hl => ?_)
  refine lv_iload_n hx hb dX4_fits_6 rfl (lv_at hl 0 rfl) ?_
  refine lv_if_lt (tgt := 16) hx hb dX4_fits_7 (by decide) (fun c7 => ?_) (fun c7 => ?_)
  · have h := h.1 c7
    refine lv_aload_n hx hb dX4_fits_16 rfl (lv_at hl 1 rfl) ?_
    refine gSf_0 Cc hP.c5 (tw_209 hts) dX4_fits_17 ?_
    refine lv_iload_n hx hb dX4_fits_20 rfl (lv_at hl 3 rfl) ?_
    refine kR (kV Cc (mX1_has l D κ (A 0) h) (qX1_has hts (tw_271 hts) ⟨(Nat.le_of_ble_eq_true rfl), (Nat.le_of_ble_eq_true rfl)⟩) (va_recv hE.1 hP.c0 (ci := 1) (q0 := 0) rfl rfl) (rest := []) hP.c0 rfl hl.1 rfl (Nat.le_of_ble_eq_true rfl) dX4_fits_21 ⟨Nat.zero_le _, Nat.zero_le _⟩) (fun r21 h => ?_)
    refine lv_if_ne (tgt := 33) hx hb dX4_fits_24 (by decide) (fun c24 => ?_) (fun c24 => ?_)
    · have h := h.1 c24
      refine lv_iconst (v := 0) hx hb dX4_fits_33 (by decide) ?_
      refine lv_istore (lv' := [(4, .int 0), (3, .int r2), (0, .ref (A 5 0)), (1, .int x1), (2, .int x2)]) hx hb dX4_fits_34 hl (by decide) rfl (fun ls hl => ?_)
      refine lv_iconst (v := 0) hx hb dX4_fits_36 (by decide) ?_
      refine lv_istore (lv' := [(5, .int 0), (4, .int 0), (3, .int r2), (0, .ref (A 5 0)), (1, .int x1), (2, .int x2)]) hx hb dX4_fits_37 hl (by decide) rfl (fun ls hl => ?_)
      obtain ⟨n, h⟩ := h
      exact bX4_fits_39 Cc hI n x1 x2 0 0 S _ _ hP hS _ (lv_sub hl [3, 4, 5, 1, 0] rfl) h
    · have h := h.2 c24
      refine lv_aload_n hx hb dX4_fits_27 rfl (lv_at hl 1 rfl) ?_
      refine lv_iconst (v := 0) hx hb dX4_fits_28 (by decide) ?_
      refine kWi (kV Cc (mX4_found l D κ A hI h) (qX4_found hts (tw_244 hts) ⟨(Nat.le_of_ble_eq_true rfl), (Nat.le_of_ble_eq_true rfl)⟩) (va_recv hE.1 hP.c5 (ci := 4) (q0 := 0) rfl rfl) (rest := []) hP rfl hl.1 rfl (Nat.le_of_ble_eq_true rfl) dX4_fits_29 ⟨Nat.zero_le _, Nat.zero_le _⟩) hS (fun q h9 => h9) (fun r29 u29 H1 locs1 h hB hk hS1 => ?_)
      have hP := hB
      have hS := hS1
      exact W.iret (v := r29) hx hb hr (fun t ht _ => QWi.mk (u := u29) h hP hS ht) hS.2.2 dX4_fits_32 (hlocks := hlk)
  · have h := h.2 c7
    refine lv_aload_n hx hb dX4_fits_10 rfl (lv_at hl 1 rfl) ?_
    refine lv_iload_n hx hb dX4_fits_11 rfl (lv_at hl 0 rfl) ?_
    refine kWi (kV Cc (mX4_found l D κ A hI h) (qX4_found hts (tw_244 hts) ⟨(Nat.le_of_ble_eq_true rfl), (Nat.le_of_ble_eq_true rfl)⟩) (va_recv hE.1 hP.c5 (ci := 4) (q0 := 0) rfl rfl) (rest := []) hP rfl hl.1 rfl (Nat.le_of_ble_eq_true rfl) dX4_fits_12 ⟨Nat.zero_le _, Nat.zero_le _⟩) hS (fun q h9 => h9) (fun r12 u12 H1 locs1 h hB hk hS1 => ?_)
    have hP := hB
    have hS := hS1
    exact W.iret (v := r12) hx hb hr (fun t ht _ => QWi.mk (u := u12) h hP hS ht) hS.2.2 dX4_fits_15 (hlocks := hlk)
theorem qX4_fits {R : Room} {s : State} {args : Array Value} {own : String} {idx : Nat} (hts : ∀ w ∈ gG, w.before args s = true) (hl : (Cond.methodLink own idx yX4_fits).before args s = true) (hR : rX4_fits.frames + 1 ≤ R.frames ∧ 8 + (7 + 11) + rX4_fits.locals ≤ R.locals) : CallW R s args own RX4 idx yX4_fits cX4_fits 7 (some .int) (wz yX4_fits cX4_fits 7 (some .int)) rX4_fits 0 0 2 := ⟨kw 2 hts mw_506 rfl rfl (tw_70 hts) hl (by decide +kernel) hR, tw_504 hts, tw_505 hts⟩
abbrev rX4_kinds : Room := { frames := 5, cells := 0, slots := 0, locals := 113 }
def pX4_kinds_90 (ih39 : Int32 → Int32 → Int32 → Int32 → (Nat → Mx) → Prop) (Q : Int32 → (Nat → Mx) → Prop) (x1 : Int32) (x2 : Int32) (x4 : Int32) (x5 : Int32) (S : Nat → Mx) : Prop := ih39 x1 x2 x4 (x5 + 1) S
def pX4_kinds_39s  (ih39 : Int32 → Int32 → Int32 → Int32 → (Nat → Mx) → Prop) (Q : Int32 → (Nat → Mx) → Prop) (x1 : Int32) (x2 : Int32) (x4 : Int32) (x5 : Int32) (S : Nat → Mx) : Prop := (7 ≤ x5 → (Q x4 S)) ∧ (¬ 7 ≤ x5 → (pX1_takeFrom (S 2) (S 0) (fun u54 => (vp_in x2 8 ∧ (vp_in x1 4 ∧ (pX4_trialGoesAs (va_up (va_up S 2 u54) 2 (st ((va_up S 2 u54) 2) 0 x2.toNatClampNeg x5)) x1.toNatClampNeg (fun r75 u75 => ((r75 = 0 → (pX4_kinds_90 ih39 Q x1 x2 x4 x5 u75)) ∧ (¬ r75 = 0 → (∀ v88 : Int32, v88 = (x4 ||| (1 <<< (x5 &&& 31))) → (pX4_kinds_90 ih39 Q x1 x2 v88 x5 u75)))))))))))
noncomputable def pX4_kinds_39 (Q : Int32 → (Nat → Mx) → Prop) (n : Nat) : Int32 → Int32 → Int32 → Int32 → (Nat → Mx) → Prop := Nat.rec (motive := fun _ => Int32 → Int32 → Int32 → Int32 → (Nat → Mx) → Prop) (fun _ _ _ _ _ => False) (fun _ ih => pX4_kinds_39s ih Q) n
def pX4_kinds (S : Nat → Mx) (x1 : Int32) (x2 : Int32) (Q : Int32 → (Nat → Mx) → Prop) : Prop := pX4_wrongSheet S x1 (fun r2 => ((r2 < 0 → (pX1_has (S 0) x2 (fun r21 => ((¬ r21 = 0 → (∃ n, pX4_kinds_39 Q n x1 x2 0 0 S)) ∧ (r21 = 0 → (pX4_found S 0 (fun r29 u29 => (Q r29 u29)))))))) ∧ (¬ r2 < 0 → (pX4_found S r2 (fun r12 u12 => (Q r12 u12))))))
set_option maxHeartbeats 4000000 in
set_option maxRecDepth 100000 in
theorem bX4_kinds_90 {p : Program} {l : Launch} {e : Env} {s : State} {m : MethodId} {args : Array Value} {below : List Frame} {meth : Method} {c : Code} {D : va_G} {κ : Nat → ClassId} {A : Nat → Nat → Nat}  {ih39 : Int32 → Int32 → Int32 → Int32 → (Nat → Mx) → Prop} {Q : Int32 → (Nat → Mx) → Prop} (Cc : Cx D κ RX4 cX4_kinds 6 (some .int) p s m args meth c) (hI : IX A)  (hih39 : ∀ (x1 : Int32) (x2 : Int32) (x4 : Int32) (x5 : Int32) (S : Nat → Mx) (H : Heap) (locs : List Loc) (hP : PX D κ A S H) (hS : va_S (aX A) s.heap H locs) (ls : Array Slot) (hl : lv_has ls 6 [(0, .ref (A 5 0)), (1, .int x1), (2, .int x2), (4, .int x4), (5, .int x5)]) (h : ih39 x1 x2 x4 x5 S), W p l e rX4_kinds s m args below meth c H locs 0 0 (MQ below (QWi Q (fun u H => PX D κ A u H) (aX A)) args s 0 0 (aX A)) (F0 m 39 ls [])) : ∀ (x1 : Int32) (x2 : Int32) (x4 : Int32) (x5 : Int32) (S : Nat → Mx) (H : Heap) (locs : List Loc) (hP : PX D κ A S H) (hS : va_S (aX A) s.heap H locs) (ls : Array Slot) (hl : lv_has ls 6 [(0, .ref (A 5 0)), (1, .int x1), (2, .int x2), (4, .int x4), (5, .int x5)]) (h : pX4_kinds_90 ih39 Q x1 x2 x4 x5 S), W p l e rX4_kinds s m args below meth c H locs 0 0 (MQ below (QWi Q (fun u H => PX D κ A u H) (aX A)) args s 0 0 (aX A)) (F0 m 90 ls []) := by
  obtain ⟨hx, hb, hml, hown, hts, hr, hlk, hE⟩ := id Cc
  intro x1 x2 x4 x5 S H locs hP hS ls hl h
  unfold pX4_kinds_90 at h
  refine lv_iinc (v := (x5 + 1)) (lv' := [(5, .int (x5 + 1)), (0, .ref (A 5 0)), (1, .int x1), (2, .int x2), (4, .int x4)]) hx hb dX4_kinds_90 hl (k := 4) rfl rfl (by decide) rfl (fun ls hl => ?_)
  refine lv_goto (tgt := 39) hx hb dX4_kinds_93 (by decide) ?_
  exact hih39 x1 x2 x4 (x5 + 1) S _ _ hP hS _ (lv_sub hl [1, 2, 3, 4, 0] rfl) h
set_option maxHeartbeats 4000000 in
set_option maxRecDepth 100000 in
theorem bX4_kinds_39 {p : Program} {l : Launch} {e : Env} {s : State} {m : MethodId} {args : Array Value} {below : List Frame} {meth : Method} {c : Code} {D : va_G} {κ : Nat → ClassId} {A : Nat → Nat → Nat}   {Q : Int32 → (Nat → Mx) → Prop} (Cc : Cx D κ RX4 cX4_kinds 6 (some .int) p s m args meth c) (hI : IX A)   (n : Nat) : ∀ (x1 : Int32) (x2 : Int32) (x4 : Int32) (x5 : Int32) (S : Nat → Mx) (H : Heap) (locs : List Loc) (hP : PX D κ A S H) (hS : va_S (aX A) s.heap H locs) (ls : Array Slot) (hl : lv_has ls 6 [(0, .ref (A 5 0)), (1, .int x1), (2, .int x2), (4, .int x4), (5, .int x5)]) (h : pX4_kinds_39 Q n x1 x2 x4 x5 S), W p l e rX4_kinds s m args below meth c H locs 0 0 (MQ below (QWi Q (fun u H => PX D κ A u H) (aX A)) args s 0 0 (aX A)) (F0 m 39 ls []) := by
  obtain ⟨hx, hb, hml, hown, hts, hr, hlk, hE⟩ := id Cc
  induction n with
  | zero =>
    intro x1 x2 x4 x5 S H locs hP hS ls hl h
    exact absurd h (fun z => z)
  | succ n hih39 =>
    intro x1 x2 x4 x5 S H locs hP hS ls hl h
    have h : pX4_kinds_39s (pX4_kinds_39 Q n) Q x1 x2 x4 x5 S := h
    unfold pX4_kinds_39s at h
    refine lv_iload hx hb dX4_kinds_39 (lv_at hl 4 rfl) ?_
    refine lv_bipush (v := 7) hx hb dX4_kinds_41 (by decide) ?_
    refine lv_icmp_ge (tgt := 96) hx hb dX4_kinds_43 (by decide) (fun c43 => ?_) (fun c43 => ?_)
    · have h := h.1 c43
      refine lv_iload hx hb dX4_kinds_96 (lv_at hl 3 rfl) ?_
      exact W.iret (v := x4) hx hb hr (fun t ht _ => QWi.mk (u := S) h hP hS ht) hS.2.2 dX4_kinds_98 (hlocks := hlk)
    · have h := h.2 c43
      refine lv_aload_n hx hb dX4_kinds_46 rfl (lv_at hl 0 rfl) ?_
      refine gSf_2 Cc hP.c5 (tw_211 hts) dX4_kinds_47 ?_
      refine lv_aload_n hx hb dX4_kinds_50 rfl (lv_at hl 0 rfl) ?_
      refine gSf_0 Cc hP.c5 (tw_209 hts) dX4_kinds_51 ?_
      refine kWv (kV Cc (mX1_takeFrom l D κ (A 2) (A 0) (hI.ij (k := 2) (by decide)) (hI.dj (by decide) (by decide) (by decide)) h) (qX1_takeFrom hts (tw_435 hts) ⟨(Nat.le_of_ble_eq_true rfl), (Nat.le_of_ble_eq_true rfl)⟩) (va_recv hE.1 hP.c2 (ci := 1) (q0 := 0) rfl rfl) (rest := []) ⟨hP.c2, hP.c0⟩ rfl hl.1 rfl (Nat.le_of_ble_eq_true rfl) dX4_kinds_54 ⟨Nat.zero_le _, Nat.zero_le _⟩) hS (fun q h9 => aX_of (k := 2) (by decide) h9) (fun  u54 H1 locs1 h hB hk hS1 => ?_)
      have hP := PX.put (k := 2) (by decide) hI hP hB hk
      have hS := hS1
      refine lv_aload_n hx hb dX4_kinds_57 rfl (lv_at hl 0 rfl) ?_
      refine gSf_2 Cc hP.c5 (tw_211 hts) dX4_kinds_58 ?_
      refine gCo_0 Cc hP.c2 (tw_98 hts) dX4_kinds_61 ?_
      refine lv_iload_n hx hb dX4_kinds_64 rfl (lv_at hl 2 rfl) ?_
      refine lv_iload hx hb dX4_kinds_65 (lv_at hl 4 rfl) ?_
      refine sCo_0 Cc hP.c2 (hI.ij (k := 2) (by decide)) hS (aX_of (k := 2) (by decide) ⟨1, by decide, rfl⟩) h.1 dX4_kinds_67 (fun H1 locs1 hB hS1 hk => ?_)
      have h := h.2
      have hP := PX.put (k := 2) (by decide) hI hP hB (fun q _ hq => hk q (fun e => hq ⟨1, by decide, e⟩))
      have hS := hS1
      refine lv_aload_n hx hb dX4_kinds_68 rfl (lv_at hl 0 rfl) ?_
      refine lv_aload_n hx hb dX4_kinds_69 rfl (lv_at hl 0 rfl) ?_
      refine gSf_5 Cc hP.c5 (tw_214 hts) dX4_kinds_70 ?_
      refine lv_iload_n hx hb dX4_kinds_73 rfl (lv_at hl 1 rfl) ?_
      refine lSf_s Cc hP.c5 h.1 dX4_kinds_74 ?_
      have hj74 := vin_lt h.1
      have h := h.2
      refine kWi (kV Cc (mX4_trialGoesAs l D κ A hj74 hI h) (qX4_trialGoesAs hts (tw_514 hts) ⟨(Nat.le_of_ble_eq_true rfl), (Nat.le_of_ble_eq_true rfl)⟩) (va_recv hE.1 hP.c5 (ci := 4) (q0 := 0) rfl rfl) (rest := []) hP rfl hl.1 rfl (Nat.le_of_ble_eq_true rfl) dX4_kinds_75 ⟨Nat.zero_le _, Nat.zero_le _⟩) hS (fun q h9 => h9) (fun r75 u75 H1 locs1 h hB hk hS1 => ?_)
      have hP := hB
      have hS := hS1
      refine lv_if_eq (tgt := 90) hx hb dX4_kinds_78 (by decide) (fun c78 => ?_) (fun c78 => ?_)
      · have h := h.1 c78
        exact bX4_kinds_90 Cc hI hih39 x1 x2 x4 x5 u75 _ _ hP hS _ (lv_sub hl [0, 1, 2, 3, 4] rfl) h
      · have h := h.2 c78
        refine lv_iload hx hb dX4_kinds_81 (lv_at hl 3 rfl) ?_
        refine lv_iconst (v := 1) hx hb dX4_kinds_83 (by decide) ?_
        refine lv_iload hx hb dX4_kinds_84 (lv_at hl 4 rfl) ?_
        refine lv_ishl hx hb dX4_kinds_86 ?_
        refine lv_ior hx hb dX4_kinds_87 ?_
        refine lv_topi (fun v88 e88 => ?_)
        have h := h v88 e88
        refine lv_istore (lv' := [(4, .int v88), (0, .ref (A 5 0)), (1, .int x1), (2, .int x2), (5, .int x5)]) hx hb dX4_kinds_88 hl (by decide) rfl (fun ls hl => ?_)
        exact bX4_kinds_90 Cc hI hih39 x1 x2 v88 x5 u75 _ _ hP hS _ (lv_sub hl [1, 2, 3, 0, 4] rfl) h
set_option maxHeartbeats 4000000 in
set_option maxRecDepth 100000 in
theorem mX4_kinds (l : Launch) (D : va_G) (κ : Nat → ClassId) (A : Nat → Nat → Nat) {S : Nat → Mx} {x1 : Int32} {x2 : Int32} {Q : Int32 → (Nat → Mx) → Prop} (hI : IX A) (h : pX4_kinds S x1 x2 Q) : Met l yX4_kinds (wz yX4_kinds cX4_kinds 6 (some .int)) rX4_kinds (va_Pc [.ref (A 5 0), .int x1, .int x2] (PE D κ (fun H => PX D κ A S H))) (QWi Q (fun u H => PX D κ A u H) (aX A)) 0 0 (aX A) := by
  refine Met_of l (own := RX4) (by decide) rfl (Nat.le_of_ble_eq_true rfl) (fun p e s m below meth c Cc hPP ls hl => ?_)
  obtain ⟨hx, hb, hml, hown, hts, hr, hlk, hE⟩ := id Cc
  have hl : lv_has ls 6 [(0, .ref (A 5 0)), (1, .int x1), (2, .int x2)] := hl
  have hP := hPP
  have hS : va_S (aX A) s.heap s.heap [] := va_S.rf
  unfold pX4_kinds at h
  refine lv_aload_n hx hb dX4_kinds_0 rfl (lv_at hl 0 rfl) ?_
  refine lv_iload_n hx hb dX4_kinds_1 rfl (lv_at hl 1 rfl) ?_
  refine kR (kV Cc (mX4_wrongSheet l D κ A h) (qX4_wrongSheet hts (tw_507 hts) ⟨(Nat.le_of_ble_eq_true rfl), (Nat.le_of_ble_eq_true rfl)⟩) (va_recv hE.1 hP.c5 (ci := 4) (q0 := 0) rfl rfl) (rest := []) hP rfl hl.1 rfl (Nat.le_of_ble_eq_true rfl) dX4_kinds_2 ⟨Nat.zero_le _, Nat.zero_le _⟩) (fun r2 h => ?_)
  refine lv_istore_n (lv' := [(3, .int r2), (0, .ref (A 5 0)), (1, .int x1), (2, .int x2)]) hx hb dX4_kinds_5 rfl hl (by decide) rfl (fun ls hl => ?_)
  refine lv_iload_n hx hb dX4_kinds_6 rfl (lv_at hl 0 rfl) ?_
  refine lv_if_lt (tgt := 16) hx hb dX4_kinds_7 (by decide) (fun c7 => ?_) (fun c7 => ?_)
  · have h := h.1 c7
    refine lv_aload_n hx hb dX4_kinds_16 rfl (lv_at hl 1 rfl) ?_
    refine gSf_0 Cc hP.c5 (tw_209 hts) dX4_kinds_17 ?_
    refine lv_iload_n hx hb dX4_kinds_20 rfl (lv_at hl 3 rfl) ?_
    refine kR (kV Cc (mX1_has l D κ (A 0) h) (qX1_has hts (tw_271 hts) ⟨(Nat.le_of_ble_eq_true rfl), (Nat.le_of_ble_eq_true rfl)⟩) (va_recv hE.1 hP.c0 (ci := 1) (q0 := 0) rfl rfl) (rest := []) hP.c0 rfl hl.1 rfl (Nat.le_of_ble_eq_true rfl) dX4_kinds_21 ⟨Nat.zero_le _, Nat.zero_le _⟩) (fun r21 h => ?_)
    refine lv_if_ne (tgt := 33) hx hb dX4_kinds_24 (by decide) (fun c24 => ?_) (fun c24 => ?_)
    · have h := h.1 c24
      refine lv_iconst (v := 0) hx hb dX4_kinds_33 (by decide) ?_
      refine lv_istore (lv' := [(4, .int 0), (3, .int r2), (0, .ref (A 5 0)), (1, .int x1), (2, .int x2)]) hx hb dX4_kinds_34 hl (by decide) rfl (fun ls hl => ?_)
      refine lv_iconst (v := 0) hx hb dX4_kinds_36 (by decide) ?_
      refine lv_istore (lv' := [(5, .int 0), (4, .int 0), (3, .int r2), (0, .ref (A 5 0)), (1, .int x1), (2, .int x2)]) hx hb dX4_kinds_37 hl (by decide) rfl (fun ls hl => ?_)
      obtain ⟨n, h⟩ := h
      exact bX4_kinds_39 Cc hI n x1 x2 0 0 S _ _ hP hS _ (lv_sub hl [3, 4, 5, 1, 0] rfl) h
    · have h := h.2 c24
      refine lv_aload_n hx hb dX4_kinds_27 rfl (lv_at hl 1 rfl) ?_
      refine lv_iconst (v := 0) hx hb dX4_kinds_28 (by decide) ?_
      refine kWi (kV Cc (mX4_found l D κ A hI h) (qX4_found hts (tw_244 hts) ⟨(Nat.le_of_ble_eq_true rfl), (Nat.le_of_ble_eq_true rfl)⟩) (va_recv hE.1 hP.c5 (ci := 4) (q0 := 0) rfl rfl) (rest := []) hP rfl hl.1 rfl (Nat.le_of_ble_eq_true rfl) dX4_kinds_29 ⟨Nat.zero_le _, Nat.zero_le _⟩) hS (fun q h9 => h9) (fun r29 u29 H1 locs1 h hB hk hS1 => ?_)
      have hP := hB
      have hS := hS1
      exact W.iret (v := r29) hx hb hr (fun t ht _ => QWi.mk (u := u29) h hP hS ht) hS.2.2 dX4_kinds_32 (hlocks := hlk)
  · have h := h.2 c7
    refine lv_aload_n hx hb dX4_kinds_10 rfl (lv_at hl 1 rfl) ?_
    refine lv_iload_n hx hb dX4_kinds_11 rfl (lv_at hl 0 rfl) ?_
    refine kWi (kV Cc (mX4_found l D κ A hI h) (qX4_found hts (tw_244 hts) ⟨(Nat.le_of_ble_eq_true rfl), (Nat.le_of_ble_eq_true rfl)⟩) (va_recv hE.1 hP.c5 (ci := 4) (q0 := 0) rfl rfl) (rest := []) hP rfl hl.1 rfl (Nat.le_of_ble_eq_true rfl) dX4_kinds_12 ⟨Nat.zero_le _, Nat.zero_le _⟩) hS (fun q h9 => h9) (fun r12 u12 H1 locs1 h hB hk hS1 => ?_)
    have hP := hB
    have hS := hS1
    exact W.iret (v := r12) hx hb hr (fun t ht _ => QWi.mk (u := u12) h hP hS ht) hS.2.2 dX4_kinds_15 (hlocks := hlk)
theorem qX4_kinds {R : Room} {s : State} {args : Array Value} {own : String} {idx : Nat} (hts : ∀ w ∈ gG, w.before args s = true) (hl : (Cond.methodLink own idx yX4_kinds).before args s = true) (hR : rX4_kinds.frames + 1 ≤ R.frames ∧ 8 + (6 + 11) + rX4_kinds.locals ≤ R.locals) : CallW R s args own RX4 idx yX4_kinds cX4_kinds 6 (some .int) (wz yX4_kinds cX4_kinds 6 (some .int)) rX4_kinds 0 0 2 := ⟨kw 2 hts mw_522 rfl rfl (tw_70 hts) hl (by decide +kernel) hR, tw_520 hts, tw_521 hts⟩
abbrev rX4_tip : Room := { frames := 4, cells := 0, slots := 0, locals := 90 }
def pX4_tip_11 (Q : Int32 → (Nat → Mx) → Prop) (S : Nat → Mx) : Prop := pX4_found S 0 (fun r13 u13 => (Q r13 u13))
def pX4_tip_39s  (ih39 : Int32 → Int32 → (Nat → Mx) → Prop) (Q : Int32 → (Nat → Mx) → Prop) (x1 : Int32) (x2 : Int32) (S : Nat → Mx) : Prop := (x1 ≤ x2 → (pX1_sumOfRow (S 0) (fun r109 => (Q r109 S)))) ∧ (¬ x1 ≤ x2 → (pX1_draw (S 0) (fun r48 u48 => (∀ v54 : Int32, v54 = (r48 - r48 / 8 * 8) → (pX1_draw ((va_up S 0 u48) 0) (fun r59 u59 => (∀ v65 : Int32, v65 = (r59 - r59 / 8 * 8) → (vp_in ((((va_up (va_up S 0 u48) 0 u59) 0) 9 0) - (((va_up (va_up S 0 u48) 0 u59) 0) 9 0) / 6 * 6) 6 ∧ (pX1_passYear ((va_up (va_up (va_up S 0 u48) 0 u59) 0 (st ((va_up (va_up S 0 u48) 0 u59) 0) 5 ((((va_up (va_up S 0 u48) 0 u59) 0) 9 0) - (((va_up (va_up S 0 u48) 0 u59) 0) 9 0) / 6 * 6).toNatClampNeg ((10 * v54) + v65))) 0) (fun u96 => (ih39 x1 (x2 + 1) (va_up (va_up (va_up (va_up S 0 u48) 0 u59) 0 (st ((va_up (va_up S 0 u48) 0 u59) 0) 5 ((((va_up (va_up S 0 u48) 0 u59) 0) 9 0) - (((va_up (va_up S 0 u48) 0 u59) 0) 9 0) / 6 * 6).toNatClampNeg ((10 * v54) + v65))) 0 u96))))))))))))
noncomputable def pX4_tip_39 (Q : Int32 → (Nat → Mx) → Prop) (n : Nat) : Int32 → Int32 → (Nat → Mx) → Prop := Nat.rec (motive := fun _ => Int32 → Int32 → (Nat → Mx) → Prop) (fun _ _ _ => False) (fun _ ih => pX4_tip_39s ih Q) n
def pX4_tip (S : Nat → Mx) (x1 : Int32) (Q : Int32 → (Nat → Mx) → Prop) : Prop := (x1 < 1 → (pX4_tip_11 Q S)) ∧ (¬ x1 < 1 → ((x1 ≤ 20 → (((((S 0) 9 0) + x1) ≤ 99999 → (∃ n, pX4_tip_39 Q n x1 0 S)) ∧ (¬ (((S 0) 9 0) + x1) ≤ 99999 → (pX4_found S 4 (fun r33 u33 => (Q r33 u33)))))) ∧ (¬ x1 ≤ 20 → (pX4_tip_11 Q S))))
set_option maxHeartbeats 4000000 in
set_option maxRecDepth 100000 in
theorem bX4_tip_11 {p : Program} {l : Launch} {e : Env} {s : State} {m : MethodId} {args : Array Value} {below : List Frame} {meth : Method} {c : Code} {D : va_G} {κ : Nat → ClassId} {A : Nat → Nat → Nat}   {Q : Int32 → (Nat → Mx) → Prop} (Cc : Cx D κ RX4 cX4_tip 5 (some .int) p s m args meth c) (hI : IX A)   : ∀ (S : Nat → Mx) (H : Heap) (locs : List Loc) (hP : PX D κ A S H) (hS : va_S (aX A) s.heap H locs) (ls : Array Slot) (hl : lv_has ls 5 [(0, .ref (A 5 0))]) (h : pX4_tip_11 Q S), W p l e rX4_tip s m args below meth c H locs 0 0 (MQ below (QWi Q (fun u H => PX D κ A u H) (aX A)) args s 0 0 (aX A)) (F0 m 11 ls []) := by
  obtain ⟨hx, hb, hml, hown, hts, hr, hlk, hE⟩ := id Cc
  intro S H locs hP hS ls hl h
  unfold pX4_tip_11 at h
  refine lv_aload_n hx hb dX4_tip_11 rfl (lv_at hl 0 rfl) ?_
  refine lv_iconst (v := 0) hx hb dX4_tip_12 (by decide) ?_
  refine kWi (kV Cc (mX4_found l D κ A hI h) (qX4_found hts (tw_244 hts) ⟨(Nat.le_of_ble_eq_true rfl), (Nat.le_of_ble_eq_true rfl)⟩) (va_recv hE.1 hP.c5 (ci := 4) (q0 := 0) rfl rfl) (rest := []) hP rfl hl.1 rfl (Nat.le_of_ble_eq_true rfl) dX4_tip_13 ⟨Nat.zero_le _, Nat.zero_le _⟩) hS (fun q h9 => h9) (fun r13 u13 H1 locs1 h hB hk hS1 => ?_)
  have hP := hB
  have hS := hS1
  exact W.iret (v := r13) hx hb hr (fun t ht _ => QWi.mk (u := u13) h hP hS ht) hS.2.2 dX4_tip_16 (hlocks := hlk)
set_option maxHeartbeats 4000000 in
set_option maxRecDepth 100000 in
theorem bX4_tip_39 {p : Program} {l : Launch} {e : Env} {s : State} {m : MethodId} {args : Array Value} {below : List Frame} {meth : Method} {c : Code} {D : va_G} {κ : Nat → ClassId} {A : Nat → Nat → Nat}   {Q : Int32 → (Nat → Mx) → Prop} (Cc : Cx D κ RX4 cX4_tip 5 (some .int) p s m args meth c) (hI : IX A)   (n : Nat) : ∀ (x1 : Int32) (x2 : Int32) (S : Nat → Mx) (H : Heap) (locs : List Loc) (hP : PX D κ A S H) (hS : va_S (aX A) s.heap H locs) (ls : Array Slot) (hl : lv_has ls 5 [(0, .ref (A 5 0)), (1, .int x1), (2, .int x2)]) (h : pX4_tip_39 Q n x1 x2 S), W p l e rX4_tip s m args below meth c H locs 0 0 (MQ below (QWi Q (fun u H => PX D κ A u H) (aX A)) args s 0 0 (aX A)) (F0 m 39 ls []) := by
  obtain ⟨hx, hb, hml, hown, hts, hr, hlk, hE⟩ := id Cc
  induction n with
  | zero =>
    intro x1 x2 S H locs hP hS ls hl h
    exact absurd h (fun z => z)
  | succ n hih39 =>
    intro x1 x2 S H locs hP hS ls hl h
    have h : pX4_tip_39s (pX4_tip_39 Q n) Q x1 x2 S := h
    unfold pX4_tip_39s at h
    refine lv_iload_n hx hb dX4_tip_39 rfl (lv_at hl 2 rfl) ?_
    refine lv_iload_n hx hb dX4_tip_40 rfl (lv_at hl 1 rfl) ?_
    refine lv_icmp_ge (tgt := 105) hx hb dX4_tip_41 (by decide) (fun c41 => ?_) (fun c41 => ?_)
    · have h := h.1 c41
      refine lv_aload_n hx hb dX4_tip_105 rfl (lv_at hl 0 rfl) ?_
      refine gSf_0 Cc hP.c5 (tw_209 hts) dX4_tip_106 ?_
      refine kR (kV Cc (mX1_sumOfRow l D κ (A 0) h) (qX1_sumOfRow hts (tw_341 hts) ⟨(Nat.le_of_ble_eq_true rfl), (Nat.le_of_ble_eq_true rfl)⟩) (va_recv hE.1 hP.c0 (ci := 1) (q0 := 0) rfl rfl) (rest := []) hP.c0 rfl hl.1 rfl (Nat.le_of_ble_eq_true rfl) dX4_tip_109 ⟨Nat.zero_le _, Nat.zero_le _⟩) (fun r109 h => ?_)
      exact W.iret (v := r109) hx hb hr (fun t ht _ => QWi.mk (u := S) h hP hS ht) hS.2.2 dX4_tip_112 (hlocks := hlk)
    · have h := h.2 c41
      refine lv_aload_n hx hb dX4_tip_44 rfl (lv_at hl 0 rfl) ?_
      refine gSf_0 Cc hP.c5 (tw_209 hts) dX4_tip_45 ?_
      refine kWi (kV Cc (mX1_draw l D κ (A 0) (hI.ij (k := 0) (by decide)) h) (qX1_draw hts (tw_527 hts) ⟨(Nat.le_of_ble_eq_true rfl), (Nat.le_of_ble_eq_true rfl)⟩) (va_recv hE.1 hP.c0 (ci := 1) (q0 := 0) rfl rfl) (rest := []) hP.c0 rfl hl.1 rfl (Nat.le_of_ble_eq_true rfl) dX4_tip_48 ⟨Nat.zero_le _, Nat.zero_le _⟩) hS (fun q h9 => aX_of (k := 0) (by decide) h9) (fun r48 u48 H1 locs1 h hB hk hS1 => ?_)
      have hP := PX.put (k := 0) (by decide) hI hP hB hk
      have hS := hS1
      refine lv_bipush (v := 8) hx hb dX4_tip_51 (by decide) ?_
      refine lv_irem hx hb dX4_tip_53 (by decide) ?_
      refine lv_topi (fun v54 e54 => ?_)
      have h := h v54 e54
      refine lv_istore_n (lv' := [(3, .int v54), (0, .ref (A 5 0)), (1, .int x1), (2, .int x2)]) hx hb dX4_tip_54 rfl hl (by decide) rfl (fun ls hl => ?_)
      refine lv_aload_n hx hb dX4_tip_55 rfl (lv_at hl 1 rfl) ?_
      refine gSf_0 Cc hP.c5 (tw_209 hts) dX4_tip_56 ?_
      refine kWi (kV Cc (mX1_draw l D κ (A 0) (hI.ij (k := 0) (by decide)) h) (qX1_draw hts (tw_527 hts) ⟨(Nat.le_of_ble_eq_true rfl), (Nat.le_of_ble_eq_true rfl)⟩) (va_recv hE.1 hP.c0 (ci := 1) (q0 := 0) rfl rfl) (rest := []) hP.c0 rfl hl.1 rfl (Nat.le_of_ble_eq_true rfl) dX4_tip_59 ⟨Nat.zero_le _, Nat.zero_le _⟩) hS (fun q h9 => aX_of (k := 0) (by decide) h9) (fun r59 u59 H1 locs1 h hB hk hS1 => ?_)
      have hP := PX.put (k := 0) (by decide) hI hP hB hk
      have hS := hS1
      refine lv_bipush (v := 8) hx hb dX4_tip_62 (by decide) ?_
      refine lv_irem hx hb dX4_tip_64 (by decide) ?_
      refine lv_topi (fun v65 e65 => ?_)
      have h := h v65 e65
      refine lv_istore (lv' := [(4, .int v65), (3, .int v54), (0, .ref (A 5 0)), (1, .int x1), (2, .int x2)]) hx hb dX4_tip_65 hl (by decide) rfl (fun ls hl => ?_)
      refine lv_aload_n hx hb dX4_tip_67 rfl (lv_at hl 2 rfl) ?_
      refine gSf_0 Cc hP.c5 (tw_209 hts) dX4_tip_68 ?_
      refine gCo_5 Cc hP.c0 (tw_108 hts) dX4_tip_71 ?_
      refine lv_aload_n hx hb dX4_tip_74 rfl (lv_at hl 2 rfl) ?_
      refine gSf_0 Cc hP.c5 (tw_209 hts) dX4_tip_75 ?_
      refine gCo_9 Cc hP.c0 (tw_120 hts) dX4_tip_78 ?_
      refine lv_bipush (v := 6) hx hb dX4_tip_81 (by decide) ?_
      refine lv_irem hx hb dX4_tip_83 (by decide) ?_
      refine lv_bipush (v := 10) hx hb dX4_tip_84 (by decide) ?_
      refine lv_iload_n hx hb dX4_tip_86 rfl (lv_at hl 1 rfl) ?_
      refine lv_imul hx hb dX4_tip_87 ?_
      refine lv_iload hx hb dX4_tip_88 (lv_at hl 0 rfl) ?_
      refine lv_iadd hx hb dX4_tip_90 ?_
      refine sCo_5 Cc hP.c0 (hI.ij (k := 0) (by decide)) hS (aX_of (k := 0) (by decide) ⟨6, by decide, rfl⟩) h.1 dX4_tip_91 (fun H1 locs1 hB hS1 hk => ?_)
      have h := h.2
      have hP := PX.put (k := 0) (by decide) hI hP hB (fun q _ hq => hk q (fun e => hq ⟨6, by decide, e⟩))
      have hS := hS1
      refine lv_aload_n hx hb dX4_tip_92 rfl (lv_at hl 2 rfl) ?_
      refine gSf_0 Cc hP.c5 (tw_209 hts) dX4_tip_93 ?_
      refine kWv (kV Cc (mX1_passYear l D κ (A 0) (hI.ij (k := 0) (by decide)) h) (qX1_passYear hts (tw_453 hts) ⟨(Nat.le_of_ble_eq_true rfl), (Nat.le_of_ble_eq_true rfl)⟩) (va_recv hE.1 hP.c0 (ci := 1) (q0 := 0) rfl rfl) (rest := []) hP.c0 rfl hl.1 rfl (Nat.le_of_ble_eq_true rfl) dX4_tip_96 ⟨Nat.zero_le _, Nat.zero_le _⟩) hS (fun q h9 => aX_of (k := 0) (by decide) h9) (fun  u96 H1 locs1 h hB hk hS1 => ?_)
      have hP := PX.put (k := 0) (by decide) hI hP hB hk
      have hS := hS1
      refine lv_iinc (v := (x2 + 1)) (lv' := [(2, .int (x2 + 1)), (4, .int v65), (3, .int v54), (0, .ref (A 5 0)), (1, .int x1)]) hx hb dX4_tip_99 hl (k := 4) rfl rfl (by decide) rfl (fun ls hl => ?_)
      refine lv_goto (tgt := 39) hx hb dX4_tip_102 (by decide) ?_
      exact hih39 x1 (x2 + 1) (va_up (va_up (va_up (va_up S 0 u48) 0 u59) 0 (st ((va_up (va_up S 0 u48) 0 u59) 0) 5 ((((va_up (va_up S 0 u48) 0 u59) 0) 9 0) - (((va_up (va_up S 0 u48) 0 u59) 0) 9 0) / 6 * 6).toNatClampNeg ((10 * v54) + v65))) 0 u96) _ _ hP hS _ (lv_sub hl [3, 4, 0] rfl) h
set_option maxHeartbeats 4000000 in
set_option maxRecDepth 100000 in
theorem mX4_tip (l : Launch) (D : va_G) (κ : Nat → ClassId) (A : Nat → Nat → Nat) {S : Nat → Mx} {x1 : Int32} {Q : Int32 → (Nat → Mx) → Prop} (hI : IX A) (h : pX4_tip S x1 Q) : Met l yX4_tip (wz yX4_tip cX4_tip 5 (some .int)) rX4_tip (va_Pc [.ref (A 5 0), .int x1] (PE D κ (fun H => PX D κ A S H))) (QWi Q (fun u H => PX D κ A u H) (aX A)) 0 0 (aX A) := by
  refine Met_of l (own := RX4) (by decide) rfl (Nat.le_of_ble_eq_true rfl) (fun p e s m below meth c Cc hPP ls hl => ?_)
  obtain ⟨hx, hb, hml, hown, hts, hr, hlk, hE⟩ := id Cc
  have hl : lv_has ls 5 [(0, .ref (A 5 0)), (1, .int x1)] := hl
  have hP := hPP
  have hS : va_S (aX A) s.heap s.heap [] := va_S.rf
  unfold pX4_tip at h
  refine lv_iload_n hx hb dX4_tip_0 rfl (lv_at hl 1 rfl) ?_
  refine lv_iconst (v := 1) hx hb dX4_tip_1 (by decide) ?_
  refine lv_icmp_lt (tgt := 11) hx hb dX4_tip_2 (by decide) (fun c2 => ?_) (fun c2 => ?_)
  · have h := h.1 c2
    exact bX4_tip_11 Cc hI S _ _ hP hS _ (lv_sub hl [0] rfl) h
  · have h := h.2 c2
    refine lv_iload_n hx hb dX4_tip_5 rfl (lv_at hl 1 rfl) ?_
    refine lv_bipush (v := 20) hx hb dX4_tip_6 (by decide) ?_
    refine lv_icmp_le (tgt := 17) hx hb dX4_tip_8 (by decide) (fun c8 => ?_) (fun c8 => ?_)
    · have h := h.1 c8
      refine lv_aload_n hx hb dX4_tip_17 rfl (lv_at hl 0 rfl) ?_
      refine gSf_0 Cc hP.c5 (tw_209 hts) dX4_tip_18 ?_
      refine gCo_9 Cc hP.c0 (tw_120 hts) dX4_tip_21 ?_
      refine lv_iload_n hx hb dX4_tip_24 rfl (lv_at hl 1 rfl) ?_
      refine lv_iadd hx hb dX4_tip_25 ?_
      refine lv_ldc (own := RX4) (v := 99999) hx hb hown (tw_355 hts) dX4_tip_26 ?_
      refine lv_icmp_le (tgt := 37) hx hb dX4_tip_28 (by decide) (fun c28 => ?_) (fun c28 => ?_)
      · have h := h.1 c28
        refine lv_iconst (v := 0) hx hb dX4_tip_37 (by decide) ?_
        refine lv_istore_n (lv' := [(2, .int 0), (0, .ref (A 5 0)), (1, .int x1)]) hx hb dX4_tip_38 rfl hl (by decide) rfl (fun ls hl => ?_)
        obtain ⟨n, h⟩ := h
        exact bX4_tip_39 Cc hI n x1 0 S _ _ hP hS _ (lv_sub hl [1, 2, 0] rfl) h
      · have h := h.2 c28
        refine lv_aload_n hx hb dX4_tip_31 rfl (lv_at hl 0 rfl) ?_
        refine lv_iconst (v := 4) hx hb dX4_tip_32 (by decide) ?_
        refine kWi (kV Cc (mX4_found l D κ A hI h) (qX4_found hts (tw_244 hts) ⟨(Nat.le_of_ble_eq_true rfl), (Nat.le_of_ble_eq_true rfl)⟩) (va_recv hE.1 hP.c5 (ci := 4) (q0 := 0) rfl rfl) (rest := []) hP rfl hl.1 rfl (Nat.le_of_ble_eq_true rfl) dX4_tip_33 ⟨Nat.zero_le _, Nat.zero_le _⟩) hS (fun q h9 => h9) (fun r33 u33 H1 locs1 h hB hk hS1 => ?_)
        have hP := hB
        have hS := hS1
        exact W.iret (v := r33) hx hb hr (fun t ht _ => QWi.mk (u := u33) h hP hS ht) hS.2.2 dX4_tip_36 (hlocks := hlk)
    · have h := h.2 c8
      exact bX4_tip_11 Cc hI S _ _ hP hS _ (lv_sub hl [0] rfl) h
theorem qX4_tip {R : Room} {s : State} {args : Array Value} {own : String} {idx : Nat} (hts : ∀ w ∈ gG, w.before args s = true) (hl : (Cond.methodLink own idx yX4_tip).before args s = true) (hR : rX4_tip.frames + 1 ≤ R.frames ∧ 8 + (5 + 11) + rX4_tip.locals ≤ R.locals) : CallW R s args own RX4 idx yX4_tip cX4_tip 5 (some .int) (wz yX4_tip cX4_tip 5 (some .int)) rX4_tip 0 0 1 := ⟨kw 1 hts mw_526 rfl rfl (tw_70 hts) hl (by decide +kernel) hR, tw_524 hts, tw_525 hts⟩
abbrev rX4_harmlessSwaps : Room := { frames := 5, cells := 0, slots := 0, locals := 113 }
def pX4_harmlessSwaps_42 (ih12 : Int32 → Int32 → Int32 → (Nat → Mx) → Prop) (ih21 : Int32 → Int32 → Int32 → Int32 → (Nat → Mx) → Prop) (Q : Int32 → (Nat → Mx) → Prop) (x1 : Int32) (x2 : Int32) (x3 : Int32) (x4 : Int32) (S : Nat → Mx) : Prop := ih21 x1 x2 x3 (x4 + 1) S
def pX4_harmlessSwaps_21s (ih12 : Int32 → Int32 → Int32 → (Nat → Mx) → Prop) (ih21 : Int32 → Int32 → Int32 → Int32 → (Nat → Mx) → Prop) (Q : Int32 → (Nat → Mx) → Prop) (x1 : Int32) (x2 : Int32) (x3 : Int32) (x4 : Int32) (S : Nat → Mx) : Prop := (8 ≤ x4 → (ih12 x1 x2 (x3 + 1) S)) ∧ (¬ 8 ≤ x4 → (pX4_sumExchanged S x3 x4 (fun r32 u32 => ((x1 < r32 → (pX4_harmlessSwaps_42 ih12 ih21 Q x1 x2 x3 x4 u32)) ∧ (¬ x1 < r32 → (pX4_harmlessSwaps_42 ih12 ih21 Q x1 (x2 + 1) x3 x4 u32))))))
noncomputable def pX4_harmlessSwaps_21 (ih12 : Int32 → Int32 → Int32 → (Nat → Mx) → Prop) (Q : Int32 → (Nat → Mx) → Prop) (n : Nat) : Int32 → Int32 → Int32 → Int32 → (Nat → Mx) → Prop := Nat.rec (motive := fun _ => Int32 → Int32 → Int32 → Int32 → (Nat → Mx) → Prop) (fun _ _ _ _ _ => False) (fun _ ih => pX4_harmlessSwaps_21s ih12 ih Q) n
def pX4_harmlessSwaps_12s  (ih12 : Int32 → Int32 → Int32 → (Nat → Mx) → Prop) (Q : Int32 → (Nat → Mx) → Prop) (x1 : Int32) (x2 : Int32) (x3 : Int32) (S : Nat → Mx) : Prop := (8 ≤ x3 → (Q x2 S)) ∧ (¬ 8 ≤ x3 → (∃ n, pX4_harmlessSwaps_21 ih12 Q n x1 x2 x3 0 S))
noncomputable def pX4_harmlessSwaps_12 (Q : Int32 → (Nat → Mx) → Prop) (n : Nat) : Int32 → Int32 → Int32 → (Nat → Mx) → Prop := Nat.rec (motive := fun _ => Int32 → Int32 → Int32 → (Nat → Mx) → Prop) (fun _ _ _ _ => False) (fun _ ih => pX4_harmlessSwaps_12s ih Q) n
def pX4_harmlessSwaps (S : Nat → Mx)  (Q : Int32 → (Nat → Mx) → Prop) : Prop := pX1_sumOfRow (S 0) (fun r4 => (∃ n, pX4_harmlessSwaps_12 Q n r4 0 0 S))
set_option maxHeartbeats 4000000 in
set_option maxRecDepth 100000 in
theorem bX4_harmlessSwaps_42 {p : Program} {l : Launch} {e : Env} {s : State} {m : MethodId} {args : Array Value} {below : List Frame} {meth : Method} {c : Code} {D : va_G} {κ : Nat → ClassId} {A : Nat → Nat → Nat}  {ih12 : Int32 → Int32 → Int32 → (Nat → Mx) → Prop} {ih21 : Int32 → Int32 → Int32 → Int32 → (Nat → Mx) → Prop} {Q : Int32 → (Nat → Mx) → Prop} (Cc : Cx D κ RX4 cX4_harmlessSwaps 5 (some .int) p s m args meth c) (hI : IX A)  (hih12 : ∀ (x1 : Int32) (x2 : Int32) (x3 : Int32) (S : Nat → Mx) (H : Heap) (locs : List Loc) (hP : PX D κ A S H) (hS : va_S (aX A) s.heap H locs) (ls : Array Slot) (hl : lv_has ls 5 [(0, .ref (A 5 0)), (1, .int x1), (2, .int x2), (3, .int x3)]) (h : ih12 x1 x2 x3 S), W p l e rX4_harmlessSwaps s m args below meth c H locs 0 0 (MQ below (QWi Q (fun u H => PX D κ A u H) (aX A)) args s 0 0 (aX A)) (F0 m 12 ls [])) (hih21 : ∀ (x1 : Int32) (x2 : Int32) (x3 : Int32) (x4 : Int32) (S : Nat → Mx) (H : Heap) (locs : List Loc) (hP : PX D κ A S H) (hS : va_S (aX A) s.heap H locs) (ls : Array Slot) (hl : lv_has ls 5 [(0, .ref (A 5 0)), (1, .int x1), (2, .int x2), (3, .int x3), (4, .int x4)]) (h : ih21 x1 x2 x3 x4 S), W p l e rX4_harmlessSwaps s m args below meth c H locs 0 0 (MQ below (QWi Q (fun u H => PX D κ A u H) (aX A)) args s 0 0 (aX A)) (F0 m 21 ls [])) : ∀ (x1 : Int32) (x2 : Int32) (x3 : Int32) (x4 : Int32) (S : Nat → Mx) (H : Heap) (locs : List Loc) (hP : PX D κ A S H) (hS : va_S (aX A) s.heap H locs) (ls : Array Slot) (hl : lv_has ls 5 [(0, .ref (A 5 0)), (1, .int x1), (2, .int x2), (3, .int x3), (4, .int x4)]) (h : pX4_harmlessSwaps_42 ih12 ih21 Q x1 x2 x3 x4 S), W p l e rX4_harmlessSwaps s m args below meth c H locs 0 0 (MQ below (QWi Q (fun u H => PX D κ A u H) (aX A)) args s 0 0 (aX A)) (F0 m 42 ls []) := by
  obtain ⟨hx, hb, hml, hown, hts, hr, hlk, hE⟩ := id Cc
  intro x1 x2 x3 x4 S H locs hP hS ls hl h
  unfold pX4_harmlessSwaps_42 at h
  refine lv_iinc (v := (x4 + 1)) (lv' := [(4, .int (x4 + 1)), (0, .ref (A 5 0)), (1, .int x1), (2, .int x2), (3, .int x3)]) hx hb dX4_harmlessSwaps_42 hl (k := 4) rfl rfl (by decide) rfl (fun ls hl => ?_)
  refine lv_goto (tgt := 21) hx hb dX4_harmlessSwaps_45 (by decide) ?_
  exact hih21 x1 x2 x3 (x4 + 1) S _ _ hP hS _ (lv_sub hl [1, 2, 3, 4, 0] rfl) h
set_option maxHeartbeats 4000000 in
set_option maxRecDepth 100000 in
theorem bX4_harmlessSwaps_21 {p : Program} {l : Launch} {e : Env} {s : State} {m : MethodId} {args : Array Value} {below : List Frame} {meth : Method} {c : Code} {D : va_G} {κ : Nat → ClassId} {A : Nat → Nat → Nat}  {ih12 : Int32 → Int32 → Int32 → (Nat → Mx) → Prop} {Q : Int32 → (Nat → Mx) → Prop} (Cc : Cx D κ RX4 cX4_harmlessSwaps 5 (some .int) p s m args meth c) (hI : IX A)  (hih12 : ∀ (x1 : Int32) (x2 : Int32) (x3 : Int32) (S : Nat → Mx) (H : Heap) (locs : List Loc) (hP : PX D κ A S H) (hS : va_S (aX A) s.heap H locs) (ls : Array Slot) (hl : lv_has ls 5 [(0, .ref (A 5 0)), (1, .int x1), (2, .int x2), (3, .int x3)]) (h : ih12 x1 x2 x3 S), W p l e rX4_harmlessSwaps s m args below meth c H locs 0 0 (MQ below (QWi Q (fun u H => PX D κ A u H) (aX A)) args s 0 0 (aX A)) (F0 m 12 ls [])) (n : Nat) : ∀ (x1 : Int32) (x2 : Int32) (x3 : Int32) (x4 : Int32) (S : Nat → Mx) (H : Heap) (locs : List Loc) (hP : PX D κ A S H) (hS : va_S (aX A) s.heap H locs) (ls : Array Slot) (hl : lv_has ls 5 [(0, .ref (A 5 0)), (1, .int x1), (2, .int x2), (3, .int x3), (4, .int x4)]) (h : pX4_harmlessSwaps_21 ih12 Q n x1 x2 x3 x4 S), W p l e rX4_harmlessSwaps s m args below meth c H locs 0 0 (MQ below (QWi Q (fun u H => PX D κ A u H) (aX A)) args s 0 0 (aX A)) (F0 m 21 ls []) := by
  obtain ⟨hx, hb, hml, hown, hts, hr, hlk, hE⟩ := id Cc
  induction n with
  | zero =>
    intro x1 x2 x3 x4 S H locs hP hS ls hl h
    exact absurd h (fun z => z)
  | succ n hih21 =>
    intro x1 x2 x3 x4 S H locs hP hS ls hl h
    have h : pX4_harmlessSwaps_21s ih12 (pX4_harmlessSwaps_21 ih12 Q n) Q x1 x2 x3 x4 S := h
    unfold pX4_harmlessSwaps_21s at h
    refine lv_iload hx hb dX4_harmlessSwaps_21 (lv_at hl 4 rfl) ?_
    refine lv_bipush (v := 8) hx hb dX4_harmlessSwaps_23 (by decide) ?_
    refine lv_icmp_ge (tgt := 48) hx hb dX4_harmlessSwaps_25 (by decide) (fun c25 => ?_) (fun c25 => ?_)
    · have h := h.1 c25
      refine lv_iinc (v := (x3 + 1)) (lv' := [(3, .int (x3 + 1)), (0, .ref (A 5 0)), (1, .int x1), (2, .int x2), (4, .int x4)]) hx hb dX4_harmlessSwaps_48 hl (k := 3) rfl rfl (by decide) rfl (fun ls hl => ?_)
      refine lv_goto (tgt := 12) hx hb dX4_harmlessSwaps_51 (by decide) ?_
      exact hih12 x1 x2 (x3 + 1) S _ _ hP hS _ (lv_sub hl [1, 2, 3, 0] rfl) h
    · have h := h.2 c25
      refine lv_aload_n hx hb dX4_harmlessSwaps_28 rfl (lv_at hl 0 rfl) ?_
      refine lv_iload_n hx hb dX4_harmlessSwaps_29 rfl (lv_at hl 3 rfl) ?_
      refine lv_iload hx hb dX4_harmlessSwaps_30 (lv_at hl 4 rfl) ?_
      refine kWi (kV Cc (mX4_sumExchanged l D κ A hI h) (qX4_sumExchanged hts (tw_427 hts) ⟨(Nat.le_of_ble_eq_true rfl), (Nat.le_of_ble_eq_true rfl)⟩) (va_recv hE.1 hP.c5 (ci := 4) (q0 := 0) rfl rfl) (rest := []) hP rfl hl.1 rfl (Nat.le_of_ble_eq_true rfl) dX4_harmlessSwaps_32 ⟨Nat.zero_le _, Nat.zero_le _⟩) hS (fun q h9 => h9) (fun r32 u32 H1 locs1 h hB hk hS1 => ?_)
      have hP := hB
      have hS := hS1
      refine lv_iload_n hx hb dX4_harmlessSwaps_35 rfl (lv_at hl 1 rfl) ?_
      refine lv_icmp_gt (tgt := 42) hx hb dX4_harmlessSwaps_36 (by decide) (fun c36 => ?_) (fun c36 => ?_)
      · have h := h.1 c36
        exact bX4_harmlessSwaps_42 Cc hI hih12 hih21 x1 x2 x3 x4 u32 _ _ hP hS _ (lv_sub hl [0, 1, 2, 3, 4] rfl) h
      · have h := h.2 c36
        refine lv_iinc (v := (x2 + 1)) (lv' := [(2, .int (x2 + 1)), (0, .ref (A 5 0)), (1, .int x1), (3, .int x3), (4, .int x4)]) hx hb dX4_harmlessSwaps_39 hl (k := 2) rfl rfl (by decide) rfl (fun ls hl => ?_)
        exact bX4_harmlessSwaps_42 Cc hI hih12 hih21 x1 (x2 + 1) x3 x4 u32 _ _ hP hS _ (lv_sub hl [1, 2, 0, 3, 4] rfl) h
set_option maxHeartbeats 4000000 in
set_option maxRecDepth 100000 in
theorem bX4_harmlessSwaps_12 {p : Program} {l : Launch} {e : Env} {s : State} {m : MethodId} {args : Array Value} {below : List Frame} {meth : Method} {c : Code} {D : va_G} {κ : Nat → ClassId} {A : Nat → Nat → Nat}   {Q : Int32 → (Nat → Mx) → Prop} (Cc : Cx D κ RX4 cX4_harmlessSwaps 5 (some .int) p s m args meth c) (hI : IX A)   (n : Nat) : ∀ (x1 : Int32) (x2 : Int32) (x3 : Int32) (S : Nat → Mx) (H : Heap) (locs : List Loc) (hP : PX D κ A S H) (hS : va_S (aX A) s.heap H locs) (ls : Array Slot) (hl : lv_has ls 5 [(0, .ref (A 5 0)), (1, .int x1), (2, .int x2), (3, .int x3)]) (h : pX4_harmlessSwaps_12 Q n x1 x2 x3 S), W p l e rX4_harmlessSwaps s m args below meth c H locs 0 0 (MQ below (QWi Q (fun u H => PX D κ A u H) (aX A)) args s 0 0 (aX A)) (F0 m 12 ls []) := by
  obtain ⟨hx, hb, hml, hown, hts, hr, hlk, hE⟩ := id Cc
  induction n with
  | zero =>
    intro x1 x2 x3 S H locs hP hS ls hl h
    exact absurd h (fun z => z)
  | succ n hih12 =>
    intro x1 x2 x3 S H locs hP hS ls hl h
    have h : pX4_harmlessSwaps_12s (pX4_harmlessSwaps_12 Q n) Q x1 x2 x3 S := h
    unfold pX4_harmlessSwaps_12s at h
    refine lv_iload_n hx hb dX4_harmlessSwaps_12 rfl (lv_at hl 3 rfl) ?_
    refine lv_bipush (v := 8) hx hb dX4_harmlessSwaps_13 (by decide) ?_
    refine lv_icmp_ge (tgt := 54) hx hb dX4_harmlessSwaps_15 (by decide) (fun c15 => ?_) (fun c15 => ?_)
    · have h := h.1 c15
      refine lv_iload_n hx hb dX4_harmlessSwaps_54 rfl (lv_at hl 2 rfl) ?_
      exact W.iret (v := x2) hx hb hr (fun t ht _ => QWi.mk (u := S) h hP hS ht) hS.2.2 dX4_harmlessSwaps_55 (hlocks := hlk)
    · have h := h.2 c15
      refine lv_iconst (v := 0) hx hb dX4_harmlessSwaps_18 (by decide) ?_
      refine lv_istore (lv' := [(4, .int 0), (0, .ref (A 5 0)), (1, .int x1), (2, .int x2), (3, .int x3)]) hx hb dX4_harmlessSwaps_19 hl (by decide) rfl (fun ls hl => ?_)
      obtain ⟨n, h⟩ := h
      exact bX4_harmlessSwaps_21 Cc hI hih12 n x1 x2 x3 0 S _ _ hP hS _ (lv_sub hl [1, 2, 3, 4, 0] rfl) h
set_option maxHeartbeats 4000000 in
set_option maxRecDepth 100000 in
theorem mX4_harmlessSwaps (l : Launch) (D : va_G) (κ : Nat → ClassId) (A : Nat → Nat → Nat) {S : Nat → Mx}  {Q : Int32 → (Nat → Mx) → Prop} (hI : IX A) (h : pX4_harmlessSwaps S  Q) : Met l yX4_harmlessSwaps (wz yX4_harmlessSwaps cX4_harmlessSwaps 5 (some .int)) rX4_harmlessSwaps (va_Pc [.ref (A 5 0)] (PE D κ (fun H => PX D κ A S H))) (QWi Q (fun u H => PX D κ A u H) (aX A)) 0 0 (aX A) := by
  refine Met_of l (own := RX4) (by decide) rfl (Nat.le_of_ble_eq_true rfl) (fun p e s m below meth c Cc hPP ls hl => ?_)
  obtain ⟨hx, hb, hml, hown, hts, hr, hlk, hE⟩ := id Cc
  have hl : lv_has ls 5 [(0, .ref (A 5 0))] := hl
  have hP := hPP
  have hS : va_S (aX A) s.heap s.heap [] := va_S.rf
  unfold pX4_harmlessSwaps at h
  refine lv_aload_n hx hb dX4_harmlessSwaps_0 rfl (lv_at hl 0 rfl) ?_
  refine gSf_0 Cc hP.c5 (tw_209 hts) dX4_harmlessSwaps_1 ?_
  refine kR (kV Cc (mX1_sumOfRow l D κ (A 0) h) (qX1_sumOfRow hts (tw_341 hts) ⟨(Nat.le_of_ble_eq_true rfl), (Nat.le_of_ble_eq_true rfl)⟩) (va_recv hE.1 hP.c0 (ci := 1) (q0 := 0) rfl rfl) (rest := []) hP.c0 rfl hl.1 rfl (Nat.le_of_ble_eq_true rfl) dX4_harmlessSwaps_4 ⟨Nat.zero_le _, Nat.zero_le _⟩) (fun r4 h => ?_)
  refine lv_istore_n (lv' := [(1, .int r4), (0, .ref (A 5 0))]) hx hb dX4_harmlessSwaps_7 rfl hl (by decide) rfl (fun ls hl => ?_)
  refine lv_iconst (v := 0) hx hb dX4_harmlessSwaps_8 (by decide) ?_
  refine lv_istore_n (lv' := [(2, .int 0), (1, .int r4), (0, .ref (A 5 0))]) hx hb dX4_harmlessSwaps_9 rfl hl (by decide) rfl (fun ls hl => ?_)
  refine lv_iconst (v := 0) hx hb dX4_harmlessSwaps_10 (by decide) ?_
  refine lv_istore_n (lv' := [(3, .int 0), (2, .int 0), (1, .int r4), (0, .ref (A 5 0))]) hx hb dX4_harmlessSwaps_11 rfl hl (by decide) rfl (fun ls hl => ?_)
  obtain ⟨n, h⟩ := h
  exact bX4_harmlessSwaps_12 Cc hI n r4 0 0 S _ _ hP hS _ (lv_sub hl [3, 2, 1, 0] rfl) h
theorem qX4_harmlessSwaps {R : Room} {s : State} {args : Array Value} {own : String} {idx : Nat} (hts : ∀ w ∈ gG, w.before args s = true) (hl : (Cond.methodLink own idx yX4_harmlessSwaps).before args s = true) (hR : rX4_harmlessSwaps.frames + 1 ≤ R.frames ∧ 8 + (5 + 11) + rX4_harmlessSwaps.locals ≤ R.locals) : CallW R s args own RX4 idx yX4_harmlessSwaps cX4_harmlessSwaps 5 (some .int) (wz yX4_harmlessSwaps cX4_harmlessSwaps 5 (some .int)) rX4_harmlessSwaps 0 0 0 := ⟨kw 0 hts mw_539 rfl rfl (tw_70 hts) hl (by decide +kernel) hR, tw_538 hts, tw_11 hts⟩
abbrev rX4_power : Room := { frames := 0, cells := 0, slots := 0, locals := 0 }
def pX4_power_5s  (ih5 : Int32 → Int32 → Int64 → Int32 → Prop) (Q : Int64 → Prop) (x0 : Int32) (x1 : Int32) (x2 : Int64) (x4 : Int32) : Prop := (x1 ≤ x4 → (Q x2)) ∧ (¬ x1 ≤ x4 → (∀ v15 : Int64, v15 = (x2 * x0.toInt64) → (ih5 x0 x1 v15 (x4 + 1))))
noncomputable def pX4_power_5 (Q : Int64 → Prop) (n : Nat) : Int32 → Int32 → Int64 → Int32 → Prop := Nat.rec (motive := fun _ => Int32 → Int32 → Int64 → Int32 → Prop) (fun _ _ _ _ => False) (fun _ ih => pX4_power_5s ih Q) n
def pX4_power  (x1 : Int32) (x2 : Int32) (Q : Int64 → Prop) : Prop := ∃ n, pX4_power_5 Q n x1 x2 1 0
set_option maxHeartbeats 4000000 in
set_option maxRecDepth 100000 in
theorem bX4_power_5 {p : Program} {l : Launch} {e : Env} {s : State} {m : MethodId} {args : Array Value} {below : List Frame} {meth : Method} {c : Code} {D : va_G} {κ : Nat → ClassId}    {Q : Int64 → Prop} (Cc : Cx D κ RX4 cX4_power 5 (some .long) p s m args meth c)    (n : Nat) : ∀ (x0 : Int32) (x1 : Int32) (x2 : Int64) (x4 : Int32) (ls : Array Slot) (hl : lv_has ls 5 [(0, .int x0), (1, .int x1), (2, .long x2), (4, .int x4)]) (h : pX4_power_5 Q n x0 x1 x2 x4), W p l e rX4_power s m args below meth c s.heap [] 0 0 (MQ below (RQl Q) args s 0 0 (fun _ => False)) (F0 m 5 ls []) := by
  obtain ⟨hx, hb, hml, hown, hts, hr, hlk, hE⟩ := id Cc
  induction n with
  | zero =>
    intro x0 x1 x2 x4 ls hl h
    exact absurd h (fun z => z)
  | succ n hih5 =>
    intro x0 x1 x2 x4 ls hl h
    have h : pX4_power_5s (pX4_power_5 Q n) Q x0 x1 x2 x4 := h
    unfold pX4_power_5s at h
    refine lv_iload hx hb dX4_power_5 (lv_at hl 3 rfl) ?_
    refine lv_iload_n hx hb dX4_power_7 rfl (lv_at hl 1 rfl) ?_
    refine lv_icmp_ge (tgt := 22) hx hb dX4_power_8 (by decide) (fun c8 => ?_) (fun c8 => ?_)
    · have h := h.1 c8
      refine lv_lload_n hx hb dX4_power_22 rfl (lv_at hl 2 rfl) ?_
      exact W.lret (v := x2) hx hb hr (fun t ht _ => RQl.mk h ht) (fun _ h9 => by cases h9) dX4_power_23 (hlocks := hlk)
    · have h := h.2 c8
      refine lv_lload_n hx hb dX4_power_11 rfl (lv_at hl 2 rfl) ?_
      refine lv_iload_n hx hb dX4_power_12 rfl (lv_at hl 0 rfl) ?_
      refine lv_i2l (v := x0.toInt64) hx hb dX4_power_13 rfl ?_
      refine lv_lmul hx hb dX4_power_14 ?_
      refine lv_topl (fun v15 e15 => ?_)
      have h := h v15 e15
      refine lv_lstore_n (lv' := [(2, .long v15), (0, .int x0), (1, .int x1), (4, .int x4)]) hx hb dX4_power_15 rfl hl (by decide) rfl (fun ls hl => ?_)
      refine lv_iinc (v := (x4 + 1)) (lv' := [(4, .int (x4 + 1)), (2, .long v15), (0, .int x0), (1, .int x1)]) hx hb dX4_power_16 hl (k := 3) rfl rfl (by decide) rfl (fun ls hl => ?_)
      refine lv_goto (tgt := 5) hx hb dX4_power_19 (by decide) ?_
      exact hih5 x0 x1 v15 (x4 + 1)  _ (lv_sub hl [2, 3, 1, 0] rfl) h
set_option maxHeartbeats 4000000 in
set_option maxRecDepth 100000 in
theorem mX4_power (l : Launch) (D : va_G) (κ : Nat → ClassId)   {x1 : Int32} {x2 : Int32} {Q : Int64 → Prop}  (h : pX4_power  x1 x2 Q) : Met l yX4_power (wz yX4_power cX4_power 5 (some .long)) rX4_power (va_Pc [.int x1, .int x2] (PE D κ (fun _ => True))) (RQl Q) 0 0 (fun _ => False) := by
  refine Met_of l (own := RX4) (by decide) rfl (Nat.le_of_ble_eq_true rfl) (fun p e s m below meth c Cc hPP ls hl => ?_)
  obtain ⟨hx, hb, hml, hown, hts, hr, hlk, hE⟩ := id Cc
  have hl : lv_has ls 5 [(0, .int x1), (1, .int x2)] := hl
  unfold pX4_power at h
  refine lv_lconst (v := 1) hx hb dX4_power_0 (by decide) ?_
  refine lv_lstore_n (lv' := [(2, .long 1), (0, .int x1), (1, .int x2)]) hx hb dX4_power_1 rfl hl (by decide) rfl (fun ls hl => ?_)
  refine lv_iconst (v := 0) hx hb dX4_power_2 (by decide) ?_
  refine lv_istore (lv' := [(4, .int 0), (2, .long 1), (0, .int x1), (1, .int x2)]) hx hb dX4_power_3 hl (by decide) rfl (fun ls hl => ?_)
  obtain ⟨n, h⟩ := h
  exact bX4_power_5 Cc n x1 x2 1 0  _ (lv_sub hl [2, 3, 1, 0] rfl) h
theorem qX4_power {R : Room} {s : State} {args : Array Value} {own : String} {idx : Nat} (hts : ∀ w ∈ gG, w.before args s = true) (hl : (Cond.methodLink own idx yX4_power).before args s = true) (hR : rX4_power.frames + 1 ≤ R.frames ∧ 8 + (5 + 11) + rX4_power.locals ≤ R.locals) : CallB R s args own idx yX4_power cX4_power 5 (some .long) (wz yX4_power cX4_power 5 (some .long)) rX4_power 0 0 2 ∧ (Cond.static yX4_power).before args s = true := ⟨kw 2 hts mw_542 rfl rfl (tw_70 hts) hl (by decide +kernel) hR, tw_541 hts⟩
abbrev rX4_odds : Room := { frames := 6, cells := 0, slots := 0, locals := 137 }
def pX4_odds_19 (Q : Int64 → (Nat → Mx) → Prop) (S : Nat → Mx) : Prop := pX4_found S 0 (fun r21 u21 => (Q r21.toInt64 u21))
def pX4_odds_70 (Q : Int64 → (Nat → Mx) → Prop) (x1 : Int32) (y0 : Int32) (S : Nat → Mx) : Prop := pX4_power y0 x1 (fun r71 => (Q r71 S))
def pX4_odds_60 (Q : Int64 → (Nat → Mx) → Prop) (x1 : Int32) (x2 : Int32) (x3 : Int32) (x4 : Int32) (S : Nat → Mx) : Prop := (¬ x2 = 0 → (pX4_odds_70 Q x1 x4 S)) ∧ (x2 = 0 → (pX4_odds_70 Q x1 x3 S))
def pX4_odds_35s  (ih35 : Int32 → Int32 → Int32 → Int32 → (Nat → Mx) → Prop) (Q : Int64 → (Nat → Mx) → Prop) (x1 : Int32) (x2 : Int32) (x3 : Int32) (x4 : Int32) (S : Nat → Mx) : Prop := (x4 ≤ 1 → (pX4_odds_60 Q x1 x2 x3 x4 S)) ∧ (¬ x4 ≤ 1 → ((¬ (x3 - x3 / 2 * 2) = 0 → (pX4_odds_60 Q x1 x2 x3 x4 S)) ∧ ((x3 - x3 / 2 * 2) = 0 → (∀ v50 : Int32, v50 = (x3 / 2) → (∀ v55 : Int32, v55 = (x4 / 2) → (ih35 x1 x2 v50 v55 S))))))
noncomputable def pX4_odds_35 (Q : Int64 → (Nat → Mx) → Prop) (n : Nat) : Int32 → Int32 → Int32 → Int32 → (Nat → Mx) → Prop := Nat.rec (motive := fun _ => Int32 → Int32 → Int32 → Int32 → (Nat → Mx) → Prop) (fun _ _ _ _ _ => False) (fun _ ih => pX4_odds_35s ih Q) n
def pX4_odds (S : Nat → Mx) (x1 : Int32) (x2 : Int32) (Q : Int64 → (Nat → Mx) → Prop) : Prop := (x1 < 0 → (pX4_odds_19 Q S)) ∧ (¬ x1 < 0 → ((10 < x1 → (pX4_odds_19 Q S)) ∧ (¬ 10 < x1 → ((x2 < 0 → (pX4_odds_19 Q S)) ∧ (¬ x2 < 0 → ((x2 ≤ 1 → (pX4_harmlessSwaps S (fun r27 u27 => (∃ n, pX4_odds_35 Q n x1 x2 r27 64 u27)))) ∧ (¬ x2 ≤ 1 → (pX4_odds_19 Q S))))))))
set_option maxHeartbeats 4000000 in
set_option maxRecDepth 100000 in
theorem bX4_odds_19 {p : Program} {l : Launch} {e : Env} {s : State} {m : MethodId} {args : Array Value} {below : List Frame} {meth : Method} {c : Code} {D : va_G} {κ : Nat → ClassId} {A : Nat → Nat → Nat}   {Q : Int64 → (Nat → Mx) → Prop} (Cc : Cx D κ RX4 cX4_odds 5 (some .long) p s m args meth c) (hI : IX A)   : ∀ (S : Nat → Mx) (H : Heap) (locs : List Loc) (hP : PX D κ A S H) (hS : va_S (aX A) s.heap H locs) (ls : Array Slot) (hl : lv_has ls 5 [(0, .ref (A 5 0))]) (h : pX4_odds_19 Q S), W p l e rX4_odds s m args below meth c H locs 0 0 (MQ below (QWl Q (fun u H => PX D κ A u H) (aX A)) args s 0 0 (aX A)) (F0 m 19 ls []) := by
  obtain ⟨hx, hb, hml, hown, hts, hr, hlk, hE⟩ := id Cc
  intro S H locs hP hS ls hl h
  unfold pX4_odds_19 at h
  refine lv_aload_n hx hb dX4_odds_19 rfl (lv_at hl 0 rfl) ?_
  refine lv_iconst (v := 0) hx hb dX4_odds_20 (by decide) ?_
  refine kWi (kV Cc (mX4_found l D κ A hI h) (qX4_found hts (tw_244 hts) ⟨(Nat.le_of_ble_eq_true rfl), (Nat.le_of_ble_eq_true rfl)⟩) (va_recv hE.1 hP.c5 (ci := 4) (q0 := 0) rfl rfl) (rest := []) hP rfl hl.1 rfl (Nat.le_of_ble_eq_true rfl) dX4_odds_21 ⟨Nat.zero_le _, Nat.zero_le _⟩) hS (fun q h9 => h9) (fun r21 u21 H1 locs1 h hB hk hS1 => ?_)
  have hP := hB
  have hS := hS1
  refine lv_i2l (v := r21.toInt64) hx hb dX4_odds_24 rfl ?_
  exact W.lret (v := r21.toInt64) hx hb hr (fun t ht _ => QWl.mk (u := u21) h hP hS ht) hS.2.2 dX4_odds_25 (hlocks := hlk)
set_option maxHeartbeats 4000000 in
set_option maxRecDepth 100000 in
theorem bX4_odds_70 {p : Program} {l : Launch} {e : Env} {s : State} {m : MethodId} {args : Array Value} {below : List Frame} {meth : Method} {c : Code} {D : va_G} {κ : Nat → ClassId} {A : Nat → Nat → Nat}   {Q : Int64 → (Nat → Mx) → Prop} (Cc : Cx D κ RX4 cX4_odds 5 (some .long) p s m args meth c) (hI : IX A)   : ∀ (x1 : Int32) (y0 : Int32) (S : Nat → Mx) (H : Heap) (locs : List Loc) (hP : PX D κ A S H) (hS : va_S (aX A) s.heap H locs) (ls : Array Slot) (hl : lv_has ls 5 [(1, .int x1)]) (h : pX4_odds_70 Q x1 y0 S), W p l e rX4_odds s m args below meth c H locs 0 0 (MQ below (QWl Q (fun u H => PX D κ A u H) (aX A)) args s 0 0 (aX A)) (F0 m 70 ls [.int y0]) := by
  obtain ⟨hx, hb, hml, hown, hts, hr, hlk, hE⟩ := id Cc
  intro x1 y0 S H locs hP hS ls hl h
  unfold pX4_odds_70 at h
  refine lv_iload_n hx hb dX4_odds_70 rfl (lv_at hl 0 rfl) ?_
  refine kRl (kS Cc (mX4_power l D κ h) (qX4_power hts (tw_540 hts) ⟨(Nat.le_of_ble_eq_true rfl), (Nat.le_of_ble_eq_true rfl)⟩) (rest := []) trivial rfl hl.1 rfl (Nat.le_of_ble_eq_true rfl) dX4_odds_71 ⟨Nat.zero_le _, Nat.zero_le _⟩) (fun r71 h => ?_)
  exact W.lret (v := r71) hx hb hr (fun t ht _ => QWl.mk (u := S) h hP hS ht) hS.2.2 dX4_odds_74 (hlocks := hlk)
set_option maxHeartbeats 4000000 in
set_option maxRecDepth 100000 in
theorem bX4_odds_60 {p : Program} {l : Launch} {e : Env} {s : State} {m : MethodId} {args : Array Value} {below : List Frame} {meth : Method} {c : Code} {D : va_G} {κ : Nat → ClassId} {A : Nat → Nat → Nat}   {Q : Int64 → (Nat → Mx) → Prop} (Cc : Cx D κ RX4 cX4_odds 5 (some .long) p s m args meth c) (hI : IX A)   : ∀ (x1 : Int32) (x2 : Int32) (x3 : Int32) (x4 : Int32) (S : Nat → Mx) (H : Heap) (locs : List Loc) (hP : PX D κ A S H) (hS : va_S (aX A) s.heap H locs) (ls : Array Slot) (hl : lv_has ls 5 [(1, .int x1), (2, .int x2), (3, .int x3), (4, .int x4)]) (h : pX4_odds_60 Q x1 x2 x3 x4 S), W p l e rX4_odds s m args below meth c H locs 0 0 (MQ below (QWl Q (fun u H => PX D κ A u H) (aX A)) args s 0 0 (aX A)) (F0 m 60 ls []) := by
  obtain ⟨hx, hb, hml, hown, hts, hr, hlk, hE⟩ := id Cc
  intro x1 x2 x3 x4 S H locs hP hS ls hl h
  unfold pX4_odds_60 at h
  refine lv_iload_n hx hb dX4_odds_60 rfl (lv_at hl 1 rfl) ?_
  refine lv_if_ne (tgt := 68) hx hb dX4_odds_61 (by decide) (fun c61 => ?_) (fun c61 => ?_)
  · have h := h.1 c61
    refine lv_iload hx hb dX4_odds_68 (lv_at hl 3 rfl) ?_
    exact bX4_odds_70 Cc hI x1 x4 S _ _ hP hS _ (lv_sub hl [0] rfl) h
  · have h := h.2 c61
    refine lv_iload_n hx hb dX4_odds_64 rfl (lv_at hl 2 rfl) ?_
    refine lv_goto (tgt := 70) hx hb dX4_odds_65 (by decide) ?_
    exact bX4_odds_70 Cc hI x1 x3 S _ _ hP hS _ (lv_sub hl [0] rfl) h
set_option maxHeartbeats 4000000 in
set_option maxRecDepth 100000 in
theorem bX4_odds_35 {p : Program} {l : Launch} {e : Env} {s : State} {m : MethodId} {args : Array Value} {below : List Frame} {meth : Method} {c : Code} {D : va_G} {κ : Nat → ClassId} {A : Nat → Nat → Nat}   {Q : Int64 → (Nat → Mx) → Prop} (Cc : Cx D κ RX4 cX4_odds 5 (some .long) p s m args meth c) (hI : IX A)   (n : Nat) : ∀ (x1 : Int32) (x2 : Int32) (x3 : Int32) (x4 : Int32) (S : Nat → Mx) (H : Heap) (locs : List Loc) (hP : PX D κ A S H) (hS : va_S (aX A) s.heap H locs) (ls : Array Slot) (hl : lv_has ls 5 [(1, .int x1), (2, .int x2), (3, .int x3), (4, .int x4)]) (h : pX4_odds_35 Q n x1 x2 x3 x4 S), W p l e rX4_odds s m args below meth c H locs 0 0 (MQ below (QWl Q (fun u H => PX D κ A u H) (aX A)) args s 0 0 (aX A)) (F0 m 35 ls []) := by
  obtain ⟨hx, hb, hml, hown, hts, hr, hlk, hE⟩ := id Cc
  induction n with
  | zero =>
    intro x1 x2 x3 x4 S H locs hP hS ls hl h
    exact absurd h (fun z => z)
  | succ n hih35 =>
    intro x1 x2 x3 x4 S H locs hP hS ls hl h
    have h : pX4_odds_35s (pX4_odds_35 Q n) Q x1 x2 x3 x4 S := h
    unfold pX4_odds_35s at h
    refine lv_iload hx hb dX4_odds_35 (lv_at hl 3 rfl) ?_
    refine lv_iconst (v := 1) hx hb dX4_odds_37 (by decide) ?_
    refine lv_icmp_le (tgt := 60) hx hb dX4_odds_38 (by decide) (fun c38 => ?_) (fun c38 => ?_)
    · have h := h.1 c38
      exact bX4_odds_60 Cc hI x1 x2 x3 x4 S _ _ hP hS _ (lv_sub hl [0, 1, 2, 3] rfl) h
    · have h := h.2 c38
      refine lv_iload_n hx hb dX4_odds_41 rfl (lv_at hl 2 rfl) ?_
      refine lv_iconst (v := 2) hx hb dX4_odds_42 (by decide) ?_
      refine lv_irem hx hb dX4_odds_43 (by decide) ?_
      refine lv_if_ne (tgt := 60) hx hb dX4_odds_44 (by decide) (fun c44 => ?_) (fun c44 => ?_)
      · have h := h.1 c44
        exact bX4_odds_60 Cc hI x1 x2 x3 x4 S _ _ hP hS _ (lv_sub hl [0, 1, 2, 3] rfl) h
      · have h := h.2 c44
        refine lv_iload_n hx hb dX4_odds_47 rfl (lv_at hl 2 rfl) ?_
        refine lv_iconst (v := 2) hx hb dX4_odds_48 (by decide) ?_
        refine lv_idiv hx hb dX4_odds_49 (by decide) ?_
        refine lv_topi (fun v50 e50 => ?_)
        have h := h v50 e50
        refine lv_istore_n (lv' := [(3, .int v50), (1, .int x1), (2, .int x2), (4, .int x4)]) hx hb dX4_odds_50 rfl hl (by decide) rfl (fun ls hl => ?_)
        refine lv_iload hx hb dX4_odds_51 (lv_at hl 3 rfl) ?_
        refine lv_iconst (v := 2) hx hb dX4_odds_53 (by decide) ?_
        refine lv_idiv hx hb dX4_odds_54 (by decide) ?_
        refine lv_topi (fun v55 e55 => ?_)
        have h := h v55 e55
        refine lv_istore (lv' := [(4, .int v55), (3, .int v50), (1, .int x1), (2, .int x2)]) hx hb dX4_odds_55 hl (by decide) rfl (fun ls hl => ?_)
        refine lv_goto (tgt := 35) hx hb dX4_odds_57 (by decide) ?_
        exact hih35 x1 x2 v50 v55 S _ _ hP hS _ (lv_sub hl [2, 3, 1, 0] rfl) h
set_option maxHeartbeats 4000000 in
set_option maxRecDepth 100000 in
theorem mX4_odds (l : Launch) (D : va_G) (κ : Nat → ClassId) (A : Nat → Nat → Nat) {S : Nat → Mx} {x1 : Int32} {x2 : Int32} {Q : Int64 → (Nat → Mx) → Prop} (hI : IX A) (h : pX4_odds S x1 x2 Q) : Met l yX4_odds (wz yX4_odds cX4_odds 5 (some .long)) rX4_odds (va_Pc [.ref (A 5 0), .int x1, .int x2] (PE D κ (fun H => PX D κ A S H))) (QWl Q (fun u H => PX D κ A u H) (aX A)) 0 0 (aX A) := by
  refine Met_of l (own := RX4) (by decide) rfl (Nat.le_of_ble_eq_true rfl) (fun p e s m below meth c Cc hPP ls hl => ?_)
  obtain ⟨hx, hb, hml, hown, hts, hr, hlk, hE⟩ := id Cc
  have hl : lv_has ls 5 [(0, .ref (A 5 0)), (1, .int x1), (2, .int x2)] := hl
  have hP := hPP
  have hS : va_S (aX A) s.heap s.heap [] := va_S.rf
  unfold pX4_odds at h
  refine lv_iload_n hx hb dX4_odds_0 rfl (lv_at hl 1 rfl) ?_
  refine lv_if_lt (tgt := 19) hx hb dX4_odds_1 (by decide) (fun c1 => ?_) (fun c1 => ?_)
  · have h := h.1 c1
    exact bX4_odds_19 Cc hI S _ _ hP hS _ (lv_sub hl [0] rfl) h
  · have h := h.2 c1
    refine lv_iload_n hx hb dX4_odds_4 rfl (lv_at hl 1 rfl) ?_
    refine lv_bipush (v := 10) hx hb dX4_odds_5 (by decide) ?_
    refine lv_icmp_gt (tgt := 19) hx hb dX4_odds_7 (by decide) (fun c7 => ?_) (fun c7 => ?_)
    · have h := h.1 c7
      exact bX4_odds_19 Cc hI S _ _ hP hS _ (lv_sub hl [0] rfl) h
    · have h := h.2 c7
      refine lv_iload_n hx hb dX4_odds_10 rfl (lv_at hl 2 rfl) ?_
      refine lv_if_lt (tgt := 19) hx hb dX4_odds_11 (by decide) (fun c11 => ?_) (fun c11 => ?_)
      · have h := h.1 c11
        exact bX4_odds_19 Cc hI S _ _ hP hS _ (lv_sub hl [0] rfl) h
      · have h := h.2 c11
        refine lv_iload_n hx hb dX4_odds_14 rfl (lv_at hl 2 rfl) ?_
        refine lv_iconst (v := 1) hx hb dX4_odds_15 (by decide) ?_
        refine lv_icmp_le (tgt := 26) hx hb dX4_odds_16 (by decide) (fun c16 => ?_) (fun c16 => ?_)
        · have h := h.1 c16
          refine lv_aload_n hx hb dX4_odds_26 rfl (lv_at hl 0 rfl) ?_
          refine kWi (kV Cc (mX4_harmlessSwaps l D κ A hI h) (qX4_harmlessSwaps hts (tw_536 hts) ⟨(Nat.le_of_ble_eq_true rfl), (Nat.le_of_ble_eq_true rfl)⟩) (va_recv hE.1 hP.c5 (ci := 4) (q0 := 0) rfl rfl) (rest := []) hP rfl hl.1 rfl (Nat.le_of_ble_eq_true rfl) dX4_odds_27 ⟨Nat.zero_le _, Nat.zero_le _⟩) hS (fun q h9 => h9) (fun r27 u27 H1 locs1 h hB hk hS1 => ?_)
          have hP := hB
          have hS := hS1
          refine lv_istore_n (lv' := [(3, .int r27), (0, .ref (A 5 0)), (1, .int x1), (2, .int x2)]) hx hb dX4_odds_30 rfl hl (by decide) rfl (fun ls hl => ?_)
          refine lv_bipush (v := 64) hx hb dX4_odds_31 (by decide) ?_
          refine lv_istore (lv' := [(4, .int 64), (3, .int r27), (0, .ref (A 5 0)), (1, .int x1), (2, .int x2)]) hx hb dX4_odds_33 hl (by decide) rfl (fun ls hl => ?_)
          obtain ⟨n, h⟩ := h
          exact bX4_odds_35 Cc hI n x1 x2 r27 64 u27 _ _ hP hS _ (lv_sub hl [3, 4, 1, 0] rfl) h
        · have h := h.2 c16
          exact bX4_odds_19 Cc hI S _ _ hP hS _ (lv_sub hl [0] rfl) h
theorem qX4_odds {R : Room} {s : State} {args : Array Value} {own : String} {idx : Nat} (hts : ∀ w ∈ gG, w.before args s = true) (hl : (Cond.methodLink own idx yX4_odds).before args s = true) (hR : rX4_odds.frames + 1 ≤ R.frames ∧ 8 + (5 + 11) + rX4_odds.locals ≤ R.locals) : CallW R s args own RX4 idx yX4_odds cX4_odds 5 (some .long) (wz yX4_odds cX4_odds 5 (some .long)) rX4_odds 0 0 2 := ⟨kw 2 hts mw_535 rfl rfl (tw_70 hts) hl (by decide +kernel) hR, tw_533 hts, tw_534 hts⟩
abbrev rX4_seed : Room := { frames := 0, cells := 0, slots := 0, locals := 0 }
def pX4_seed (S : Nat → Mx) (x1 : Int32) (Q : Int32 → (Nat → Mx) → Prop) : Prop := ∀ v7 : Int32, v7 = ((S 0) 10 0) → (Q v7 (va_up S 0 (st (S 0) 10 0 x1)))
set_option maxHeartbeats 4000000 in
set_option maxRecDepth 100000 in
theorem mX4_seed (l : Launch) (D : va_G) (κ : Nat → ClassId) (A : Nat → Nat → Nat) {S : Nat → Mx} {x1 : Int32} {Q : Int32 → (Nat → Mx) → Prop} (hI : IX A) (h : pX4_seed S x1 Q) : Met l yX4_seed (wz yX4_seed cX4_seed 3 (some .int)) rX4_seed (va_Pc [.ref (A 5 0), .int x1] (PE D κ (fun H => PX D κ A S H))) (QWi Q (fun u H => PX D κ A u H) (aX A)) 0 0 (aX A) := by
  refine Met_of l (own := RX4) (by decide) rfl (Nat.le_of_ble_eq_true rfl) (fun p e s m below meth c Cc hPP ls hl => ?_)
  obtain ⟨hx, hb, hml, hown, hts, hr, hlk, hE⟩ := id Cc
  have hl : lv_has ls 3 [(0, .ref (A 5 0)), (1, .int x1)] := hl
  have hP := hPP
  have hS : va_S (aX A) s.heap s.heap [] := va_S.rf
  unfold pX4_seed at h
  refine lv_aload_n hx hb dX4_seed_0 rfl (lv_at hl 0 rfl) ?_
  refine gSf_0 Cc hP.c5 (tw_209 hts) dX4_seed_1 ?_
  refine gCo_10 Cc hP.c0 (tw_122 hts) dX4_seed_4 ?_
  refine lv_topi (fun v7 e7 => ?_)
  have h := h v7 e7
  refine lv_istore_n (lv' := [(2, .int v7), (0, .ref (A 5 0)), (1, .int x1)]) hx hb dX4_seed_7 rfl hl (by decide) rfl (fun ls hl => ?_)
  refine lv_aload_n hx hb dX4_seed_8 rfl (lv_at hl 1 rfl) ?_
  refine gSf_0 Cc hP.c5 (tw_209 hts) dX4_seed_9 ?_
  refine lv_iload_n hx hb dX4_seed_12 rfl (lv_at hl 2 rfl) ?_
  refine uCo_10 Cc hP.c0 (hI.ij (k := 0) (by decide)) hS (aX_of (k := 0) (by decide) ⟨0, by decide, rfl⟩) (tw_122 hts) dX4_seed_13 (fun H1 locs1 hB hS1 hk => ?_)
  have hP := PX.put (k := 0) (by decide) hI hP hB (fun q _ hq => hk q (fun e => hq ⟨0, by decide, e⟩))
  have hS := hS1
  refine lv_iload_n hx hb dX4_seed_16 rfl (lv_at hl 0 rfl) ?_
  exact W.iret (v := v7) hx hb hr (fun t ht _ => QWi.mk (u := (va_up S 0 (st (S 0) 10 0 x1))) h hP hS ht) hS.2.2 dX4_seed_17 (hlocks := hlk)
theorem qX4_seed {R : Room} {s : State} {args : Array Value} {own : String} {idx : Nat} (hts : ∀ w ∈ gG, w.before args s = true) (hl : (Cond.methodLink own idx yX4_seed).before args s = true) (hR : rX4_seed.frames + 1 ≤ R.frames ∧ 8 + (3 + 11) + rX4_seed.locals ≤ R.locals) : CallW R s args own RX4 idx yX4_seed cX4_seed 3 (some .int) (wz yX4_seed cX4_seed 3 (some .int)) rX4_seed 0 0 1 := ⟨kw 1 hts mw_546 rfl rfl (tw_70 hts) hl (by decide +kernel) hR, tw_544 hts, tw_545 hts⟩
abbrev rX4_feed : Room := { frames := 1, cells := 0, slots := 0, locals := 23 }
def pX4_feed_10 (Q : Int32 → (Nat → Mx) → Prop) (S : Nat → Mx) : Prop := pX4_found S 0 (fun r12 u12 => (Q r12 u12))
def pX4_feed (S : Nat → Mx) (x1 : Int32) (x2 : Int32) (Q : Int32 → (Nat → Mx) → Prop) : Prop := (x2 < 1 → (pX4_feed_10 Q S)) ∧ (¬ x2 < 1 → ((x2 ≤ 4 → (((((S 4) 1 0) + x2) ≤ 120 → (pX3_append (S 4) x1 x2 (fun u42 => (Q (((va_up S 4 u42) 4) 1 0) (va_up S 4 u42))))) ∧ (¬ (((S 4) 1 0) + x2) ≤ 120 → (pX4_found S 1 (fun r32 u32 => (Q r32 u32)))))) ∧ (¬ x2 ≤ 4 → (pX4_feed_10 Q S))))
set_option maxHeartbeats 4000000 in
set_option maxRecDepth 100000 in
theorem bX4_feed_10 {p : Program} {l : Launch} {e : Env} {s : State} {m : MethodId} {args : Array Value} {below : List Frame} {meth : Method} {c : Code} {D : va_G} {κ : Nat → ClassId} {A : Nat → Nat → Nat}   {Q : Int32 → (Nat → Mx) → Prop} (Cc : Cx D κ RX4 cX4_feed 3 (some .int) p s m args meth c) (hI : IX A)   : ∀ (S : Nat → Mx) (H : Heap) (locs : List Loc) (hP : PX D κ A S H) (hS : va_S (aX A) s.heap H locs) (ls : Array Slot) (hl : lv_has ls 3 [(0, .ref (A 5 0))]) (h : pX4_feed_10 Q S), W p l e rX4_feed s m args below meth c H locs 0 0 (MQ below (QWi Q (fun u H => PX D κ A u H) (aX A)) args s 0 0 (aX A)) (F0 m 10 ls []) := by
  obtain ⟨hx, hb, hml, hown, hts, hr, hlk, hE⟩ := id Cc
  intro S H locs hP hS ls hl h
  unfold pX4_feed_10 at h
  refine lv_aload_n hx hb dX4_feed_10 rfl (lv_at hl 0 rfl) ?_
  refine lv_iconst (v := 0) hx hb dX4_feed_11 (by decide) ?_
  refine kWi (kV Cc (mX4_found l D κ A hI h) (qX4_found hts (tw_244 hts) ⟨(Nat.le_of_ble_eq_true rfl), (Nat.le_of_ble_eq_true rfl)⟩) (va_recv hE.1 hP.c5 (ci := 4) (q0 := 0) rfl rfl) (rest := []) hP rfl hl.1 rfl (Nat.le_of_ble_eq_true rfl) dX4_feed_12 ⟨Nat.zero_le _, Nat.zero_le _⟩) hS (fun q h9 => h9) (fun r12 u12 H1 locs1 h hB hk hS1 => ?_)
  have hP := hB
  have hS := hS1
  exact W.iret (v := r12) hx hb hr (fun t ht _ => QWi.mk (u := u12) h hP hS ht) hS.2.2 dX4_feed_15 (hlocks := hlk)
set_option maxHeartbeats 4000000 in
set_option maxRecDepth 100000 in
theorem mX4_feed (l : Launch) (D : va_G) (κ : Nat → ClassId) (A : Nat → Nat → Nat) {S : Nat → Mx} {x1 : Int32} {x2 : Int32} {Q : Int32 → (Nat → Mx) → Prop} (hI : IX A) (h : pX4_feed S x1 x2 Q) : Met l yX4_feed (wz yX4_feed cX4_feed 3 (some .int)) rX4_feed (va_Pc [.ref (A 5 0), .int x1, .int x2] (PE D κ (fun H => PX D κ A S H))) (QWi Q (fun u H => PX D κ A u H) (aX A)) 0 0 (aX A) := by
  refine Met_of l (own := RX4) (by decide) rfl (Nat.le_of_ble_eq_true rfl) (fun p e s m below meth c Cc hPP ls hl => ?_)
  obtain ⟨hx, hb, hml, hown, hts, hr, hlk, hE⟩ := id Cc
  have hl : lv_has ls 3 [(0, .ref (A 5 0)), (1, .int x1), (2, .int x2)] := hl
  have hP := hPP
  have hS : va_S (aX A) s.heap s.heap [] := va_S.rf
  unfold pX4_feed at h
  refine lv_iload_n hx hb dX4_feed_0 rfl (lv_at hl 2 rfl) ?_
  refine lv_iconst (v := 1) hx hb dX4_feed_1 (by decide) ?_
  refine lv_icmp_lt (tgt := 10) hx hb dX4_feed_2 (by decide) (fun c2 => ?_) (fun c2 => ?_)
  · have h := h.1 c2
    exact bX4_feed_10 Cc hI S _ _ hP hS _ (lv_sub hl [0] rfl) h
  · have h := h.2 c2
    refine lv_iload_n hx hb dX4_feed_5 rfl (lv_at hl 2 rfl) ?_
    refine lv_iconst (v := 4) hx hb dX4_feed_6 (by decide) ?_
    refine lv_icmp_le (tgt := 16) hx hb dX4_feed_7 (by decide) (fun c7 => ?_) (fun c7 => ?_)
    · have h := h.1 c7
      refine lv_aload_n hx hb dX4_feed_16 rfl (lv_at hl 0 rfl) ?_
      refine gSf_4 Cc hP.c5 (tw_213 hts) dX4_feed_17 ?_
      refine gTp_1 Cc hP.c4 (tw_174 hts) dX4_feed_20 ?_
      refine lv_iload_n hx hb dX4_feed_23 rfl (lv_at hl 2 rfl) ?_
      refine lv_iadd hx hb dX4_feed_24 ?_
      refine lv_bipush (v := 120) hx hb dX4_feed_25 (by decide) ?_
      refine lv_icmp_le (tgt := 36) hx hb dX4_feed_27 (by decide) (fun c27 => ?_) (fun c27 => ?_)
      · have h := h.1 c27
        refine lv_aload_n hx hb dX4_feed_36 rfl (lv_at hl 0 rfl) ?_
        refine gSf_4 Cc hP.c5 (tw_213 hts) dX4_feed_37 ?_
        refine lv_iload_n hx hb dX4_feed_40 rfl (lv_at hl 1 rfl) ?_
        refine lv_iload_n hx hb dX4_feed_41 rfl (lv_at hl 2 rfl) ?_
        refine kWv (kV Cc (mX3_append l D κ (A 4) (hI.ij (k := 4) (by decide)) h) (qX3_append hts (tw_551 hts) ⟨(Nat.le_of_ble_eq_true rfl), (Nat.le_of_ble_eq_true rfl)⟩) (va_recv hE.1 hP.c4 (ci := 3) (q0 := 0) rfl rfl) (rest := []) hP.c4 rfl hl.1 rfl (Nat.le_of_ble_eq_true rfl) dX4_feed_42 ⟨Nat.zero_le _, Nat.zero_le _⟩) hS (fun q h9 => aX_of (k := 4) (by decide) h9) (fun  u42 H1 locs1 h hB hk hS1 => ?_)
        have hP := PX.put (k := 4) (by decide) hI hP hB hk
        have hS := hS1
        refine lv_aload_n hx hb dX4_feed_45 rfl (lv_at hl 0 rfl) ?_
        refine gSf_4 Cc hP.c5 (tw_213 hts) dX4_feed_46 ?_
        refine gTp_1 Cc hP.c4 (tw_174 hts) dX4_feed_49 ?_
        exact W.iret (v := (((va_up S 4 u42) 4) 1 0)) hx hb hr (fun t ht _ => QWi.mk (u := (va_up S 4 u42)) h hP hS ht) hS.2.2 dX4_feed_52 (hlocks := hlk)
      · have h := h.2 c27
        refine lv_aload_n hx hb dX4_feed_30 rfl (lv_at hl 0 rfl) ?_
        refine lv_iconst (v := 1) hx hb dX4_feed_31 (by decide) ?_
        refine kWi (kV Cc (mX4_found l D κ A hI h) (qX4_found hts (tw_244 hts) ⟨(Nat.le_of_ble_eq_true rfl), (Nat.le_of_ble_eq_true rfl)⟩) (va_recv hE.1 hP.c5 (ci := 4) (q0 := 0) rfl rfl) (rest := []) hP rfl hl.1 rfl (Nat.le_of_ble_eq_true rfl) dX4_feed_32 ⟨Nat.zero_le _, Nat.zero_le _⟩) hS (fun q h9 => h9) (fun r32 u32 H1 locs1 h hB hk hS1 => ?_)
        have hP := hB
        have hS := hS1
        exact W.iret (v := r32) hx hb hr (fun t ht _ => QWi.mk (u := u32) h hP hS ht) hS.2.2 dX4_feed_35 (hlocks := hlk)
    · have h := h.2 c7
      exact bX4_feed_10 Cc hI S _ _ hP hS _ (lv_sub hl [0] rfl) h
theorem qX4_feed {R : Room} {s : State} {args : Array Value} {own : String} {idx : Nat} (hts : ∀ w ∈ gG, w.before args s = true) (hl : (Cond.methodLink own idx yX4_feed).before args s = true) (hR : rX4_feed.frames + 1 ≤ R.frames ∧ 8 + (3 + 11) + rX4_feed.locals ≤ R.locals) : CallW R s args own RX4 idx yX4_feed cX4_feed 3 (some .int) (wz yX4_feed cX4_feed 3 (some .int)) rX4_feed 0 0 2 := ⟨kw 2 hts mw_550 rfl rfl (tw_70 hts) hl (by decide +kernel) hR, tw_548 hts, tw_549 hts⟩
abbrev rX4_wipe : Room := { frames := 0, cells := 0, slots := 0, locals := 0 }
def pX4_wipe (S : Nat → Mx)  (Q : Int32 → (Nat → Mx) → Prop) : Prop := ∀ v7 : Int32, v7 = ((S 4) 1 0) → (Q v7 (va_up S 4 (st (S 4) 1 0 0)))
set_option maxHeartbeats 4000000 in
set_option maxRecDepth 100000 in
theorem mX4_wipe (l : Launch) (D : va_G) (κ : Nat → ClassId) (A : Nat → Nat → Nat) {S : Nat → Mx}  {Q : Int32 → (Nat → Mx) → Prop} (hI : IX A) (h : pX4_wipe S  Q) : Met l yX4_wipe (wz yX4_wipe cX4_wipe 2 (some .int)) rX4_wipe (va_Pc [.ref (A 5 0)] (PE D κ (fun H => PX D κ A S H))) (QWi Q (fun u H => PX D κ A u H) (aX A)) 0 0 (aX A) := by
  refine Met_of l (own := RX4) (by decide) rfl (Nat.le_of_ble_eq_true rfl) (fun p e s m below meth c Cc hPP ls hl => ?_)
  obtain ⟨hx, hb, hml, hown, hts, hr, hlk, hE⟩ := id Cc
  have hl : lv_has ls 2 [(0, .ref (A 5 0))] := hl
  have hP := hPP
  have hS : va_S (aX A) s.heap s.heap [] := va_S.rf
  unfold pX4_wipe at h
  refine lv_aload_n hx hb dX4_wipe_0 rfl (lv_at hl 0 rfl) ?_
  refine gSf_4 Cc hP.c5 (tw_213 hts) dX4_wipe_1 ?_
  refine gTp_1 Cc hP.c4 (tw_174 hts) dX4_wipe_4 ?_
  refine lv_topi (fun v7 e7 => ?_)
  have h := h v7 e7
  refine lv_istore_n (lv' := [(1, .int v7), (0, .ref (A 5 0))]) hx hb dX4_wipe_7 rfl hl (by decide) rfl (fun ls hl => ?_)
  refine lv_aload_n hx hb dX4_wipe_8 rfl (lv_at hl 1 rfl) ?_
  refine gSf_4 Cc hP.c5 (tw_213 hts) dX4_wipe_9 ?_
  refine lv_iconst (v := 0) hx hb dX4_wipe_12 (by decide) ?_
  refine uTp_1 Cc hP.c4 (hI.ij (k := 4) (by decide)) hS (aX_of (k := 4) (by decide) ⟨0, by decide, rfl⟩) (tw_174 hts) dX4_wipe_13 (fun H1 locs1 hB hS1 hk => ?_)
  have hP := PX.put (k := 4) (by decide) hI hP hB (fun q _ hq => hk q (fun e => hq ⟨0, by decide, e⟩))
  have hS := hS1
  refine lv_iload_n hx hb dX4_wipe_16 rfl (lv_at hl 0 rfl) ?_
  exact W.iret (v := v7) hx hb hr (fun t ht _ => QWi.mk (u := (va_up S 4 (st (S 4) 1 0 0))) h hP hS ht) hS.2.2 dX4_wipe_17 (hlocks := hlk)
theorem qX4_wipe {R : Room} {s : State} {args : Array Value} {own : String} {idx : Nat} (hts : ∀ w ∈ gG, w.before args s = true) (hl : (Cond.methodLink own idx yX4_wipe).before args s = true) (hR : rX4_wipe.frames + 1 ≤ R.frames ∧ 8 + (2 + 11) + rX4_wipe.locals ≤ R.locals) : CallW R s args own RX4 idx yX4_wipe cX4_wipe 2 (some .int) (wz yX4_wipe cX4_wipe 2 (some .int)) rX4_wipe 0 0 0 := ⟨kw 0 hts mw_558 rfl rfl (tw_70 hts) hl (by decide +kernel) hR, tw_556 hts, tw_557 hts⟩
abbrev rX4_isSpot : Room := { frames := 0, cells := 0, slots := 0, locals := 0 }
def pX4_isSpot_15 (Q : Int32 → Prop) (y0 : Int32) : Prop := (y0 = 0 ∨ y0 = 1) ∧ (Q y0)
def pX4_isSpot_14 (Q : Int32 → Prop)  : Prop := pX4_isSpot_15 Q 0
def pX4_isSpot  (x1 : Int32) (Q : Int32 → Prop) : Prop := (x1 < 0 → (pX4_isSpot_14 Q )) ∧ (¬ x1 < 0 → ((10 ≤ x1 → (pX4_isSpot_14 Q )) ∧ (¬ 10 ≤ x1 → (pX4_isSpot_15 Q 1))))
set_option maxHeartbeats 4000000 in
set_option maxRecDepth 100000 in
theorem bX4_isSpot_15 {p : Program} {l : Launch} {e : Env} {s : State} {m : MethodId} {args : Array Value} {below : List Frame} {meth : Method} {c : Code} {D : va_G} {κ : Nat → ClassId}    {Q : Int32 → Prop} (Cc : Cx D κ RX4 cX4_isSpot 1 (some .boolean) p s m args meth c)    : ∀ (y0 : Int32) (ls : Array Slot) (hl : lv_has ls 1 []) (h : pX4_isSpot_15 Q y0), W p l e rX4_isSpot s m args below meth c s.heap [] 0 0 (MQ below (RQ Q) args s 0 0 (fun _ => False)) (F0 m 15 ls [.int y0]) := by
  obtain ⟨hx, hb, hml, hown, hts, hr, hlk, hE⟩ := id Cc
  intro y0 ls hl h
  unfold pX4_isSpot_15 at h
  exact W.zret (v := y0) (ty := .boolean) hx hb hr (bool_nar h.1) (fun t ht _ => RQ.mk h.2 ht) (fun _ h9 => by cases h9) dX4_isSpot_15 (hlocks := hlk)
set_option maxHeartbeats 4000000 in
set_option maxRecDepth 100000 in
theorem bX4_isSpot_14 {p : Program} {l : Launch} {e : Env} {s : State} {m : MethodId} {args : Array Value} {below : List Frame} {meth : Method} {c : Code} {D : va_G} {κ : Nat → ClassId}    {Q : Int32 → Prop} (Cc : Cx D κ RX4 cX4_isSpot 1 (some .boolean) p s m args meth c)    : ∀ (ls : Array Slot) (hl : lv_has ls 1 []) (h : pX4_isSpot_14 Q ), W p l e rX4_isSpot s m args below meth c s.heap [] 0 0 (MQ below (RQ Q) args s 0 0 (fun _ => False)) (F0 m 14 ls []) := by
  obtain ⟨hx, hb, hml, hown, hts, hr, hlk, hE⟩ := id Cc
  intro ls hl h
  unfold pX4_isSpot_14 at h
  refine lv_iconst (v := 0) hx hb dX4_isSpot_14 (by decide) ?_
  exact bX4_isSpot_15 Cc 0  _ (lv_sub hl [] rfl) h
set_option maxHeartbeats 4000000 in
set_option maxRecDepth 100000 in
theorem mX4_isSpot (l : Launch) (D : va_G) (κ : Nat → ClassId)   {x1 : Int32} {Q : Int32 → Prop}  (h : pX4_isSpot  x1 Q) : Met l yX4_isSpot (wz yX4_isSpot cX4_isSpot 1 (some .boolean)) rX4_isSpot (va_Pc [.int x1] (PE D κ (fun _ => True))) (RQ Q) 0 0 (fun _ => False) := by
  refine Met_of l (own := RX4) (by decide) rfl (Nat.le_of_ble_eq_true rfl) (fun p e s m below meth c Cc hPP ls hl => ?_)
  obtain ⟨hx, hb, hml, hown, hts, hr, hlk, hE⟩ := id Cc
  have hl : lv_has ls 1 [(0, .int x1)] := hl
  unfold pX4_isSpot at h
  refine lv_iload_n hx hb dX4_isSpot_0 rfl (lv_at hl 0 rfl) ?_
  refine lv_if_lt (tgt := 14) hx hb dX4_isSpot_1 (by decide) (fun c1 => ?_) (fun c1 => ?_)
  · have h := h.1 c1
    exact bX4_isSpot_14 Cc   _ (lv_sub hl [] rfl) h
  · have h := h.2 c1
    refine lv_iload_n hx hb dX4_isSpot_4 rfl (lv_at hl 0 rfl) ?_
    refine lv_bipush (v := 10) hx hb dX4_isSpot_5 (by decide) ?_
    refine lv_icmp_ge (tgt := 14) hx hb dX4_isSpot_7 (by decide) (fun c7 => ?_) (fun c7 => ?_)
    · have h := h.1 c7
      exact bX4_isSpot_14 Cc   _ (lv_sub hl [] rfl) h
    · have h := h.2 c7
      refine lv_iconst (v := 1) hx hb dX4_isSpot_10 (by decide) ?_
      refine lv_goto (tgt := 15) hx hb dX4_isSpot_11 (by decide) ?_
      exact bX4_isSpot_15 Cc 1  _ (lv_sub hl [] rfl) h
theorem qX4_isSpot {R : Room} {s : State} {args : Array Value} {own : String} {idx : Nat} (hts : ∀ w ∈ gG, w.before args s = true) (hl : (Cond.methodLink own idx yX4_isSpot).before args s = true) (hR : rX4_isSpot.frames + 1 ≤ R.frames ∧ 8 + (1 + 11) + rX4_isSpot.locals ≤ R.locals) : CallB R s args own idx yX4_isSpot cX4_isSpot 1 (some .boolean) (wz yX4_isSpot cX4_isSpot 1 (some .boolean)) rX4_isSpot 0 0 1 ∧ (Cond.static yX4_isSpot).before args s = true := ⟨kw 1 hts mw_679 rfl rfl (tw_70 hts) hl (by decide +kernel) hR, tw_678 hts⟩
abbrev rX4_hold : Room := { frames := 1, cells := 0, slots := 0, locals := 21 }
def pX4_hold_23 (Q : Int32 → (Nat → Mx) → Prop) (S : Nat → Mx) : Prop := pX4_found S 0 (fun r25 u25 => (Q r25 u25))
def pX4_hold_29 (Q : Int32 → (Nat → Mx) → Prop) (x1 : Int32) (x2 : Int32) (S : Nat → Mx) : Prop := vp_in x1 10 ∧ (Q 1 (va_up S 0 (st (S 0) 6 x1.toNatClampNeg x2)))
def pX4_hold (S : Nat → Mx) (x1 : Int32) (x2 : Int32) (Q : Int32 → (Nat → Mx) → Prop) : Prop := pX4_isSpot x1 (fun r1 => ((r1 = 0 → (pX4_hold_23 Q S)) ∧ (¬ r1 = 0 → ((x2 = (-1) → (pX4_hold_29 Q x1 x2 S)) ∧ (¬ x2 = (-1) → (pX1_has (S 0) x2 (fun r17 => ((¬ r17 = 0 → (pX4_hold_29 Q x1 x2 S)) ∧ (r17 = 0 → (pX4_hold_23 Q S))))))))))
set_option maxHeartbeats 4000000 in
set_option maxRecDepth 100000 in
theorem bX4_hold_23 {p : Program} {l : Launch} {e : Env} {s : State} {m : MethodId} {args : Array Value} {below : List Frame} {meth : Method} {c : Code} {D : va_G} {κ : Nat → ClassId} {A : Nat → Nat → Nat}   {Q : Int32 → (Nat → Mx) → Prop} (Cc : Cx D κ RX4 cX4_hold 3 (some .int) p s m args meth c) (hI : IX A)   : ∀ (S : Nat → Mx) (H : Heap) (locs : List Loc) (hP : PX D κ A S H) (hS : va_S (aX A) s.heap H locs) (ls : Array Slot) (hl : lv_has ls 3 [(0, .ref (A 5 0))]) (h : pX4_hold_23 Q S), W p l e rX4_hold s m args below meth c H locs 0 0 (MQ below (QWi Q (fun u H => PX D κ A u H) (aX A)) args s 0 0 (aX A)) (F0 m 23 ls []) := by
  obtain ⟨hx, hb, hml, hown, hts, hr, hlk, hE⟩ := id Cc
  intro S H locs hP hS ls hl h
  unfold pX4_hold_23 at h
  refine lv_aload_n hx hb dX4_hold_23 rfl (lv_at hl 0 rfl) ?_
  refine lv_iconst (v := 0) hx hb dX4_hold_24 (by decide) ?_
  refine kWi (kV Cc (mX4_found l D κ A hI h) (qX4_found hts (tw_244 hts) ⟨(Nat.le_of_ble_eq_true rfl), (Nat.le_of_ble_eq_true rfl)⟩) (va_recv hE.1 hP.c5 (ci := 4) (q0 := 0) rfl rfl) (rest := []) hP rfl hl.1 rfl (Nat.le_of_ble_eq_true rfl) dX4_hold_25 ⟨Nat.zero_le _, Nat.zero_le _⟩) hS (fun q h9 => h9) (fun r25 u25 H1 locs1 h hB hk hS1 => ?_)
  have hP := hB
  have hS := hS1
  exact W.iret (v := r25) hx hb hr (fun t ht _ => QWi.mk (u := u25) h hP hS ht) hS.2.2 dX4_hold_28 (hlocks := hlk)
set_option maxHeartbeats 4000000 in
set_option maxRecDepth 100000 in
theorem bX4_hold_29 {p : Program} {l : Launch} {e : Env} {s : State} {m : MethodId} {args : Array Value} {below : List Frame} {meth : Method} {c : Code} {D : va_G} {κ : Nat → ClassId} {A : Nat → Nat → Nat}   {Q : Int32 → (Nat → Mx) → Prop} (Cc : Cx D κ RX4 cX4_hold 3 (some .int) p s m args meth c) (hI : IX A)   : ∀ (x1 : Int32) (x2 : Int32) (S : Nat → Mx) (H : Heap) (locs : List Loc) (hP : PX D κ A S H) (hS : va_S (aX A) s.heap H locs) (ls : Array Slot) (hl : lv_has ls 3 [(0, .ref (A 5 0)), (1, .int x1), (2, .int x2)]) (h : pX4_hold_29 Q x1 x2 S), W p l e rX4_hold s m args below meth c H locs 0 0 (MQ below (QWi Q (fun u H => PX D κ A u H) (aX A)) args s 0 0 (aX A)) (F0 m 29 ls []) := by
  obtain ⟨hx, hb, hml, hown, hts, hr, hlk, hE⟩ := id Cc
  intro x1 x2 S H locs hP hS ls hl h
  unfold pX4_hold_29 at h
  refine lv_aload_n hx hb dX4_hold_29 rfl (lv_at hl 0 rfl) ?_
  refine gSf_0 Cc hP.c5 (tw_209 hts) dX4_hold_30 ?_
  refine gCo_6 Cc hP.c0 (tw_111 hts) dX4_hold_33 ?_
  refine lv_iload_n hx hb dX4_hold_36 rfl (lv_at hl 1 rfl) ?_
  refine lv_iload_n hx hb dX4_hold_37 rfl (lv_at hl 2 rfl) ?_
  refine sCo_6 Cc hP.c0 (hI.ij (k := 0) (by decide)) hS (aX_of (k := 0) (by decide) ⟨7, by decide, rfl⟩) h.1 dX4_hold_38 (fun H1 locs1 hB hS1 hk => ?_)
  have h := h.2
  have hP := PX.put (k := 0) (by decide) hI hP hB (fun q _ hq => hk q (fun e => hq ⟨7, by decide, e⟩))
  have hS := hS1
  refine lv_iconst (v := 1) hx hb dX4_hold_39 (by decide) ?_
  exact W.iret (v := 1) hx hb hr (fun t ht _ => QWi.mk (u := (va_up S 0 (st (S 0) 6 x1.toNatClampNeg x2))) h hP hS ht) hS.2.2 dX4_hold_40 (hlocks := hlk)
set_option maxHeartbeats 4000000 in
set_option maxRecDepth 100000 in
theorem mX4_hold (l : Launch) (D : va_G) (κ : Nat → ClassId) (A : Nat → Nat → Nat) {S : Nat → Mx} {x1 : Int32} {x2 : Int32} {Q : Int32 → (Nat → Mx) → Prop} (hI : IX A) (h : pX4_hold S x1 x2 Q) : Met l yX4_hold (wz yX4_hold cX4_hold 3 (some .int)) rX4_hold (va_Pc [.ref (A 5 0), .int x1, .int x2] (PE D κ (fun H => PX D κ A S H))) (QWi Q (fun u H => PX D κ A u H) (aX A)) 0 0 (aX A) := by
  refine Met_of l (own := RX4) (by decide) rfl (Nat.le_of_ble_eq_true rfl) (fun p e s m below meth c Cc hPP ls hl => ?_)
  obtain ⟨hx, hb, hml, hown, hts, hr, hlk, hE⟩ := id Cc
  have hl : lv_has ls 3 [(0, .ref (A 5 0)), (1, .int x1), (2, .int x2)] := hl
  have hP := hPP
  have hS : va_S (aX A) s.heap s.heap [] := va_S.rf
  unfold pX4_hold at h
  refine lv_iload_n hx hb dX4_hold_0 rfl (lv_at hl 1 rfl) ?_
  refine kR (kS Cc (mX4_isSpot l D κ h) (qX4_isSpot hts (tw_677 hts) ⟨(Nat.le_of_ble_eq_true rfl), (Nat.le_of_ble_eq_true rfl)⟩) (rest := []) trivial rfl hl.1 rfl (Nat.le_of_ble_eq_true rfl) dX4_hold_1 ⟨Nat.zero_le _, Nat.zero_le _⟩) (fun r1 h => ?_)
  refine lv_if_eq (tgt := 23) hx hb dX4_hold_4 (by decide) (fun c4 => ?_) (fun c4 => ?_)
  · have h := h.1 c4
    exact bX4_hold_23 Cc hI S _ _ hP hS _ (lv_sub hl [0] rfl) h
  · have h := h.2 c4
    refine lv_iload_n hx hb dX4_hold_7 rfl (lv_at hl 2 rfl) ?_
    refine lv_iconst (v := (-1)) hx hb dX4_hold_8 (by decide) ?_
    refine lv_icmp_eq (tgt := 29) hx hb dX4_hold_9 (by decide) (fun c9 => ?_) (fun c9 => ?_)
    · have h := h.1 c9
      exact bX4_hold_29 Cc hI x1 x2 S _ _ hP hS _ (lv_sub hl [0, 1, 2] rfl) h
    · have h := h.2 c9
      refine lv_aload_n hx hb dX4_hold_12 rfl (lv_at hl 0 rfl) ?_
      refine gSf_0 Cc hP.c5 (tw_209 hts) dX4_hold_13 ?_
      refine lv_iload_n hx hb dX4_hold_16 rfl (lv_at hl 2 rfl) ?_
      refine kR (kV Cc (mX1_has l D κ (A 0) h) (qX1_has hts (tw_271 hts) ⟨(Nat.le_of_ble_eq_true rfl), (Nat.le_of_ble_eq_true rfl)⟩) (va_recv hE.1 hP.c0 (ci := 1) (q0 := 0) rfl rfl) (rest := []) hP.c0 rfl hl.1 rfl (Nat.le_of_ble_eq_true rfl) dX4_hold_17 ⟨Nat.zero_le _, Nat.zero_le _⟩) (fun r17 h => ?_)
      refine lv_if_ne (tgt := 29) hx hb dX4_hold_20 (by decide) (fun c20 => ?_) (fun c20 => ?_)
      · have h := h.1 c20
        exact bX4_hold_29 Cc hI x1 x2 S _ _ hP hS _ (lv_sub hl [0, 1, 2] rfl) h
      · have h := h.2 c20
        exact bX4_hold_23 Cc hI S _ _ hP hS _ (lv_sub hl [0] rfl) h
theorem qX4_hold {R : Room} {s : State} {args : Array Value} {own : String} {idx : Nat} (hts : ∀ w ∈ gG, w.before args s = true) (hl : (Cond.methodLink own idx yX4_hold).before args s = true) (hR : rX4_hold.frames + 1 ≤ R.frames ∧ 8 + (3 + 11) + rX4_hold.locals ≤ R.locals) : CallW R s args own RX4 idx yX4_hold cX4_hold 3 (some .int) (wz yX4_hold cX4_hold 3 (some .int)) rX4_hold 0 0 2 := ⟨kw 2 hts mw_676 rfl rfl (tw_70 hts) hl (by decide +kernel) hR, tw_674 hts, tw_675 hts⟩
abbrev rX4_as : Room := { frames := 1, cells := 0, slots := 0, locals := 21 }
def pX4_as_14 (Q : Int32 → (Nat → Mx) → Prop) (S : Nat → Mx) : Prop := pX4_found S 0 (fun r16 u16 => (Q r16 u16))
def pX4_as_65 (Q : Int32 → (Nat → Mx) → Prop) (y0 : Int32) (S : Nat → Mx) : Prop := Q y0 S
def pX4_as (S : Nat → Mx) (x1 : Int32) (x2 : Int32) (Q : Int32 → (Nat → Mx) → Prop) : Prop := pX4_isSpot x1 (fun r1 => ((r1 = 0 → (pX4_as_14 Q S)) ∧ (¬ r1 = 0 → (pX4_isKind x2 (fun r8 => ((¬ r8 = 0 → (vp_in x1 10 ∧ (∀ v29 : Int32, v29 = ((S 0) 6 x1.toNatClampNeg) → ((0 ≤ v29 → (vp_in v29 8 ∧ (pX4_isOrUnder ((S 0) 0 v29.toNatClampNeg) x2 (fun r50 => ((r50 = 0 → (pX4_found S 2 (fun r62 u62 => (pX4_as_65 Q r62 u62)))) ∧ (¬ r50 = 0 → (pX4_as_65 Q v29 S))))))) ∧ (¬ 0 ≤ v29 → (pX4_found S 5 (fun r36 u36 => (Q r36 u36)))))))) ∧ (r8 = 0 → (pX4_as_14 Q S))))))))
set_option maxHeartbeats 4000000 in
set_option maxRecDepth 100000 in
theorem bX4_as_14 {p : Program} {l : Launch} {e : Env} {s : State} {m : MethodId} {args : Array Value} {below : List Frame} {meth : Method} {c : Code} {D : va_G} {κ : Nat → ClassId} {A : Nat → Nat → Nat}   {Q : Int32 → (Nat → Mx) → Prop} (Cc : Cx D κ RX4 cX4_as 4 (some .int) p s m args meth c) (hI : IX A)   : ∀ (S : Nat → Mx) (H : Heap) (locs : List Loc) (hP : PX D κ A S H) (hS : va_S (aX A) s.heap H locs) (ls : Array Slot) (hl : lv_has ls 4 [(0, .ref (A 5 0))]) (h : pX4_as_14 Q S), W p l e rX4_as s m args below meth c H locs 0 0 (MQ below (QWi Q (fun u H => PX D κ A u H) (aX A)) args s 0 0 (aX A)) (F0 m 14 ls []) := by
  obtain ⟨hx, hb, hml, hown, hts, hr, hlk, hE⟩ := id Cc
  intro S H locs hP hS ls hl h
  unfold pX4_as_14 at h
  refine lv_aload_n hx hb dX4_as_14 rfl (lv_at hl 0 rfl) ?_
  refine lv_iconst (v := 0) hx hb dX4_as_15 (by decide) ?_
  refine kWi (kV Cc (mX4_found l D κ A hI h) (qX4_found hts (tw_244 hts) ⟨(Nat.le_of_ble_eq_true rfl), (Nat.le_of_ble_eq_true rfl)⟩) (va_recv hE.1 hP.c5 (ci := 4) (q0 := 0) rfl rfl) (rest := []) hP rfl hl.1 rfl (Nat.le_of_ble_eq_true rfl) dX4_as_16 ⟨Nat.zero_le _, Nat.zero_le _⟩) hS (fun q h9 => h9) (fun r16 u16 H1 locs1 h hB hk hS1 => ?_)
  have hP := hB
  have hS := hS1
  exact W.iret (v := r16) hx hb hr (fun t ht _ => QWi.mk (u := u16) h hP hS ht) hS.2.2 dX4_as_19 (hlocks := hlk)
set_option maxHeartbeats 4000000 in
set_option maxRecDepth 100000 in
theorem bX4_as_65 {p : Program} {l : Launch} {e : Env} {s : State} {m : MethodId} {args : Array Value} {below : List Frame} {meth : Method} {c : Code} {D : va_G} {κ : Nat → ClassId} {A : Nat → Nat → Nat}   {Q : Int32 → (Nat → Mx) → Prop} (Cc : Cx D κ RX4 cX4_as 4 (some .int) p s m args meth c) (hI : IX A)   : ∀ (y0 : Int32) (S : Nat → Mx) (H : Heap) (locs : List Loc) (hP : PX D κ A S H) (hS : va_S (aX A) s.heap H locs) (ls : Array Slot) (hl : lv_has ls 4 []) (h : pX4_as_65 Q y0 S), W p l e rX4_as s m args below meth c H locs 0 0 (MQ below (QWi Q (fun u H => PX D κ A u H) (aX A)) args s 0 0 (aX A)) (F0 m 65 ls [.int y0]) := by
  obtain ⟨hx, hb, hml, hown, hts, hr, hlk, hE⟩ := id Cc
  intro y0 S H locs hP hS ls hl h
  unfold pX4_as_65 at h
  exact W.iret (v := y0) hx hb hr (fun t ht _ => QWi.mk (u := S) h hP hS ht) hS.2.2 dX4_as_65 (hlocks := hlk)
set_option maxHeartbeats 4000000 in
set_option maxRecDepth 100000 in
theorem mX4_as (l : Launch) (D : va_G) (κ : Nat → ClassId) (A : Nat → Nat → Nat) {S : Nat → Mx} {x1 : Int32} {x2 : Int32} {Q : Int32 → (Nat → Mx) → Prop} (hI : IX A) (h : pX4_as S x1 x2 Q) : Met l yX4_as (wz yX4_as cX4_as 4 (some .int)) rX4_as (va_Pc [.ref (A 5 0), .int x1, .int x2] (PE D κ (fun H => PX D κ A S H))) (QWi Q (fun u H => PX D κ A u H) (aX A)) 0 0 (aX A) := by
  refine Met_of l (own := RX4) (by decide) rfl (Nat.le_of_ble_eq_true rfl) (fun p e s m below meth c Cc hPP ls hl => ?_)
  obtain ⟨hx, hb, hml, hown, hts, hr, hlk, hE⟩ := id Cc
  have hl : lv_has ls 4 [(0, .ref (A 5 0)), (1, .int x1), (2, .int x2)] := hl
  have hP := hPP
  have hS : va_S (aX A) s.heap s.heap [] := va_S.rf
  unfold pX4_as at h
  refine lv_iload_n hx hb dX4_as_0 rfl (lv_at hl 1 rfl) ?_
  refine kR (kS Cc (mX4_isSpot l D κ h) (qX4_isSpot hts (tw_677 hts) ⟨(Nat.le_of_ble_eq_true rfl), (Nat.le_of_ble_eq_true rfl)⟩) (rest := []) trivial rfl hl.1 rfl (Nat.le_of_ble_eq_true rfl) dX4_as_1 ⟨Nat.zero_le _, Nat.zero_le _⟩) (fun r1 h => ?_)
  refine lv_if_eq (tgt := 14) hx hb dX4_as_4 (by decide) (fun c4 => ?_) (fun c4 => ?_)
  · have h := h.1 c4
    exact bX4_as_14 Cc hI S _ _ hP hS _ (lv_sub hl [0] rfl) h
  · have h := h.2 c4
    refine lv_iload_n hx hb dX4_as_7 rfl (lv_at hl 2 rfl) ?_
    refine kR (kS Cc (mX4_isKind l D κ h) (qX4_isKind hts (tw_257 hts) ⟨(Nat.le_of_ble_eq_true rfl), (Nat.le_of_ble_eq_true rfl)⟩) (rest := []) trivial rfl hl.1 rfl (Nat.le_of_ble_eq_true rfl) dX4_as_8 ⟨Nat.zero_le _, Nat.zero_le _⟩) (fun r8 h => ?_)
    refine lv_if_ne (tgt := 20) hx hb dX4_as_11 (by decide) (fun c11 => ?_) (fun c11 => ?_)
    · have h := h.1 c11
      refine lv_aload_n hx hb dX4_as_20 rfl (lv_at hl 0 rfl) ?_
      refine gSf_0 Cc hP.c5 (tw_209 hts) dX4_as_21 ?_
      refine gCo_6 Cc hP.c0 (tw_111 hts) dX4_as_24 ?_
      refine lv_iload_n hx hb dX4_as_27 rfl (lv_at hl 1 rfl) ?_
      refine lCo_6 Cc hP.c0 h.1 dX4_as_28 ?_
      have h := h.2
      refine lv_topi (fun v29 e29 => ?_)
      have h := h v29 e29
      refine lv_istore_n (lv' := [(3, .int v29), (0, .ref (A 5 0)), (1, .int x1), (2, .int x2)]) hx hb dX4_as_29 rfl hl (by decide) rfl (fun ls hl => ?_)
      refine lv_iload_n hx hb dX4_as_30 rfl (lv_at hl 0 rfl) ?_
      refine lv_if_ge (tgt := 40) hx hb dX4_as_31 (by decide) (fun c31 => ?_) (fun c31 => ?_)
      · have h := h.1 c31
        refine lv_aload_n hx hb dX4_as_40 rfl (lv_at hl 1 rfl) ?_
        refine gSf_0 Cc hP.c5 (tw_209 hts) dX4_as_41 ?_
        refine gCo_0 Cc hP.c0 (tw_98 hts) dX4_as_44 ?_
        refine lv_iload_n hx hb dX4_as_47 rfl (lv_at hl 0 rfl) ?_
        refine lCo_0 Cc hP.c0 h.1 dX4_as_48 ?_
        have h := h.2
        refine lv_iload_n hx hb dX4_as_49 rfl (lv_at hl 3 rfl) ?_
        refine kR (kS Cc (mX4_isOrUnder l D κ h) (qX4_isOrUnder hts (tw_684 hts) ⟨(Nat.le_of_ble_eq_true rfl), (Nat.le_of_ble_eq_true rfl)⟩) (rest := []) trivial rfl hl.1 rfl (Nat.le_of_ble_eq_true rfl) dX4_as_50 ⟨Nat.zero_le _, Nat.zero_le _⟩) (fun r50 h => ?_)
        refine lv_if_eq (tgt := 60) hx hb dX4_as_53 (by decide) (fun c53 => ?_) (fun c53 => ?_)
        · have h := h.1 c53
          refine lv_aload_n hx hb dX4_as_60 rfl (lv_at hl 1 rfl) ?_
          refine lv_iconst (v := 2) hx hb dX4_as_61 (by decide) ?_
          refine kWi (kV Cc (mX4_found l D κ A hI h) (qX4_found hts (tw_244 hts) ⟨(Nat.le_of_ble_eq_true rfl), (Nat.le_of_ble_eq_true rfl)⟩) (va_recv hE.1 hP.c5 (ci := 4) (q0 := 0) rfl rfl) (rest := []) hP rfl hl.1 rfl (Nat.le_of_ble_eq_true rfl) dX4_as_62 ⟨Nat.zero_le _, Nat.zero_le _⟩) hS (fun q h9 => h9) (fun r62 u62 H1 locs1 h hB hk hS1 => ?_)
          have hP := hB
          have hS := hS1
          exact bX4_as_65 Cc hI r62 u62 _ _ hP hS _ (lv_sub hl [] rfl) h
        · have h := h.2 c53
          refine lv_iload_n hx hb dX4_as_56 rfl (lv_at hl 0 rfl) ?_
          refine lv_goto (tgt := 65) hx hb dX4_as_57 (by decide) ?_
          exact bX4_as_65 Cc hI v29 S _ _ hP hS _ (lv_sub hl [] rfl) h
      · have h := h.2 c31
        refine lv_aload_n hx hb dX4_as_34 rfl (lv_at hl 1 rfl) ?_
        refine lv_iconst (v := 5) hx hb dX4_as_35 (by decide) ?_
        refine kWi (kV Cc (mX4_found l D κ A hI h) (qX4_found hts (tw_244 hts) ⟨(Nat.le_of_ble_eq_true rfl), (Nat.le_of_ble_eq_true rfl)⟩) (va_recv hE.1 hP.c5 (ci := 4) (q0 := 0) rfl rfl) (rest := []) hP rfl hl.1 rfl (Nat.le_of_ble_eq_true rfl) dX4_as_36 ⟨Nat.zero_le _, Nat.zero_le _⟩) hS (fun q h9 => h9) (fun r36 u36 H1 locs1 h hB hk hS1 => ?_)
        have hP := hB
        have hS := hS1
        exact W.iret (v := r36) hx hb hr (fun t ht _ => QWi.mk (u := u36) h hP hS ht) hS.2.2 dX4_as_39 (hlocks := hlk)
    · have h := h.2 c11
      exact bX4_as_14 Cc hI S _ _ hP hS _ (lv_sub hl [0] rfl) h
theorem qX4_as {R : Room} {s : State} {args : Array Value} {own : String} {idx : Nat} (hts : ∀ w ∈ gG, w.before args s = true) (hl : (Cond.methodLink own idx yX4_as).before args s = true) (hR : rX4_as.frames + 1 ≤ R.frames ∧ 8 + (4 + 11) + rX4_as.locals ≤ R.locals) : CallW R s args own RX4 idx yX4_as cX4_as 4 (some .int) (wz yX4_as cX4_as 4 (some .int)) rX4_as 0 0 2 := ⟨kw 2 hts mw_683 rfl rfl (tw_70 hts) hl (by decide +kernel) hR, tw_681 hts, tw_682 hts⟩
abbrev rX4_sheet : Room := { frames := 1, cells := 0, slots := 0, locals := 23 }
def pX4_sheet_41 (Q : Int32 → (Nat → Mx) → Prop) (S : Nat → Mx) : Prop := pX4_found S 0 (fun r43 u43 => (Q r43 u43))
def pX4_sheet_27 (Q : Int32 → (Nat → Mx) → Prop) (x1 : Int32) (x2 : Int32) (x3 : Int32) (y0 : Int32) (S : Nat → Mx) : Prop := pX4_isSheet x1 (fun r30 => ((r30 = 0 → (pX4_sheet_41 Q S)) ∧ (¬ r30 = 0 → ((¬ y0 = 0 → ((0 ≤ x3 → ((x3 ≤ 40 → (vp_in x1 4 ∧ (pX2_begin (S (x1.toNatClampNeg + 6)) x2 x3 (fun u78 => (vp_in x1 4 ∧ (Q (((va_up S (x1.toNatClampNeg + 6) u78) (x1.toNatClampNeg + 6)) 2 0) (va_up S (x1.toNatClampNeg + 6) u78))))))) ∧ (¬ x3 ≤ 40 → (pX4_found S 0 (fun r66 u66 => (Q r66 u66)))))) ∧ (¬ 0 ≤ x3 → (pX4_found S 6 (fun r54 u54 => (Q r54 u54)))))) ∧ (y0 = 0 → (pX4_sheet_41 Q S))))))
def pX4_sheet_22 (Q : Int32 → (Nat → Mx) → Prop) (x1 : Int32) (x2 : Int32) (x3 : Int32) (S : Nat → Mx) : Prop := pX4_sheet_27 Q x1 x2 x3 1 S
def pX4_sheet (S : Nat → Mx) (x1 : Int32) (x2 : Int32) (x3 : Int32) (Q : Int32 → (Nat → Mx) → Prop) : Prop := (x2 = 0 → (pX4_sheet_22 Q x1 x2 x3 S)) ∧ (¬ x2 = 0 → ((x2 = 8 → (pX4_sheet_22 Q x1 x2 x3 S)) ∧ (¬ x2 = 8 → ((x2 = 16 → (pX4_sheet_22 Q x1 x2 x3 S)) ∧ (¬ x2 = 16 → ((¬ x2 = 32 → (pX4_sheet_27 Q x1 x2 x3 0 S)) ∧ (x2 = 32 → (pX4_sheet_22 Q x1 x2 x3 S))))))))
set_option maxHeartbeats 4000000 in
set_option maxRecDepth 100000 in
theorem bX4_sheet_41 {p : Program} {l : Launch} {e : Env} {s : State} {m : MethodId} {args : Array Value} {below : List Frame} {meth : Method} {c : Code} {D : va_G} {κ : Nat → ClassId} {A : Nat → Nat → Nat}   {Q : Int32 → (Nat → Mx) → Prop} (Cc : Cx D κ RX4 cX4_sheet 5 (some .int) p s m args meth c) (hI : IX A)   : ∀ (S : Nat → Mx) (H : Heap) (locs : List Loc) (hP : PX D κ A S H) (hS : va_S (aX A) s.heap H locs) (ls : Array Slot) (hl : lv_has ls 5 [(0, .ref (A 5 0))]) (h : pX4_sheet_41 Q S), W p l e rX4_sheet s m args below meth c H locs 0 0 (MQ below (QWi Q (fun u H => PX D κ A u H) (aX A)) args s 0 0 (aX A)) (F0 m 41 ls []) := by
  obtain ⟨hx, hb, hml, hown, hts, hr, hlk, hE⟩ := id Cc
  intro S H locs hP hS ls hl h
  unfold pX4_sheet_41 at h
  refine lv_aload_n hx hb dX4_sheet_41 rfl (lv_at hl 0 rfl) ?_
  refine lv_iconst (v := 0) hx hb dX4_sheet_42 (by decide) ?_
  refine kWi (kV Cc (mX4_found l D κ A hI h) (qX4_found hts (tw_244 hts) ⟨(Nat.le_of_ble_eq_true rfl), (Nat.le_of_ble_eq_true rfl)⟩) (va_recv hE.1 hP.c5 (ci := 4) (q0 := 0) rfl rfl) (rest := []) hP rfl hl.1 rfl (Nat.le_of_ble_eq_true rfl) dX4_sheet_43 ⟨Nat.zero_le _, Nat.zero_le _⟩) hS (fun q h9 => h9) (fun r43 u43 H1 locs1 h hB hk hS1 => ?_)
  have hP := hB
  have hS := hS1
  exact W.iret (v := r43) hx hb hr (fun t ht _ => QWi.mk (u := u43) h hP hS ht) hS.2.2 dX4_sheet_46 (hlocks := hlk)
set_option maxHeartbeats 4000000 in
set_option maxRecDepth 100000 in
theorem bX4_sheet_27 {p : Program} {l : Launch} {e : Env} {s : State} {m : MethodId} {args : Array Value} {below : List Frame} {meth : Method} {c : Code} {D : va_G} {κ : Nat → ClassId} {A : Nat → Nat → Nat}   {Q : Int32 → (Nat → Mx) → Prop} (Cc : Cx D κ RX4 cX4_sheet 5 (some .int) p s m args meth c) (hI : IX A)   : ∀ (x1 : Int32) (x2 : Int32) (x3 : Int32) (y0 : Int32) (S : Nat → Mx) (H : Heap) (locs : List Loc) (hP : PX D κ A S H) (hS : va_S (aX A) s.heap H locs) (ls : Array Slot) (hl : lv_has ls 5 [(0, .ref (A 5 0)), (1, .int x1), (2, .int x2), (3, .int x3)]) (h : pX4_sheet_27 Q x1 x2 x3 y0 S), W p l e rX4_sheet s m args below meth c H locs 0 0 (MQ below (QWi Q (fun u H => PX D κ A u H) (aX A)) args s 0 0 (aX A)) (F0 m 27 ls [.int y0]) := by
  obtain ⟨hx, hb, hml, hown, hts, hr, hlk, hE⟩ := id Cc
  intro x1 x2 x3 y0 S H locs hP hS ls hl h
  unfold pX4_sheet_27 at h
  refine lv_istore (lv' := [(4, .int y0), (0, .ref (A 5 0)), (1, .int x1), (2, .int x2), (3, .int x3)]) hx hb dX4_sheet_27 hl (by decide) rfl (fun ls hl => ?_)
  refine lv_iload_n hx hb dX4_sheet_29 rfl (lv_at hl 2 rfl) ?_
  refine kR (kS Cc (mX4_isSheet l D κ h) (qX4_isSheet hts (tw_511 hts) ⟨(Nat.le_of_ble_eq_true rfl), (Nat.le_of_ble_eq_true rfl)⟩) (rest := []) trivial rfl hl.1 rfl (Nat.le_of_ble_eq_true rfl) dX4_sheet_30 ⟨Nat.zero_le _, Nat.zero_le _⟩) (fun r30 h => ?_)
  refine lv_if_eq (tgt := 41) hx hb dX4_sheet_33 (by decide) (fun c33 => ?_) (fun c33 => ?_)
  · have h := h.1 c33
    exact bX4_sheet_41 Cc hI S _ _ hP hS _ (lv_sub hl [1] rfl) h
  · have h := h.2 c33
    refine lv_iload hx hb dX4_sheet_36 (lv_at hl 0 rfl) ?_
    refine lv_if_ne (tgt := 47) hx hb dX4_sheet_38 (by decide) (fun c38 => ?_) (fun c38 => ?_)
    · have h := h.1 c38
      refine lv_iload_n hx hb dX4_sheet_47 rfl (lv_at hl 4 rfl) ?_
      refine lv_if_ge (tgt := 58) hx hb dX4_sheet_48 (by decide) (fun c48 => ?_) (fun c48 => ?_)
      · have h := h.1 c48
        refine lv_iload_n hx hb dX4_sheet_58 rfl (lv_at hl 4 rfl) ?_
        refine lv_bipush (v := 40) hx hb dX4_sheet_59 (by decide) ?_
        refine lv_icmp_le (tgt := 70) hx hb dX4_sheet_61 (by decide) (fun c61 => ?_) (fun c61 => ?_)
        · have h := h.1 c61
          refine lv_aload_n hx hb dX4_sheet_70 rfl (lv_at hl 1 rfl) ?_
          refine gSf_5 Cc hP.c5 (tw_214 hts) dX4_sheet_71 ?_
          refine lv_iload_n hx hb dX4_sheet_74 rfl (lv_at hl 2 rfl) ?_
          refine lSf_s Cc hP.c5 h.1 dX4_sheet_75 ?_
          have hj75 := vin_lt h.1
          have h := h.2
          refine lv_iload_n hx hb dX4_sheet_76 rfl (lv_at hl 3 rfl) ?_
          refine lv_iload_n hx hb dX4_sheet_77 rfl (lv_at hl 4 rfl) ?_
          refine kWv (kV Cc (mX2_begin l D κ (A (x1.toNatClampNeg + 6)) (hI.ij (k := (x1.toNatClampNeg + 6)) (Nat.add_lt_add_right hj75 6)) h) (qX2_begin hts (tw_689 hts) ⟨(Nat.le_of_ble_eq_true rfl), (Nat.le_of_ble_eq_true rfl)⟩) (va_recv hE.1 (hP.cs hj75) (ci := 2) (q0 := 0) rfl rfl) (rest := []) (hP.cs hj75) rfl hl.1 rfl (Nat.le_of_ble_eq_true rfl) dX4_sheet_78 ⟨Nat.zero_le _, Nat.zero_le _⟩) hS (fun q h9 => aX_of (k := (x1.toNatClampNeg + 6)) (Nat.add_lt_add_right hj75 6) h9) (fun  u78 H1 locs1 h hB hk hS1 => ?_)
          have hP := PX.put (k := (x1.toNatClampNeg + 6)) (Nat.add_lt_add_right hj75 6) hI hP hB hk
          have hS := hS1
          refine lv_aload_n hx hb dX4_sheet_81 rfl (lv_at hl 1 rfl) ?_
          refine gSf_5 Cc hP.c5 (tw_214 hts) dX4_sheet_82 ?_
          refine lv_iload_n hx hb dX4_sheet_85 rfl (lv_at hl 2 rfl) ?_
          refine lSf_s Cc hP.c5 h.1 dX4_sheet_86 ?_
          have hj86 := vin_lt h.1
          have h := h.2
          refine gSh_2 Cc (hP.cs hj86) (tw_201 hts) dX4_sheet_87 ?_
          exact W.iret (v := (((va_up S (x1.toNatClampNeg + 6) u78) (x1.toNatClampNeg + 6)) 2 0)) hx hb hr (fun t ht _ => QWi.mk (u := (va_up S (x1.toNatClampNeg + 6) u78)) h hP hS ht) hS.2.2 dX4_sheet_90 (hlocks := hlk)
        · have h := h.2 c61
          refine lv_aload_n hx hb dX4_sheet_64 rfl (lv_at hl 1 rfl) ?_
          refine lv_iconst (v := 0) hx hb dX4_sheet_65 (by decide) ?_
          refine kWi (kV Cc (mX4_found l D κ A hI h) (qX4_found hts (tw_244 hts) ⟨(Nat.le_of_ble_eq_true rfl), (Nat.le_of_ble_eq_true rfl)⟩) (va_recv hE.1 hP.c5 (ci := 4) (q0 := 0) rfl rfl) (rest := []) hP rfl hl.1 rfl (Nat.le_of_ble_eq_true rfl) dX4_sheet_66 ⟨Nat.zero_le _, Nat.zero_le _⟩) hS (fun q h9 => h9) (fun r66 u66 H1 locs1 h hB hk hS1 => ?_)
          have hP := hB
          have hS := hS1
          exact W.iret (v := r66) hx hb hr (fun t ht _ => QWi.mk (u := u66) h hP hS ht) hS.2.2 dX4_sheet_69 (hlocks := hlk)
      · have h := h.2 c48
        refine lv_aload_n hx hb dX4_sheet_51 rfl (lv_at hl 1 rfl) ?_
        refine lv_bipush (v := 6) hx hb dX4_sheet_52 (by decide) ?_
        refine kWi (kV Cc (mX4_found l D κ A hI h) (qX4_found hts (tw_244 hts) ⟨(Nat.le_of_ble_eq_true rfl), (Nat.le_of_ble_eq_true rfl)⟩) (va_recv hE.1 hP.c5 (ci := 4) (q0 := 0) rfl rfl) (rest := []) hP rfl hl.1 rfl (Nat.le_of_ble_eq_true rfl) dX4_sheet_54 ⟨Nat.zero_le _, Nat.zero_le _⟩) hS (fun q h9 => h9) (fun r54 u54 H1 locs1 h hB hk hS1 => ?_)
        have hP := hB
        have hS := hS1
        exact W.iret (v := r54) hx hb hr (fun t ht _ => QWi.mk (u := u54) h hP hS ht) hS.2.2 dX4_sheet_57 (hlocks := hlk)
    · have h := h.2 c38
      exact bX4_sheet_41 Cc hI S _ _ hP hS _ (lv_sub hl [1] rfl) h
set_option maxHeartbeats 4000000 in
set_option maxRecDepth 100000 in
theorem bX4_sheet_22 {p : Program} {l : Launch} {e : Env} {s : State} {m : MethodId} {args : Array Value} {below : List Frame} {meth : Method} {c : Code} {D : va_G} {κ : Nat → ClassId} {A : Nat → Nat → Nat}   {Q : Int32 → (Nat → Mx) → Prop} (Cc : Cx D κ RX4 cX4_sheet 5 (some .int) p s m args meth c) (hI : IX A)   : ∀ (x1 : Int32) (x2 : Int32) (x3 : Int32) (S : Nat → Mx) (H : Heap) (locs : List Loc) (hP : PX D κ A S H) (hS : va_S (aX A) s.heap H locs) (ls : Array Slot) (hl : lv_has ls 5 [(0, .ref (A 5 0)), (1, .int x1), (2, .int x2), (3, .int x3)]) (h : pX4_sheet_22 Q x1 x2 x3 S), W p l e rX4_sheet s m args below meth c H locs 0 0 (MQ below (QWi Q (fun u H => PX D κ A u H) (aX A)) args s 0 0 (aX A)) (F0 m 22 ls []) := by
  obtain ⟨hx, hb, hml, hown, hts, hr, hlk, hE⟩ := id Cc
  intro x1 x2 x3 S H locs hP hS ls hl h
  unfold pX4_sheet_22 at h
  refine lv_iconst (v := 1) hx hb dX4_sheet_22 (by decide) ?_
  refine lv_goto (tgt := 27) hx hb dX4_sheet_23 (by decide) ?_
  exact bX4_sheet_27 Cc hI x1 x2 x3 1 S _ _ hP hS _ (lv_sub hl [0, 1, 2, 3] rfl) h
set_option maxHeartbeats 4000000 in
set_option maxRecDepth 100000 in
theorem mX4_sheet (l : Launch) (D : va_G) (κ : Nat → ClassId) (A : Nat → Nat → Nat) {S : Nat → Mx} {x1 : Int32} {x2 : Int32} {x3 : Int32} {Q : Int32 → (Nat → Mx) → Prop} (hI : IX A) (h : pX4_sheet S x1 x2 x3 Q) : Met l yX4_sheet (wz yX4_sheet cX4_sheet 5 (some .int)) rX4_sheet (va_Pc [.ref (A 5 0), .int x1, .int x2, .int x3] (PE D κ (fun H => PX D κ A S H))) (QWi Q (fun u H => PX D κ A u H) (aX A)) 0 0 (aX A) := by
  refine Met_of l (own := RX4) (by decide) rfl (Nat.le_of_ble_eq_true rfl) (fun p e s m below meth c Cc hPP ls hl => ?_)
  obtain ⟨hx, hb, hml, hown, hts, hr, hlk, hE⟩ := id Cc
  have hl : lv_has ls 5 [(0, .ref (A 5 0)), (1, .int x1), (2, .int x2), (3, .int x3)] := hl
  have hP := hPP
  have hS : va_S (aX A) s.heap s.heap [] := va_S.rf
  unfold pX4_sheet at h
  refine lv_iload_n hx hb dX4_sheet_0 rfl (lv_at hl 2 rfl) ?_
  refine lv_if_eq (tgt := 22) hx hb dX4_sheet_1 (by decide) (fun c1 => ?_) (fun c1 => ?_)
  · have h := h.1 c1
    exact bX4_sheet_22 Cc hI x1 x2 x3 S _ _ hP hS _ (lv_sub hl [0, 1, 2, 3] rfl) h
  · have h := h.2 c1
    refine lv_iload_n hx hb dX4_sheet_4 rfl (lv_at hl 2 rfl) ?_
    refine lv_bipush (v := 8) hx hb dX4_sheet_5 (by decide) ?_
    refine lv_icmp_eq (tgt := 22) hx hb dX4_sheet_7 (by decide) (fun c7 => ?_) (fun c7 => ?_)
    · have h := h.1 c7
      exact bX4_sheet_22 Cc hI x1 x2 x3 S _ _ hP hS _ (lv_sub hl [0, 1, 2, 3] rfl) h
    · have h := h.2 c7
      refine lv_iload_n hx hb dX4_sheet_10 rfl (lv_at hl 2 rfl) ?_
      refine lv_bipush (v := 16) hx hb dX4_sheet_11 (by decide) ?_
      refine lv_icmp_eq (tgt := 22) hx hb dX4_sheet_13 (by decide) (fun c13 => ?_) (fun c13 => ?_)
      · have h := h.1 c13
        exact bX4_sheet_22 Cc hI x1 x2 x3 S _ _ hP hS _ (lv_sub hl [0, 1, 2, 3] rfl) h
      · have h := h.2 c13
        refine lv_iload_n hx hb dX4_sheet_16 rfl (lv_at hl 2 rfl) ?_
        refine lv_bipush (v := 32) hx hb dX4_sheet_17 (by decide) ?_
        refine lv_icmp_ne (tgt := 26) hx hb dX4_sheet_19 (by decide) (fun c19 => ?_) (fun c19 => ?_)
        · have h := h.1 c19
          refine lv_iconst (v := 0) hx hb dX4_sheet_26 (by decide) ?_
          exact bX4_sheet_27 Cc hI x1 x2 x3 0 S _ _ hP hS _ (lv_sub hl [0, 1, 2, 3] rfl) h
        · have h := h.2 c19
          exact bX4_sheet_22 Cc hI x1 x2 x3 S _ _ hP hS _ (lv_sub hl [0, 1, 2, 3] rfl) h
theorem qX4_sheet {R : Room} {s : State} {args : Array Value} {own : String} {idx : Nat} (hts : ∀ w ∈ gG, w.before args s = true) (hl : (Cond.methodLink own idx yX4_sheet).before args s = true) (hR : rX4_sheet.frames + 1 ≤ R.frames ∧ 8 + (5 + 11) + rX4_sheet.locals ≤ R.locals) : CallW R s args own RX4 idx yX4_sheet cX4_sheet 5 (some .int) (wz yX4_sheet cX4_sheet 5 (some .int)) rX4_sheet 0 0 3 := ⟨kw 3 hts mw_688 rfl rfl (tw_70 hts) hl (by decide +kernel) hR, tw_686 hts, tw_687 hts⟩
abbrev rX4_write : Room := { frames := 2, cells := 0, slots := 0, locals := 41 }
def pX4_write_36 (Q : Int32 → (Nat → Mx) → Prop) (S : Nat → Mx) : Prop := pX4_found S 0 (fun r38 u38 => (Q r38 u38))
def pX4_write (S : Nat → Mx) (x1 : Int32) (x2 : Int32) (x3 : Int32) (Q : Int32 → (Nat → Mx) → Prop) : Prop := pX4_wrongSheet S x1 (fun r2 => ((r2 < 0 → ((x2 < 0 → (pX4_write_36 Q S)) ∧ (¬ x2 < 0 → (vp_in x1 4 ∧ ((x2 < ((S (x1.toNatClampNeg + 6)) 2 0) → (vp_in x1 4 ∧ (pX2_put (S (x1.toNatClampNeg + 6)) x2 x3 (fun u50 => (Q 1 (va_up S (x1.toNatClampNeg + 6) u50)))))) ∧ (¬ x2 < ((S (x1.toNatClampNeg + 6)) 2 0) → (pX4_write_36 Q S))))))) ∧ (¬ r2 < 0 → (pX4_found S r2 (fun r15 u15 => (Q r15 u15))))))
set_option maxHeartbeats 4000000 in
set_option maxRecDepth 100000 in
theorem bX4_write_36 {p : Program} {l : Launch} {e : Env} {s : State} {m : MethodId} {args : Array Value} {below : List Frame} {meth : Method} {c : Code} {D : va_G} {κ : Nat → ClassId} {A : Nat → Nat → Nat}   {Q : Int32 → (Nat → Mx) → Prop} (Cc : Cx D κ RX4 cX4_write 5 (some .int) p s m args meth c) (hI : IX A)   : ∀ (S : Nat → Mx) (H : Heap) (locs : List Loc) (hP : PX D κ A S H) (hS : va_S (aX A) s.heap H locs) (ls : Array Slot) (hl : lv_has ls 5 [(0, .ref (A 5 0))]) (h : pX4_write_36 Q S), W p l e rX4_write s m args below meth c H locs 0 0 (MQ below (QWi Q (fun u H => PX D κ A u H) (aX A)) args s 0 0 (aX A)) (F0 m 36 ls []) := by
  obtain ⟨hx, hb, hml, hown, hts, hr, hlk, hE⟩ := id Cc
  intro S H locs hP hS ls hl h
  unfold pX4_write_36 at h
  refine lv_aload_n hx hb dX4_write_36 rfl (lv_at hl 0 rfl) ?_
  refine lv_iconst (v := 0) hx hb dX4_write_37 (by decide) ?_
  refine kWi (kV Cc (mX4_found l D κ A hI h) (qX4_found hts (tw_244 hts) ⟨(Nat.le_of_ble_eq_true rfl), (Nat.le_of_ble_eq_true rfl)⟩) (va_recv hE.1 hP.c5 (ci := 4) (q0 := 0) rfl rfl) (rest := []) hP rfl hl.1 rfl (Nat.le_of_ble_eq_true rfl) dX4_write_38 ⟨Nat.zero_le _, Nat.zero_le _⟩) hS (fun q h9 => h9) (fun r38 u38 H1 locs1 h hB hk hS1 => ?_)
  have hP := hB
  have hS := hS1
  exact W.iret (v := r38) hx hb hr (fun t ht _ => QWi.mk (u := u38) h hP hS ht) hS.2.2 dX4_write_41 (hlocks := hlk)
set_option maxHeartbeats 4000000 in
set_option maxRecDepth 100000 in
theorem mX4_write (l : Launch) (D : va_G) (κ : Nat → ClassId) (A : Nat → Nat → Nat) {S : Nat → Mx} {x1 : Int32} {x2 : Int32} {x3 : Int32} {Q : Int32 → (Nat → Mx) → Prop} (hI : IX A) (h : pX4_write S x1 x2 x3 Q) : Met l yX4_write (wz yX4_write cX4_write 5 (some .int)) rX4_write (va_Pc [.ref (A 5 0), .int x1, .int x2, .int x3] (PE D κ (fun H => PX D κ A S H))) (QWi Q (fun u H => PX D κ A u H) (aX A)) 0 0 (aX A) := by
  refine Met_of l (own := RX4) (by decide) rfl (Nat.le_of_ble_eq_true rfl) (fun p e s m below meth c Cc hPP ls hl => ?_)
  obtain ⟨hx, hb, hml, hown, hts, hr, hlk, hE⟩ := id Cc
  have hl : lv_has ls 5 [(0, .ref (A 5 0)), (1, .int x1), (2, .int x2), (3, .int x3)] := hl
  have hP := hPP
  have hS : va_S (aX A) s.heap s.heap [] := va_S.rf
  unfold pX4_write at h
  refine lv_aload_n hx hb dX4_write_0 rfl (lv_at hl 0 rfl) ?_
  refine lv_iload_n hx hb dX4_write_1 rfl (lv_at hl 1 rfl) ?_
  refine kR (kV Cc (mX4_wrongSheet l D κ A h) (qX4_wrongSheet hts (tw_507 hts) ⟨(Nat.le_of_ble_eq_true rfl), (Nat.le_of_ble_eq_true rfl)⟩) (va_recv hE.1 hP.c5 (ci := 4) (q0 := 0) rfl rfl) (rest := []) hP rfl hl.1 rfl (Nat.le_of_ble_eq_true rfl) dX4_write_2 ⟨Nat.zero_le _, Nat.zero_le _⟩) (fun r2 h => ?_)
  refine lv_istore (lv' := [(4, .int r2), (0, .ref (A 5 0)), (1, .int x1), (2, .int x2), (3, .int x3)]) hx hb dX4_write_5 hl (by decide) rfl (fun ls hl => ?_)
  refine lv_iload hx hb dX4_write_7 (lv_at hl 0 rfl) ?_
  refine lv_if_lt (tgt := 19) hx hb dX4_write_9 (by decide) (fun c9 => ?_) (fun c9 => ?_)
  · have h := h.1 c9
    refine lv_iload_n hx hb dX4_write_19 rfl (lv_at hl 3 rfl) ?_
    refine lv_if_lt (tgt := 36) hx hb dX4_write_20 (by decide) (fun c20 => ?_) (fun c20 => ?_)
    · have h := h.1 c20
      exact bX4_write_36 Cc hI S _ _ hP hS _ (lv_sub hl [1] rfl) h
    · have h := h.2 c20
      refine lv_iload_n hx hb dX4_write_23 rfl (lv_at hl 3 rfl) ?_
      refine lv_aload_n hx hb dX4_write_24 rfl (lv_at hl 1 rfl) ?_
      refine gSf_5 Cc hP.c5 (tw_214 hts) dX4_write_25 ?_
      refine lv_iload_n hx hb dX4_write_28 rfl (lv_at hl 2 rfl) ?_
      refine lSf_s Cc hP.c5 h.1 dX4_write_29 ?_
      have hj29 := vin_lt h.1
      have h := h.2
      refine gSh_2 Cc (hP.cs hj29) (tw_201 hts) dX4_write_30 ?_
      refine lv_icmp_lt (tgt := 42) hx hb dX4_write_33 (by decide) (fun c33 => ?_) (fun c33 => ?_)
      · have h := h.1 c33
        refine lv_aload_n hx hb dX4_write_42 rfl (lv_at hl 1 rfl) ?_
        refine gSf_5 Cc hP.c5 (tw_214 hts) dX4_write_43 ?_
        refine lv_iload_n hx hb dX4_write_46 rfl (lv_at hl 2 rfl) ?_
        refine lSf_s Cc hP.c5 h.1 dX4_write_47 ?_
        have hj47 := vin_lt h.1
        have h := h.2
        refine lv_iload_n hx hb dX4_write_48 rfl (lv_at hl 3 rfl) ?_
        refine lv_iload_n hx hb dX4_write_49 rfl (lv_at hl 4 rfl) ?_
        refine kWv (kV Cc (mX2_put l D κ (A (x1.toNatClampNeg + 6)) (hI.ij (k := (x1.toNatClampNeg + 6)) (Nat.add_lt_add_right hj47 6)) h) (qX2_put hts (tw_697 hts) ⟨(Nat.le_of_ble_eq_true rfl), (Nat.le_of_ble_eq_true rfl)⟩) (va_recv hE.1 (hP.cs hj47) (ci := 2) (q0 := 0) rfl rfl) (rest := []) (hP.cs hj47) rfl hl.1 rfl (Nat.le_of_ble_eq_true rfl) dX4_write_50 ⟨Nat.zero_le _, Nat.zero_le _⟩) hS (fun q h9 => aX_of (k := (x1.toNatClampNeg + 6)) (Nat.add_lt_add_right hj47 6) h9) (fun  u50 H1 locs1 h hB hk hS1 => ?_)
        have hP := PX.put (k := (x1.toNatClampNeg + 6)) (Nat.add_lt_add_right hj47 6) hI hP hB hk
        have hS := hS1
        refine lv_iconst (v := 1) hx hb dX4_write_53 (by decide) ?_
        exact W.iret (v := 1) hx hb hr (fun t ht _ => QWi.mk (u := (va_up S (x1.toNatClampNeg + 6) u50)) h hP hS ht) hS.2.2 dX4_write_54 (hlocks := hlk)
      · have h := h.2 c33
        exact bX4_write_36 Cc hI S _ _ hP hS _ (lv_sub hl [1] rfl) h
  · have h := h.2 c9
    refine lv_aload_n hx hb dX4_write_12 rfl (lv_at hl 1 rfl) ?_
    refine lv_iload hx hb dX4_write_13 (lv_at hl 0 rfl) ?_
    refine kWi (kV Cc (mX4_found l D κ A hI h) (qX4_found hts (tw_244 hts) ⟨(Nat.le_of_ble_eq_true rfl), (Nat.le_of_ble_eq_true rfl)⟩) (va_recv hE.1 hP.c5 (ci := 4) (q0 := 0) rfl rfl) (rest := []) hP rfl hl.1 rfl (Nat.le_of_ble_eq_true rfl) dX4_write_15 ⟨Nat.zero_le _, Nat.zero_le _⟩) hS (fun q h9 => h9) (fun r15 u15 H1 locs1 h hB hk hS1 => ?_)
    have hP := hB
    have hS := hS1
    exact W.iret (v := r15) hx hb hr (fun t ht _ => QWi.mk (u := u15) h hP hS ht) hS.2.2 dX4_write_18 (hlocks := hlk)
theorem qX4_write {R : Room} {s : State} {args : Array Value} {own : String} {idx : Nat} (hts : ∀ w ∈ gG, w.before args s = true) (hl : (Cond.methodLink own idx yX4_write).before args s = true) (hR : rX4_write.frames + 1 ≤ R.frames ∧ 8 + (5 + 11) + rX4_write.locals ≤ R.locals) : CallW R s args own RX4 idx yX4_write cX4_write 5 (some .int) (wz yX4_write cX4_write 5 (some .int)) rX4_write 0 0 3 := ⟨kw 3 hts mw_696 rfl rfl (tw_70 hts) hl (by decide +kernel) hR, tw_694 hts, tw_695 hts⟩
abbrev rX4_load : Room := { frames := 2, cells := 0, slots := 0, locals := 41 }
def pX4_load_85 (Q : Int32 → (Nat → Mx) → Prop) (x3 : Int32) (S : Nat → Mx) : Prop := Q x3 S
def pX4_load_18s  (ih18 : Int32 → Int32 → (Nat → Mx) → Prop) (Q : Int32 → (Nat → Mx) → Prop) (x1 : Int32) (x3 : Int32) (S : Nat → Mx) : Prop := vp_in x1 4 ∧ ((((S (x1.toNatClampNeg + 6)) 2 0) ≤ x3 → (pX4_load_85 Q x3 S)) ∧ (¬ ((S (x1.toNatClampNeg + 6)) 2 0) ≤ x3 → (pX1_has (S 0) x3 (fun r36 => ((r36 = 0 → (pX4_load_85 Q x3 S)) ∧ (¬ r36 = 0 → (vp_in x1 4 ∧ (vp_in x3 40 ∧ (pX4_isEdge ((S (x1.toNatClampNeg + 6)) 0 x3.toNatClampNeg) (fun r53 => ((r53 = 0 → (pX4_load_85 Q x3 S)) ∧ (¬ r53 = 0 → (vp_in x1 4 ∧ (vp_in x3 40 ∧ (vp_in x3 8 ∧ (ih18 x1 (x3 + 1) (va_up S 0 (st (S 0) 1 x3.toNatClampNeg ((S (x1.toNatClampNeg + 6)) 0 x3.toNatClampNeg)))))))))))))))))))
noncomputable def pX4_load_18 (Q : Int32 → (Nat → Mx) → Prop) (n : Nat) : Int32 → Int32 → (Nat → Mx) → Prop := Nat.rec (motive := fun _ => Int32 → Int32 → (Nat → Mx) → Prop) (fun _ _ _ => False) (fun _ ih => pX4_load_18s ih Q) n
def pX4_load (S : Nat → Mx) (x1 : Int32) (Q : Int32 → (Nat → Mx) → Prop) : Prop := pX4_wrongSheet S x1 (fun r2 => ((r2 < 0 → (∃ n, pX4_load_18 Q n x1 0 S)) ∧ (¬ r2 < 0 → (pX4_found S r2 (fun r12 u12 => (Q r12 u12))))))
set_option maxHeartbeats 4000000 in
set_option maxRecDepth 100000 in
theorem bX4_load_85 {p : Program} {l : Launch} {e : Env} {s : State} {m : MethodId} {args : Array Value} {below : List Frame} {meth : Method} {c : Code} {D : va_G} {κ : Nat → ClassId} {A : Nat → Nat → Nat}   {Q : Int32 → (Nat → Mx) → Prop} (Cc : Cx D κ RX4 cX4_load 4 (some .int) p s m args meth c) (hI : IX A)   : ∀ (x3 : Int32) (S : Nat → Mx) (H : Heap) (locs : List Loc) (hP : PX D κ A S H) (hS : va_S (aX A) s.heap H locs) (ls : Array Slot) (hl : lv_has ls 4 [(3, .int x3)]) (h : pX4_load_85 Q x3 S), W p l e rX4_load s m args below meth c H locs 0 0 (MQ below (QWi Q (fun u H => PX D κ A u H) (aX A)) args s 0 0 (aX A)) (F0 m 85 ls []) := by
  obtain ⟨hx, hb, hml, hown, hts, hr, hlk, hE⟩ := id Cc
  intro x3 S H locs hP hS ls hl h
  unfold pX4_load_85 at h
  refine lv_iload_n hx hb dX4_load_85 rfl (lv_at hl 0 rfl) ?_
  exact W.iret (v := x3) hx hb hr (fun t ht _ => QWi.mk (u := S) h hP hS ht) hS.2.2 dX4_load_86 (hlocks := hlk)
set_option maxHeartbeats 4000000 in
set_option maxRecDepth 100000 in
theorem bX4_load_18 {p : Program} {l : Launch} {e : Env} {s : State} {m : MethodId} {args : Array Value} {below : List Frame} {meth : Method} {c : Code} {D : va_G} {κ : Nat → ClassId} {A : Nat → Nat → Nat}   {Q : Int32 → (Nat → Mx) → Prop} (Cc : Cx D κ RX4 cX4_load 4 (some .int) p s m args meth c) (hI : IX A)   (n : Nat) : ∀ (x1 : Int32) (x3 : Int32) (S : Nat → Mx) (H : Heap) (locs : List Loc) (hP : PX D κ A S H) (hS : va_S (aX A) s.heap H locs) (ls : Array Slot) (hl : lv_has ls 4 [(0, .ref (A 5 0)), (1, .int x1), (3, .int x3)]) (h : pX4_load_18 Q n x1 x3 S), W p l e rX4_load s m args below meth c H locs 0 0 (MQ below (QWi Q (fun u H => PX D κ A u H) (aX A)) args s 0 0 (aX A)) (F0 m 18 ls []) := by
  obtain ⟨hx, hb, hml, hown, hts, hr, hlk, hE⟩ := id Cc
  induction n with
  | zero =>
    intro x1 x3 S H locs hP hS ls hl h
    exact absurd h (fun z => z)
  | succ n hih18 =>
    intro x1 x3 S H locs hP hS ls hl h
    have h : pX4_load_18s (pX4_load_18 Q n) Q x1 x3 S := h
    unfold pX4_load_18s at h
    refine lv_iload_n hx hb dX4_load_18 rfl (lv_at hl 2 rfl) ?_
    refine lv_aload_n hx hb dX4_load_19 rfl (lv_at hl 0 rfl) ?_
    refine gSf_5 Cc hP.c5 (tw_214 hts) dX4_load_20 ?_
    refine lv_iload_n hx hb dX4_load_23 rfl (lv_at hl 1 rfl) ?_
    refine lSf_s Cc hP.c5 h.1 dX4_load_24 ?_
    have hj24 := vin_lt h.1
    have h := h.2
    refine gSh_2 Cc (hP.cs hj24) (tw_201 hts) dX4_load_25 ?_
    refine lv_icmp_ge (tgt := 85) hx hb dX4_load_28 (by decide) (fun c28 => ?_) (fun c28 => ?_)
    · have h := h.1 c28
      exact bX4_load_85 Cc hI x3 S _ _ hP hS _ (lv_sub hl [2] rfl) h
    · have h := h.2 c28
      refine lv_aload_n hx hb dX4_load_31 rfl (lv_at hl 0 rfl) ?_
      refine gSf_0 Cc hP.c5 (tw_209 hts) dX4_load_32 ?_
      refine lv_iload_n hx hb dX4_load_35 rfl (lv_at hl 2 rfl) ?_
      refine kR (kV Cc (mX1_has l D κ (A 0) h) (qX1_has hts (tw_271 hts) ⟨(Nat.le_of_ble_eq_true rfl), (Nat.le_of_ble_eq_true rfl)⟩) (va_recv hE.1 hP.c0 (ci := 1) (q0 := 0) rfl rfl) (rest := []) hP.c0 rfl hl.1 rfl (Nat.le_of_ble_eq_true rfl) dX4_load_36 ⟨Nat.zero_le _, Nat.zero_le _⟩) (fun r36 h => ?_)
      refine lv_if_eq (tgt := 85) hx hb dX4_load_39 (by decide) (fun c39 => ?_) (fun c39 => ?_)
      · have h := h.1 c39
        exact bX4_load_85 Cc hI x3 S _ _ hP hS _ (lv_sub hl [2] rfl) h
      · have h := h.2 c39
        refine lv_aload_n hx hb dX4_load_42 rfl (lv_at hl 0 rfl) ?_
        refine gSf_5 Cc hP.c5 (tw_214 hts) dX4_load_43 ?_
        refine lv_iload_n hx hb dX4_load_46 rfl (lv_at hl 1 rfl) ?_
        refine lSf_s Cc hP.c5 h.1 dX4_load_47 ?_
        have hj47 := vin_lt h.1
        have h := h.2
        refine gSh_0 Cc (hP.cs hj47) (tw_197 hts) dX4_load_48 ?_
        refine lv_iload_n hx hb dX4_load_51 rfl (lv_at hl 2 rfl) ?_
        refine lSh_0 Cc (hP.cs hj47) h.1 dX4_load_52 ?_
        have h := h.2
        refine kR (kS Cc (mX4_isEdge l D κ h) (qX4_isEdge hts (tw_260 hts) ⟨(Nat.le_of_ble_eq_true rfl), (Nat.le_of_ble_eq_true rfl)⟩) (rest := []) trivial rfl hl.1 rfl (Nat.le_of_ble_eq_true rfl) dX4_load_53 ⟨Nat.zero_le _, Nat.zero_le _⟩) (fun r53 h => ?_)
        refine lv_if_eq (tgt := 85) hx hb dX4_load_56 (by decide) (fun c56 => ?_) (fun c56 => ?_)
        · have h := h.1 c56
          exact bX4_load_85 Cc hI x3 S _ _ hP hS _ (lv_sub hl [2] rfl) h
        · have h := h.2 c56
          refine lv_aload_n hx hb dX4_load_59 rfl (lv_at hl 0 rfl) ?_
          refine gSf_0 Cc hP.c5 (tw_209 hts) dX4_load_60 ?_
          refine gCo_1 Cc hP.c0 (tw_100 hts) dX4_load_63 ?_
          refine lv_iload_n hx hb dX4_load_66 rfl (lv_at hl 2 rfl) ?_
          refine lv_aload_n hx hb dX4_load_67 rfl (lv_at hl 0 rfl) ?_
          refine gSf_5 Cc hP.c5 (tw_214 hts) dX4_load_68 ?_
          refine lv_iload_n hx hb dX4_load_71 rfl (lv_at hl 1 rfl) ?_
          refine lSf_s Cc hP.c5 h.1 dX4_load_72 ?_
          have hj72 := vin_lt h.1
          have h := h.2
          refine gSh_0 Cc (hP.cs hj72) (tw_197 hts) dX4_load_73 ?_
          refine lv_iload_n hx hb dX4_load_76 rfl (lv_at hl 2 rfl) ?_
          refine lSh_0 Cc (hP.cs hj72) h.1 dX4_load_77 ?_
          have h := h.2
          refine sCo_1 Cc hP.c0 (hI.ij (k := 0) (by decide)) hS (aX_of (k := 0) (by decide) ⟨2, by decide, rfl⟩) h.1 dX4_load_78 (fun H1 locs1 hB hS1 hk => ?_)
          have h := h.2
          have hP := PX.put (k := 0) (by decide) hI hP hB (fun q _ hq => hk q (fun e => hq ⟨2, by decide, e⟩))
          have hS := hS1
          refine lv_iinc (v := (x3 + 1)) (lv' := [(3, .int (x3 + 1)), (0, .ref (A 5 0)), (1, .int x1)]) hx hb dX4_load_79 hl (k := 2) rfl rfl (by decide) rfl (fun ls hl => ?_)
          refine lv_goto (tgt := 18) hx hb dX4_load_82 (by decide) ?_
          exact hih18 x1 (x3 + 1) (va_up S 0 (st (S 0) 1 x3.toNatClampNeg ((S (x1.toNatClampNeg + 6)) 0 x3.toNatClampNeg))) _ _ hP hS _ (lv_sub hl [1, 2, 0] rfl) h
set_option maxHeartbeats 4000000 in
set_option maxRecDepth 100000 in
theorem mX4_load (l : Launch) (D : va_G) (κ : Nat → ClassId) (A : Nat → Nat → Nat) {S : Nat → Mx} {x1 : Int32} {Q : Int32 → (Nat → Mx) → Prop} (hI : IX A) (h : pX4_load S x1 Q) : Met l yX4_load (wz yX4_load cX4_load 4 (some .int)) rX4_load (va_Pc [.ref (A 5 0), .int x1] (PE D κ (fun H => PX D κ A S H))) (QWi Q (fun u H => PX D κ A u H) (aX A)) 0 0 (aX A) := by
  refine Met_of l (own := RX4) (by decide) rfl (Nat.le_of_ble_eq_true rfl) (fun p e s m below meth c Cc hPP ls hl => ?_)
  obtain ⟨hx, hb, hml, hown, hts, hr, hlk, hE⟩ := id Cc
  have hl : lv_has ls 4 [(0, .ref (A 5 0)), (1, .int x1)] := hl
  have hP := hPP
  have hS : va_S (aX A) s.heap s.heap [] := va_S.rf
  unfold pX4_load at h
  refine lv_aload_n hx hb dX4_load_0 rfl (lv_at hl 0 rfl) ?_
  refine lv_iload_n hx hb dX4_load_1 rfl (lv_at hl 1 rfl) ?_
  refine kR (kV Cc (mX4_wrongSheet l D κ A h) (qX4_wrongSheet hts (tw_507 hts) ⟨(Nat.le_of_ble_eq_true rfl), (Nat.le_of_ble_eq_true rfl)⟩) (va_recv hE.1 hP.c5 (ci := 4) (q0 := 0) rfl rfl) (rest := []) hP rfl hl.1 rfl (Nat.le_of_ble_eq_true rfl) dX4_load_2 ⟨Nat.zero_le _, Nat.zero_le _⟩) (fun r2 h => ?_)
  refine lv_istore_n (lv' := [(2, .int r2), (0, .ref (A 5 0)), (1, .int x1)]) hx hb dX4_load_5 rfl hl (by decide) rfl (fun ls hl => ?_)
  refine lv_iload_n hx hb dX4_load_6 rfl (lv_at hl 0 rfl) ?_
  refine lv_if_lt (tgt := 16) hx hb dX4_load_7 (by decide) (fun c7 => ?_) (fun c7 => ?_)
  · have h := h.1 c7
    refine lv_iconst (v := 0) hx hb dX4_load_16 (by decide) ?_
    refine lv_istore_n (lv' := [(3, .int 0), (2, .int r2), (0, .ref (A 5 0)), (1, .int x1)]) hx hb dX4_load_17 rfl hl (by decide) rfl (fun ls hl => ?_)
    obtain ⟨n, h⟩ := h
    exact bX4_load_18 Cc hI n x1 0 S _ _ hP hS _ (lv_sub hl [2, 3, 0] rfl) h
  · have h := h.2 c7
    refine lv_aload_n hx hb dX4_load_10 rfl (lv_at hl 1 rfl) ?_
    refine lv_iload_n hx hb dX4_load_11 rfl (lv_at hl 0 rfl) ?_
    refine kWi (kV Cc (mX4_found l D κ A hI h) (qX4_found hts (tw_244 hts) ⟨(Nat.le_of_ble_eq_true rfl), (Nat.le_of_ble_eq_true rfl)⟩) (va_recv hE.1 hP.c5 (ci := 4) (q0 := 0) rfl rfl) (rest := []) hP rfl hl.1 rfl (Nat.le_of_ble_eq_true rfl) dX4_load_12 ⟨Nat.zero_le _, Nat.zero_le _⟩) hS (fun q h9 => h9) (fun r12 u12 H1 locs1 h hB hk hS1 => ?_)
    have hP := hB
    have hS := hS1
    exact W.iret (v := r12) hx hb hr (fun t ht _ => QWi.mk (u := u12) h hP hS ht) hS.2.2 dX4_load_15 (hlocks := hlk)
theorem qX4_load {R : Room} {s : State} {args : Array Value} {own : String} {idx : Nat} (hts : ∀ w ∈ gG, w.before args s = true) (hl : (Cond.methodLink own idx yX4_load).before args s = true) (hR : rX4_load.frames + 1 ≤ R.frames ∧ 8 + (4 + 11) + rX4_load.locals ≤ R.locals) : CallW R s args own RX4 idx yX4_load cX4_load 4 (some .int) (wz yX4_load cX4_load 4 (some .int)) rX4_load 0 0 1 := ⟨kw 1 hts mw_713 rfl rfl (tw_70 hts) hl (by decide +kernel) hR, tw_711 hts, tw_712 hts⟩
abbrev rX4_judge : Room := { frames := 2, cells := 0, slots := 0, locals := 41 }
def pX4_judge_65 (Q : Int32 → (Nat → Mx) → Prop) (x3 : Int32) (S : Nat → Mx) : Prop := Q (1 + x3) S
def pX4_judge_18s  (ih18 : Int32 → Int32 → (Nat → Mx) → Prop) (Q : Int32 → (Nat → Mx) → Prop) (x1 : Int32) (x3 : Int32) (S : Nat → Mx) : Prop := vp_in x1 4 ∧ ((((S (x1.toNatClampNeg + 6)) 2 0) ≤ x3 → (Q 0 S)) ∧ (¬ ((S (x1.toNatClampNeg + 6)) 2 0) ≤ x3 → (pX1_has (S 0) x3 (fun r36 => ((r36 = 0 → (pX4_judge_65 Q x3 S)) ∧ (¬ r36 = 0 → (vp_in x3 8 ∧ (vp_in x1 4 ∧ (vp_in x3 40 ∧ ((((S 0) 4 x3.toNatClampNeg) = ((S (x1.toNatClampNeg + 6)) 0 x3.toNatClampNeg) → (ih18 x1 (x3 + 1) S)) ∧ (¬ ((S 0) 4 x3.toNatClampNeg) = ((S (x1.toNatClampNeg + 6)) 0 x3.toNatClampNeg) → (pX4_judge_65 Q x3 S))))))))))))
noncomputable def pX4_judge_18 (Q : Int32 → (Nat → Mx) → Prop) (n : Nat) : Int32 → Int32 → (Nat → Mx) → Prop := Nat.rec (motive := fun _ => Int32 → Int32 → (Nat → Mx) → Prop) (fun _ _ _ => False) (fun _ ih => pX4_judge_18s ih Q) n
def pX4_judge (S : Nat → Mx) (x1 : Int32) (Q : Int32 → (Nat → Mx) → Prop) : Prop := pX4_wrongSheet S x1 (fun r2 => ((r2 < 0 → (∃ n, pX4_judge_18 Q n x1 0 S)) ∧ (¬ r2 < 0 → (pX4_found S r2 (fun r12 u12 => (Q r12 u12))))))
set_option maxHeartbeats 4000000 in
set_option maxRecDepth 100000 in
theorem bX4_judge_65 {p : Program} {l : Launch} {e : Env} {s : State} {m : MethodId} {args : Array Value} {below : List Frame} {meth : Method} {c : Code} {D : va_G} {κ : Nat → ClassId} {A : Nat → Nat → Nat}   {Q : Int32 → (Nat → Mx) → Prop} (Cc : Cx D κ RX4 cX4_judge 4 (some .int) p s m args meth c) (hI : IX A)   : ∀ (x3 : Int32) (S : Nat → Mx) (H : Heap) (locs : List Loc) (hP : PX D κ A S H) (hS : va_S (aX A) s.heap H locs) (ls : Array Slot) (hl : lv_has ls 4 [(3, .int x3)]) (h : pX4_judge_65 Q x3 S), W p l e rX4_judge s m args below meth c H locs 0 0 (MQ below (QWi Q (fun u H => PX D κ A u H) (aX A)) args s 0 0 (aX A)) (F0 m 65 ls []) := by
  obtain ⟨hx, hb, hml, hown, hts, hr, hlk, hE⟩ := id Cc
  intro x3 S H locs hP hS ls hl h
  unfold pX4_judge_65 at h
  refine lv_iconst (v := 1) hx hb dX4_judge_65 (by decide) ?_
  refine lv_iload_n hx hb dX4_judge_66 rfl (lv_at hl 0 rfl) ?_
  refine lv_iadd hx hb dX4_judge_67 ?_
  exact W.iret (v := (1 + x3)) hx hb hr (fun t ht _ => QWi.mk (u := S) h hP hS ht) hS.2.2 dX4_judge_68 (hlocks := hlk)
set_option maxHeartbeats 4000000 in
set_option maxRecDepth 100000 in
theorem bX4_judge_18 {p : Program} {l : Launch} {e : Env} {s : State} {m : MethodId} {args : Array Value} {below : List Frame} {meth : Method} {c : Code} {D : va_G} {κ : Nat → ClassId} {A : Nat → Nat → Nat}   {Q : Int32 → (Nat → Mx) → Prop} (Cc : Cx D κ RX4 cX4_judge 4 (some .int) p s m args meth c) (hI : IX A)   (n : Nat) : ∀ (x1 : Int32) (x3 : Int32) (S : Nat → Mx) (H : Heap) (locs : List Loc) (hP : PX D κ A S H) (hS : va_S (aX A) s.heap H locs) (ls : Array Slot) (hl : lv_has ls 4 [(0, .ref (A 5 0)), (1, .int x1), (3, .int x3)]) (h : pX4_judge_18 Q n x1 x3 S), W p l e rX4_judge s m args below meth c H locs 0 0 (MQ below (QWi Q (fun u H => PX D κ A u H) (aX A)) args s 0 0 (aX A)) (F0 m 18 ls []) := by
  obtain ⟨hx, hb, hml, hown, hts, hr, hlk, hE⟩ := id Cc
  induction n with
  | zero =>
    intro x1 x3 S H locs hP hS ls hl h
    exact absurd h (fun z => z)
  | succ n hih18 =>
    intro x1 x3 S H locs hP hS ls hl h
    have h : pX4_judge_18s (pX4_judge_18 Q n) Q x1 x3 S := h
    unfold pX4_judge_18s at h
    refine lv_iload_n hx hb dX4_judge_18 rfl (lv_at hl 2 rfl) ?_
    refine lv_aload_n hx hb dX4_judge_19 rfl (lv_at hl 0 rfl) ?_
    refine gSf_5 Cc hP.c5 (tw_214 hts) dX4_judge_20 ?_
    refine lv_iload_n hx hb dX4_judge_23 rfl (lv_at hl 1 rfl) ?_
    refine lSf_s Cc hP.c5 h.1 dX4_judge_24 ?_
    have hj24 := vin_lt h.1
    have h := h.2
    refine gSh_2 Cc (hP.cs hj24) (tw_201 hts) dX4_judge_25 ?_
    refine lv_icmp_ge (tgt := 75) hx hb dX4_judge_28 (by decide) (fun c28 => ?_) (fun c28 => ?_)
    · have h := h.1 c28
      refine lv_iconst (v := 0) hx hb dX4_judge_75 (by decide) ?_
      exact W.iret (v := 0) hx hb hr (fun t ht _ => QWi.mk (u := S) h hP hS ht) hS.2.2 dX4_judge_76 (hlocks := hlk)
    · have h := h.2 c28
      refine lv_aload_n hx hb dX4_judge_31 rfl (lv_at hl 0 rfl) ?_
      refine gSf_0 Cc hP.c5 (tw_209 hts) dX4_judge_32 ?_
      refine lv_iload_n hx hb dX4_judge_35 rfl (lv_at hl 2 rfl) ?_
      refine kR (kV Cc (mX1_has l D κ (A 0) h) (qX1_has hts (tw_271 hts) ⟨(Nat.le_of_ble_eq_true rfl), (Nat.le_of_ble_eq_true rfl)⟩) (va_recv hE.1 hP.c0 (ci := 1) (q0 := 0) rfl rfl) (rest := []) hP.c0 rfl hl.1 rfl (Nat.le_of_ble_eq_true rfl) dX4_judge_36 ⟨Nat.zero_le _, Nat.zero_le _⟩) (fun r36 h => ?_)
      refine lv_if_eq (tgt := 65) hx hb dX4_judge_39 (by decide) (fun c39 => ?_) (fun c39 => ?_)
      · have h := h.1 c39
        exact bX4_judge_65 Cc hI x3 S _ _ hP hS _ (lv_sub hl [2] rfl) h
      · have h := h.2 c39
        refine lv_aload_n hx hb dX4_judge_42 rfl (lv_at hl 0 rfl) ?_
        refine gSf_0 Cc hP.c5 (tw_209 hts) dX4_judge_43 ?_
        refine gCo_4 Cc hP.c0 (tw_106 hts) dX4_judge_46 ?_
        refine lv_iload_n hx hb dX4_judge_49 rfl (lv_at hl 2 rfl) ?_
        refine lCo_4 Cc hP.c0 h.1 dX4_judge_50 ?_
        have h := h.2
        refine lv_aload_n hx hb dX4_judge_51 rfl (lv_at hl 0 rfl) ?_
        refine gSf_5 Cc hP.c5 (tw_214 hts) dX4_judge_52 ?_
        refine lv_iload_n hx hb dX4_judge_55 rfl (lv_at hl 1 rfl) ?_
        refine lSf_s Cc hP.c5 h.1 dX4_judge_56 ?_
        have hj56 := vin_lt h.1
        have h := h.2
        refine gSh_0 Cc (hP.cs hj56) (tw_197 hts) dX4_judge_57 ?_
        refine lv_iload_n hx hb dX4_judge_60 rfl (lv_at hl 2 rfl) ?_
        refine lSh_0 Cc (hP.cs hj56) h.1 dX4_judge_61 ?_
        have h := h.2
        refine lv_icmp_eq (tgt := 69) hx hb dX4_judge_62 (by decide) (fun c62 => ?_) (fun c62 => ?_)
        · have h := h.1 c62
          refine lv_iinc (v := (x3 + 1)) (lv' := [(3, .int (x3 + 1)), (0, .ref (A 5 0)), (1, .int x1)]) hx hb dX4_judge_69 hl (k := 2) rfl rfl (by decide) rfl (fun ls hl => ?_)
          refine lv_goto (tgt := 18) hx hb dX4_judge_72 (by decide) ?_
          exact hih18 x1 (x3 + 1) S _ _ hP hS _ (lv_sub hl [1, 2, 0] rfl) h
        · have h := h.2 c62
          exact bX4_judge_65 Cc hI x3 S _ _ hP hS _ (lv_sub hl [2] rfl) h
set_option maxHeartbeats 4000000 in
set_option maxRecDepth 100000 in
theorem mX4_judge (l : Launch) (D : va_G) (κ : Nat → ClassId) (A : Nat → Nat → Nat) {S : Nat → Mx} {x1 : Int32} {Q : Int32 → (Nat → Mx) → Prop} (hI : IX A) (h : pX4_judge S x1 Q) : Met l yX4_judge (wz yX4_judge cX4_judge 4 (some .int)) rX4_judge (va_Pc [.ref (A 5 0), .int x1] (PE D κ (fun H => PX D κ A S H))) (QWi Q (fun u H => PX D κ A u H) (aX A)) 0 0 (aX A) := by
  refine Met_of l (own := RX4) (by decide) rfl (Nat.le_of_ble_eq_true rfl) (fun p e s m below meth c Cc hPP ls hl => ?_)
  obtain ⟨hx, hb, hml, hown, hts, hr, hlk, hE⟩ := id Cc
  have hl : lv_has ls 4 [(0, .ref (A 5 0)), (1, .int x1)] := hl
  have hP := hPP
  have hS : va_S (aX A) s.heap s.heap [] := va_S.rf
  unfold pX4_judge at h
  refine lv_aload_n hx hb dX4_judge_0 rfl (lv_at hl 0 rfl) ?_
  refine lv_iload_n hx hb dX4_judge_1 rfl (lv_at hl 1 rfl) ?_
  refine kR (kV Cc (mX4_wrongSheet l D κ A h) (qX4_wrongSheet hts (tw_507 hts) ⟨(Nat.le_of_ble_eq_true rfl), (Nat.le_of_ble_eq_true rfl)⟩) (va_recv hE.1 hP.c5 (ci := 4) (q0 := 0) rfl rfl) (rest := []) hP rfl hl.1 rfl (Nat.le_of_ble_eq_true rfl) dX4_judge_2 ⟨Nat.zero_le _, Nat.zero_le _⟩) (fun r2 h => ?_)
  refine lv_istore_n (lv' := [(2, .int r2), (0, .ref (A 5 0)), (1, .int x1)]) hx hb dX4_judge_5 rfl hl (by decide) rfl (fun ls hl => ?_)
  refine lv_iload_n hx hb dX4_judge_6 rfl (lv_at hl 0 rfl) ?_
  refine lv_if_lt (tgt := 16) hx hb dX4_judge_7 (by decide) (fun c7 => ?_) (fun c7 => ?_)
  · have h := h.1 c7
    refine lv_iconst (v := 0) hx hb dX4_judge_16 (by decide) ?_
    refine lv_istore_n (lv' := [(3, .int 0), (2, .int r2), (0, .ref (A 5 0)), (1, .int x1)]) hx hb dX4_judge_17 rfl hl (by decide) rfl (fun ls hl => ?_)
    obtain ⟨n, h⟩ := h
    exact bX4_judge_18 Cc hI n x1 0 S _ _ hP hS _ (lv_sub hl [2, 3, 0] rfl) h
  · have h := h.2 c7
    refine lv_aload_n hx hb dX4_judge_10 rfl (lv_at hl 1 rfl) ?_
    refine lv_iload_n hx hb dX4_judge_11 rfl (lv_at hl 0 rfl) ?_
    refine kWi (kV Cc (mX4_found l D κ A hI h) (qX4_found hts (tw_244 hts) ⟨(Nat.le_of_ble_eq_true rfl), (Nat.le_of_ble_eq_true rfl)⟩) (va_recv hE.1 hP.c5 (ci := 4) (q0 := 0) rfl rfl) (rest := []) hP rfl hl.1 rfl (Nat.le_of_ble_eq_true rfl) dX4_judge_12 ⟨Nat.zero_le _, Nat.zero_le _⟩) hS (fun q h9 => h9) (fun r12 u12 H1 locs1 h hB hk hS1 => ?_)
    have hP := hB
    have hS := hS1
    exact W.iret (v := r12) hx hb hr (fun t ht _ => QWi.mk (u := u12) h hP hS ht) hS.2.2 dX4_judge_15 (hlocks := hlk)
theorem qX4_judge {R : Room} {s : State} {args : Array Value} {own : String} {idx : Nat} (hts : ∀ w ∈ gG, w.before args s = true) (hl : (Cond.methodLink own idx yX4_judge).before args s = true) (hR : rX4_judge.frames + 1 ≤ R.frames ∧ 8 + (4 + 11) + rX4_judge.locals ≤ R.locals) : CallW R s args own RX4 idx yX4_judge cX4_judge 4 (some .int) (wz yX4_judge cX4_judge 4 (some .int)) rX4_judge 0 0 1 := ⟨kw 1 hts mw_717 rfl rfl (tw_70 hts) hl (by decide +kernel) hR, tw_715 hts, tw_716 hts⟩
abbrev rX4_image : Room := { frames := 2, cells := 0, slots := 0, locals := 81 }
def pX4_image (S : Nat → Mx)  (Q : Int32 → (Nat → Mx) → Prop) : Prop := pX1_takeFrom (S 1) (S 0) (fun u8 => (Q 1 (va_up (va_up S 1 u8) 5 (st ((va_up S 1 u8) 5) 1 0 1))))
set_option maxHeartbeats 4000000 in
set_option maxRecDepth 100000 in
theorem mX4_image (l : Launch) (D : va_G) (κ : Nat → ClassId) (A : Nat → Nat → Nat) {S : Nat → Mx}  {Q : Int32 → (Nat → Mx) → Prop} (hI : IX A) (h : pX4_image S  Q) : Met l yX4_image (wz yX4_image cX4_image 1 (some .int)) rX4_image (va_Pc [.ref (A 5 0)] (PE D κ (fun H => PX D κ A S H))) (QWi Q (fun u H => PX D κ A u H) (aX A)) 0 0 (aX A) := by
  refine Met_of l (own := RX4) (by decide) rfl (Nat.le_of_ble_eq_true rfl) (fun p e s m below meth c Cc hPP ls hl => ?_)
  obtain ⟨hx, hb, hml, hown, hts, hr, hlk, hE⟩ := id Cc
  have hl : lv_has ls 1 [(0, .ref (A 5 0))] := hl
  have hP := hPP
  have hS : va_S (aX A) s.heap s.heap [] := va_S.rf
  unfold pX4_image at h
  refine lv_aload_n hx hb dX4_image_0 rfl (lv_at hl 0 rfl) ?_
  refine gSf_1 Cc hP.c5 (tw_210 hts) dX4_image_1 ?_
  refine lv_aload_n hx hb dX4_image_4 rfl (lv_at hl 0 rfl) ?_
  refine gSf_0 Cc hP.c5 (tw_209 hts) dX4_image_5 ?_
  refine kWv (kV Cc (mX1_takeFrom l D κ (A 1) (A 0) (hI.ij (k := 1) (by decide)) (hI.dj (by decide) (by decide) (by decide)) h) (qX1_takeFrom hts (tw_435 hts) ⟨(Nat.le_of_ble_eq_true rfl), (Nat.le_of_ble_eq_true rfl)⟩) (va_recv hE.1 hP.c1 (ci := 1) (q0 := 0) rfl rfl) (rest := []) ⟨hP.c1, hP.c0⟩ rfl hl.1 rfl (Nat.le_of_ble_eq_true rfl) dX4_image_8 ⟨Nat.zero_le _, Nat.zero_le _⟩) hS (fun q h9 => aX_of (k := 1) (by decide) h9) (fun  u8 H1 locs1 h hB hk hS1 => ?_)
  have hP := PX.put (k := 1) (by decide) hI hP hB hk
  have hS := hS1
  refine lv_aload_n hx hb dX4_image_11 rfl (lv_at hl 0 rfl) ?_
  refine lv_iconst (v := 1) hx hb dX4_image_12 (by decide) ?_
  refine uSf_7 Cc hP.c5 (hI.ij (k := 5) (by decide)) hS (aX_of (k := 5) (by decide) ⟨0, by decide, rfl⟩) (tw_216 hts) ⟨rfl, rfl⟩ dX4_image_13 (fun H1 locs1 hB hS1 hk => ?_)
  have hP := PX.put (k := 5) (by decide) hI hP hB (fun q _ hq => hk q (fun e => hq ⟨0, by decide, e⟩))
  have hS := hS1
  refine lv_iconst (v := 1) hx hb dX4_image_16 (by decide) ?_
  exact W.iret (v := 1) hx hb hr (fun t ht _ => QWi.mk (u := (va_up (va_up S 1 u8) 5 (st ((va_up S 1 u8) 5) 1 0 1))) h hP hS ht) hS.2.2 dX4_image_17 (hlocks := hlk)
theorem qX4_image {R : Room} {s : State} {args : Array Value} {own : String} {idx : Nat} (hts : ∀ w ∈ gG, w.before args s = true) (hl : (Cond.methodLink own idx yX4_image).before args s = true) (hR : rX4_image.frames + 1 ≤ R.frames ∧ 8 + (1 + 11) + rX4_image.locals ≤ R.locals) : CallW R s args own RX4 idx yX4_image cX4_image 1 (some .int) (wz yX4_image cX4_image 1 (some .int)) rX4_image 0 0 0 := ⟨kw 0 hts mw_721 rfl rfl (tw_70 hts) hl (by decide +kernel) hR, tw_719 hts, tw_720 hts⟩
abbrev rX4_undo : Room := { frames := 2, cells := 0, slots := 0, locals := 81 }
def pX4_undo (S : Nat → Mx)  (Q : Int32 → (Nat → Mx) → Prop) : Prop := (¬ ((S 5) 1 0) = 0 → (pX1_takeFrom (S 0) (S 1) (fun u21 => (Q (((va_up S 0 u21) 0) 9 0) (va_up S 0 u21))))) ∧ (((S 5) 1 0) = 0 → (pX4_found S 3 (fun r9 u9 => (Q r9 u9))))
set_option maxHeartbeats 4000000 in
set_option maxRecDepth 100000 in
theorem mX4_undo (l : Launch) (D : va_G) (κ : Nat → ClassId) (A : Nat → Nat → Nat) {S : Nat → Mx}  {Q : Int32 → (Nat → Mx) → Prop} (hI : IX A) (h : pX4_undo S  Q) : Met l yX4_undo (wz yX4_undo cX4_undo 1 (some .int)) rX4_undo (va_Pc [.ref (A 5 0)] (PE D κ (fun H => PX D κ A S H))) (QWi Q (fun u H => PX D κ A u H) (aX A)) 0 0 (aX A) := by
  refine Met_of l (own := RX4) (by decide) rfl (Nat.le_of_ble_eq_true rfl) (fun p e s m below meth c Cc hPP ls hl => ?_)
  obtain ⟨hx, hb, hml, hown, hts, hr, hlk, hE⟩ := id Cc
  have hl : lv_has ls 1 [(0, .ref (A 5 0))] := hl
  have hP := hPP
  have hS : va_S (aX A) s.heap s.heap [] := va_S.rf
  unfold pX4_undo at h
  refine lv_aload_n hx hb dX4_undo_0 rfl (lv_at hl 0 rfl) ?_
  refine gSf_7 Cc hP.c5 (tw_216 hts) dX4_undo_1 ?_
  refine lv_if_ne (tgt := 13) hx hb dX4_undo_4 (by decide) (fun c4 => ?_) (fun c4 => ?_)
  · have h := h.1 c4
    refine lv_aload_n hx hb dX4_undo_13 rfl (lv_at hl 0 rfl) ?_
    refine gSf_0 Cc hP.c5 (tw_209 hts) dX4_undo_14 ?_
    refine lv_aload_n hx hb dX4_undo_17 rfl (lv_at hl 0 rfl) ?_
    refine gSf_1 Cc hP.c5 (tw_210 hts) dX4_undo_18 ?_
    refine kWv (kV Cc (mX1_takeFrom l D κ (A 0) (A 1) (hI.ij (k := 0) (by decide)) (hI.dj (by decide) (by decide) (by decide)) h) (qX1_takeFrom hts (tw_435 hts) ⟨(Nat.le_of_ble_eq_true rfl), (Nat.le_of_ble_eq_true rfl)⟩) (va_recv hE.1 hP.c0 (ci := 1) (q0 := 0) rfl rfl) (rest := []) ⟨hP.c0, hP.c1⟩ rfl hl.1 rfl (Nat.le_of_ble_eq_true rfl) dX4_undo_21 ⟨Nat.zero_le _, Nat.zero_le _⟩) hS (fun q h9 => aX_of (k := 0) (by decide) h9) (fun  u21 H1 locs1 h hB hk hS1 => ?_)
    have hP := PX.put (k := 0) (by decide) hI hP hB hk
    have hS := hS1
    refine lv_aload_n hx hb dX4_undo_24 rfl (lv_at hl 0 rfl) ?_
    refine gSf_0 Cc hP.c5 (tw_209 hts) dX4_undo_25 ?_
    refine gCo_9 Cc hP.c0 (tw_120 hts) dX4_undo_28 ?_
    exact W.iret (v := (((va_up S 0 u21) 0) 9 0)) hx hb hr (fun t ht _ => QWi.mk (u := (va_up S 0 u21)) h hP hS ht) hS.2.2 dX4_undo_31 (hlocks := hlk)
  · have h := h.2 c4
    refine lv_aload_n hx hb dX4_undo_7 rfl (lv_at hl 0 rfl) ?_
    refine lv_iconst (v := 3) hx hb dX4_undo_8 (by decide) ?_
    refine kWi (kV Cc (mX4_found l D κ A hI h) (qX4_found hts (tw_244 hts) ⟨(Nat.le_of_ble_eq_true rfl), (Nat.le_of_ble_eq_true rfl)⟩) (va_recv hE.1 hP.c5 (ci := 4) (q0 := 0) rfl rfl) (rest := []) hP rfl hl.1 rfl (Nat.le_of_ble_eq_true rfl) dX4_undo_9 ⟨Nat.zero_le _, Nat.zero_le _⟩) hS (fun q h9 => h9) (fun r9 u9 H1 locs1 h hB hk hS1 => ?_)
    have hP := hB
    have hS := hS1
    exact W.iret (v := r9) hx hb hr (fun t ht _ => QWi.mk (u := u9) h hP hS ht) hS.2.2 dX4_undo_12 (hlocks := hlk)
theorem qX4_undo {R : Room} {s : State} {args : Array Value} {own : String} {idx : Nat} (hts : ∀ w ∈ gG, w.before args s = true) (hl : (Cond.methodLink own idx yX4_undo).before args s = true) (hR : rX4_undo.frames + 1 ≤ R.frames ∧ 8 + (1 + 11) + rX4_undo.locals ≤ R.locals) : CallW R s args own RX4 idx yX4_undo cX4_undo 1 (some .int) (wz yX4_undo cX4_undo 1 (some .int)) rX4_undo 0 0 0 := ⟨kw 0 hts mw_725 rfl rfl (tw_70 hts) hl (by decide +kernel) hR, tw_723 hts, tw_724 hts⟩
abbrev rX4_tear : Room := { frames := 0, cells := 0, slots := 0, locals := 0 }
def pX4_tear_12 (Q : Int32 → (Nat → Mx) → Prop) (y0 : Int32) (S : Nat → Mx) : Prop := Q y0 (va_up S 5 (st (S 5) 1 0 0))
def pX4_tear (S : Nat → Mx)  (Q : Int32 → (Nat → Mx) → Prop) : Prop := (((S 5) 1 0) = 0 → (pX4_tear_12 Q 0 S)) ∧ (¬ ((S 5) 1 0) = 0 → (pX4_tear_12 Q 1 S))
set_option maxHeartbeats 4000000 in
set_option maxRecDepth 100000 in
theorem bX4_tear_12 {p : Program} {l : Launch} {e : Env} {s : State} {m : MethodId} {args : Array Value} {below : List Frame} {meth : Method} {c : Code} {D : va_G} {κ : Nat → ClassId} {A : Nat → Nat → Nat}   {Q : Int32 → (Nat → Mx) → Prop} (Cc : Cx D κ RX4 cX4_tear 2 (some .int) p s m args meth c) (hI : IX A)   : ∀ (y0 : Int32) (S : Nat → Mx) (H : Heap) (locs : List Loc) (hP : PX D κ A S H) (hS : va_S (aX A) s.heap H locs) (ls : Array Slot) (hl : lv_has ls 2 [(0, .ref (A 5 0))]) (h : pX4_tear_12 Q y0 S), W p l e rX4_tear s m args below meth c H locs 0 0 (MQ below (QWi Q (fun u H => PX D κ A u H) (aX A)) args s 0 0 (aX A)) (F0 m 12 ls [.int y0]) := by
  obtain ⟨hx, hb, hml, hown, hts, hr, hlk, hE⟩ := id Cc
  intro y0 S H locs hP hS ls hl h
  unfold pX4_tear_12 at h
  refine lv_istore_n (lv' := [(1, .int y0), (0, .ref (A 5 0))]) hx hb dX4_tear_12 rfl hl (by decide) rfl (fun ls hl => ?_)
  refine lv_aload_n hx hb dX4_tear_13 rfl (lv_at hl 1 rfl) ?_
  refine lv_iconst (v := 0) hx hb dX4_tear_14 (by decide) ?_
  refine uSf_7 Cc hP.c5 (hI.ij (k := 5) (by decide)) hS (aX_of (k := 5) (by decide) ⟨0, by decide, rfl⟩) (tw_216 hts) ⟨rfl, rfl⟩ dX4_tear_15 (fun H1 locs1 hB hS1 hk => ?_)
  have hP := PX.put (k := 5) (by decide) hI hP hB (fun q _ hq => hk q (fun e => hq ⟨0, by decide, e⟩))
  have hS := hS1
  refine lv_iload_n hx hb dX4_tear_18 rfl (lv_at hl 0 rfl) ?_
  exact W.iret (v := y0) hx hb hr (fun t ht _ => QWi.mk (u := (va_up S 5 (st (S 5) 1 0 0))) h hP hS ht) hS.2.2 dX4_tear_19 (hlocks := hlk)
set_option maxHeartbeats 4000000 in
set_option maxRecDepth 100000 in
theorem mX4_tear (l : Launch) (D : va_G) (κ : Nat → ClassId) (A : Nat → Nat → Nat) {S : Nat → Mx}  {Q : Int32 → (Nat → Mx) → Prop} (hI : IX A) (h : pX4_tear S  Q) : Met l yX4_tear (wz yX4_tear cX4_tear 2 (some .int)) rX4_tear (va_Pc [.ref (A 5 0)] (PE D κ (fun H => PX D κ A S H))) (QWi Q (fun u H => PX D κ A u H) (aX A)) 0 0 (aX A) := by
  refine Met_of l (own := RX4) (by decide) rfl (Nat.le_of_ble_eq_true rfl) (fun p e s m below meth c Cc hPP ls hl => ?_)
  obtain ⟨hx, hb, hml, hown, hts, hr, hlk, hE⟩ := id Cc
  have hl : lv_has ls 2 [(0, .ref (A 5 0))] := hl
  have hP := hPP
  have hS : va_S (aX A) s.heap s.heap [] := va_S.rf
  unfold pX4_tear at h
  refine lv_aload_n hx hb dX4_tear_0 rfl (lv_at hl 0 rfl) ?_
  refine gSf_7 Cc hP.c5 (tw_216 hts) dX4_tear_1 ?_
  refine lv_if_eq (tgt := 11) hx hb dX4_tear_4 (by decide) (fun c4 => ?_) (fun c4 => ?_)
  · have h := h.1 c4
    refine lv_iconst (v := 0) hx hb dX4_tear_11 (by decide) ?_
    exact bX4_tear_12 Cc hI 0 S _ _ hP hS _ (lv_sub hl [0] rfl) h
  · have h := h.2 c4
    refine lv_iconst (v := 1) hx hb dX4_tear_7 (by decide) ?_
    refine lv_goto (tgt := 12) hx hb dX4_tear_8 (by decide) ?_
    exact bX4_tear_12 Cc hI 1 S _ _ hP hS _ (lv_sub hl [0] rfl) h
theorem qX4_tear {R : Room} {s : State} {args : Array Value} {own : String} {idx : Nat} (hts : ∀ w ∈ gG, w.before args s = true) (hl : (Cond.methodLink own idx yX4_tear).before args s = true) (hR : rX4_tear.frames + 1 ≤ R.frames ∧ 8 + (2 + 11) + rX4_tear.locals ≤ R.locals) : CallW R s args own RX4 idx yX4_tear cX4_tear 2 (some .int) (wz yX4_tear cX4_tear 2 (some .int)) rX4_tear 0 0 0 := ⟨kw 0 hts mw_729 rfl rfl (tw_70 hts) hl (by decide +kernel) hR, tw_727 hts, tw_728 hts⟩
abbrev rX4_count : Room := { frames := 4, cells := 0, slots := 0, locals := 90 }
def pX4_count (S : Nat → Mx) (x1 : Int32) (Q : Int32 → (Nat → Mx) → Prop) : Prop := (x1 = 0 → (Q ((S 0) 9 0) S)) ∧ (x1 = 1 → (Q ((S 0) 8 0) S)) ∧ (x1 = 2 → (pX1_sumOfRow (S 0) (fun r68 => (Q r68 S)))) ∧ (x1 = 3 → (pJ6_bitCount_0f7a4 ((S 0) 7 0) (fun r79 => (Q r79 S)))) ∧ (x1 = 4 → (pX1_grantedPieces (S 0) (fun r87 => (pJ6_bitCount_0f7a4 r87 (fun r90 => (Q r90 S)))))) ∧ (x1 = 5 → (Q ((S 4) 1 0) S)) ∧ (x1 = 6 → (Q ((S 0) 10 0) S)) ∧ (x1 = 7 → (pX1_filledSpots (S 0) (fun r114 => (Q r114 S)))) ∧ (¬ x1 = 0 → ¬ x1 = 1 → ¬ x1 = 2 → ¬ x1 = 3 → ¬ x1 = 4 → ¬ x1 = 5 → ¬ x1 = 6 → ¬ x1 = 7 → (pX4_found S 0 (fun r120 u120 => (Q r120 u120))))
set_option maxHeartbeats 4000000 in
set_option maxRecDepth 100000 in
theorem mX4_count (l : Launch) (D : va_G) (κ : Nat → ClassId) (A : Nat → Nat → Nat) {S : Nat → Mx} {x1 : Int32} {Q : Int32 → (Nat → Mx) → Prop} (hI : IX A) (h : pX4_count S x1 Q) : Met l yX4_count (wz yX4_count cX4_count 2 (some .int)) rX4_count (va_Pc [.ref (A 5 0), .int x1] (PE D κ (fun H => PX D κ A S H))) (QWi Q (fun u H => PX D κ A u H) (aX A)) 0 0 (aX A) := by
  refine Met_of l (own := RX4) (by decide) rfl (Nat.le_of_ble_eq_true rfl) (fun p e s m below meth c Cc hPP ls hl => ?_)
  obtain ⟨hx, hb, hml, hown, hts, hr, hlk, hE⟩ := id Cc
  have hl : lv_has ls 2 [(0, .ref (A 5 0)), (1, .int x1)] := hl
  have hP := hPP
  have hS : va_S (aX A) s.heap s.heap [] := va_S.rf
  unfold pX4_count at h
  refine lv_iload_n hx hb dX4_count_0 rfl (lv_at hl 1 rfl) ?_
  by_cases c1_0 : x1 = 0
  · have h := h.1 c1_0
    refine lv_tableIn (tgt := 48) hx hb dX4_count_1 (by rw [c1_0]; decide) (by rw [c1_0]; decide) (by rw [c1_0]; rfl) (by decide) ?_
    refine lv_aload_n hx hb dX4_count_48 rfl (lv_at hl 0 rfl) ?_
    refine gSf_0 Cc hP.c5 (tw_209 hts) dX4_count_49 ?_
    refine gCo_9 Cc hP.c0 (tw_120 hts) dX4_count_52 ?_
    exact W.iret (v := ((S 0) 9 0)) hx hb hr (fun t ht _ => QWi.mk (u := S) h hP hS ht) hS.2.2 dX4_count_55 (hlocks := hlk)
  · have h := h.2
    by_cases c1_1 : x1 = 1
    · have h := h.1 c1_1
      refine lv_tableIn (tgt := 56) hx hb dX4_count_1 (by rw [c1_1]; decide) (by rw [c1_1]; decide) (by rw [c1_1]; rfl) (by decide) ?_
      refine lv_aload_n hx hb dX4_count_56 rfl (lv_at hl 0 rfl) ?_
      refine gSf_0 Cc hP.c5 (tw_209 hts) dX4_count_57 ?_
      refine gCo_8 Cc hP.c0 (tw_117 hts) dX4_count_60 ?_
      exact W.iret (v := ((S 0) 8 0)) hx hb hr (fun t ht _ => QWi.mk (u := S) h hP hS ht) hS.2.2 dX4_count_63 (hlocks := hlk)
    · have h := h.2
      by_cases c1_2 : x1 = 2
      · have h := h.1 c1_2
        refine lv_tableIn (tgt := 64) hx hb dX4_count_1 (by rw [c1_2]; decide) (by rw [c1_2]; decide) (by rw [c1_2]; rfl) (by decide) ?_
        refine lv_aload_n hx hb dX4_count_64 rfl (lv_at hl 0 rfl) ?_
        refine gSf_0 Cc hP.c5 (tw_209 hts) dX4_count_65 ?_
        refine kR (kV Cc (mX1_sumOfRow l D κ (A 0) h) (qX1_sumOfRow hts (tw_341 hts) ⟨(Nat.le_of_ble_eq_true rfl), (Nat.le_of_ble_eq_true rfl)⟩) (va_recv hE.1 hP.c0 (ci := 1) (q0 := 0) rfl rfl) (rest := []) hP.c0 rfl hl.1 rfl (Nat.le_of_ble_eq_true rfl) dX4_count_68 ⟨Nat.zero_le _, Nat.zero_le _⟩) (fun r68 h => ?_)
        exact W.iret (v := r68) hx hb hr (fun t ht _ => QWi.mk (u := S) h hP hS ht) hS.2.2 dX4_count_71 (hlocks := hlk)
      · have h := h.2
        by_cases c1_3 : x1 = 3
        · have h := h.1 c1_3
          refine lv_tableIn (tgt := 72) hx hb dX4_count_1 (by rw [c1_3]; decide) (by rw [c1_3]; decide) (by rw [c1_3]; rfl) (by decide) ?_
          refine lv_aload_n hx hb dX4_count_72 rfl (lv_at hl 0 rfl) ?_
          refine gSf_0 Cc hP.c5 (tw_209 hts) dX4_count_73 ?_
          refine gCo_7 Cc hP.c0 (tw_114 hts) dX4_count_76 ?_
          refine kR (kS Cc (mJ6_bitCount_0f7a4 l D κ h) (qJ6_bitCount_0f7a4 hts (tw_497 hts) ⟨(Nat.le_of_ble_eq_true rfl), (Nat.le_of_ble_eq_true rfl)⟩) (rest := []) trivial rfl hl.1 rfl (Nat.le_of_ble_eq_true rfl) dX4_count_79 ⟨Nat.zero_le _, Nat.zero_le _⟩) (fun r79 h => ?_)
          exact W.iret (v := r79) hx hb hr (fun t ht _ => QWi.mk (u := S) h hP hS ht) hS.2.2 dX4_count_82 (hlocks := hlk)
        · have h := h.2
          by_cases c1_4 : x1 = 4
          · have h := h.1 c1_4
            refine lv_tableIn (tgt := 83) hx hb dX4_count_1 (by rw [c1_4]; decide) (by rw [c1_4]; decide) (by rw [c1_4]; rfl) (by decide) ?_
            refine lv_aload_n hx hb dX4_count_83 rfl (lv_at hl 0 rfl) ?_
            refine gSf_0 Cc hP.c5 (tw_209 hts) dX4_count_84 ?_
            refine kR (kV Cc (mX1_grantedPieces l D κ (A 0) h) (qX1_grantedPieces hts (tw_378 hts) ⟨(Nat.le_of_ble_eq_true rfl), (Nat.le_of_ble_eq_true rfl)⟩) (va_recv hE.1 hP.c0 (ci := 1) (q0 := 0) rfl rfl) (rest := []) hP.c0 rfl hl.1 rfl (Nat.le_of_ble_eq_true rfl) dX4_count_87 ⟨Nat.zero_le _, Nat.zero_le _⟩) (fun r87 h => ?_)
            refine kR (kS Cc (mJ6_bitCount_0f7a4 l D κ h) (qJ6_bitCount_0f7a4 hts (tw_497 hts) ⟨(Nat.le_of_ble_eq_true rfl), (Nat.le_of_ble_eq_true rfl)⟩) (rest := []) trivial rfl hl.1 rfl (Nat.le_of_ble_eq_true rfl) dX4_count_90 ⟨Nat.zero_le _, Nat.zero_le _⟩) (fun r90 h => ?_)
            exact W.iret (v := r90) hx hb hr (fun t ht _ => QWi.mk (u := S) h hP hS ht) hS.2.2 dX4_count_93 (hlocks := hlk)
          · have h := h.2
            by_cases c1_5 : x1 = 5
            · have h := h.1 c1_5
              refine lv_tableIn (tgt := 94) hx hb dX4_count_1 (by rw [c1_5]; decide) (by rw [c1_5]; decide) (by rw [c1_5]; rfl) (by decide) ?_
              refine lv_aload_n hx hb dX4_count_94 rfl (lv_at hl 0 rfl) ?_
              refine gSf_4 Cc hP.c5 (tw_213 hts) dX4_count_95 ?_
              refine gTp_1 Cc hP.c4 (tw_174 hts) dX4_count_98 ?_
              exact W.iret (v := ((S 4) 1 0)) hx hb hr (fun t ht _ => QWi.mk (u := S) h hP hS ht) hS.2.2 dX4_count_101 (hlocks := hlk)
            · have h := h.2
              by_cases c1_6 : x1 = 6
              · have h := h.1 c1_6
                refine lv_tableIn (tgt := 102) hx hb dX4_count_1 (by rw [c1_6]; decide) (by rw [c1_6]; decide) (by rw [c1_6]; rfl) (by decide) ?_
                refine lv_aload_n hx hb dX4_count_102 rfl (lv_at hl 0 rfl) ?_
                refine gSf_0 Cc hP.c5 (tw_209 hts) dX4_count_103 ?_
                refine gCo_10 Cc hP.c0 (tw_122 hts) dX4_count_106 ?_
                exact W.iret (v := ((S 0) 10 0)) hx hb hr (fun t ht _ => QWi.mk (u := S) h hP hS ht) hS.2.2 dX4_count_109 (hlocks := hlk)
              · have h := h.2
                by_cases c1_7 : x1 = 7
                · have h := h.1 c1_7
                  refine lv_tableIn (tgt := 110) hx hb dX4_count_1 (by rw [c1_7]; decide) (by rw [c1_7]; decide) (by rw [c1_7]; rfl) (by decide) ?_
                  refine lv_aload_n hx hb dX4_count_110 rfl (lv_at hl 0 rfl) ?_
                  refine gSf_0 Cc hP.c5 (tw_209 hts) dX4_count_111 ?_
                  refine kR (kV Cc (mX1_filledSpots l D κ (A 0) h) (qX1_filledSpots hts (tw_734 hts) ⟨(Nat.le_of_ble_eq_true rfl), (Nat.le_of_ble_eq_true rfl)⟩) (va_recv hE.1 hP.c0 (ci := 1) (q0 := 0) rfl rfl) (rest := []) hP.c0 rfl hl.1 rfl (Nat.le_of_ble_eq_true rfl) dX4_count_114 ⟨Nat.zero_le _, Nat.zero_le _⟩) (fun r114 h => ?_)
                  exact W.iret (v := r114) hx hb hr (fun t ht _ => QWi.mk (u := S) h hP hS ht) hS.2.2 dX4_count_117 (hlocks := hlk)
                · have h := h.2
                  have h := h c1_0 c1_1 c1_2 c1_3 c1_4 c1_5 c1_6 c1_7
                  refine lv_tableOut (tgt := 118) hx hb dX4_count_1 (by have h0 := ne_toInt c1_0 (z := 0) (by decide); have h1 := ne_toInt c1_1 (z := 1) (by decide); have h2 := ne_toInt c1_2 (z := 2) (by decide); have h3 := ne_toInt c1_3 (z := 3) (by decide); have h4 := ne_toInt c1_4 (z := 4) (by decide); have h5 := ne_toInt c1_5 (z := 5) (by decide); have h6 := ne_toInt c1_6 (z := 6) (by decide); have h7 := ne_toInt c1_7 (z := 7) (by decide); omega) (by decide) ?_
                  refine lv_aload_n hx hb dX4_count_118 rfl (lv_at hl 0 rfl) ?_
                  refine lv_iconst (v := 0) hx hb dX4_count_119 (by decide) ?_
                  refine kWi (kV Cc (mX4_found l D κ A hI h) (qX4_found hts (tw_244 hts) ⟨(Nat.le_of_ble_eq_true rfl), (Nat.le_of_ble_eq_true rfl)⟩) (va_recv hE.1 hP.c5 (ci := 4) (q0 := 0) rfl rfl) (rest := []) hP rfl hl.1 rfl (Nat.le_of_ble_eq_true rfl) dX4_count_120 ⟨Nat.zero_le _, Nat.zero_le _⟩) hS (fun q h9 => h9) (fun r120 u120 H1 locs1 h hB hk hS1 => ?_)
                  have hP := hB
                  have hS := hS1
                  exact W.iret (v := r120) hx hb hr (fun t ht _ => QWi.mk (u := u120) h hP hS ht) hS.2.2 dX4_count_123 (hlocks := hlk)
theorem qX4_count {R : Room} {s : State} {args : Array Value} {own : String} {idx : Nat} (hts : ∀ w ∈ gG, w.before args s = true) (hl : (Cond.methodLink own idx yX4_count).before args s = true) (hR : rX4_count.frames + 1 ≤ R.frames ∧ 8 + (2 + 11) + rX4_count.locals ≤ R.locals) : CallW R s args own RX4 idx yX4_count cX4_count 2 (some .int) (wz yX4_count cX4_count 2 (some .int)) rX4_count 0 0 1 := ⟨kw 1 hts mw_733 rfl rfl (tw_70 hts) hl (by decide +kernel) hR, tw_731 hts, tw_732 hts⟩
abbrev rX4_allFindings : Room := { frames := 0, cells := 0, slots := 0, locals := 0 }
def pX4_allFindings_4s (S : Nat → Mx) (ih4 : Int32 → Int32 → Prop) (Q : Int32 → Prop) (x1 : Int32) (x2 : Int32) : Prop := (7 ≤ x2 → (Q x1)) ∧ (¬ 7 ≤ x2 → (vp_in x2 7 ∧ (∀ v18 : Int32, v18 = (x1 + ((S 5) 0 x2.toNatClampNeg)) → (ih4 v18 (x2 + 1)))))
noncomputable def pX4_allFindings_4 (S : Nat → Mx) (Q : Int32 → Prop) (n : Nat) : Int32 → Int32 → Prop := Nat.rec (motive := fun _ => Int32 → Int32 → Prop) (fun _ _ => False) (fun _ ih => pX4_allFindings_4s S ih Q) n
def pX4_allFindings (S : Nat → Mx)  (Q : Int32 → Prop) : Prop := ∃ n, pX4_allFindings_4 S Q n 0 0
set_option maxHeartbeats 4000000 in
set_option maxRecDepth 100000 in
theorem bX4_allFindings_4 {p : Program} {l : Launch} {e : Env} {s : State} {m : MethodId} {args : Array Value} {below : List Frame} {meth : Method} {c : Code} {D : va_G} {κ : Nat → ClassId} {A : Nat → Nat → Nat} {S : Nat → Mx}  {Q : Int32 → Prop} (Cc : Cx D κ RX4 cX4_allFindings 3 (some .int) p s m args meth c)  (hP : PX D κ A S s.heap)  (n : Nat) : ∀ (x1 : Int32) (x2 : Int32) (ls : Array Slot) (hl : lv_has ls 3 [(0, .ref (A 5 0)), (1, .int x1), (2, .int x2)]) (h : pX4_allFindings_4 S Q n x1 x2), W p l e rX4_allFindings s m args below meth c s.heap [] 0 0 (MQ below (RQ Q) args s 0 0 (fun _ => False)) (F0 m 4 ls []) := by
  obtain ⟨hx, hb, hml, hown, hts, hr, hlk, hE⟩ := id Cc
  induction n with
  | zero =>
    intro x1 x2 ls hl h
    exact absurd h (fun z => z)
  | succ n hih4 =>
    intro x1 x2 ls hl h
    have h : pX4_allFindings_4s S (pX4_allFindings_4 S Q n) Q x1 x2 := h
    unfold pX4_allFindings_4s at h
    refine lv_iload_n hx hb dX4_allFindings_4 rfl (lv_at hl 2 rfl) ?_
    refine lv_bipush (v := 7) hx hb dX4_allFindings_5 (by decide) ?_
    refine lv_icmp_ge (tgt := 25) hx hb dX4_allFindings_7 (by decide) (fun c7 => ?_) (fun c7 => ?_)
    · have h := h.1 c7
      refine lv_iload_n hx hb dX4_allFindings_25 rfl (lv_at hl 1 rfl) ?_
      exact W.iret (v := x1) hx hb hr (fun t ht _ => RQ.mk h ht) (fun _ h9 => by cases h9) dX4_allFindings_26 (hlocks := hlk)
    · have h := h.2 c7
      refine lv_iload_n hx hb dX4_allFindings_10 rfl (lv_at hl 1 rfl) ?_
      refine lv_aload_n hx hb dX4_allFindings_11 rfl (lv_at hl 0 rfl) ?_
      refine gSf_6 Cc hP.c5 (tw_215 hts) dX4_allFindings_12 ?_
      refine lv_iload_n hx hb dX4_allFindings_15 rfl (lv_at hl 2 rfl) ?_
      refine lSf_0 Cc hP.c5 h.1 dX4_allFindings_16 ?_
      have h := h.2
      refine lv_iadd hx hb dX4_allFindings_17 ?_
      refine lv_topi (fun v18 e18 => ?_)
      have h := h v18 e18
      refine lv_istore_n (lv' := [(1, .int v18), (0, .ref (A 5 0)), (2, .int x2)]) hx hb dX4_allFindings_18 rfl hl (by decide) rfl (fun ls hl => ?_)
      refine lv_iinc (v := (x2 + 1)) (lv' := [(2, .int (x2 + 1)), (1, .int v18), (0, .ref (A 5 0))]) hx hb dX4_allFindings_19 hl (k := 2) rfl rfl (by decide) rfl (fun ls hl => ?_)
      refine lv_goto (tgt := 4) hx hb dX4_allFindings_22 (by decide) ?_
      exact hih4 v18 (x2 + 1)  _ (lv_sub hl [2, 1, 0] rfl) h
set_option maxHeartbeats 4000000 in
set_option maxRecDepth 100000 in
theorem mX4_allFindings (l : Launch) (D : va_G) (κ : Nat → ClassId) (A : Nat → Nat → Nat) {S : Nat → Mx}  {Q : Int32 → Prop}  (h : pX4_allFindings S  Q) : Met l yX4_allFindings (wz yX4_allFindings cX4_allFindings 3 (some .int)) rX4_allFindings (va_Pc [.ref (A 5 0)] (PE D κ (fun H => PX D κ A S H))) (RQ Q) 0 0 (fun _ => False) := by
  refine Met_of l (own := RX4) (by decide) rfl (Nat.le_of_ble_eq_true rfl) (fun p e s m below meth c Cc hPP ls hl => ?_)
  obtain ⟨hx, hb, hml, hown, hts, hr, hlk, hE⟩ := id Cc
  have hl : lv_has ls 3 [(0, .ref (A 5 0))] := hl
  have hP := hPP
  unfold pX4_allFindings at h
  refine lv_iconst (v := 0) hx hb dX4_allFindings_0 (by decide) ?_
  refine lv_istore_n (lv' := [(1, .int 0), (0, .ref (A 5 0))]) hx hb dX4_allFindings_1 rfl hl (by decide) rfl (fun ls hl => ?_)
  refine lv_iconst (v := 0) hx hb dX4_allFindings_2 (by decide) ?_
  refine lv_istore_n (lv' := [(2, .int 0), (1, .int 0), (0, .ref (A 5 0))]) hx hb dX4_allFindings_3 rfl hl (by decide) rfl (fun ls hl => ?_)
  obtain ⟨n, h⟩ := h
  exact bX4_allFindings_4 Cc hP n 0 0  _ (lv_sub hl [2, 1, 0] rfl) h
theorem qX4_allFindings {R : Room} {s : State} {args : Array Value} {own : String} {idx : Nat} (hts : ∀ w ∈ gG, w.before args s = true) (hl : (Cond.methodLink own idx yX4_allFindings).before args s = true) (hR : rX4_allFindings.frames + 1 ≤ R.frames ∧ 8 + (3 + 11) + rX4_allFindings.locals ≤ R.locals) : CallW R s args own RX4 idx yX4_allFindings cX4_allFindings 3 (some .int) (wz yX4_allFindings cX4_allFindings 3 (some .int)) rX4_allFindings 0 0 0 := ⟨kw 0 hts mw_745 rfl rfl (tw_70 hts) hl (by decide +kernel) hR, tw_744 hts, tw_22 hts⟩
abbrev rX4_status : Room := { frames := 1, cells := 0, slots := 0, locals := 22 }
def pX4_status_34 (Q : Int32 → (Nat → Mx) → Prop) (y0 : Int32) (S : Nat → Mx) : Prop := Q y0 S
def pX4_status_29 (Q : Int32 → (Nat → Mx) → Prop) (S : Nat → Mx) : Prop := pX4_found S 0 (fun r31 u31 => (pX4_status_34 Q r31 u31))
def pX4_status (S : Nat → Mx) (x1 : Int32) (Q : Int32 → (Nat → Mx) → Prop) : Prop := (¬ x1 = (-1) → ((x1 < 0 → (pX4_status_29 Q S)) ∧ (¬ x1 < 0 → ((7 ≤ x1 → (pX4_status_29 Q S)) ∧ (¬ 7 ≤ x1 → (vp_in x1 7 ∧ (pX4_status_34 Q ((S 5) 0 x1.toNatClampNeg) S))))))) ∧ (x1 = (-1) → (pX4_allFindings S (fun r6 => (Q r6 S))))
set_option maxHeartbeats 4000000 in
set_option maxRecDepth 100000 in
theorem bX4_status_34 {p : Program} {l : Launch} {e : Env} {s : State} {m : MethodId} {args : Array Value} {below : List Frame} {meth : Method} {c : Code} {D : va_G} {κ : Nat → ClassId} {A : Nat → Nat → Nat}   {Q : Int32 → (Nat → Mx) → Prop} (Cc : Cx D κ RX4 cX4_status 2 (some .int) p s m args meth c) (hI : IX A)   : ∀ (y0 : Int32) (S : Nat → Mx) (H : Heap) (locs : List Loc) (hP : PX D κ A S H) (hS : va_S (aX A) s.heap H locs) (ls : Array Slot) (hl : lv_has ls 2 []) (h : pX4_status_34 Q y0 S), W p l e rX4_status s m args below meth c H locs 0 0 (MQ below (QWi Q (fun u H => PX D κ A u H) (aX A)) args s 0 0 (aX A)) (F0 m 34 ls [.int y0]) := by
  obtain ⟨hx, hb, hml, hown, hts, hr, hlk, hE⟩ := id Cc
  intro y0 S H locs hP hS ls hl h
  unfold pX4_status_34 at h
  exact W.iret (v := y0) hx hb hr (fun t ht _ => QWi.mk (u := S) h hP hS ht) hS.2.2 dX4_status_34 (hlocks := hlk)
set_option maxHeartbeats 4000000 in
set_option maxRecDepth 100000 in
theorem bX4_status_29 {p : Program} {l : Launch} {e : Env} {s : State} {m : MethodId} {args : Array Value} {below : List Frame} {meth : Method} {c : Code} {D : va_G} {κ : Nat → ClassId} {A : Nat → Nat → Nat}   {Q : Int32 → (Nat → Mx) → Prop} (Cc : Cx D κ RX4 cX4_status 2 (some .int) p s m args meth c) (hI : IX A)   : ∀ (S : Nat → Mx) (H : Heap) (locs : List Loc) (hP : PX D κ A S H) (hS : va_S (aX A) s.heap H locs) (ls : Array Slot) (hl : lv_has ls 2 [(0, .ref (A 5 0))]) (h : pX4_status_29 Q S), W p l e rX4_status s m args below meth c H locs 0 0 (MQ below (QWi Q (fun u H => PX D κ A u H) (aX A)) args s 0 0 (aX A)) (F0 m 29 ls []) := by
  obtain ⟨hx, hb, hml, hown, hts, hr, hlk, hE⟩ := id Cc
  intro S H locs hP hS ls hl h
  unfold pX4_status_29 at h
  refine lv_aload_n hx hb dX4_status_29 rfl (lv_at hl 0 rfl) ?_
  refine lv_iconst (v := 0) hx hb dX4_status_30 (by decide) ?_
  refine kWi (kV Cc (mX4_found l D κ A hI h) (qX4_found hts (tw_244 hts) ⟨(Nat.le_of_ble_eq_true rfl), (Nat.le_of_ble_eq_true rfl)⟩) (va_recv hE.1 hP.c5 (ci := 4) (q0 := 0) rfl rfl) (rest := []) hP rfl hl.1 rfl (Nat.le_of_ble_eq_true rfl) dX4_status_31 ⟨Nat.zero_le _, Nat.zero_le _⟩) hS (fun q h9 => h9) (fun r31 u31 H1 locs1 h hB hk hS1 => ?_)
  have hP := hB
  have hS := hS1
  exact bX4_status_34 Cc hI r31 u31 _ _ hP hS _ (lv_sub hl [] rfl) h
set_option maxHeartbeats 4000000 in
set_option maxRecDepth 100000 in
theorem mX4_status (l : Launch) (D : va_G) (κ : Nat → ClassId) (A : Nat → Nat → Nat) {S : Nat → Mx} {x1 : Int32} {Q : Int32 → (Nat → Mx) → Prop} (hI : IX A) (h : pX4_status S x1 Q) : Met l yX4_status (wz yX4_status cX4_status 2 (some .int)) rX4_status (va_Pc [.ref (A 5 0), .int x1] (PE D κ (fun H => PX D κ A S H))) (QWi Q (fun u H => PX D κ A u H) (aX A)) 0 0 (aX A) := by
  refine Met_of l (own := RX4) (by decide) rfl (Nat.le_of_ble_eq_true rfl) (fun p e s m below meth c Cc hPP ls hl => ?_)
  obtain ⟨hx, hb, hml, hown, hts, hr, hlk, hE⟩ := id Cc
  have hl : lv_has ls 2 [(0, .ref (A 5 0)), (1, .int x1)] := hl
  have hP := hPP
  have hS : va_S (aX A) s.heap s.heap [] := va_S.rf
  unfold pX4_status at h
  refine lv_iload_n hx hb dX4_status_0 rfl (lv_at hl 1 rfl) ?_
  refine lv_iconst (v := (-1)) hx hb dX4_status_1 (by decide) ?_
  refine lv_icmp_ne (tgt := 10) hx hb dX4_status_2 (by decide) (fun c2 => ?_) (fun c2 => ?_)
  · have h := h.1 c2
    refine lv_iload_n hx hb dX4_status_10 rfl (lv_at hl 1 rfl) ?_
    refine lv_if_lt (tgt := 29) hx hb dX4_status_11 (by decide) (fun c11 => ?_) (fun c11 => ?_)
    · have h := h.1 c11
      exact bX4_status_29 Cc hI S _ _ hP hS _ (lv_sub hl [0] rfl) h
    · have h := h.2 c11
      refine lv_iload_n hx hb dX4_status_14 rfl (lv_at hl 1 rfl) ?_
      refine lv_bipush (v := 7) hx hb dX4_status_15 (by decide) ?_
      refine lv_icmp_ge (tgt := 29) hx hb dX4_status_17 (by decide) (fun c17 => ?_) (fun c17 => ?_)
      · have h := h.1 c17
        exact bX4_status_29 Cc hI S _ _ hP hS _ (lv_sub hl [0] rfl) h
      · have h := h.2 c17
        refine lv_aload_n hx hb dX4_status_20 rfl (lv_at hl 0 rfl) ?_
        refine gSf_6 Cc hP.c5 (tw_215 hts) dX4_status_21 ?_
        refine lv_iload_n hx hb dX4_status_24 rfl (lv_at hl 1 rfl) ?_
        refine lSf_0 Cc hP.c5 h.1 dX4_status_25 ?_
        have h := h.2
        refine lv_goto (tgt := 34) hx hb dX4_status_26 (by decide) ?_
        exact bX4_status_34 Cc hI ((S 5) 0 x1.toNatClampNeg) S _ _ hP hS _ (lv_sub hl [] rfl) h
  · have h := h.2 c2
    refine lv_aload_n hx hb dX4_status_5 rfl (lv_at hl 0 rfl) ?_
    refine kR (kV Cc (mX4_allFindings l D κ A h) (qX4_allFindings hts (tw_742 hts) ⟨(Nat.le_of_ble_eq_true rfl), (Nat.le_of_ble_eq_true rfl)⟩) (va_recv hE.1 hP.c5 (ci := 4) (q0 := 0) rfl rfl) (rest := []) hP rfl hl.1 rfl (Nat.le_of_ble_eq_true rfl) dX4_status_6 ⟨Nat.zero_le _, Nat.zero_le _⟩) (fun r6 h => ?_)
    exact W.iret (v := r6) hx hb hr (fun t ht _ => QWi.mk (u := S) h hP hS ht) hS.2.2 dX4_status_9 (hlocks := hlk)
theorem qX4_status {R : Room} {s : State} {args : Array Value} {own : String} {idx : Nat} (hts : ∀ w ∈ gG, w.before args s = true) (hl : (Cond.methodLink own idx yX4_status).before args s = true) (hR : rX4_status.frames + 1 ≤ R.frames ∧ 8 + (2 + 11) + rX4_status.locals ≤ R.locals) : CallW R s args own RX4 idx yX4_status cX4_status 2 (some .int) (wz yX4_status cX4_status 2 (some .int)) rX4_status 0 0 1 := ⟨kw 1 hts mw_741 rfl rfl (tw_70 hts) hl (by decide +kernel) hR, tw_739 hts, tw_740 hts⟩
