abbrev rJ0_coder_7d493 : Room := { frames := 0, cells := 0, slots := 0, locals := 0 }
def pJ0_coder_7d493_14 (w0 : Nat) (Q : Int32 → Prop) (y0 : Int32) : Prop := narrow .byte (.int y0) = .int y0 ∧ (Q y0)
def pJ0_coder_7d493  (w0 : Nat) (Q : Int32 → Prop) : Prop := ((1 : Int32) = 0 → (pJ0_coder_7d493_14 w0 Q 1)) ∧ (¬ (1 : Int32) = 0 → (pJ0_coder_7d493_14 w0 Q 0))
set_option maxHeartbeats 4000000 in
set_option maxRecDepth 100000 in
theorem bJ0_coder_7d493_14 {p : Program} {l : Launch} {e : Env} {s : State} {m : MethodId} {args : Array Value} {below : List Frame} {meth : Method} {c : Code} {D : va_G} {κ : Nat → ClassId} {ρ : Nat → Nat} {ν : Nat → Nat} {N : Nat → Prop}  {w0 : Nat}  {Q : Int32 → Prop} (Cc : Cx D κ RJ0 cJ0_coder_7d493 1 (some .byte) p s m args meth c) (hw0 : w0 < 11) (hT : SE ρ ν N s s.heap)  : ∀ (y0 : Int32) (ls : Array Slot) (hl : lv_has ls 1 []) (h : pJ0_coder_7d493_14 w0 Q y0), W p l e rJ0_coder_7d493 s m args below meth c s.heap [] 0 0 (MQ below (RQ Q) args s 0 0 (fun _ => False)) (F0 m 14 ls [.int y0]) := by
  obtain ⟨hx, hb, hml, hown, hts, hr, hlk, hE⟩ := id Cc
  intro y0 ls hl h
  unfold pJ0_coder_7d493_14 at h
  exact W.zret (v := y0) (ty := .byte) hx hb hr h.1 (fun t ht _ => RQ.mk h.2 ht) (fun _ h9 => by cases h9) dJ0_coder_7d493_14 (hlocks := hlk)
set_option maxHeartbeats 4000000 in
set_option maxRecDepth 100000 in
theorem mJ0_coder_7d493 (l : Launch) (D : va_G) (κ : Nat → ClassId) (ρ : Nat → Nat) (ν : Nat → Nat) (N : Nat → Prop)   {w0 : Nat} {Q : Int32 → Prop} (hw0 : w0 < 11) (h : pJ0_coder_7d493  w0 Q) : Met l yJ0_coder_7d493 (wz yJ0_coder_7d493 cJ0_coder_7d493 1 (some .byte)) rJ0_coder_7d493 (va_Pc [.ref (ρ w0)] (PS D κ ρ ν N (fun _ => True))) (RQ Q) 0 0 (fun _ => False) := by
  refine Met_ofS l (own := RJ0) (by decide) rfl (Nat.le_of_ble_eq_true rfl) (fun p e s m below meth c Cc hT hPP ls hl => ?_)
  obtain ⟨hx, hb, hml, hown, hts, hr, hlk, hE⟩ := id Cc
  have hl : lv_has ls 1 [(0, .ref (ρ w0))] := hl
  unfold pJ0_coder_7d493 at h
  refine gsCompact Cc hT (tw_605 hts) dJ0_coder_7d493_0 ?_
  refine lv_if_eq (tgt := 13) hx hb dJ0_coder_7d493_3 (by decide) (fun c3 => ?_) (fun c3 => ?_)
  · have h := h.1 c3
    refine lv_iconst (v := 1) hx hb dJ0_coder_7d493_13 (by decide) ?_
    exact bJ0_coder_7d493_14 Cc hw0 hT 1  _ (lv_sub hl [] rfl) h
  · have h := h.2 c3
    refine lv_aload_n hx hb dJ0_coder_7d493_6 rfl (lv_at hl 0 rfl) ?_
    refine gStr_c Cc hT hw0 (tw_1239 hts) dJ0_coder_7d493_7 ?_
    refine lv_goto (tgt := 14) hx hb dJ0_coder_7d493_10 (by decide) ?_
    exact bJ0_coder_7d493_14 Cc hw0 hT 0  _ (lv_sub hl [] rfl) h
theorem qJ0_coder_7d493 {R : Room} {s : State} {args : Array Value} {own : String} {idx : Nat} (hts : ∀ w ∈ gG, w.before args s = true) (hl : (Cond.methodLink own idx yJ0_coder_7d493).before args s = true) (hR : rJ0_coder_7d493.frames + 1 ≤ R.frames ∧ 8 + (1 + 11) + rJ0_coder_7d493.locals ≤ R.locals) : CallW R s args own RJ0 idx yJ0_coder_7d493 cJ0_coder_7d493 1 (some .byte) (wz yJ0_coder_7d493 cJ0_coder_7d493 1 (some .byte)) rJ0_coder_7d493 0 0 0 := ⟨kw 0 hts mw_604 rfl rfl (tw_79 hts) hl (by decide +kernel) hR, tw_602 hts, tw_603 hts⟩
abbrev rJ0_length_8abf5 : Room := { frames := 1, cells := 0, slots := 0, locals := 20 }
def pJ0_length_8abf5  (w0 : Nat) (Q : Int32 → Prop) : Prop := pJ0_coder_7d493 w0 (fun r6 => (Q ((nI (slen w0)) >>> (r6 &&& 31))))
set_option maxHeartbeats 4000000 in
set_option maxRecDepth 100000 in
theorem mJ0_length_8abf5 (l : Launch) (D : va_G) (κ : Nat → ClassId) (ρ : Nat → Nat) (ν : Nat → Nat) (N : Nat → Prop)   {w0 : Nat} {Q : Int32 → Prop} (hw0 : w0 < 11) (h : pJ0_length_8abf5  w0 Q) : Met l yJ0_length_8abf5 (wz yJ0_length_8abf5 cJ0_length_8abf5 1 (some .int)) rJ0_length_8abf5 (va_Pc [.ref (ρ w0)] (PS D κ ρ ν N (fun _ => True))) (RQ Q) 0 0 (fun _ => False) := by
  refine Met_ofS l (own := RJ0) (by decide) rfl (Nat.le_of_ble_eq_true rfl) (fun p e s m below meth c Cc hT hPP ls hl => ?_)
  obtain ⟨hx, hb, hml, hown, hts, hr, hlk, hE⟩ := id Cc
  have hl : lv_has ls 1 [(0, .ref (ρ w0))] := hl
  unfold pJ0_length_8abf5 at h
  refine lv_aload_n hx hb dJ0_length_8abf5_0 rfl (lv_at hl 0 rfl) ?_
  refine gStr_v Cc hT hw0 (tw_1238 hts) dJ0_length_8abf5_1 ?_
  refine bytLen Cc hT hw0 dJ0_length_8abf5_4 ?_
  refine lv_aload_n hx hb dJ0_length_8abf5_5 rfl (lv_at hl 0 rfl) ?_
  refine kR (kVS Cc hT (mJ0_coder_7d493 l D κ ρ ν N hw0 h) (qJ0_coder_7d493 hts (tw_601 hts) ⟨(Nat.le_of_ble_eq_true rfl), (Nat.le_of_ble_eq_true rfl)⟩) (hT.recv hw0) (rest := [.int (nI (slen w0))]) trivial rfl hl.1 rfl (Nat.le_of_ble_eq_true rfl) dJ0_length_8abf5_6 ⟨Nat.zero_le _, Nat.zero_le _⟩) (fun r6 h => ?_)
  refine lv_ishr hx hb dJ0_length_8abf5_9 ?_
  exact W.iret (v := ((nI (slen w0)) >>> (r6 &&& 31))) hx hb hr (fun t ht _ => RQ.mk h ht) (fun _ h9 => by cases h9) dJ0_length_8abf5_10 (hlocks := hlk)
theorem qJ0_length_8abf5 {R : Room} {s : State} {args : Array Value} {own : String} {idx : Nat} (hts : ∀ w ∈ gG, w.before args s = true) (hl : (Cond.methodLink own idx yJ0_length_8abf5).before args s = true) (hR : rJ0_length_8abf5.frames + 1 ≤ R.frames ∧ 8 + (1 + 11) + rJ0_length_8abf5.locals ≤ R.locals) : CallW R s args own RJ0 idx yJ0_length_8abf5 cJ0_length_8abf5 1 (some .int) (wz yJ0_length_8abf5 cJ0_length_8abf5 1 (some .int)) rJ0_length_8abf5 0 0 0 := ⟨kw 0 hts mw_600 rfl rfl (tw_79 hts) hl (by decide +kernel) hR, tw_598 hts, tw_599 hts⟩
abbrev rJ0_isLatin1_aae02 : Room := { frames := 0, cells := 0, slots := 0, locals := 0 }
def pJ0_isLatin1_aae02_18 (w0 : Nat) (Q : Int32 → Prop) (y0 : Int32) : Prop := (y0 = 0 ∨ y0 = 1) ∧ (Q y0)
def pJ0_isLatin1_aae02_17 (w0 : Nat) (Q : Int32 → Prop)  : Prop := pJ0_isLatin1_aae02_18 w0 Q 0
def pJ0_isLatin1_aae02  (w0 : Nat) (Q : Int32 → Prop) : Prop := ((1 : Int32) = 0 → (pJ0_isLatin1_aae02_17 w0 Q )) ∧ (¬ (1 : Int32) = 0 → ((¬ (0 : Int32) = 0 → (pJ0_isLatin1_aae02_17 w0 Q )) ∧ ((0 : Int32) = 0 → (pJ0_isLatin1_aae02_18 w0 Q 1))))
set_option maxHeartbeats 4000000 in
set_option maxRecDepth 100000 in
theorem bJ0_isLatin1_aae02_18 {p : Program} {l : Launch} {e : Env} {s : State} {m : MethodId} {args : Array Value} {below : List Frame} {meth : Method} {c : Code} {D : va_G} {κ : Nat → ClassId} {ρ : Nat → Nat} {ν : Nat → Nat} {N : Nat → Prop}  {w0 : Nat}  {Q : Int32 → Prop} (Cc : Cx D κ RJ0 cJ0_isLatin1_aae02 1 (some .boolean) p s m args meth c) (hw0 : w0 < 11) (hT : SE ρ ν N s s.heap)  : ∀ (y0 : Int32) (ls : Array Slot) (hl : lv_has ls 1 []) (h : pJ0_isLatin1_aae02_18 w0 Q y0), W p l e rJ0_isLatin1_aae02 s m args below meth c s.heap [] 0 0 (MQ below (RQ Q) args s 0 0 (fun _ => False)) (F0 m 18 ls [.int y0]) := by
  obtain ⟨hx, hb, hml, hown, hts, hr, hlk, hE⟩ := id Cc
  intro y0 ls hl h
  unfold pJ0_isLatin1_aae02_18 at h
  exact W.zret (v := y0) (ty := .boolean) hx hb hr (bool_nar h.1) (fun t ht _ => RQ.mk h.2 ht) (fun _ h9 => by cases h9) dJ0_isLatin1_aae02_18 (hlocks := hlk)
set_option maxHeartbeats 4000000 in
set_option maxRecDepth 100000 in
theorem bJ0_isLatin1_aae02_17 {p : Program} {l : Launch} {e : Env} {s : State} {m : MethodId} {args : Array Value} {below : List Frame} {meth : Method} {c : Code} {D : va_G} {κ : Nat → ClassId} {ρ : Nat → Nat} {ν : Nat → Nat} {N : Nat → Prop}  {w0 : Nat}  {Q : Int32 → Prop} (Cc : Cx D κ RJ0 cJ0_isLatin1_aae02 1 (some .boolean) p s m args meth c) (hw0 : w0 < 11) (hT : SE ρ ν N s s.heap)  : ∀ (ls : Array Slot) (hl : lv_has ls 1 []) (h : pJ0_isLatin1_aae02_17 w0 Q ), W p l e rJ0_isLatin1_aae02 s m args below meth c s.heap [] 0 0 (MQ below (RQ Q) args s 0 0 (fun _ => False)) (F0 m 17 ls []) := by
  obtain ⟨hx, hb, hml, hown, hts, hr, hlk, hE⟩ := id Cc
  intro ls hl h
  unfold pJ0_isLatin1_aae02_17 at h
  refine lv_iconst (v := 0) hx hb dJ0_isLatin1_aae02_17 (by decide) ?_
  exact bJ0_isLatin1_aae02_18 Cc hw0 hT 0  _ (lv_sub hl [] rfl) h
set_option maxHeartbeats 4000000 in
set_option maxRecDepth 100000 in
theorem mJ0_isLatin1_aae02 (l : Launch) (D : va_G) (κ : Nat → ClassId) (ρ : Nat → Nat) (ν : Nat → Nat) (N : Nat → Prop)   {w0 : Nat} {Q : Int32 → Prop} (hw0 : w0 < 11) (h : pJ0_isLatin1_aae02  w0 Q) : Met l yJ0_isLatin1_aae02 (wz yJ0_isLatin1_aae02 cJ0_isLatin1_aae02 1 (some .boolean)) rJ0_isLatin1_aae02 (va_Pc [.ref (ρ w0)] (PS D κ ρ ν N (fun _ => True))) (RQ Q) 0 0 (fun _ => False) := by
  refine Met_ofS l (own := RJ0) (by decide) rfl (Nat.le_of_ble_eq_true rfl) (fun p e s m below meth c Cc hT hPP ls hl => ?_)
  obtain ⟨hx, hb, hml, hown, hts, hr, hlk, hE⟩ := id Cc
  have hl : lv_has ls 1 [(0, .ref (ρ w0))] := hl
  unfold pJ0_isLatin1_aae02 at h
  refine gsCompact Cc hT (tw_605 hts) dJ0_isLatin1_aae02_0 ?_
  refine lv_if_eq (tgt := 17) hx hb dJ0_isLatin1_aae02_3 (by decide) (fun c3 => ?_) (fun c3 => ?_)
  · have h := h.1 c3
    exact bJ0_isLatin1_aae02_17 Cc hw0 hT   _ (lv_sub hl [] rfl) h
  · have h := h.2 c3
    refine lv_aload_n hx hb dJ0_isLatin1_aae02_6 rfl (lv_at hl 0 rfl) ?_
    refine gStr_c Cc hT hw0 (tw_1239 hts) dJ0_isLatin1_aae02_7 ?_
    refine lv_if_ne (tgt := 17) hx hb dJ0_isLatin1_aae02_10 (by decide) (fun c10 => ?_) (fun c10 => ?_)
    · have h := h.1 c10
      exact bJ0_isLatin1_aae02_17 Cc hw0 hT   _ (lv_sub hl [] rfl) h
    · have h := h.2 c10
      refine lv_iconst (v := 1) hx hb dJ0_isLatin1_aae02_13 (by decide) ?_
      refine lv_goto (tgt := 18) hx hb dJ0_isLatin1_aae02_14 (by decide) ?_
      exact bJ0_isLatin1_aae02_18 Cc hw0 hT 1  _ (lv_sub hl [] rfl) h
theorem qJ0_isLatin1_aae02 {R : Room} {s : State} {args : Array Value} {own : String} {idx : Nat} (hts : ∀ w ∈ gG, w.before args s = true) (hl : (Cond.methodLink own idx yJ0_isLatin1_aae02).before args s = true) (hR : rJ0_isLatin1_aae02.frames + 1 ≤ R.frames ∧ 8 + (1 + 11) + rJ0_isLatin1_aae02.locals ≤ R.locals) : CallW R s args own RJ0 idx yJ0_isLatin1_aae02 cJ0_isLatin1_aae02 1 (some .boolean) (wz yJ0_isLatin1_aae02 cJ0_isLatin1_aae02 1 (some .boolean)) rJ0_isLatin1_aae02 0 0 0 := ⟨kw 0 hts mw_614 rfl rfl (tw_79 hts) hl (by decide +kernel) hR, tw_612 hts, tw_613 hts⟩
abbrev rJ1_charAt_3b067 : Room := { frames := 2, cells := 0, slots := 0, locals := 43 }
def pJ1_charAt_3b067  (w1 : Nat) (x2 : Int32) (Q : Int32 → Prop) : Prop := pJ0_checkIndex_df160 x2 (nI (slen w1)) (vp_in x2 (slen w1) ∧ (narrow .char (.int ((((sbyt w1 x2.toNatClampNeg) &&& 255).toUInt32 % 65536).toInt32)) = .int ((((sbyt w1 x2.toNatClampNeg) &&& 255).toUInt32 % 65536).toInt32) ∧ (Q ((((sbyt w1 x2.toNatClampNeg) &&& 255).toUInt32 % 65536).toInt32))))
set_option maxHeartbeats 4000000 in
set_option maxRecDepth 100000 in
theorem mJ1_charAt_3b067 (l : Launch) (D : va_G) (κ : Nat → ClassId) (ρ : Nat → Nat) (ν : Nat → Nat) (N : Nat → Prop)   {w1 : Nat} {x2 : Int32} {Q : Int32 → Prop} (hw1 : w1 < 11) (h : pJ1_charAt_3b067  w1 x2 Q) : Met l yJ1_charAt_3b067 (wz yJ1_charAt_3b067 cJ1_charAt_3b067 2 (some .char)) rJ1_charAt_3b067 (va_Pc [.ref (ν w1), .int x2] (PS D κ ρ ν N (fun _ => True))) (RQ Q) 0 0 (fun _ => False) := by
  refine Met_ofS l (own := RJ1) (by decide) rfl (Nat.le_of_ble_eq_true rfl) (fun p e s m below meth c Cc hT hPP ls hl => ?_)
  obtain ⟨hx, hb, hml, hown, hts, hr, hlk, hE⟩ := id Cc
  have hl : lv_has ls 2 [(0, .ref (ν w1)), (1, .int x2)] := hl
  unfold pJ1_charAt_3b067 at h
  refine lv_iload_n hx hb dJ1_charAt_3b067_0 rfl (lv_at hl 1 rfl) ?_
  refine lv_aload_n hx hb dJ1_charAt_3b067_1 rfl (lv_at hl 0 rfl) ?_
  refine bytLen Cc hT hw1 dJ1_charAt_3b067_2 ?_
  refine kRv (kSS Cc hT (mJ0_checkIndex_df160 l D κ ρ ν N h) (qJ0_checkIndex_df160 hts (tw_618 hts) ⟨(Nat.le_of_ble_eq_true rfl), (Nat.le_of_ble_eq_true rfl)⟩) (rest := []) trivial rfl hl.1 rfl (Nat.le_of_ble_eq_true rfl) dJ1_charAt_3b067_3 ⟨Nat.zero_le _, Nat.zero_le _⟩) (fun h => ?_)
  refine lv_aload_n hx hb dJ1_charAt_3b067_6 rfl (lv_at hl 0 rfl) ?_
  refine lv_iload_n hx hb dJ1_charAt_3b067_7 rfl (lv_at hl 1 rfl) ?_
  refine bytGet Cc hT hw1 h.1 dJ1_charAt_3b067_8 ?_
  have h := h.2
  refine lv_sipush (v := 255) hx hb dJ1_charAt_3b067_9 (by decide) ?_
  refine lv_iand hx hb dJ1_charAt_3b067_12 ?_
  refine lv_i2c (v := (((sbyt w1 x2.toNatClampNeg) &&& 255).toUInt32 % 65536).toInt32) hx hb dJ1_charAt_3b067_13 rfl ?_
  exact W.zret (v := (((sbyt w1 x2.toNatClampNeg) &&& 255).toUInt32 % 65536).toInt32) (ty := .char) hx hb hr h.1 (fun t ht _ => RQ.mk h.2 ht) (fun _ h9 => by cases h9) dJ1_charAt_3b067_14 (hlocks := hlk)
theorem qJ1_charAt_3b067 {R : Room} {s : State} {args : Array Value} {own : String} {idx : Nat} (hts : ∀ w ∈ gG, w.before args s = true) (hl : (Cond.methodLink own idx yJ1_charAt_3b067).before args s = true) (hR : rJ1_charAt_3b067.frames + 1 ≤ R.frames ∧ 8 + (2 + 11) + rJ1_charAt_3b067.locals ≤ R.locals) : CallB R s args own idx yJ1_charAt_3b067 cJ1_charAt_3b067 2 (some .char) (wz yJ1_charAt_3b067 cJ1_charAt_3b067 2 (some .char)) rJ1_charAt_3b067 0 0 2 ∧ (Cond.static yJ1_charAt_3b067).before args s = true := ⟨kw 2 hts mw_617 rfl rfl (tw_80 hts) hl (by decide +kernel) hR, tw_616 hts⟩
abbrev rJ0_charAt_5068e : Room := { frames := 3, cells := 0, slots := 0, locals := 64 }
def pJ0_charAt_5068e  (w0 : Nat) (x1 : Int32) (Q : Int32 → Prop) : Prop := pJ0_isLatin1_aae02 w0 (fun r1 => ((r1 = 0 → False) ∧ (¬ r1 = 0 → (pJ1_charAt_3b067 w0 x1 (fun r12 => (narrow .char (.int r12) = .int r12 ∧ (Q r12)))))))
set_option maxHeartbeats 4000000 in
set_option maxRecDepth 100000 in
theorem mJ0_charAt_5068e (l : Launch) (D : va_G) (κ : Nat → ClassId) (ρ : Nat → Nat) (ν : Nat → Nat) (N : Nat → Prop)   {w0 : Nat} {x1 : Int32} {Q : Int32 → Prop} (hw0 : w0 < 11) (h : pJ0_charAt_5068e  w0 x1 Q) : Met l yJ0_charAt_5068e (wz yJ0_charAt_5068e cJ0_charAt_5068e 2 (some .char)) rJ0_charAt_5068e (va_Pc [.ref (ρ w0), .int x1] (PS D κ ρ ν N (fun _ => True))) (RQ Q) 0 0 (fun _ => False) := by
  refine Met_ofS l (own := RJ0) (by decide) rfl (Nat.le_of_ble_eq_true rfl) (fun p e s m below meth c Cc hT hPP ls hl => ?_)
  obtain ⟨hx, hb, hml, hown, hts, hr, hlk, hE⟩ := id Cc
  have hl : lv_has ls 2 [(0, .ref (ρ w0)), (1, .int x1)] := hl
  unfold pJ0_charAt_5068e at h
  refine lv_aload_n hx hb dJ0_charAt_5068e_0 rfl (lv_at hl 0 rfl) ?_
  refine kR (kVS Cc hT (mJ0_isLatin1_aae02 l D κ ρ ν N hw0 h) (qJ0_isLatin1_aae02 hts (tw_611 hts) ⟨(Nat.le_of_ble_eq_true rfl), (Nat.le_of_ble_eq_true rfl)⟩) (hT.recv hw0) (rest := []) trivial rfl hl.1 rfl (Nat.le_of_ble_eq_true rfl) dJ0_charAt_5068e_1 ⟨Nat.zero_le _, Nat.zero_le _⟩) (fun r1 h => ?_)
  refine lv_if_eq (tgt := 16) hx hb dJ0_charAt_5068e_4 (by decide) (fun c4 => ?_) (fun c4 => ?_)
  · have h := h.1 c4
    exact h.elim
  · have h := h.2 c4
    refine lv_aload_n hx hb dJ0_charAt_5068e_7 rfl (lv_at hl 0 rfl) ?_
    refine gStr_v Cc hT hw0 (tw_1238 hts) dJ0_charAt_5068e_8 ?_
    refine lv_iload_n hx hb dJ0_charAt_5068e_11 rfl (lv_at hl 1 rfl) ?_
    refine kR (kSS Cc hT (mJ1_charAt_3b067 l D κ ρ ν N hw0 h) (qJ1_charAt_3b067 hts (tw_615 hts) ⟨(Nat.le_of_ble_eq_true rfl), (Nat.le_of_ble_eq_true rfl)⟩) (rest := []) trivial rfl hl.1 rfl (Nat.le_of_ble_eq_true rfl) dJ0_charAt_5068e_12 ⟨Nat.zero_le _, Nat.zero_le _⟩) (fun r12 h => ?_)
    exact W.zret (v := r12) (ty := .char) hx hb hr h.1 (fun t ht _ => RQ.mk h.2 ht) (fun _ h9 => by cases h9) dJ0_charAt_5068e_15 (hlocks := hlk)
theorem qJ0_charAt_5068e {R : Room} {s : State} {args : Array Value} {own : String} {idx : Nat} (hts : ∀ w ∈ gG, w.before args s = true) (hl : (Cond.methodLink own idx yJ0_charAt_5068e).before args s = true) (hR : rJ0_charAt_5068e.frames + 1 ≤ R.frames ∧ 8 + (2 + 11) + rJ0_charAt_5068e.locals ≤ R.locals) : CallW R s args own RJ0 idx yJ0_charAt_5068e cJ0_charAt_5068e 2 (some .char) (wz yJ0_charAt_5068e cJ0_charAt_5068e 2 (some .char)) rJ0_charAt_5068e 0 0 1 := ⟨kw 1 hts mw_610 rfl rfl (tw_79 hts) hl (by decide +kernel) hR, tw_608 hts, tw_609 hts⟩
