abbrev rX5_isWord : Room := { frames := 4, cells := 0, slots := 0, locals := 85 }
def pX5_isWord_68 (w1 : Nat) (σ : Mx) (ih32 : Int32 → Int32 → Prop) (Q : Int32 → Prop) (x3 : Int32) (y0 : Int32) : Prop := ih32 y0 (x3 + 1)
def pX5_isWord_75 (w1 : Nat) (σ : Mx) (Q : Int32 → Prop) (x2 : Int32) : Prop := (x2 = 0 ∨ x2 = 1) ∧ (Q x2)
def pX5_isWord_32s (w1 : Nat) (σ : Mx) (ih32 : Int32 → Int32 → Prop) (Q : Int32 → Prop) (x2 : Int32) (x3 : Int32) : Prop := pJ0_length_8abf5 w1 (fun r34 => ((r34 ≤ x3 → (pX5_isWord_75 w1 σ Q x2)) ∧ (¬ r34 ≤ x3 → ((x2 = 0 → (pX5_isWord_75 w1 σ Q x2)) ∧ (¬ x2 = 0 → (vp_in ((σ 8 0) + x3) 120 ∧ (pJ0_charAt_5068e w1 x3 (fun r57 => ((¬ (σ 6 ((σ 8 0) + x3).toNatClampNeg) = r57 → (pX5_isWord_68 w1 σ ih32 Q x3 0)) ∧ ((σ 6 ((σ 8 0) + x3).toNatClampNeg) = r57 → (pX5_isWord_68 w1 σ ih32 Q x3 1)))))))))))
noncomputable def pX5_isWord_32 (w1 : Nat) (σ : Mx) (Q : Int32 → Prop) (n : Nat) : Int32 → Int32 → Prop := Nat.rec (motive := fun _ => Int32 → Int32 → Prop) (fun _ _ => False) (fun _ ih => pX5_isWord_32s w1 σ ih Q) n
def pX5_isWord_29 (w1 : Nat) (σ : Mx) (Q : Int32 → Prop) (y0 : Int32) : Prop := ∃ n, pX5_isWord_32 w1 σ Q n y0 0
def pX5_isWord_28 (w1 : Nat) (σ : Mx) (Q : Int32 → Prop)  : Prop := pX5_isWord_29 w1 σ Q 0
def pX5_isWord (σ : Mx) (w1 : Nat) (Q : Int32 → Prop) : Prop := (¬ (σ 10 0) = 1 → (pX5_isWord_28 w1 σ Q )) ∧ ((σ 10 0) = 1 → (pJ0_length_8abf5 w1 (fun r18 => ((¬ ((σ 9 0) - (σ 8 0)) = r18 → (pX5_isWord_28 w1 σ Q )) ∧ (((σ 9 0) - (σ 8 0)) = r18 → (pX5_isWord_29 w1 σ Q 1))))))
set_option maxHeartbeats 4000000 in
set_option maxRecDepth 100000 in
theorem bX5_isWord_68 {p : Program} {l : Launch} {e : Env} {s : State} {m : MethodId} {args : Array Value} {below : List Frame} {meth : Method} {c : Code} {D : va_G} {κ : Nat → ClassId} {ρ : Nat → Nat} {ν : Nat → Nat} {N : Nat → Prop} {a : Nat → Nat} {w1 : Nat} {σ : Mx} {ih32 : Int32 → Int32 → Prop} {Q : Int32 → Prop} (Cc : Cx D κ RX5 cX5_isWord 4 (some .boolean) p s m args meth c) (hw1 : w1 < 11) (hPt : va_P D classes (wMo κ ρ a σ) s.heap) (hT : SE ρ ν N s s.heap) (hih32 : ∀ (x2 : Int32) (x3 : Int32) (ls : Array Slot) (hl : lv_has ls 4 [(0, .ref (a 0)), (1, .ref (ρ w1)), (2, .int x2), (3, .int x3)]) (h : ih32 x2 x3), W p l e rX5_isWord s m args below meth c s.heap [] 0 0 (MQ below (RQ Q) args s 0 0 (fun _ => False)) (F0 m 32 ls [])) : ∀ (x3 : Int32) (y0 : Int32) (ls : Array Slot) (hl : lv_has ls 4 [(0, .ref (a 0)), (1, .ref (ρ w1)), (3, .int x3)]) (h : pX5_isWord_68 w1 σ ih32 Q x3 y0), W p l e rX5_isWord s m args below meth c s.heap [] 0 0 (MQ below (RQ Q) args s 0 0 (fun _ => False)) (F0 m 68 ls [.int y0]) := by
  obtain ⟨hx, hb, hml, hown, hts, hr, hlk, hE⟩ := id Cc
  intro x3 y0 ls hl h
  unfold pX5_isWord_68 at h
  refine lv_istore_n (lv' := [(2, .int y0), (0, .ref (a 0)), (1, .ref (ρ w1)), (3, .int x3)]) hx hb dX5_isWord_68 rfl hl (by decide) rfl (fun ls hl => ?_)
  refine lv_iinc (v := (x3 + 1)) (lv' := [(3, .int (x3 + 1)), (2, .int y0), (0, .ref (a 0)), (1, .ref (ρ w1))]) hx hb dX5_isWord_69 hl (k := 3) rfl rfl (by decide) rfl (fun ls hl => ?_)
  refine lv_goto (tgt := 32) hx hb dX5_isWord_72 (by decide) ?_
  exact hih32 y0 (x3 + 1)  _ (lv_sub hl [2, 3, 1, 0] rfl) h
set_option maxHeartbeats 4000000 in
set_option maxRecDepth 100000 in
theorem bX5_isWord_75 {p : Program} {l : Launch} {e : Env} {s : State} {m : MethodId} {args : Array Value} {below : List Frame} {meth : Method} {c : Code} {D : va_G} {κ : Nat → ClassId} {ρ : Nat → Nat} {ν : Nat → Nat} {N : Nat → Prop} {a : Nat → Nat} {w1 : Nat} {σ : Mx}  {Q : Int32 → Prop} (Cc : Cx D κ RX5 cX5_isWord 4 (some .boolean) p s m args meth c) (hw1 : w1 < 11) (hPt : va_P D classes (wMo κ ρ a σ) s.heap) (hT : SE ρ ν N s s.heap)  : ∀ (x2 : Int32) (ls : Array Slot) (hl : lv_has ls 4 [(2, .int x2)]) (h : pX5_isWord_75 w1 σ Q x2), W p l e rX5_isWord s m args below meth c s.heap [] 0 0 (MQ below (RQ Q) args s 0 0 (fun _ => False)) (F0 m 75 ls []) := by
  obtain ⟨hx, hb, hml, hown, hts, hr, hlk, hE⟩ := id Cc
  intro x2 ls hl h
  unfold pX5_isWord_75 at h
  refine lv_iload_n hx hb dX5_isWord_75 rfl (lv_at hl 0 rfl) ?_
  exact W.zret (v := x2) (ty := .boolean) hx hb hr (bool_nar h.1) (fun t ht _ => RQ.mk h.2 ht) (fun _ h9 => by cases h9) dX5_isWord_76 (hlocks := hlk)
set_option maxHeartbeats 4000000 in
set_option maxRecDepth 100000 in
theorem bX5_isWord_32 {p : Program} {l : Launch} {e : Env} {s : State} {m : MethodId} {args : Array Value} {below : List Frame} {meth : Method} {c : Code} {D : va_G} {κ : Nat → ClassId} {ρ : Nat → Nat} {ν : Nat → Nat} {N : Nat → Prop} {a : Nat → Nat} {w1 : Nat} {σ : Mx}  {Q : Int32 → Prop} (Cc : Cx D κ RX5 cX5_isWord 4 (some .boolean) p s m args meth c) (hw1 : w1 < 11) (hPt : va_P D classes (wMo κ ρ a σ) s.heap) (hT : SE ρ ν N s s.heap)  (n : Nat) : ∀ (x2 : Int32) (x3 : Int32) (ls : Array Slot) (hl : lv_has ls 4 [(0, .ref (a 0)), (1, .ref (ρ w1)), (2, .int x2), (3, .int x3)]) (h : pX5_isWord_32 w1 σ Q n x2 x3), W p l e rX5_isWord s m args below meth c s.heap [] 0 0 (MQ below (RQ Q) args s 0 0 (fun _ => False)) (F0 m 32 ls []) := by
  obtain ⟨hx, hb, hml, hown, hts, hr, hlk, hE⟩ := id Cc
  induction n with
  | zero =>
    intro x2 x3 ls hl h
    exact absurd h (fun z => z)
  | succ n hih32 =>
    intro x2 x3 ls hl h
    have h : pX5_isWord_32s w1 σ (pX5_isWord_32 w1 σ Q n) Q x2 x3 := h
    unfold pX5_isWord_32s at h
    refine lv_iload_n hx hb dX5_isWord_32 rfl (lv_at hl 3 rfl) ?_
    refine lv_aload_n hx hb dX5_isWord_33 rfl (lv_at hl 1 rfl) ?_
    refine kR (kVS Cc hT (mJ0_length_8abf5 l D κ ρ ν N hw1 h) (qJ0_length_8abf5 hts (tw_1146 hts) ⟨(Nat.le_of_ble_eq_true rfl), (Nat.le_of_ble_eq_true rfl)⟩) (hT.recv hw1) (rest := [.int x3]) trivial rfl hl.1 rfl (Nat.le_of_ble_eq_true rfl) dX5_isWord_34 ⟨Nat.zero_le _, Nat.zero_le _⟩) (fun r34 h => ?_)
    refine lv_icmp_ge (tgt := 75) hx hb dX5_isWord_37 (by decide) (fun c37 => ?_) (fun c37 => ?_)
    · have h := h.1 c37
      exact bX5_isWord_75 Cc hw1 hPt hT x2  _ (lv_sub hl [2] rfl) h
    · have h := h.2 c37
      refine lv_iload_n hx hb dX5_isWord_40 rfl (lv_at hl 2 rfl) ?_
      refine lv_if_eq (tgt := 75) hx hb dX5_isWord_41 (by decide) (fun c41 => ?_) (fun c41 => ?_)
      · have h := h.1 c41
        exact bX5_isWord_75 Cc hw1 hPt hT x2  _ (lv_sub hl [2] rfl) h
      · have h := h.2 c41
        refine lv_aload_n hx hb dX5_isWord_44 rfl (lv_at hl 0 rfl) ?_
        refine gMo_6 Cc hPt (tw_767 hts) dX5_isWord_45 ?_
        refine lv_aload_n hx hb dX5_isWord_48 rfl (lv_at hl 0 rfl) ?_
        refine gMo_8 Cc hPt (tw_769 hts) dX5_isWord_49 ?_
        refine lv_iload_n hx hb dX5_isWord_52 rfl (lv_at hl 3 rfl) ?_
        refine lv_iadd hx hb dX5_isWord_53 ?_
        refine lMo_6 Cc hPt h.1 dX5_isWord_54 ?_
        have h := h.2
        refine lv_aload_n hx hb dX5_isWord_55 rfl (lv_at hl 1 rfl) ?_
        refine lv_iload_n hx hb dX5_isWord_56 rfl (lv_at hl 3 rfl) ?_
        refine kR (kVS Cc hT (mJ0_charAt_5068e l D κ ρ ν N hw1 h) (qJ0_charAt_5068e hts (tw_1147 hts) ⟨(Nat.le_of_ble_eq_true rfl), (Nat.le_of_ble_eq_true rfl)⟩) (hT.recv hw1) (rest := [.int (σ 6 ((σ 8 0) + x3).toNatClampNeg)]) trivial rfl hl.1 rfl (Nat.le_of_ble_eq_true rfl) dX5_isWord_57 ⟨Nat.zero_le _, Nat.zero_le _⟩) (fun r57 h => ?_)
        refine lv_icmp_ne (tgt := 67) hx hb dX5_isWord_60 (by decide) (fun c60 => ?_) (fun c60 => ?_)
        · have h := h.1 c60
          refine lv_iconst (v := 0) hx hb dX5_isWord_67 (by decide) ?_
          exact bX5_isWord_68 Cc hw1 hPt hT hih32 x3 0  _ (lv_sub hl [0, 1, 3] rfl) h
        · have h := h.2 c60
          refine lv_iconst (v := 1) hx hb dX5_isWord_63 (by decide) ?_
          refine lv_goto (tgt := 68) hx hb dX5_isWord_64 (by decide) ?_
          exact bX5_isWord_68 Cc hw1 hPt hT hih32 x3 1  _ (lv_sub hl [0, 1, 3] rfl) h
set_option maxHeartbeats 4000000 in
set_option maxRecDepth 100000 in
theorem bX5_isWord_29 {p : Program} {l : Launch} {e : Env} {s : State} {m : MethodId} {args : Array Value} {below : List Frame} {meth : Method} {c : Code} {D : va_G} {κ : Nat → ClassId} {ρ : Nat → Nat} {ν : Nat → Nat} {N : Nat → Prop} {a : Nat → Nat} {w1 : Nat} {σ : Mx}  {Q : Int32 → Prop} (Cc : Cx D κ RX5 cX5_isWord 4 (some .boolean) p s m args meth c) (hw1 : w1 < 11) (hPt : va_P D classes (wMo κ ρ a σ) s.heap) (hT : SE ρ ν N s s.heap)  : ∀ (y0 : Int32) (ls : Array Slot) (hl : lv_has ls 4 [(0, .ref (a 0)), (1, .ref (ρ w1))]) (h : pX5_isWord_29 w1 σ Q y0), W p l e rX5_isWord s m args below meth c s.heap [] 0 0 (MQ below (RQ Q) args s 0 0 (fun _ => False)) (F0 m 29 ls [.int y0]) := by
  obtain ⟨hx, hb, hml, hown, hts, hr, hlk, hE⟩ := id Cc
  intro y0 ls hl h
  unfold pX5_isWord_29 at h
  refine lv_istore_n (lv' := [(2, .int y0), (0, .ref (a 0)), (1, .ref (ρ w1))]) hx hb dX5_isWord_29 rfl hl (by decide) rfl (fun ls hl => ?_)
  refine lv_iconst (v := 0) hx hb dX5_isWord_30 (by decide) ?_
  refine lv_istore_n (lv' := [(3, .int 0), (2, .int y0), (0, .ref (a 0)), (1, .ref (ρ w1))]) hx hb dX5_isWord_31 rfl hl (by decide) rfl (fun ls hl => ?_)
  obtain ⟨n, h⟩ := h
  exact bX5_isWord_32 Cc hw1 hPt hT n y0 0  _ (lv_sub hl [2, 3, 1, 0] rfl) h
set_option maxHeartbeats 4000000 in
set_option maxRecDepth 100000 in
theorem bX5_isWord_28 {p : Program} {l : Launch} {e : Env} {s : State} {m : MethodId} {args : Array Value} {below : List Frame} {meth : Method} {c : Code} {D : va_G} {κ : Nat → ClassId} {ρ : Nat → Nat} {ν : Nat → Nat} {N : Nat → Prop} {a : Nat → Nat} {w1 : Nat} {σ : Mx}  {Q : Int32 → Prop} (Cc : Cx D κ RX5 cX5_isWord 4 (some .boolean) p s m args meth c) (hw1 : w1 < 11) (hPt : va_P D classes (wMo κ ρ a σ) s.heap) (hT : SE ρ ν N s s.heap)  : ∀ (ls : Array Slot) (hl : lv_has ls 4 [(0, .ref (a 0)), (1, .ref (ρ w1))]) (h : pX5_isWord_28 w1 σ Q ), W p l e rX5_isWord s m args below meth c s.heap [] 0 0 (MQ below (RQ Q) args s 0 0 (fun _ => False)) (F0 m 28 ls []) := by
  obtain ⟨hx, hb, hml, hown, hts, hr, hlk, hE⟩ := id Cc
  intro ls hl h
  unfold pX5_isWord_28 at h
  refine lv_iconst (v := 0) hx hb dX5_isWord_28 (by decide) ?_
  exact bX5_isWord_29 Cc hw1 hPt hT 0  _ (lv_sub hl [0, 1] rfl) h
set_option maxHeartbeats 4000000 in
set_option maxRecDepth 100000 in
theorem mX5_isWord (l : Launch) (D : va_G) (κ : Nat → ClassId) (ρ : Nat → Nat) (ν : Nat → Nat) (N : Nat → Prop) (a : Nat → Nat) {σ : Mx} {w1 : Nat} {Q : Int32 → Prop} (hw1 : w1 < 11) (h : pX5_isWord σ w1 Q) : Met l yX5_isWord (wz yX5_isWord cX5_isWord 4 (some .boolean)) rX5_isWord (va_Pc [.ref (a 0), .ref (ρ w1)] (PS D κ ρ ν N (fun H => va_P D classes (wMo κ ρ a σ) H))) (RQ Q) 0 0 (fun _ => False) := by
  refine Met_ofS l (own := RX5) (by decide) rfl (Nat.le_of_ble_eq_true rfl) (fun p e s m below meth c Cc hT hPP ls hl => ?_)
  obtain ⟨hx, hb, hml, hown, hts, hr, hlk, hE⟩ := id Cc
  have hl : lv_has ls 4 [(0, .ref (a 0)), (1, .ref (ρ w1))] := hl
  have hPt := hPP
  unfold pX5_isWord at h
  refine lv_aload_n hx hb dX5_isWord_0 rfl (lv_at hl 0 rfl) ?_
  refine gMo_10 Cc hPt (tw_771 hts) dX5_isWord_1 ?_
  refine lv_iconst (v := 1) hx hb dX5_isWord_4 (by decide) ?_
  refine lv_icmp_ne (tgt := 28) hx hb dX5_isWord_5 (by decide) (fun c5 => ?_) (fun c5 => ?_)
  · have h := h.1 c5
    exact bX5_isWord_28 Cc hw1 hPt hT   _ (lv_sub hl [0, 1] rfl) h
  · have h := h.2 c5
    refine lv_aload_n hx hb dX5_isWord_8 rfl (lv_at hl 0 rfl) ?_
    refine gMo_9 Cc hPt (tw_770 hts) dX5_isWord_9 ?_
    refine lv_aload_n hx hb dX5_isWord_12 rfl (lv_at hl 0 rfl) ?_
    refine gMo_8 Cc hPt (tw_769 hts) dX5_isWord_13 ?_
    refine lv_isub hx hb dX5_isWord_16 ?_
    refine lv_aload_n hx hb dX5_isWord_17 rfl (lv_at hl 1 rfl) ?_
    refine kR (kVS Cc hT (mJ0_length_8abf5 l D κ ρ ν N hw1 h) (qJ0_length_8abf5 hts (tw_1146 hts) ⟨(Nat.le_of_ble_eq_true rfl), (Nat.le_of_ble_eq_true rfl)⟩) (hT.recv hw1) (rest := [.int ((σ 9 0) - (σ 8 0))]) trivial rfl hl.1 rfl (Nat.le_of_ble_eq_true rfl) dX5_isWord_18 ⟨Nat.zero_le _, Nat.zero_le _⟩) (fun r18 h => ?_)
    refine lv_icmp_ne (tgt := 28) hx hb dX5_isWord_21 (by decide) (fun c21 => ?_) (fun c21 => ?_)
    · have h := h.1 c21
      exact bX5_isWord_28 Cc hw1 hPt hT   _ (lv_sub hl [0, 1] rfl) h
    · have h := h.2 c21
      refine lv_iconst (v := 1) hx hb dX5_isWord_24 (by decide) ?_
      refine lv_goto (tgt := 29) hx hb dX5_isWord_25 (by decide) ?_
      exact bX5_isWord_29 Cc hw1 hPt hT 1  _ (lv_sub hl [0, 1] rfl) h
theorem qX5_isWord {R : Room} {s : State} {args : Array Value} {own : String} {idx : Nat} (hts : ∀ w ∈ gG, w.before args s = true) (hl : (Cond.methodLink own idx yX5_isWord).before args s = true) (hR : rX5_isWord.frames + 1 ≤ R.frames ∧ 8 + (4 + 11) + rX5_isWord.locals ≤ R.locals) : CallW R s args own RX5 idx yX5_isWord cX5_isWord 4 (some .boolean) (wz yX5_isWord cX5_isWord 4 (some .boolean)) rX5_isWord 0 0 1 := ⟨kw 1 hts mw_1145 rfl rfl (tw_75 hts) hl (by decide +kernel) hR, tw_1144 hts, tw_62 hts⟩
abbrev rX5_takesWord : Room := { frames := 5, cells := 0, slots := 0, locals := 108 }
def pX5_takesWord_30 (w1 : Nat) (Q : Int32 → Mx → Prop) (x2 : Int32) (σ : Mx) : Prop := (x2 = 0 ∨ x2 = 1) ∧ (Q x2 σ)
def pX5_takesWord_20 (w1 : Nat) (Q : Int32 → Mx → Prop) (y0 : Int32) (σ : Mx) : Prop := (y0 = 0 → (pX5_takesWord_30 w1 Q y0 σ)) ∧ (¬ y0 = 0 → (pX5_must σ 1 (fun u27 => (pX5_takesWord_30 w1 Q y0 u27))))
def pX5_takesWord_19 (w1 : Nat) (Q : Int32 → Mx → Prop) (σ : Mx) : Prop := pX5_takesWord_20 w1 Q 0 σ
def pX5_takesWord (σ : Mx) (w1 : Nat) (Q : Int32 → Mx → Prop) : Prop := (¬ (σ 12 0) = 0 → (pX5_takesWord_19 w1 Q σ)) ∧ ((σ 12 0) = 0 → (pX5_isWord σ w1 (fun r9 => ((r9 = 0 → (pX5_takesWord_19 w1 Q σ)) ∧ (¬ r9 = 0 → (pX5_takesWord_20 w1 Q 1 σ))))))
set_option maxHeartbeats 4000000 in
set_option maxRecDepth 100000 in
theorem bX5_takesWord_30 {p : Program} {l : Launch} {e : Env} {s : State} {m : MethodId} {args : Array Value} {below : List Frame} {meth : Method} {c : Code} {D : va_G} {κ : Nat → ClassId} {ρ : Nat → Nat} {ν : Nat → Nat} {N : Nat → Prop} {a : Nat → Nat} {w1 : Nat}  {Q : Int32 → Mx → Prop} (Cc : Cx D κ RX5 cX5_takesWord 3 (some .boolean) p s m args meth c) (hw1 : w1 < 11) (hF : ∀ q, (cA a 13) q → N q) (hIt : Ij a 13)   : ∀ (x2 : Int32) (σ : Mx) (H : Heap) (locs : List Loc) (hPt : va_P D classes (wMo κ ρ a σ) H) (hT : SE ρ ν N s H) (hS : va_S (cA a 13) s.heap H locs) (ls : Array Slot) (hl : lv_has ls 3 [(2, .int x2)]) (h : pX5_takesWord_30 w1 Q x2 σ), W p l e rX5_takesWord s m args below meth c H locs 0 0 (MQ below (QWi Q (fun u H => va_P D classes (wMo κ ρ a u) H) (cA a 13)) args s 0 0 (cA a 13)) (F0 m 30 ls []) := by
  obtain ⟨hx, hb, hml, hown, hts, hr, hlk, hE⟩ := id Cc
  intro x2 σ H locs hPt hT hS ls hl h
  unfold pX5_takesWord_30 at h
  refine lv_iload_n hx hb dX5_takesWord_30 rfl (lv_at hl 0 rfl) ?_
  exact W.zret (v := x2) (ty := .boolean) hx hb hr (bool_nar h.1) (fun t ht _ => QWi.mk (u := σ) h.2 hPt hS ht) hS.2.2 dX5_takesWord_31 (hlocks := hlk)
set_option maxHeartbeats 4000000 in
set_option maxRecDepth 100000 in
theorem bX5_takesWord_20 {p : Program} {l : Launch} {e : Env} {s : State} {m : MethodId} {args : Array Value} {below : List Frame} {meth : Method} {c : Code} {D : va_G} {κ : Nat → ClassId} {ρ : Nat → Nat} {ν : Nat → Nat} {N : Nat → Prop} {a : Nat → Nat} {w1 : Nat}  {Q : Int32 → Mx → Prop} (Cc : Cx D κ RX5 cX5_takesWord 3 (some .boolean) p s m args meth c) (hw1 : w1 < 11) (hF : ∀ q, (cA a 13) q → N q) (hIt : Ij a 13)   : ∀ (y0 : Int32) (σ : Mx) (H : Heap) (locs : List Loc) (hPt : va_P D classes (wMo κ ρ a σ) H) (hT : SE ρ ν N s H) (hS : va_S (cA a 13) s.heap H locs) (ls : Array Slot) (hl : lv_has ls 3 [(0, .ref (a 0))]) (h : pX5_takesWord_20 w1 Q y0 σ), W p l e rX5_takesWord s m args below meth c H locs 0 0 (MQ below (QWi Q (fun u H => va_P D classes (wMo κ ρ a u) H) (cA a 13)) args s 0 0 (cA a 13)) (F0 m 20 ls [.int y0]) := by
  obtain ⟨hx, hb, hml, hown, hts, hr, hlk, hE⟩ := id Cc
  intro y0 σ H locs hPt hT hS ls hl h
  unfold pX5_takesWord_20 at h
  refine lv_istore_n (lv' := [(2, .int y0), (0, .ref (a 0))]) hx hb dX5_takesWord_20 rfl hl (by decide) rfl (fun ls hl => ?_)
  refine lv_iload_n hx hb dX5_takesWord_21 rfl (lv_at hl 0 rfl) ?_
  refine lv_if_eq (tgt := 30) hx hb dX5_takesWord_22 (by decide) (fun c22 => ?_) (fun c22 => ?_)
  · have h := h.1 c22
    exact bX5_takesWord_30 Cc hw1 hF hIt y0 σ _ _ hPt hT hS _ (lv_sub hl [0] rfl) h
  · have h := h.2 c22
    refine lv_aload_n hx hb dX5_takesWord_25 rfl (lv_at hl 1 rfl) ?_
    refine lv_iconst (v := 1) hx hb dX5_takesWord_26 (by decide) ?_
    refine kWv (kV Cc (mX5_must l D κ ρ a hIt h) (qX5_must hts (tw_1152 hts) ⟨(Nat.le_of_ble_eq_true rfl), (Nat.le_of_ble_eq_true rfl)⟩) (va_recv hE.1 hPt (ci := 5) (q0 := 0) rfl rfl) (rest := []) hPt rfl hl.1 rfl (Nat.le_of_ble_eq_true rfl) dX5_takesWord_27 ⟨Nat.zero_le _, Nat.zero_le _⟩) hS (fun q h9 => h9) (fun  u27 H1 locs1 h hB hk hS1 => ?_)
    have hPt := hB
    have hT := hT.kF (fun q h9 => hF q (h9)) hk
    have hS := hS1
    exact bX5_takesWord_30 Cc hw1 hF hIt y0 u27 _ _ hPt hT hS _ (lv_sub hl [0] rfl) h
set_option maxHeartbeats 4000000 in
set_option maxRecDepth 100000 in
theorem bX5_takesWord_19 {p : Program} {l : Launch} {e : Env} {s : State} {m : MethodId} {args : Array Value} {below : List Frame} {meth : Method} {c : Code} {D : va_G} {κ : Nat → ClassId} {ρ : Nat → Nat} {ν : Nat → Nat} {N : Nat → Prop} {a : Nat → Nat} {w1 : Nat}  {Q : Int32 → Mx → Prop} (Cc : Cx D κ RX5 cX5_takesWord 3 (some .boolean) p s m args meth c) (hw1 : w1 < 11) (hF : ∀ q, (cA a 13) q → N q) (hIt : Ij a 13)   : ∀ (σ : Mx) (H : Heap) (locs : List Loc) (hPt : va_P D classes (wMo κ ρ a σ) H) (hT : SE ρ ν N s H) (hS : va_S (cA a 13) s.heap H locs) (ls : Array Slot) (hl : lv_has ls 3 [(0, .ref (a 0))]) (h : pX5_takesWord_19 w1 Q σ), W p l e rX5_takesWord s m args below meth c H locs 0 0 (MQ below (QWi Q (fun u H => va_P D classes (wMo κ ρ a u) H) (cA a 13)) args s 0 0 (cA a 13)) (F0 m 19 ls []) := by
  obtain ⟨hx, hb, hml, hown, hts, hr, hlk, hE⟩ := id Cc
  intro σ H locs hPt hT hS ls hl h
  unfold pX5_takesWord_19 at h
  refine lv_iconst (v := 0) hx hb dX5_takesWord_19 (by decide) ?_
  exact bX5_takesWord_20 Cc hw1 hF hIt 0 σ _ _ hPt hT hS _ (lv_sub hl [0] rfl) h
set_option maxHeartbeats 4000000 in
set_option maxRecDepth 100000 in
theorem mX5_takesWord (l : Launch) (D : va_G) (κ : Nat → ClassId) (ρ : Nat → Nat) (ν : Nat → Nat) (N : Nat → Prop) (a : Nat → Nat) {σ : Mx} {w1 : Nat} {Q : Int32 → Mx → Prop} (hw1 : w1 < 11) (hF : ∀ q, (cA a 13) q → N q) (hIt : Ij a 13) (h : pX5_takesWord σ w1 Q) : Met l yX5_takesWord (wz yX5_takesWord cX5_takesWord 3 (some .boolean)) rX5_takesWord (va_Pc [.ref (a 0), .ref (ρ w1)] (PS D κ ρ ν N (fun H => va_P D classes (wMo κ ρ a σ) H))) (QWi Q (fun u H => va_P D classes (wMo κ ρ a u) H) (cA a 13)) 0 0 (cA a 13) := by
  refine Met_ofS l (own := RX5) (by decide) rfl (Nat.le_of_ble_eq_true rfl) (fun p e s m below meth c Cc hT hPP ls hl => ?_)
  obtain ⟨hx, hb, hml, hown, hts, hr, hlk, hE⟩ := id Cc
  have hl : lv_has ls 3 [(0, .ref (a 0)), (1, .ref (ρ w1))] := hl
  have hPt := hPP
  have hS : va_S (cA a 13) s.heap s.heap [] := va_S.rf
  unfold pX5_takesWord at h
  refine lv_aload_n hx hb dX5_takesWord_0 rfl (lv_at hl 0 rfl) ?_
  refine gMo_12 Cc hPt (tw_773 hts) dX5_takesWord_1 ?_
  refine lv_if_ne (tgt := 19) hx hb dX5_takesWord_4 (by decide) (fun c4 => ?_) (fun c4 => ?_)
  · have h := h.1 c4
    exact bX5_takesWord_19 Cc hw1 hF hIt σ _ _ hPt hT hS _ (lv_sub hl [0] rfl) h
  · have h := h.2 c4
    refine lv_aload_n hx hb dX5_takesWord_7 rfl (lv_at hl 0 rfl) ?_
    refine lv_aload_n hx hb dX5_takesWord_8 rfl (lv_at hl 1 rfl) ?_
    refine kR (kVS Cc hT (mX5_isWord l D κ ρ ν N a hw1 h) (qX5_isWord hts (tw_1142 hts) ⟨(Nat.le_of_ble_eq_true rfl), (Nat.le_of_ble_eq_true rfl)⟩) (va_recv hE.1 hPt (ci := 5) (q0 := 0) rfl rfl) (rest := []) hPt rfl hl.1 rfl (Nat.le_of_ble_eq_true rfl) dX5_takesWord_9 ⟨Nat.zero_le _, Nat.zero_le _⟩) (fun r9 h => ?_)
    refine lv_if_eq (tgt := 19) hx hb dX5_takesWord_12 (by decide) (fun c12 => ?_) (fun c12 => ?_)
    · have h := h.1 c12
      exact bX5_takesWord_19 Cc hw1 hF hIt σ _ _ hPt hT hS _ (lv_sub hl [0] rfl) h
    · have h := h.2 c12
      refine lv_iconst (v := 1) hx hb dX5_takesWord_15 (by decide) ?_
      refine lv_goto (tgt := 20) hx hb dX5_takesWord_16 (by decide) ?_
      exact bX5_takesWord_20 Cc hw1 hF hIt 1 σ _ _ hPt hT hS _ (lv_sub hl [0] rfl) h
theorem qX5_takesWord {R : Room} {s : State} {args : Array Value} {own : String} {idx : Nat} (hts : ∀ w ∈ gG, w.before args s = true) (hl : (Cond.methodLink own idx yX5_takesWord).before args s = true) (hR : rX5_takesWord.frames + 1 ≤ R.frames ∧ 8 + (3 + 11) + rX5_takesWord.locals ≤ R.locals) : CallW R s args own RX5 idx yX5_takesWord cX5_takesWord 3 (some .boolean) (wz yX5_takesWord cX5_takesWord 3 (some .boolean)) rX5_takesWord 0 0 1 := ⟨kw 1 hts mw_1164 rfl rfl (tw_75 hts) hl (by decide +kernel) hR, tw_1163 hts, tw_66 hts⟩
abbrev rX5_readPiece : Room := { frames := 6, cells := 0, slots := 0, locals := 130 }
def pX5_readPiece_78 (Q : Mx → Prop) (y0 : Int32) (y1 : Int32) (y2 : Int32) (y3 : Int32) (y4 : Int32) (σ : Mx) : Prop := pX5_addItem σ y4 y3 y2 y1 y0 (fun u78 => (Q (st u78 16 0 ((u78 16 0) + 1))))
def pX5_readPiece_55 (Q : Mx → Prop) (x1 : Int32) (x2 : Int32) (x3 : Int32) (y0 : Int32) (σ : Mx) : Prop := pX5_takesWord σ 10 (fun r67 u67 => ((r67 = 0 → (pX5_readPiece_78 Q 0 y0 x3 x2 x1 u67)) ∧ (¬ r67 = 0 → (pX5_readPiece_78 Q 1 y0 x3 x2 x1 u67))))
def pX5_readPiece_15 (Q : Mx → Prop) (x1 : Int32) (y0 : Int32) (σ : Mx) : Prop := pX5_must σ y0 (fun u15 => (pX5_number u15 0 9 (fun r22 u22 => (pX5_number u22 0 9 (fun r30 u30 => (pX5_takesWord u30 9 (fun r38 u38 => ((r38 = 0 → (pX5_readPiece_55 Q x1 r22 r30 (-1) u38)) ∧ (¬ r38 = 0 → (pX5_number u38 0 7 (fun r48 u48 => (pX5_readPiece_55 Q x1 r22 r30 r48 u48))))))))))))
def pX5_readPiece (σ : Mx) (x1 : Int32) (Q : Mx → Prop) : Prop := (8 ≤ (σ 16 0) → (pX5_readPiece_15 Q x1 0 σ)) ∧ (¬ 8 ≤ (σ 16 0) → (pX5_readPiece_15 Q x1 1 σ))
set_option maxHeartbeats 4000000 in
set_option maxRecDepth 100000 in
theorem bX5_readPiece_78 {p : Program} {l : Launch} {e : Env} {s : State} {m : MethodId} {args : Array Value} {below : List Frame} {meth : Method} {c : Code} {D : va_G} {κ : Nat → ClassId} {ρ : Nat → Nat} {ν : Nat → Nat} {N : Nat → Prop} {a : Nat → Nat}   {Q : Mx → Prop} (Cc : Cx D κ RX5 cX5_readPiece 5 none p s m args meth c) (hF : ∀ q, (cA a 13) q → N q) (hIt : Ij a 13)   : ∀ (y0 : Int32) (y1 : Int32) (y2 : Int32) (y3 : Int32) (y4 : Int32) (σ : Mx) (H : Heap) (locs : List Loc) (hPt : va_P D classes (wMo κ ρ a σ) H) (hT : SE ρ ν N s H) (hS : va_S (cA a 13) s.heap H locs) (ls : Array Slot) (hl : lv_has ls 5 [(0, .ref (a 0))]) (h : pX5_readPiece_78 Q y0 y1 y2 y3 y4 σ), W p l e rX5_readPiece s m args below meth c H locs 0 0 (MQ below (QWv Q (fun u H => va_P D classes (wMo κ ρ a u) H) (cA a 13)) args s 0 0 (cA a 13)) (F0 m 78 ls [.int y0, .int y1, .int y2, .int y3, .int y4, .ref (a 0)]) := by
  obtain ⟨hx, hb, hml, hown, hts, hr, hlk, hE⟩ := id Cc
  intro y0 y1 y2 y3 y4 σ H locs hPt hT hS ls hl h
  unfold pX5_readPiece_78 at h
  refine kWv (kV Cc (mX5_addItem l D κ ρ a hIt h) (qX5_addItem hts (tw_1166 hts) ⟨(Nat.le_of_ble_eq_true rfl), (Nat.le_of_ble_eq_true rfl)⟩) (va_recv hE.1 hPt (ci := 5) (q0 := 0) rfl rfl) (rest := []) hPt rfl hl.1 rfl (Nat.le_of_ble_eq_true rfl) dX5_readPiece_78 ⟨Nat.zero_le _, Nat.zero_le _⟩) hS (fun q h9 => h9) (fun  u78 H1 locs1 h hB hk hS1 => ?_)
  have hPt := hB
  have hT := hT.kF (fun q h9 => hF q (h9)) hk
  have hS := hS1
  refine lv_aload_n hx hb dX5_readPiece_81 rfl (lv_at hl 0 rfl) ?_
  refine lv_dup hx hb dX5_readPiece_82 rfl ?_
  refine gMo_16 Cc hPt (tw_777 hts) dX5_readPiece_83 ?_
  refine lv_iconst (v := 1) hx hb dX5_readPiece_86 (by decide) ?_
  refine lv_iadd hx hb dX5_readPiece_87 ?_
  refine uMo_16 Cc hPt hIt hS ⟨0, by decide, rfl⟩ (tw_777 hts) dX5_readPiece_88 (fun H1 locs1 hB hS1 hk => ?_)
  have hT := hT.k1 (hF _ ⟨0, by decide, rfl⟩) hk
  have hPt := hB
  have hS := hS1
  exact W.vret hx hb hr (fun t ht _ => QWv.mk (u := (st u78 16 0 ((u78 16 0) + 1))) h hPt hS ht) hS.2.2 dX5_readPiece_91 (hlocks := hlk)
set_option maxHeartbeats 4000000 in
set_option maxRecDepth 100000 in
theorem bX5_readPiece_55 {p : Program} {l : Launch} {e : Env} {s : State} {m : MethodId} {args : Array Value} {below : List Frame} {meth : Method} {c : Code} {D : va_G} {κ : Nat → ClassId} {ρ : Nat → Nat} {ν : Nat → Nat} {N : Nat → Prop} {a : Nat → Nat}   {Q : Mx → Prop} (Cc : Cx D κ RX5 cX5_readPiece 5 none p s m args meth c) (hF : ∀ q, (cA a 13) q → N q) (hIt : Ij a 13)   : ∀ (x1 : Int32) (x2 : Int32) (x3 : Int32) (y0 : Int32) (σ : Mx) (H : Heap) (locs : List Loc) (hPt : va_P D classes (wMo κ ρ a σ) H) (hT : SE ρ ν N s H) (hS : va_S (cA a 13) s.heap H locs) (ls : Array Slot) (hl : lv_has ls 5 [(0, .ref (a 0)), (1, .int x1), (2, .int x2), (3, .int x3)]) (h : pX5_readPiece_55 Q x1 x2 x3 y0 σ), W p l e rX5_readPiece s m args below meth c H locs 0 0 (MQ below (QWv Q (fun u H => va_P D classes (wMo κ ρ a u) H) (cA a 13)) args s 0 0 (cA a 13)) (F0 m 55 ls [.int y0]) := by
  obtain ⟨hx, hb, hml, hown, hts, hr, hlk, hE⟩ := id Cc
  intro x1 x2 x3 y0 σ H locs hPt hT hS ls hl h
  unfold pX5_readPiece_55 at h
  refine lv_istore (lv' := [(4, .int y0), (0, .ref (a 0)), (1, .int x1), (2, .int x2), (3, .int x3)]) hx hb dX5_readPiece_55 hl (by decide) rfl (fun ls hl => ?_)
  refine lv_aload_n hx hb dX5_readPiece_57 rfl (lv_at hl 1 rfl) ?_
  refine lv_iload_n hx hb dX5_readPiece_58 rfl (lv_at hl 2 rfl) ?_
  refine lv_iload_n hx hb dX5_readPiece_59 rfl (lv_at hl 3 rfl) ?_
  refine lv_iload_n hx hb dX5_readPiece_60 rfl (lv_at hl 4 rfl) ?_
  refine lv_iload hx hb dX5_readPiece_61 (lv_at hl 0 rfl) ?_
  refine lv_aload_n hx hb dX5_readPiece_63 rfl (lv_at hl 1 rfl) ?_
  refine ldMw Cc hT 10 (by decide) dX5_readPiece_64 ?_
  refine kWi (kVS Cc hT (mX5_takesWord l D κ ρ ν N a (by decide) (fun q h9 => hF q (h9)) hIt h) (qX5_takesWord hts (tw_1161 hts) ⟨(Nat.le_of_ble_eq_true rfl), (Nat.le_of_ble_eq_true rfl)⟩) (va_recv hE.1 hPt (ci := 5) (q0 := 0) rfl rfl) (rest := [.int y0, .int x3, .int x2, .int x1, .ref (a 0)]) hPt rfl hl.1 rfl (Nat.le_of_ble_eq_true rfl) dX5_readPiece_67 ⟨Nat.zero_le _, Nat.zero_le _⟩) hS (fun q h9 => h9) (fun r67 u67 H1 locs1 h hB hk hS1 => ?_)
  have hPt := hB
  have hT := hT.kF (fun q h9 => hF q (h9)) hk
  have hS := hS1
  refine lv_if_eq (tgt := 77) hx hb dX5_readPiece_70 (by decide) (fun c70 => ?_) (fun c70 => ?_)
  · have h := h.1 c70
    refine lv_iconst (v := 0) hx hb dX5_readPiece_77 (by decide) ?_
    exact bX5_readPiece_78 Cc hF hIt 0 y0 x3 x2 x1 u67 _ _ hPt hT hS _ (lv_sub hl [1] rfl) h
  · have h := h.2 c70
    refine lv_iconst (v := 1) hx hb dX5_readPiece_73 (by decide) ?_
    refine lv_goto (tgt := 78) hx hb dX5_readPiece_74 (by decide) ?_
    exact bX5_readPiece_78 Cc hF hIt 1 y0 x3 x2 x1 u67 _ _ hPt hT hS _ (lv_sub hl [1] rfl) h
set_option maxHeartbeats 4000000 in
set_option maxRecDepth 100000 in
theorem bX5_readPiece_15 {p : Program} {l : Launch} {e : Env} {s : State} {m : MethodId} {args : Array Value} {below : List Frame} {meth : Method} {c : Code} {D : va_G} {κ : Nat → ClassId} {ρ : Nat → Nat} {ν : Nat → Nat} {N : Nat → Prop} {a : Nat → Nat}   {Q : Mx → Prop} (Cc : Cx D κ RX5 cX5_readPiece 5 none p s m args meth c) (hF : ∀ q, (cA a 13) q → N q) (hIt : Ij a 13)   : ∀ (x1 : Int32) (y0 : Int32) (σ : Mx) (H : Heap) (locs : List Loc) (hPt : va_P D classes (wMo κ ρ a σ) H) (hT : SE ρ ν N s H) (hS : va_S (cA a 13) s.heap H locs) (ls : Array Slot) (hl : lv_has ls 5 [(0, .ref (a 0)), (1, .int x1)]) (h : pX5_readPiece_15 Q x1 y0 σ), W p l e rX5_readPiece s m args below meth c H locs 0 0 (MQ below (QWv Q (fun u H => va_P D classes (wMo κ ρ a u) H) (cA a 13)) args s 0 0 (cA a 13)) (F0 m 15 ls [.int y0, .ref (a 0)]) := by
  obtain ⟨hx, hb, hml, hown, hts, hr, hlk, hE⟩ := id Cc
  intro x1 y0 σ H locs hPt hT hS ls hl h
  unfold pX5_readPiece_15 at h
  refine kWv (kV Cc (mX5_must l D κ ρ a hIt h) (qX5_must hts (tw_1152 hts) ⟨(Nat.le_of_ble_eq_true rfl), (Nat.le_of_ble_eq_true rfl)⟩) (va_recv hE.1 hPt (ci := 5) (q0 := 0) rfl rfl) (rest := []) hPt rfl hl.1 rfl (Nat.le_of_ble_eq_true rfl) dX5_readPiece_15 ⟨Nat.zero_le _, Nat.zero_le _⟩) hS (fun q h9 => h9) (fun  u15 H1 locs1 h hB hk hS1 => ?_)
  have hPt := hB
  have hT := hT.kF (fun q h9 => hF q (h9)) hk
  have hS := hS1
  refine lv_aload_n hx hb dX5_readPiece_18 rfl (lv_at hl 0 rfl) ?_
  refine lv_iconst (v := 0) hx hb dX5_readPiece_19 (by decide) ?_
  refine lv_bipush (v := 9) hx hb dX5_readPiece_20 (by decide) ?_
  refine kWi (kV Cc (mX5_number l D κ ρ a hIt h) (qX5_number hts (tw_1156 hts) ⟨(Nat.le_of_ble_eq_true rfl), (Nat.le_of_ble_eq_true rfl)⟩) (va_recv hE.1 hPt (ci := 5) (q0 := 0) rfl rfl) (rest := []) hPt rfl hl.1 rfl (Nat.le_of_ble_eq_true rfl) dX5_readPiece_22 ⟨Nat.zero_le _, Nat.zero_le _⟩) hS (fun q h9 => h9) (fun r22 u22 H1 locs1 h hB hk hS1 => ?_)
  have hPt := hB
  have hT := hT.kF (fun q h9 => hF q (h9)) hk
  have hS := hS1
  refine lv_istore_n (lv' := [(2, .int r22), (0, .ref (a 0)), (1, .int x1)]) hx hb dX5_readPiece_25 rfl hl (by decide) rfl (fun ls hl => ?_)
  refine lv_aload_n hx hb dX5_readPiece_26 rfl (lv_at hl 1 rfl) ?_
  refine lv_iconst (v := 0) hx hb dX5_readPiece_27 (by decide) ?_
  refine lv_bipush (v := 9) hx hb dX5_readPiece_28 (by decide) ?_
  refine kWi (kV Cc (mX5_number l D κ ρ a hIt h) (qX5_number hts (tw_1156 hts) ⟨(Nat.le_of_ble_eq_true rfl), (Nat.le_of_ble_eq_true rfl)⟩) (va_recv hE.1 hPt (ci := 5) (q0 := 0) rfl rfl) (rest := []) hPt rfl hl.1 rfl (Nat.le_of_ble_eq_true rfl) dX5_readPiece_30 ⟨Nat.zero_le _, Nat.zero_le _⟩) hS (fun q h9 => h9) (fun r30 u30 H1 locs1 h hB hk hS1 => ?_)
  have hPt := hB
  have hT := hT.kF (fun q h9 => hF q (h9)) hk
  have hS := hS1
  refine lv_istore_n (lv' := [(3, .int r30), (2, .int r22), (0, .ref (a 0)), (1, .int x1)]) hx hb dX5_readPiece_33 rfl hl (by decide) rfl (fun ls hl => ?_)
  refine lv_aload_n hx hb dX5_readPiece_34 rfl (lv_at hl 2 rfl) ?_
  refine ldMw Cc hT 9 (by decide) dX5_readPiece_35 ?_
  refine kWi (kVS Cc hT (mX5_takesWord l D κ ρ ν N a (by decide) (fun q h9 => hF q (h9)) hIt h) (qX5_takesWord hts (tw_1161 hts) ⟨(Nat.le_of_ble_eq_true rfl), (Nat.le_of_ble_eq_true rfl)⟩) (va_recv hE.1 hPt (ci := 5) (q0 := 0) rfl rfl) (rest := []) hPt rfl hl.1 rfl (Nat.le_of_ble_eq_true rfl) dX5_readPiece_38 ⟨Nat.zero_le _, Nat.zero_le _⟩) hS (fun q h9 => h9) (fun r38 u38 H1 locs1 h hB hk hS1 => ?_)
  have hPt := hB
  have hT := hT.kF (fun q h9 => hF q (h9)) hk
  have hS := hS1
  refine lv_if_eq (tgt := 54) hx hb dX5_readPiece_41 (by decide) (fun c41 => ?_) (fun c41 => ?_)
  · have h := h.1 c41
    refine lv_iconst (v := (-1)) hx hb dX5_readPiece_54 (by decide) ?_
    exact bX5_readPiece_55 Cc hF hIt x1 r22 r30 (-1) u38 _ _ hPt hT hS _ (lv_sub hl [2, 3, 1, 0] rfl) h
  · have h := h.2 c41
    refine lv_aload_n hx hb dX5_readPiece_44 rfl (lv_at hl 2 rfl) ?_
    refine lv_iconst (v := 0) hx hb dX5_readPiece_45 (by decide) ?_
    refine lv_bipush (v := 7) hx hb dX5_readPiece_46 (by decide) ?_
    refine kWi (kV Cc (mX5_number l D κ ρ a hIt h) (qX5_number hts (tw_1156 hts) ⟨(Nat.le_of_ble_eq_true rfl), (Nat.le_of_ble_eq_true rfl)⟩) (va_recv hE.1 hPt (ci := 5) (q0 := 0) rfl rfl) (rest := []) hPt rfl hl.1 rfl (Nat.le_of_ble_eq_true rfl) dX5_readPiece_48 ⟨Nat.zero_le _, Nat.zero_le _⟩) hS (fun q h9 => h9) (fun r48 u48 H1 locs1 h hB hk hS1 => ?_)
    have hPt := hB
    have hT := hT.kF (fun q h9 => hF q (h9)) hk
    have hS := hS1
    refine lv_goto (tgt := 55) hx hb dX5_readPiece_51 (by decide) ?_
    exact bX5_readPiece_55 Cc hF hIt x1 r22 r30 r48 u48 _ _ hPt hT hS _ (lv_sub hl [2, 3, 1, 0] rfl) h
set_option maxHeartbeats 4000000 in
set_option maxRecDepth 100000 in
theorem mX5_readPiece (l : Launch) (D : va_G) (κ : Nat → ClassId) (ρ : Nat → Nat) (ν : Nat → Nat) (N : Nat → Prop) (a : Nat → Nat) {σ : Mx} {x1 : Int32} {Q : Mx → Prop} (hF : ∀ q, (cA a 13) q → N q) (hIt : Ij a 13) (h : pX5_readPiece σ x1 Q) : Met l yX5_readPiece (wz yX5_readPiece cX5_readPiece 5 none) rX5_readPiece (va_Pc [.ref (a 0), .int x1] (PS D κ ρ ν N (fun H => va_P D classes (wMo κ ρ a σ) H))) (QWv Q (fun u H => va_P D classes (wMo κ ρ a u) H) (cA a 13)) 0 0 (cA a 13) := by
  refine Met_ofS l (own := RX5) (by decide) rfl (Nat.le_of_ble_eq_true rfl) (fun p e s m below meth c Cc hT hPP ls hl => ?_)
  obtain ⟨hx, hb, hml, hown, hts, hr, hlk, hE⟩ := id Cc
  have hl : lv_has ls 5 [(0, .ref (a 0)), (1, .int x1)] := hl
  have hPt := hPP
  have hS : va_S (cA a 13) s.heap s.heap [] := va_S.rf
  unfold pX5_readPiece at h
  refine lv_aload_n hx hb dX5_readPiece_0 rfl (lv_at hl 0 rfl) ?_
  refine lv_aload_n hx hb dX5_readPiece_1 rfl (lv_at hl 0 rfl) ?_
  refine gMo_16 Cc hPt (tw_777 hts) dX5_readPiece_2 ?_
  refine lv_bipush (v := 8) hx hb dX5_readPiece_5 (by decide) ?_
  refine lv_icmp_ge (tgt := 14) hx hb dX5_readPiece_7 (by decide) (fun c7 => ?_) (fun c7 => ?_)
  · have h := h.1 c7
    refine lv_iconst (v := 0) hx hb dX5_readPiece_14 (by decide) ?_
    exact bX5_readPiece_15 Cc hF hIt x1 0 σ _ _ hPt hT hS _ (lv_sub hl [0, 1] rfl) h
  · have h := h.2 c7
    refine lv_iconst (v := 1) hx hb dX5_readPiece_10 (by decide) ?_
    refine lv_goto (tgt := 15) hx hb dX5_readPiece_11 (by decide) ?_
    exact bX5_readPiece_15 Cc hF hIt x1 1 σ _ _ hPt hT hS _ (lv_sub hl [0, 1] rfl) h
theorem qX5_readPiece {R : Room} {s : State} {args : Array Value} {own : String} {idx : Nat} (hts : ∀ w ∈ gG, w.before args s = true) (hl : (Cond.methodLink own idx yX5_readPiece).before args s = true) (hR : rX5_readPiece.frames + 1 ≤ R.frames ∧ 8 + (5 + 11) + rX5_readPiece.locals ≤ R.locals) : CallW R s args own RX5 idx yX5_readPiece cX5_readPiece 5 none (wz yX5_readPiece cX5_readPiece 5 none) rX5_readPiece 0 0 1 := ⟨kw 1 hts mw_1151 rfl rfl (tw_75 hts) hl (by decide +kernel) hR, tw_1150 hts, tw_63 hts⟩
abbrev rX3_nameOf : Room := { frames := 0, cells := 0, slots := 0, locals := 0 }
def pX3_nameOf  (x1 : Int32) (Q : Nat → Prop) : Prop := (x1 = 1 → (Q 1)) ∧ (x1 = 2 → (Q 2)) ∧ (x1 = 3 → (Q 3)) ∧ (x1 = 4 → (Q 4)) ∧ (x1 = 5 → (Q 5)) ∧ (x1 = 6 → (Q 6)) ∧ (¬ x1 = 1 → ¬ x1 = 2 → ¬ x1 = 3 → ¬ x1 = 4 → ¬ x1 = 5 → ¬ x1 = 6 → (Q 0))
set_option maxHeartbeats 4000000 in
set_option maxRecDepth 100000 in
theorem mX3_nameOf (l : Launch) (D : va_G) (κ : Nat → ClassId) (ρ : Nat → Nat) (ν : Nat → Nat) (N : Nat → Prop)   {x1 : Int32} {Q : Nat → Prop}  (h : pX3_nameOf  x1 Q) : Met l yX3_nameOf (wz yX3_nameOf cX3_nameOf 1 (some (.object "java/lang/String"))) rX3_nameOf (va_Pc [.int x1] (PS D κ ρ ν N (fun _ => True))) (RQs ρ Q) 0 0 (fun _ => False) := by
  refine Met_ofS l (own := RX3) (by decide) rfl (Nat.le_of_ble_eq_true rfl) (fun p e s m below meth c Cc hT hPP ls hl => ?_)
  obtain ⟨hx, hb, hml, hown, hts, hr, hlk, hE⟩ := id Cc
  have hl : lv_has ls 1 [(0, .int x1)] := hl
  unfold pX3_nameOf at h
  refine lv_iload_n hx hb dX3_nameOf_0 rfl (lv_at hl 0 rfl) ?_
  by_cases c1_1 : x1 = 1
  · have h := h.1 c1_1
    refine lv_tableIn (tgt := 40) hx hb dX3_nameOf_1 (by rw [c1_1]; decide) (by rw [c1_1]; decide) (by rw [c1_1]; rfl) (by decide) ?_
    refine ldT Cc hT 1 (by decide) dX3_nameOf_40 ?_
    exact W.aret hx hb hr (Or.inl ⟨_, rfl⟩) (Or.inr ⟨_, rfl⟩) (fun t ht _ => RQs.mk (by decide) h ht) (fun _ h9 => by cases h9) dX3_nameOf_42 (hlocks := hlk)
  · have h := h.2
    by_cases c1_2 : x1 = 2
    · have h := h.1 c1_2
      refine lv_tableIn (tgt := 43) hx hb dX3_nameOf_1 (by rw [c1_2]; decide) (by rw [c1_2]; decide) (by rw [c1_2]; rfl) (by decide) ?_
      refine ldT Cc hT 2 (by decide) dX3_nameOf_43 ?_
      exact W.aret hx hb hr (Or.inl ⟨_, rfl⟩) (Or.inr ⟨_, rfl⟩) (fun t ht _ => RQs.mk (by decide) h ht) (fun _ h9 => by cases h9) dX3_nameOf_45 (hlocks := hlk)
    · have h := h.2
      by_cases c1_3 : x1 = 3
      · have h := h.1 c1_3
        refine lv_tableIn (tgt := 46) hx hb dX3_nameOf_1 (by rw [c1_3]; decide) (by rw [c1_3]; decide) (by rw [c1_3]; rfl) (by decide) ?_
        refine ldT Cc hT 3 (by decide) dX3_nameOf_46 ?_
        exact W.aret hx hb hr (Or.inl ⟨_, rfl⟩) (Or.inr ⟨_, rfl⟩) (fun t ht _ => RQs.mk (by decide) h ht) (fun _ h9 => by cases h9) dX3_nameOf_48 (hlocks := hlk)
      · have h := h.2
        by_cases c1_4 : x1 = 4
        · have h := h.1 c1_4
          refine lv_tableIn (tgt := 49) hx hb dX3_nameOf_1 (by rw [c1_4]; decide) (by rw [c1_4]; decide) (by rw [c1_4]; rfl) (by decide) ?_
          refine ldT Cc hT 4 (by decide) dX3_nameOf_49 ?_
          exact W.aret hx hb hr (Or.inl ⟨_, rfl⟩) (Or.inr ⟨_, rfl⟩) (fun t ht _ => RQs.mk (by decide) h ht) (fun _ h9 => by cases h9) dX3_nameOf_51 (hlocks := hlk)
        · have h := h.2
          by_cases c1_5 : x1 = 5
          · have h := h.1 c1_5
            refine lv_tableIn (tgt := 52) hx hb dX3_nameOf_1 (by rw [c1_5]; decide) (by rw [c1_5]; decide) (by rw [c1_5]; rfl) (by decide) ?_
            refine ldT Cc hT 5 (by decide) dX3_nameOf_52 ?_
            exact W.aret hx hb hr (Or.inl ⟨_, rfl⟩) (Or.inr ⟨_, rfl⟩) (fun t ht _ => RQs.mk (by decide) h ht) (fun _ h9 => by cases h9) dX3_nameOf_54 (hlocks := hlk)
          · have h := h.2
            by_cases c1_6 : x1 = 6
            · have h := h.1 c1_6
              refine lv_tableIn (tgt := 55) hx hb dX3_nameOf_1 (by rw [c1_6]; decide) (by rw [c1_6]; decide) (by rw [c1_6]; rfl) (by decide) ?_
              refine ldT Cc hT 6 (by decide) dX3_nameOf_55 ?_
              exact W.aret hx hb hr (Or.inl ⟨_, rfl⟩) (Or.inr ⟨_, rfl⟩) (fun t ht _ => RQs.mk (by decide) h ht) (fun _ h9 => by cases h9) dX3_nameOf_57 (hlocks := hlk)
            · have h := h.2
              have h := h c1_1 c1_2 c1_3 c1_4 c1_5 c1_6
              refine lv_tableOut (tgt := 58) hx hb dX3_nameOf_1 (by have h1 := ne_toInt c1_1 (z := 1) (by decide); have h2 := ne_toInt c1_2 (z := 2) (by decide); have h3 := ne_toInt c1_3 (z := 3) (by decide); have h4 := ne_toInt c1_4 (z := 4) (by decide); have h5 := ne_toInt c1_5 (z := 5) (by decide); have h6 := ne_toInt c1_6 (z := 6) (by decide); omega) (by decide) ?_
              refine ldT Cc hT 0 (by decide) dX3_nameOf_58 ?_
              exact W.aret hx hb hr (Or.inl ⟨_, rfl⟩) (Or.inr ⟨_, rfl⟩) (fun t ht _ => RQs.mk (by decide) h ht) (fun _ h9 => by cases h9) dX3_nameOf_60 (hlocks := hlk)
theorem qX3_nameOf {R : Room} {s : State} {args : Array Value} {own : String} {idx : Nat} (hts : ∀ w ∈ gG, w.before args s = true) (hl : (Cond.methodLink own idx yX3_nameOf).before args s = true) (hR : rX3_nameOf.frames + 1 ≤ R.frames ∧ 8 + (1 + 11) + rX3_nameOf.locals ≤ R.locals) : CallB R s args own idx yX3_nameOf cX3_nameOf 1 (some (.object "java/lang/String")) (wz yX3_nameOf cX3_nameOf 1 (some (.object "java/lang/String"))) rX3_nameOf 0 0 1 ∧ (Cond.static yX3_nameOf).before args s = true := ⟨kw 1 hts mw_585 rfl rfl (tw_73 hts) hl (by decide +kernel) hR, tw_584 hts⟩
abbrev rX3_isWord : Room := { frames := 4, cells := 0, slots := 0, locals := 85 }
def pX3_isWord_24 (w1 : Nat) (σ : Mx) (Q : Int32 → Prop)  : Prop := Q 0
def pX3_isWord_28s (w1 : Nat) (σ : Mx) (ih28 : Int32 → Prop) (Q : Int32 → Prop) (x2 : Int32) : Prop := pJ0_length_8abf5 w1 (fun r30 => ((r30 ≤ x2 → (Q 1)) ∧ (¬ r30 ≤ x2 → (vp_in ((σ 3 0) + x2) 120 ∧ (pJ0_charAt_5068e w1 x2 (fun r49 => (((σ 0 ((σ 3 0) + x2).toNatClampNeg) = r49 → (ih28 (x2 + 1))) ∧ (¬ (σ 0 ((σ 3 0) + x2).toNatClampNeg) = r49 → (Q 0)))))))))
noncomputable def pX3_isWord_28 (w1 : Nat) (σ : Mx) (Q : Int32 → Prop) (n : Nat) : Int32 → Prop := Nat.rec (motive := fun _ => Int32 → Prop) (fun _ => False) (fun _ ih => pX3_isWord_28s w1 σ ih Q) n
def pX3_isWord (σ : Mx) (w1 : Nat) (Q : Int32 → Prop) : Prop := (¬ (σ 2 0) = 1 → (pX3_isWord_24 w1 σ Q )) ∧ ((σ 2 0) = 1 → (pJ0_length_8abf5 w1 (fun r18 => ((((σ 4 0) - (σ 3 0)) = r18 → (∃ n, pX3_isWord_28 w1 σ Q n 0)) ∧ (¬ ((σ 4 0) - (σ 3 0)) = r18 → (pX3_isWord_24 w1 σ Q ))))))
set_option maxHeartbeats 4000000 in
set_option maxRecDepth 100000 in
theorem bX3_isWord_24 {p : Program} {l : Launch} {e : Env} {s : State} {m : MethodId} {args : Array Value} {below : List Frame} {meth : Method} {c : Code} {D : va_G} {κ : Nat → ClassId} {ρ : Nat → Nat} {ν : Nat → Nat} {N : Nat → Prop} {a : Nat → Nat} {w1 : Nat} {σ : Mx}  {Q : Int32 → Prop} (Cc : Cx D κ RX3 cX3_isWord 3 (some .boolean) p s m args meth c) (hw1 : w1 < 11) (hPt : va_P D classes (wTp κ a σ) s.heap) (hT : SE ρ ν N s s.heap)  : ∀ (ls : Array Slot) (hl : lv_has ls 3 []) (h : pX3_isWord_24 w1 σ Q ), W p l e rX3_isWord s m args below meth c s.heap [] 0 0 (MQ below (RQ Q) args s 0 0 (fun _ => False)) (F0 m 24 ls []) := by
  obtain ⟨hx, hb, hml, hown, hts, hr, hlk, hE⟩ := id Cc
  intro ls hl h
  unfold pX3_isWord_24 at h
  refine lv_iconst (v := 0) hx hb dX3_isWord_24 (by decide) ?_
  exact W.zret (v := 0) (ty := .boolean) hx hb hr rfl (fun t ht _ => RQ.mk h ht) (fun _ h9 => by cases h9) dX3_isWord_25 (hlocks := hlk)
set_option maxHeartbeats 4000000 in
set_option maxRecDepth 100000 in
theorem bX3_isWord_28 {p : Program} {l : Launch} {e : Env} {s : State} {m : MethodId} {args : Array Value} {below : List Frame} {meth : Method} {c : Code} {D : va_G} {κ : Nat → ClassId} {ρ : Nat → Nat} {ν : Nat → Nat} {N : Nat → Prop} {a : Nat → Nat} {w1 : Nat} {σ : Mx}  {Q : Int32 → Prop} (Cc : Cx D κ RX3 cX3_isWord 3 (some .boolean) p s m args meth c) (hw1 : w1 < 11) (hPt : va_P D classes (wTp κ a σ) s.heap) (hT : SE ρ ν N s s.heap)  (n : Nat) : ∀ (x2 : Int32) (ls : Array Slot) (hl : lv_has ls 3 [(0, .ref (a 0)), (1, .ref (ρ w1)), (2, .int x2)]) (h : pX3_isWord_28 w1 σ Q n x2), W p l e rX3_isWord s m args below meth c s.heap [] 0 0 (MQ below (RQ Q) args s 0 0 (fun _ => False)) (F0 m 28 ls []) := by
  obtain ⟨hx, hb, hml, hown, hts, hr, hlk, hE⟩ := id Cc
  induction n with
  | zero =>
    intro x2 ls hl h
    exact absurd h (fun z => z)
  | succ n hih28 =>
    intro x2 ls hl h
    have h : pX3_isWord_28s w1 σ (pX3_isWord_28 w1 σ Q n) Q x2 := h
    unfold pX3_isWord_28s at h
    refine lv_iload_n hx hb dX3_isWord_28 rfl (lv_at hl 2 rfl) ?_
    refine lv_aload_n hx hb dX3_isWord_29 rfl (lv_at hl 1 rfl) ?_
    refine kR (kVS Cc hT (mJ0_length_8abf5 l D κ ρ ν N hw1 h) (qJ0_length_8abf5 hts (tw_597 hts) ⟨(Nat.le_of_ble_eq_true rfl), (Nat.le_of_ble_eq_true rfl)⟩) (hT.recv hw1) (rest := [.int x2]) trivial rfl hl.1 rfl (Nat.le_of_ble_eq_true rfl) dX3_isWord_30 ⟨Nat.zero_le _, Nat.zero_le _⟩) (fun r30 h => ?_)
    refine lv_icmp_ge (tgt := 63) hx hb dX3_isWord_33 (by decide) (fun c33 => ?_) (fun c33 => ?_)
    · have h := h.1 c33
      refine lv_iconst (v := 1) hx hb dX3_isWord_63 (by decide) ?_
      exact W.zret (v := 1) (ty := .boolean) hx hb hr rfl (fun t ht _ => RQ.mk h ht) (fun _ h9 => by cases h9) dX3_isWord_64 (hlocks := hlk)
    · have h := h.2 c33
      refine lv_aload_n hx hb dX3_isWord_36 rfl (lv_at hl 0 rfl) ?_
      refine gTp_0 Cc hPt (tw_172 hts) dX3_isWord_37 ?_
      refine lv_aload_n hx hb dX3_isWord_40 rfl (lv_at hl 0 rfl) ?_
      refine gTp_3 Cc hPt (tw_176 hts) dX3_isWord_41 ?_
      refine lv_iload_n hx hb dX3_isWord_44 rfl (lv_at hl 2 rfl) ?_
      refine lv_iadd hx hb dX3_isWord_45 ?_
      refine lTp_0 Cc hPt h.1 dX3_isWord_46 ?_
      have h := h.2
      refine lv_aload_n hx hb dX3_isWord_47 rfl (lv_at hl 1 rfl) ?_
      refine lv_iload_n hx hb dX3_isWord_48 rfl (lv_at hl 2 rfl) ?_
      refine kR (kVS Cc hT (mJ0_charAt_5068e l D κ ρ ν N hw1 h) (qJ0_charAt_5068e hts (tw_607 hts) ⟨(Nat.le_of_ble_eq_true rfl), (Nat.le_of_ble_eq_true rfl)⟩) (hT.recv hw1) (rest := [.int (σ 0 ((σ 3 0) + x2).toNatClampNeg)]) trivial rfl hl.1 rfl (Nat.le_of_ble_eq_true rfl) dX3_isWord_49 ⟨Nat.zero_le _, Nat.zero_le _⟩) (fun r49 h => ?_)
      refine lv_icmp_eq (tgt := 57) hx hb dX3_isWord_52 (by decide) (fun c52 => ?_) (fun c52 => ?_)
      · have h := h.1 c52
        refine lv_iinc (v := (x2 + 1)) (lv' := [(2, .int (x2 + 1)), (0, .ref (a 0)), (1, .ref (ρ w1))]) hx hb dX3_isWord_57 hl (k := 2) rfl rfl (by decide) rfl (fun ls hl => ?_)
        refine lv_goto (tgt := 28) hx hb dX3_isWord_60 (by decide) ?_
        exact hih28 (x2 + 1)  _ (lv_sub hl [1, 2, 0] rfl) h
      · have h := h.2 c52
        refine lv_iconst (v := 0) hx hb dX3_isWord_55 (by decide) ?_
        exact W.zret (v := 0) (ty := .boolean) hx hb hr rfl (fun t ht _ => RQ.mk h ht) (fun _ h9 => by cases h9) dX3_isWord_56 (hlocks := hlk)
set_option maxHeartbeats 4000000 in
set_option maxRecDepth 100000 in
theorem mX3_isWord (l : Launch) (D : va_G) (κ : Nat → ClassId) (ρ : Nat → Nat) (ν : Nat → Nat) (N : Nat → Prop) (a : Nat → Nat) {σ : Mx} {w1 : Nat} {Q : Int32 → Prop} (hw1 : w1 < 11) (h : pX3_isWord σ w1 Q) : Met l yX3_isWord (wz yX3_isWord cX3_isWord 3 (some .boolean)) rX3_isWord (va_Pc [.ref (a 0), .ref (ρ w1)] (PS D κ ρ ν N (fun H => va_P D classes (wTp κ a σ) H))) (RQ Q) 0 0 (fun _ => False) := by
  refine Met_ofS l (own := RX3) (by decide) rfl (Nat.le_of_ble_eq_true rfl) (fun p e s m below meth c Cc hT hPP ls hl => ?_)
  obtain ⟨hx, hb, hml, hown, hts, hr, hlk, hE⟩ := id Cc
  have hl : lv_has ls 3 [(0, .ref (a 0)), (1, .ref (ρ w1))] := hl
  have hPt := hPP
  unfold pX3_isWord at h
  refine lv_aload_n hx hb dX3_isWord_0 rfl (lv_at hl 0 rfl) ?_
  refine gTp_2 Cc hPt (tw_175 hts) dX3_isWord_1 ?_
  refine lv_iconst (v := 1) hx hb dX3_isWord_4 (by decide) ?_
  refine lv_icmp_ne (tgt := 24) hx hb dX3_isWord_5 (by decide) (fun c5 => ?_) (fun c5 => ?_)
  · have h := h.1 c5
    exact bX3_isWord_24 Cc hw1 hPt hT   _ (lv_sub hl [] rfl) h
  · have h := h.2 c5
    refine lv_aload_n hx hb dX3_isWord_8 rfl (lv_at hl 0 rfl) ?_
    refine gTp_4 Cc hPt (tw_177 hts) dX3_isWord_9 ?_
    refine lv_aload_n hx hb dX3_isWord_12 rfl (lv_at hl 0 rfl) ?_
    refine gTp_3 Cc hPt (tw_176 hts) dX3_isWord_13 ?_
    refine lv_isub hx hb dX3_isWord_16 ?_
    refine lv_aload_n hx hb dX3_isWord_17 rfl (lv_at hl 1 rfl) ?_
    refine kR (kVS Cc hT (mJ0_length_8abf5 l D κ ρ ν N hw1 h) (qJ0_length_8abf5 hts (tw_597 hts) ⟨(Nat.le_of_ble_eq_true rfl), (Nat.le_of_ble_eq_true rfl)⟩) (hT.recv hw1) (rest := [.int ((σ 4 0) - (σ 3 0))]) trivial rfl hl.1 rfl (Nat.le_of_ble_eq_true rfl) dX3_isWord_18 ⟨Nat.zero_le _, Nat.zero_le _⟩) (fun r18 h => ?_)
    refine lv_icmp_eq (tgt := 26) hx hb dX3_isWord_21 (by decide) (fun c21 => ?_) (fun c21 => ?_)
    · have h := h.1 c21
      refine lv_iconst (v := 0) hx hb dX3_isWord_26 (by decide) ?_
      refine lv_istore_n (lv' := [(2, .int 0), (0, .ref (a 0)), (1, .ref (ρ w1))]) hx hb dX3_isWord_27 rfl hl (by decide) rfl (fun ls hl => ?_)
      obtain ⟨n, h⟩ := h
      exact bX3_isWord_28 Cc hw1 hPt hT n 0  _ (lv_sub hl [1, 2, 0] rfl) h
    · have h := h.2 c21
      exact bX3_isWord_24 Cc hw1 hPt hT   _ (lv_sub hl [] rfl) h
theorem qX3_isWord {R : Room} {s : State} {args : Array Value} {own : String} {idx : Nat} (hts : ∀ w ∈ gG, w.before args s = true) (hl : (Cond.methodLink own idx yX3_isWord).before args s = true) (hR : rX3_isWord.frames + 1 ≤ R.frames ∧ 8 + (3 + 11) + rX3_isWord.locals ≤ R.locals) : CallW R s args own RX3 idx yX3_isWord cX3_isWord 3 (some .boolean) (wz yX3_isWord cX3_isWord 3 (some .boolean)) rX3_isWord 0 0 1 := ⟨kw 1 hts mw_596 rfl rfl (tw_73 hts) hl (by decide +kernel) hR, tw_595 hts, tw_16 hts⟩
abbrev rX3_kindNamed : Room := { frames := 5, cells := 0, slots := 0, locals := 107 }
def pX3_kindNamed_2s (σ : Mx) (ih2 : Int32 → Prop) (Q : Int32 → Prop) (x1 : Int32) : Prop := (7 ≤ x1 → (Q (-1))) ∧ (¬ 7 ≤ x1 → (pX3_nameOf x1 (fun w10 => (pX3_isWord σ w10 (fun r13 => ((r13 = 0 → (ih2 (x1 + 1))) ∧ (¬ r13 = 0 → (Q x1))))))))
noncomputable def pX3_kindNamed_2 (σ : Mx) (Q : Int32 → Prop) (n : Nat) : Int32 → Prop := Nat.rec (motive := fun _ => Int32 → Prop) (fun _ => False) (fun _ ih => pX3_kindNamed_2s σ ih Q) n
def pX3_kindNamed (σ : Mx)  (Q : Int32 → Prop) : Prop := ∃ n, pX3_kindNamed_2 σ Q n 0
set_option maxHeartbeats 4000000 in
set_option maxRecDepth 100000 in
theorem bX3_kindNamed_2 {p : Program} {l : Launch} {e : Env} {s : State} {m : MethodId} {args : Array Value} {below : List Frame} {meth : Method} {c : Code} {D : va_G} {κ : Nat → ClassId} {ρ : Nat → Nat} {ν : Nat → Nat} {N : Nat → Prop} {a : Nat → Nat} {σ : Mx}  {Q : Int32 → Prop} (Cc : Cx D κ RX3 cX3_kindNamed 2 (some .int) p s m args meth c)  (hPt : va_P D classes (wTp κ a σ) s.heap) (hT : SE ρ ν N s s.heap)  (n : Nat) : ∀ (x1 : Int32) (ls : Array Slot) (hl : lv_has ls 2 [(0, .ref (a 0)), (1, .int x1)]) (h : pX3_kindNamed_2 σ Q n x1), W p l e rX3_kindNamed s m args below meth c s.heap [] 0 0 (MQ below (RQ Q) args s 0 0 (fun _ => False)) (F0 m 2 ls []) := by
  obtain ⟨hx, hb, hml, hown, hts, hr, hlk, hE⟩ := id Cc
  induction n with
  | zero =>
    intro x1 ls hl h
    exact absurd h (fun z => z)
  | succ n hih2 =>
    intro x1 ls hl h
    have h : pX3_kindNamed_2s σ (pX3_kindNamed_2 σ Q n) Q x1 := h
    unfold pX3_kindNamed_2s at h
    refine lv_iload_n hx hb dX3_kindNamed_2 rfl (lv_at hl 1 rfl) ?_
    refine lv_bipush (v := 7) hx hb dX3_kindNamed_3 (by decide) ?_
    refine lv_icmp_ge (tgt := 27) hx hb dX3_kindNamed_5 (by decide) (fun c5 => ?_) (fun c5 => ?_)
    · have h := h.1 c5
      refine lv_iconst (v := (-1)) hx hb dX3_kindNamed_27 (by decide) ?_
      exact W.iret (v := (-1)) hx hb hr (fun t ht _ => RQ.mk h ht) (fun _ h9 => by cases h9) dX3_kindNamed_28 (hlocks := hlk)
    · have h := h.2 c5
      refine lv_aload_n hx hb dX3_kindNamed_8 rfl (lv_at hl 0 rfl) ?_
      refine lv_iload_n hx hb dX3_kindNamed_9 rfl (lv_at hl 1 rfl) ?_
      refine kRs (kSS Cc hT (mX3_nameOf l D κ ρ ν N h) (qX3_nameOf hts (tw_583 hts) ⟨(Nat.le_of_ble_eq_true rfl), (Nat.le_of_ble_eq_true rfl)⟩) (rest := [.ref (a 0)]) trivial rfl hl.1 rfl (Nat.le_of_ble_eq_true rfl) dX3_kindNamed_10 ⟨Nat.zero_le _, Nat.zero_le _⟩) (fun w10 hw10 h => ?_)
      refine kR (kVS Cc hT (mX3_isWord l D κ ρ ν N a hw10 h) (qX3_isWord hts (tw_593 hts) ⟨(Nat.le_of_ble_eq_true rfl), (Nat.le_of_ble_eq_true rfl)⟩) (va_recv hE.1 hPt (ci := 3) (q0 := 0) rfl rfl) (rest := []) hPt rfl hl.1 rfl (Nat.le_of_ble_eq_true rfl) dX3_kindNamed_13 ⟨Nat.zero_le _, Nat.zero_le _⟩) (fun r13 h => ?_)
      refine lv_if_eq (tgt := 21) hx hb dX3_kindNamed_16 (by decide) (fun c16 => ?_) (fun c16 => ?_)
      · have h := h.1 c16
        refine lv_iinc (v := (x1 + 1)) (lv' := [(1, .int (x1 + 1)), (0, .ref (a 0))]) hx hb dX3_kindNamed_21 hl (k := 1) rfl rfl (by decide) rfl (fun ls hl => ?_)
        refine lv_goto (tgt := 2) hx hb dX3_kindNamed_24 (by decide) ?_
        exact hih2 (x1 + 1)  _ (lv_sub hl [1, 0] rfl) h
      · have h := h.2 c16
        refine lv_iload_n hx hb dX3_kindNamed_19 rfl (lv_at hl 1 rfl) ?_
        exact W.iret (v := x1) hx hb hr (fun t ht _ => RQ.mk h ht) (fun _ h9 => by cases h9) dX3_kindNamed_20 (hlocks := hlk)
set_option maxHeartbeats 4000000 in
set_option maxRecDepth 100000 in
theorem mX3_kindNamed (l : Launch) (D : va_G) (κ : Nat → ClassId) (ρ : Nat → Nat) (ν : Nat → Nat) (N : Nat → Prop) (a : Nat → Nat) {σ : Mx}  {Q : Int32 → Prop}  (h : pX3_kindNamed σ  Q) : Met l yX3_kindNamed (wz yX3_kindNamed cX3_kindNamed 2 (some .int)) rX3_kindNamed (va_Pc [.ref (a 0)] (PS D κ ρ ν N (fun H => va_P D classes (wTp κ a σ) H))) (RQ Q) 0 0 (fun _ => False) := by
  refine Met_ofS l (own := RX3) (by decide) rfl (Nat.le_of_ble_eq_true rfl) (fun p e s m below meth c Cc hT hPP ls hl => ?_)
  obtain ⟨hx, hb, hml, hown, hts, hr, hlk, hE⟩ := id Cc
  have hl : lv_has ls 2 [(0, .ref (a 0))] := hl
  have hPt := hPP
  unfold pX3_kindNamed at h
  refine lv_iconst (v := 0) hx hb dX3_kindNamed_0 (by decide) ?_
  refine lv_istore_n (lv' := [(1, .int 0), (0, .ref (a 0))]) hx hb dX3_kindNamed_1 rfl hl (by decide) rfl (fun ls hl => ?_)
  obtain ⟨n, h⟩ := h
  exact bX3_kindNamed_2 Cc hPt hT n 0  _ (lv_sub hl [1, 0] rfl) h
theorem qX3_kindNamed {R : Room} {s : State} {args : Array Value} {own : String} {idx : Nat} (hts : ∀ w ∈ gG, w.before args s = true) (hl : (Cond.methodLink own idx yX3_kindNamed).before args s = true) (hR : rX3_kindNamed.frames + 1 ≤ R.frames ∧ 8 + (2 + 11) + rX3_kindNamed.locals ≤ R.locals) : CallW R s args own RX3 idx yX3_kindNamed cX3_kindNamed 2 (some .int) (wz yX3_kindNamed cX3_kindNamed 2 (some .int)) rX3_kindNamed 0 0 0 := ⟨kw 0 hts mw_582 rfl rfl (tw_73 hts) hl (by decide +kernel) hR, tw_581 hts, tw_15 hts⟩
abbrev rX3_readPiece : Room := { frames := 5, cells := 0, slots := 0, locals := 107 }
def pX3_readPiece_118 (Q : Int32 → Mx → Mx → Prop) (σ : Mx) (σ2 : Mx) : Prop := Q 1 σ σ2
def pX3_readPiece_92 (Q : Int32 → Mx → Mx → Prop) (x5 : Int32) (σ : Mx) (σ2 : Mx) : Prop := pX3_isWord σ 10 (fun r95 => ((r95 = 0 → (pX3_readPiece_118 Q σ σ2)) ∧ (¬ r95 = 0 → (pX3_step σ (fun u102 => (pX3_readPiece_118 Q u102 (st σ2 7 0 ((σ2 7 0) ||| (1 <<< (x5 &&& 31))))))))))
def pX3_readPiece_36 (Q : Int32 → Mx → Mx → Prop) (x2 : Int32) (x3 : Int32) (y0 : Int32) (σ : Mx) (σ2 : Mx) : Prop := (0 ≤ y0 → (pX1_addPiece σ2 x2 x3 y0 (fun r50 u50 => (pX3_isWord σ 9 (fun r58 => ((r58 = 0 → (pX3_readPiece_92 Q r50 σ u50)) ∧ (¬ r58 = 0 → (pX3_step σ (fun u65 => (pX3_readNumber u65 7 (fun r71 u71 => ((0 ≤ r71 → (vp_in r50 8 ∧ (pX3_readPiece_92 Q r50 u71 (st u50 3 r50.toNatClampNeg r71)))) ∧ (¬ 0 ≤ r71 → (Q 0 u71 u50)))))))))))))) ∧ (¬ 0 ≤ y0 → (Q 0 σ σ2))
def pX3_readPiece (σ : Mx) (σ2 : Mx) (x2 : Int32) (Q : Int32 → Mx → Mx → Prop) : Prop := ((σ2 8 0) < 8 → (pX3_step σ (fun u12 => (pX3_readNumber u12 9 (fun r18 u18 => ((0 ≤ r18 → (pX3_readNumber u18 9 (fun r33 u33 => (pX3_readPiece_36 Q x2 r18 r33 u33 σ2)))) ∧ (¬ 0 ≤ r18 → (pX3_readPiece_36 Q x2 r18 (-1) u18 σ2)))))))) ∧ (¬ (σ2 8 0) < 8 → (Q 0 σ σ2))
set_option maxHeartbeats 4000000 in
set_option maxRecDepth 100000 in
theorem bX3_readPiece_118 {p : Program} {l : Launch} {e : Env} {s : State} {m : MethodId} {args : Array Value} {below : List Frame} {meth : Method} {c : Code} {D : va_G} {κ : Nat → ClassId} {ρ : Nat → Nat} {ν : Nat → Nat} {N : Nat → Prop} {a : Nat → Nat} {a2 : Nat → Nat}   {Q : Int32 → Mx → Mx → Prop} (Cc : Cx D κ RX3 cX3_readPiece 7 (some .boolean) p s m args meth c) (hF : ∀ q, (fun q => cA a 2 q ∨ cA a2 8 q) q → N q) (hIt : Ij a 2) (hIu : Ij a2 8) (hDj : Dj a 2 a2 8)   : ∀ (σ : Mx) (σ2 : Mx) (H : Heap) (locs : List Loc) (hPt : va_P D classes (wTp κ a σ) H) (hPu : va_P D classes (wCo κ a2 σ2) H) (hT : SE ρ ν N s H) (hS : va_S (fun q => cA a 2 q ∨ cA a2 8 q) s.heap H locs) (ls : Array Slot) (hl : lv_has ls 7 []) (h : pX3_readPiece_118 Q σ σ2), W p l e rX3_readPiece s m args below meth c H locs 0 0 (MQ below (QWi (fun (r : Int32) (u : Mx × Mx) => Q r u.1 u.2) (fun (u : Mx × Mx) H => va_P D classes (wTp κ a u.1) H ∧ va_P D classes (wCo κ a2 u.2) H) (fun q => cA a 2 q ∨ cA a2 8 q)) args s 0 0 (fun q => cA a 2 q ∨ cA a2 8 q)) (F0 m 118 ls []) := by
  obtain ⟨hx, hb, hml, hown, hts, hr, hlk, hE⟩ := id Cc
  intro σ σ2 H locs hPt hPu hT hS ls hl h
  unfold pX3_readPiece_118 at h
  refine lv_iconst (v := 1) hx hb dX3_readPiece_118 (by decide) ?_
  exact W.zret (v := 1) (ty := .boolean) hx hb hr rfl (fun t ht _ => QWi.mk (u := (σ, σ2)) h ⟨hPt, hPu⟩ hS ht) hS.2.2 dX3_readPiece_119 (hlocks := hlk)
set_option maxHeartbeats 4000000 in
set_option maxRecDepth 100000 in
theorem bX3_readPiece_92 {p : Program} {l : Launch} {e : Env} {s : State} {m : MethodId} {args : Array Value} {below : List Frame} {meth : Method} {c : Code} {D : va_G} {κ : Nat → ClassId} {ρ : Nat → Nat} {ν : Nat → Nat} {N : Nat → Prop} {a : Nat → Nat} {a2 : Nat → Nat}   {Q : Int32 → Mx → Mx → Prop} (Cc : Cx D κ RX3 cX3_readPiece 7 (some .boolean) p s m args meth c) (hF : ∀ q, (fun q => cA a 2 q ∨ cA a2 8 q) q → N q) (hIt : Ij a 2) (hIu : Ij a2 8) (hDj : Dj a 2 a2 8)   : ∀ (x5 : Int32) (σ : Mx) (σ2 : Mx) (H : Heap) (locs : List Loc) (hPt : va_P D classes (wTp κ a σ) H) (hPu : va_P D classes (wCo κ a2 σ2) H) (hT : SE ρ ν N s H) (hS : va_S (fun q => cA a 2 q ∨ cA a2 8 q) s.heap H locs) (ls : Array Slot) (hl : lv_has ls 7 [(0, .ref (a 0)), (1, .ref (a2 0)), (5, .int x5)]) (h : pX3_readPiece_92 Q x5 σ σ2), W p l e rX3_readPiece s m args below meth c H locs 0 0 (MQ below (QWi (fun (r : Int32) (u : Mx × Mx) => Q r u.1 u.2) (fun (u : Mx × Mx) H => va_P D classes (wTp κ a u.1) H ∧ va_P D classes (wCo κ a2 u.2) H) (fun q => cA a 2 q ∨ cA a2 8 q)) args s 0 0 (fun q => cA a 2 q ∨ cA a2 8 q)) (F0 m 92 ls []) := by
  obtain ⟨hx, hb, hml, hown, hts, hr, hlk, hE⟩ := id Cc
  intro x5 σ σ2 H locs hPt hPu hT hS ls hl h
  unfold pX3_readPiece_92 at h
  refine lv_aload_n hx hb dX3_readPiece_92 rfl (lv_at hl 0 rfl) ?_
  refine ldT Cc hT 10 (by decide) dX3_readPiece_93 ?_
  refine kR (kVS Cc hT (mX3_isWord l D κ ρ ν N a (by decide) h) (qX3_isWord hts (tw_593 hts) ⟨(Nat.le_of_ble_eq_true rfl), (Nat.le_of_ble_eq_true rfl)⟩) (va_recv hE.1 hPt (ci := 3) (q0 := 0) rfl rfl) (rest := []) hPt rfl hl.1 rfl (Nat.le_of_ble_eq_true rfl) dX3_readPiece_95 ⟨Nat.zero_le _, Nat.zero_le _⟩) (fun r95 h => ?_)
  refine lv_if_eq (tgt := 118) hx hb dX3_readPiece_98 (by decide) (fun c98 => ?_) (fun c98 => ?_)
  · have h := h.1 c98
    exact bX3_readPiece_118 Cc hF hIt hIu hDj σ σ2 _ _ hPt hPu hT hS _ (lv_sub hl [] rfl) h
  · have h := h.2 c98
    refine lv_aload_n hx hb dX3_readPiece_101 rfl (lv_at hl 0 rfl) ?_
    refine kWv (kV Cc (mX3_step l D κ a hIt h) (qX3_step hts (tw_567 hts) ⟨(Nat.le_of_ble_eq_true rfl), (Nat.le_of_ble_eq_true rfl)⟩) (va_recv hE.1 hPt (ci := 3) (q0 := 0) rfl rfl) (rest := []) hPt rfl hl.1 rfl (Nat.le_of_ble_eq_true rfl) dX3_readPiece_102 ⟨Nat.zero_le _, Nat.zero_le _⟩) hS (fun q h9 => Or.inl h9) (fun  u102 H1 locs1 h hB hk hS1 => ?_)
    have hPu := kpF wCo_wl hPu hDj hk
    have hPt := hB
    have hT := hT.kF (fun q h9 => hF q (Or.inl h9)) hk
    have hS := hS1
    refine lv_aload_n hx hb dX3_readPiece_105 rfl (lv_at hl 1 rfl) ?_
    refine lv_dup hx hb dX3_readPiece_106 rfl ?_
    refine gCo_7 Cc hPu (tw_113 hts) dX3_readPiece_107 ?_
    refine lv_iconst (v := 1) hx hb dX3_readPiece_110 (by decide) ?_
    refine lv_iload hx hb dX3_readPiece_111 (lv_at hl 2 rfl) ?_
    refine lv_ishl hx hb dX3_readPiece_113 ?_
    refine lv_ior hx hb dX3_readPiece_114 ?_
    refine uCo_7 Cc hPu hIu hS (Or.inr ⟨0, by decide, rfl⟩) (tw_113 hts) dX3_readPiece_115 (fun H1 locs1 hB hS1 hk => ?_)
    have hPt := kp1 wTp_wl hPt hDj.symm (i0 := 0) (by decide) hk
    have hT := hT.k1 (hF _ (Or.inr ⟨0, by decide, rfl⟩)) hk
    have hPu := hB
    have hS := hS1
    exact bX3_readPiece_118 Cc hF hIt hIu hDj u102 (st σ2 7 0 ((σ2 7 0) ||| (1 <<< (x5 &&& 31)))) _ _ hPt hPu hT hS _ (lv_sub hl [] rfl) h
set_option maxHeartbeats 4000000 in
set_option maxRecDepth 100000 in
theorem bX3_readPiece_36 {p : Program} {l : Launch} {e : Env} {s : State} {m : MethodId} {args : Array Value} {below : List Frame} {meth : Method} {c : Code} {D : va_G} {κ : Nat → ClassId} {ρ : Nat → Nat} {ν : Nat → Nat} {N : Nat → Prop} {a : Nat → Nat} {a2 : Nat → Nat}   {Q : Int32 → Mx → Mx → Prop} (Cc : Cx D κ RX3 cX3_readPiece 7 (some .boolean) p s m args meth c) (hF : ∀ q, (fun q => cA a 2 q ∨ cA a2 8 q) q → N q) (hIt : Ij a 2) (hIu : Ij a2 8) (hDj : Dj a 2 a2 8)   : ∀ (x2 : Int32) (x3 : Int32) (y0 : Int32) (σ : Mx) (σ2 : Mx) (H : Heap) (locs : List Loc) (hPt : va_P D classes (wTp κ a σ) H) (hPu : va_P D classes (wCo κ a2 σ2) H) (hT : SE ρ ν N s H) (hS : va_S (fun q => cA a 2 q ∨ cA a2 8 q) s.heap H locs) (ls : Array Slot) (hl : lv_has ls 7 [(0, .ref (a 0)), (1, .ref (a2 0)), (2, .int x2), (3, .int x3)]) (h : pX3_readPiece_36 Q x2 x3 y0 σ σ2), W p l e rX3_readPiece s m args below meth c H locs 0 0 (MQ below (QWi (fun (r : Int32) (u : Mx × Mx) => Q r u.1 u.2) (fun (u : Mx × Mx) H => va_P D classes (wTp κ a u.1) H ∧ va_P D classes (wCo κ a2 u.2) H) (fun q => cA a 2 q ∨ cA a2 8 q)) args s 0 0 (fun q => cA a 2 q ∨ cA a2 8 q)) (F0 m 36 ls [.int y0]) := by
  obtain ⟨hx, hb, hml, hown, hts, hr, hlk, hE⟩ := id Cc
  intro x2 x3 y0 σ σ2 H locs hPt hPu hT hS ls hl h
  unfold pX3_readPiece_36 at h
  refine lv_istore (lv' := [(4, .int y0), (0, .ref (a 0)), (1, .ref (a2 0)), (2, .int x2), (3, .int x3)]) hx hb dX3_readPiece_36 hl (by decide) rfl (fun ls hl => ?_)
  refine lv_iload hx hb dX3_readPiece_38 (lv_at hl 0 rfl) ?_
  refine lv_if_ge (tgt := 45) hx hb dX3_readPiece_40 (by decide) (fun c40 => ?_) (fun c40 => ?_)
  · have h := h.1 c40
    refine lv_aload_n hx hb dX3_readPiece_45 rfl (lv_at hl 2 rfl) ?_
    refine lv_iload_n hx hb dX3_readPiece_46 rfl (lv_at hl 3 rfl) ?_
    refine lv_iload_n hx hb dX3_readPiece_47 rfl (lv_at hl 4 rfl) ?_
    refine lv_iload hx hb dX3_readPiece_48 (lv_at hl 0 rfl) ?_
    refine kWi (kV Cc (mX1_addPiece l D κ a2 hIu h) (qX1_addPiece hts (tw_658 hts) ⟨(Nat.le_of_ble_eq_true rfl), (Nat.le_of_ble_eq_true rfl)⟩) (va_recv hE.1 hPu (ci := 1) (q0 := 0) rfl rfl) (rest := []) hPu rfl hl.1 rfl (Nat.le_of_ble_eq_true rfl) dX3_readPiece_50 ⟨Nat.zero_le _, Nat.zero_le _⟩) hS (fun q h9 => Or.inr h9) (fun r50 u50 H1 locs1 h hB hk hS1 => ?_)
    have hPt := kpF wTp_wl hPt hDj.symm hk
    have hPu := hB
    have hT := hT.kF (fun q h9 => hF q (Or.inr h9)) hk
    have hS := hS1
    refine lv_istore (lv' := [(5, .int r50), (4, .int y0), (0, .ref (a 0)), (1, .ref (a2 0)), (2, .int x2), (3, .int x3)]) hx hb dX3_readPiece_53 hl (by decide) rfl (fun ls hl => ?_)
    refine lv_aload_n hx hb dX3_readPiece_55 rfl (lv_at hl 2 rfl) ?_
    refine ldT Cc hT 9 (by decide) dX3_readPiece_56 ?_
    refine kR (kVS Cc hT (mX3_isWord l D κ ρ ν N a (by decide) h) (qX3_isWord hts (tw_593 hts) ⟨(Nat.le_of_ble_eq_true rfl), (Nat.le_of_ble_eq_true rfl)⟩) (va_recv hE.1 hPt (ci := 3) (q0 := 0) rfl rfl) (rest := []) hPt rfl hl.1 rfl (Nat.le_of_ble_eq_true rfl) dX3_readPiece_58 ⟨Nat.zero_le _, Nat.zero_le _⟩) (fun r58 h => ?_)
    refine lv_if_eq (tgt := 92) hx hb dX3_readPiece_61 (by decide) (fun c61 => ?_) (fun c61 => ?_)
    · have h := h.1 c61
      exact bX3_readPiece_92 Cc hF hIt hIu hDj r50 σ u50 _ _ hPt hPu hT hS _ (lv_sub hl [2, 3, 0] rfl) h
    · have h := h.2 c61
      refine lv_aload_n hx hb dX3_readPiece_64 rfl (lv_at hl 2 rfl) ?_
      refine kWv (kV Cc (mX3_step l D κ a hIt h) (qX3_step hts (tw_567 hts) ⟨(Nat.le_of_ble_eq_true rfl), (Nat.le_of_ble_eq_true rfl)⟩) (va_recv hE.1 hPt (ci := 3) (q0 := 0) rfl rfl) (rest := []) hPt rfl hl.1 rfl (Nat.le_of_ble_eq_true rfl) dX3_readPiece_65 ⟨Nat.zero_le _, Nat.zero_le _⟩) hS (fun q h9 => Or.inl h9) (fun  u65 H1 locs1 h hB hk hS1 => ?_)
      have hPu := kpF wCo_wl hPu hDj hk
      have hPt := hB
      have hT := hT.kF (fun q h9 => hF q (Or.inl h9)) hk
      have hS := hS1
      refine lv_aload_n hx hb dX3_readPiece_68 rfl (lv_at hl 2 rfl) ?_
      refine lv_bipush (v := 7) hx hb dX3_readPiece_69 (by decide) ?_
      refine kWi (kV Cc (mX3_readNumber l D κ a hIt h) (qX3_readNumber hts (tw_649 hts) ⟨(Nat.le_of_ble_eq_true rfl), (Nat.le_of_ble_eq_true rfl)⟩) (va_recv hE.1 hPt (ci := 3) (q0 := 0) rfl rfl) (rest := []) hPt rfl hl.1 rfl (Nat.le_of_ble_eq_true rfl) dX3_readPiece_71 ⟨Nat.zero_le _, Nat.zero_le _⟩) hS (fun q h9 => Or.inl h9) (fun r71 u71 H1 locs1 h hB hk hS1 => ?_)
      have hPu := kpF wCo_wl hPu hDj hk
      have hPt := hB
      have hT := hT.kF (fun q h9 => hF q (Or.inl h9)) hk
      have hS := hS1
      refine lv_istore (lv' := [(6, .int r71), (5, .int r50), (4, .int y0), (0, .ref (a 0)), (1, .ref (a2 0)), (2, .int x2), (3, .int x3)]) hx hb dX3_readPiece_74 hl (by decide) rfl (fun ls hl => ?_)
      refine lv_iload hx hb dX3_readPiece_76 (lv_at hl 0 rfl) ?_
      refine lv_if_ge (tgt := 83) hx hb dX3_readPiece_78 (by decide) (fun c78 => ?_) (fun c78 => ?_)
      · have h := h.1 c78
        refine lv_aload_n hx hb dX3_readPiece_83 rfl (lv_at hl 4 rfl) ?_
        refine gCo_3 Cc hPu (tw_104 hts) dX3_readPiece_84 ?_
        refine lv_iload hx hb dX3_readPiece_87 (lv_at hl 1 rfl) ?_
        refine lv_iload hx hb dX3_readPiece_89 (lv_at hl 0 rfl) ?_
        refine sCo_3 Cc hPu hIu hS (Or.inr ⟨4, by decide, rfl⟩) h.1 dX3_readPiece_91 (fun H1 locs1 hB hS1 hk => ?_)
        have h := h.2
        have hPt := kp1 wTp_wl hPt hDj.symm (i0 := 4) (by decide) hk
        have hT := hT.k1 (hF _ (Or.inr ⟨4, by decide, rfl⟩)) hk
        have hPu := hB
        have hS := hS1
        exact bX3_readPiece_92 Cc hF hIt hIu hDj r50 u71 (st u50 3 r50.toNatClampNeg r71) _ _ hPt hPu hT hS _ (lv_sub hl [3, 4, 1] rfl) h
      · have h := h.2 c78
        refine lv_iconst (v := 0) hx hb dX3_readPiece_81 (by decide) ?_
        exact W.zret (v := 0) (ty := .boolean) hx hb hr rfl (fun t ht _ => QWi.mk (u := (u71, u50)) h ⟨hPt, hPu⟩ hS ht) hS.2.2 dX3_readPiece_82 (hlocks := hlk)
  · have h := h.2 c40
    refine lv_iconst (v := 0) hx hb dX3_readPiece_43 (by decide) ?_
    exact W.zret (v := 0) (ty := .boolean) hx hb hr rfl (fun t ht _ => QWi.mk (u := (σ, σ2)) h ⟨hPt, hPu⟩ hS ht) hS.2.2 dX3_readPiece_44 (hlocks := hlk)
set_option maxHeartbeats 4000000 in
set_option maxRecDepth 100000 in
theorem mX3_readPiece (l : Launch) (D : va_G) (κ : Nat → ClassId) (ρ : Nat → Nat) (ν : Nat → Nat) (N : Nat → Prop) (a : Nat → Nat) (a2 : Nat → Nat) {σ : Mx} {σ2 : Mx} {x2 : Int32} {Q : Int32 → Mx → Mx → Prop} (hF : ∀ q, (fun q => cA a 2 q ∨ cA a2 8 q) q → N q) (hIt : Ij a 2) (hIu : Ij a2 8) (hDj : Dj a 2 a2 8) (h : pX3_readPiece σ σ2 x2 Q) : Met l yX3_readPiece (wz yX3_readPiece cX3_readPiece 7 (some .boolean)) rX3_readPiece (va_Pc [.ref (a 0), .ref (a2 0), .int x2] (PS D κ ρ ν N (fun H => va_P D classes (wTp κ a σ) H ∧ va_P D classes (wCo κ a2 σ2) H))) (QWi (fun (r : Int32) (u : Mx × Mx) => Q r u.1 u.2) (fun (u : Mx × Mx) H => va_P D classes (wTp κ a u.1) H ∧ va_P D classes (wCo κ a2 u.2) H) (fun q => cA a 2 q ∨ cA a2 8 q)) 0 0 (fun q => cA a 2 q ∨ cA a2 8 q) := by
  refine Met_ofS l (own := RX3) (by decide) rfl (Nat.le_of_ble_eq_true rfl) (fun p e s m below meth c Cc hT hPP ls hl => ?_)
  obtain ⟨hx, hb, hml, hown, hts, hr, hlk, hE⟩ := id Cc
  have hl : lv_has ls 7 [(0, .ref (a 0)), (1, .ref (a2 0)), (2, .int x2)] := hl
  obtain ⟨hPt, hPu⟩ := hPP
  have hS : va_S (fun q => cA a 2 q ∨ cA a2 8 q) s.heap s.heap [] := va_S.rf
  unfold pX3_readPiece at h
  refine lv_aload_n hx hb dX3_readPiece_0 rfl (lv_at hl 1 rfl) ?_
  refine gCo_8 Cc hPu (tw_118 hts) dX3_readPiece_1 ?_
  refine lv_bipush (v := 8) hx hb dX3_readPiece_4 (by decide) ?_
  refine lv_icmp_lt (tgt := 11) hx hb dX3_readPiece_6 (by decide) (fun c6 => ?_) (fun c6 => ?_)
  · have h := h.1 c6
    refine lv_aload_n hx hb dX3_readPiece_11 rfl (lv_at hl 0 rfl) ?_
    refine kWv (kV Cc (mX3_step l D κ a hIt h) (qX3_step hts (tw_567 hts) ⟨(Nat.le_of_ble_eq_true rfl), (Nat.le_of_ble_eq_true rfl)⟩) (va_recv hE.1 hPt (ci := 3) (q0 := 0) rfl rfl) (rest := []) hPt rfl hl.1 rfl (Nat.le_of_ble_eq_true rfl) dX3_readPiece_12 ⟨Nat.zero_le _, Nat.zero_le _⟩) hS (fun q h9 => Or.inl h9) (fun  u12 H1 locs1 h hB hk hS1 => ?_)
    have hPu := kpF wCo_wl hPu hDj hk
    have hPt := hB
    have hT := hT.kF (fun q h9 => hF q (Or.inl h9)) hk
    have hS := hS1
    refine lv_aload_n hx hb dX3_readPiece_15 rfl (lv_at hl 0 rfl) ?_
    refine lv_bipush (v := 9) hx hb dX3_readPiece_16 (by decide) ?_
    refine kWi (kV Cc (mX3_readNumber l D κ a hIt h) (qX3_readNumber hts (tw_649 hts) ⟨(Nat.le_of_ble_eq_true rfl), (Nat.le_of_ble_eq_true rfl)⟩) (va_recv hE.1 hPt (ci := 3) (q0 := 0) rfl rfl) (rest := []) hPt rfl hl.1 rfl (Nat.le_of_ble_eq_true rfl) dX3_readPiece_18 ⟨Nat.zero_le _, Nat.zero_le _⟩) hS (fun q h9 => Or.inl h9) (fun r18 u18 H1 locs1 h hB hk hS1 => ?_)
    have hPu := kpF wCo_wl hPu hDj hk
    have hPt := hB
    have hT := hT.kF (fun q h9 => hF q (Or.inl h9)) hk
    have hS := hS1
    refine lv_istore_n (lv' := [(3, .int r18), (0, .ref (a 0)), (1, .ref (a2 0)), (2, .int x2)]) hx hb dX3_readPiece_21 rfl hl (by decide) rfl (fun ls hl => ?_)
    refine lv_iload_n hx hb dX3_readPiece_22 rfl (lv_at hl 0 rfl) ?_
    refine lv_if_ge (tgt := 30) hx hb dX3_readPiece_23 (by decide) (fun c23 => ?_) (fun c23 => ?_)
    · have h := h.1 c23
      refine lv_aload_n hx hb dX3_readPiece_30 rfl (lv_at hl 1 rfl) ?_
      refine lv_bipush (v := 9) hx hb dX3_readPiece_31 (by decide) ?_
      refine kWi (kV Cc (mX3_readNumber l D κ a hIt h) (qX3_readNumber hts (tw_649 hts) ⟨(Nat.le_of_ble_eq_true rfl), (Nat.le_of_ble_eq_true rfl)⟩) (va_recv hE.1 hPt (ci := 3) (q0 := 0) rfl rfl) (rest := []) hPt rfl hl.1 rfl (Nat.le_of_ble_eq_true rfl) dX3_readPiece_33 ⟨Nat.zero_le _, Nat.zero_le _⟩) hS (fun q h9 => Or.inl h9) (fun r33 u33 H1 locs1 h hB hk hS1 => ?_)
      have hPu := kpF wCo_wl hPu hDj hk
      have hPt := hB
      have hT := hT.kF (fun q h9 => hF q (Or.inl h9)) hk
      have hS := hS1
      exact bX3_readPiece_36 Cc hF hIt hIu hDj x2 r18 r33 u33 σ2 _ _ hPt hPu hT hS _ (lv_sub hl [1, 2, 3, 0] rfl) h
    · have h := h.2 c23
      refine lv_iconst (v := (-1)) hx hb dX3_readPiece_26 (by decide) ?_
      refine lv_goto (tgt := 36) hx hb dX3_readPiece_27 (by decide) ?_
      exact bX3_readPiece_36 Cc hF hIt hIu hDj x2 r18 (-1) u18 σ2 _ _ hPt hPu hT hS _ (lv_sub hl [1, 2, 3, 0] rfl) h
  · have h := h.2 c6
    refine lv_iconst (v := 0) hx hb dX3_readPiece_9 (by decide) ?_
    exact W.zret (v := 0) (ty := .boolean) hx hb hr rfl (fun t ht _ => QWi.mk (u := (σ, σ2)) h ⟨hPt, hPu⟩ hS ht) hS.2.2 dX3_readPiece_10 (hlocks := hlk)
theorem qX3_readPiece {R : Room} {s : State} {args : Array Value} {own : String} {idx : Nat} (hts : ∀ w ∈ gG, w.before args s = true) (hl : (Cond.methodLink own idx yX3_readPiece).before args s = true) (hR : rX3_readPiece.frames + 1 ≤ R.frames ∧ 8 + (7 + 11) + rX3_readPiece.locals ≤ R.locals) : CallW R s args own RX3 idx yX3_readPiece cX3_readPiece 7 (some .boolean) (wz yX3_readPiece cX3_readPiece 7 (some .boolean)) rX3_readPiece 0 0 2 := ⟨kw 2 hts mw_648 rfl rfl (tw_73 hts) hl (by decide +kernel) hR, tw_647 hts, tw_17 hts⟩
abbrev rX3_readItem : Room := { frames := 6, cells := 0, slots := 0, locals := 133 }
def pX3_readItem_53 (Q : Int32 → Mx → Mx → Prop) (y0 : Int32) (σ : Mx) (σ2 : Mx) : Prop := (y0 = 0 ∨ y0 = 1) ∧ (Q y0 σ σ2)
def pX3_readItem_52 (Q : Int32 → Mx → Mx → Prop) (σ : Mx) (σ2 : Mx) : Prop := pX3_readItem_53 Q 0 σ σ2
def pX3_readItem (σ : Mx) (σ2 : Mx)  (Q : Int32 → Mx → Mx → Prop) : Prop := pX3_kindNamed σ (fun r1 => ((r1 < 0 → (pX3_isWord σ 7 (fun r19 => ((r19 = 0 → (pX3_isWord σ 8 (fun r34 => ((r34 = 0 → (pX3_readItem_52 Q σ σ2)) ∧ (¬ r34 = 0 → (pX3_readLay σ σ2 (fun r42 u42 w42 => ((r42 = 0 → (pX3_readItem_52 Q u42 w42)) ∧ (¬ r42 = 0 → (pX3_readItem_53 Q 1 u42 w42)))))))))) ∧ (¬ r19 = 0 → (pX3_readSwap σ σ2 (fun r27 u27 w27 => ((r27 = 0 ∨ r27 = 1) ∧ (Q r27 u27 w27))))))))) ∧ (¬ r1 < 0 → (pX3_readPiece σ σ2 r1 (fun r12 u12 w12 => ((r12 = 0 ∨ r12 = 1) ∧ (Q r12 u12 w12)))))))
set_option maxHeartbeats 4000000 in
set_option maxRecDepth 100000 in
theorem bX3_readItem_53 {p : Program} {l : Launch} {e : Env} {s : State} {m : MethodId} {args : Array Value} {below : List Frame} {meth : Method} {c : Code} {D : va_G} {κ : Nat → ClassId} {ρ : Nat → Nat} {ν : Nat → Nat} {N : Nat → Prop} {a : Nat → Nat} {a2 : Nat → Nat}   {Q : Int32 → Mx → Mx → Prop} (Cc : Cx D κ RX3 cX3_readItem 3 (some .boolean) p s m args meth c) (hF : ∀ q, (fun q => cA a 2 q ∨ cA a2 8 q) q → N q) (hIt : Ij a 2) (hIu : Ij a2 8) (hDj : Dj a 2 a2 8)   : ∀ (y0 : Int32) (σ : Mx) (σ2 : Mx) (H : Heap) (locs : List Loc) (hPt : va_P D classes (wTp κ a σ) H) (hPu : va_P D classes (wCo κ a2 σ2) H) (hT : SE ρ ν N s H) (hS : va_S (fun q => cA a 2 q ∨ cA a2 8 q) s.heap H locs) (ls : Array Slot) (hl : lv_has ls 3 []) (h : pX3_readItem_53 Q y0 σ σ2), W p l e rX3_readItem s m args below meth c H locs 0 0 (MQ below (QWi (fun (r : Int32) (u : Mx × Mx) => Q r u.1 u.2) (fun (u : Mx × Mx) H => va_P D classes (wTp κ a u.1) H ∧ va_P D classes (wCo κ a2 u.2) H) (fun q => cA a 2 q ∨ cA a2 8 q)) args s 0 0 (fun q => cA a 2 q ∨ cA a2 8 q)) (F0 m 53 ls [.int y0]) := by
  obtain ⟨hx, hb, hml, hown, hts, hr, hlk, hE⟩ := id Cc
  intro y0 σ σ2 H locs hPt hPu hT hS ls hl h
  unfold pX3_readItem_53 at h
  exact W.zret (v := y0) (ty := .boolean) hx hb hr (bool_nar h.1) (fun t ht _ => QWi.mk (u := (σ, σ2)) h.2 ⟨hPt, hPu⟩ hS ht) hS.2.2 dX3_readItem_53 (hlocks := hlk)
set_option maxHeartbeats 4000000 in
set_option maxRecDepth 100000 in
theorem bX3_readItem_52 {p : Program} {l : Launch} {e : Env} {s : State} {m : MethodId} {args : Array Value} {below : List Frame} {meth : Method} {c : Code} {D : va_G} {κ : Nat → ClassId} {ρ : Nat → Nat} {ν : Nat → Nat} {N : Nat → Prop} {a : Nat → Nat} {a2 : Nat → Nat}   {Q : Int32 → Mx → Mx → Prop} (Cc : Cx D κ RX3 cX3_readItem 3 (some .boolean) p s m args meth c) (hF : ∀ q, (fun q => cA a 2 q ∨ cA a2 8 q) q → N q) (hIt : Ij a 2) (hIu : Ij a2 8) (hDj : Dj a 2 a2 8)   : ∀ (σ : Mx) (σ2 : Mx) (H : Heap) (locs : List Loc) (hPt : va_P D classes (wTp κ a σ) H) (hPu : va_P D classes (wCo κ a2 σ2) H) (hT : SE ρ ν N s H) (hS : va_S (fun q => cA a 2 q ∨ cA a2 8 q) s.heap H locs) (ls : Array Slot) (hl : lv_has ls 3 []) (h : pX3_readItem_52 Q σ σ2), W p l e rX3_readItem s m args below meth c H locs 0 0 (MQ below (QWi (fun (r : Int32) (u : Mx × Mx) => Q r u.1 u.2) (fun (u : Mx × Mx) H => va_P D classes (wTp κ a u.1) H ∧ va_P D classes (wCo κ a2 u.2) H) (fun q => cA a 2 q ∨ cA a2 8 q)) args s 0 0 (fun q => cA a 2 q ∨ cA a2 8 q)) (F0 m 52 ls []) := by
  obtain ⟨hx, hb, hml, hown, hts, hr, hlk, hE⟩ := id Cc
  intro σ σ2 H locs hPt hPu hT hS ls hl h
  unfold pX3_readItem_52 at h
  refine lv_iconst (v := 0) hx hb dX3_readItem_52 (by decide) ?_
  exact bX3_readItem_53 Cc hF hIt hIu hDj 0 σ σ2 _ _ hPt hPu hT hS _ (lv_sub hl [] rfl) h
set_option maxHeartbeats 4000000 in
set_option maxRecDepth 100000 in
theorem mX3_readItem (l : Launch) (D : va_G) (κ : Nat → ClassId) (ρ : Nat → Nat) (ν : Nat → Nat) (N : Nat → Prop) (a : Nat → Nat) (a2 : Nat → Nat) {σ : Mx} {σ2 : Mx}  {Q : Int32 → Mx → Mx → Prop} (hF : ∀ q, (fun q => cA a 2 q ∨ cA a2 8 q) q → N q) (hIt : Ij a 2) (hIu : Ij a2 8) (hDj : Dj a 2 a2 8) (h : pX3_readItem σ σ2  Q) : Met l yX3_readItem (wz yX3_readItem cX3_readItem 3 (some .boolean)) rX3_readItem (va_Pc [.ref (a 0), .ref (a2 0)] (PS D κ ρ ν N (fun H => va_P D classes (wTp κ a σ) H ∧ va_P D classes (wCo κ a2 σ2) H))) (QWi (fun (r : Int32) (u : Mx × Mx) => Q r u.1 u.2) (fun (u : Mx × Mx) H => va_P D classes (wTp κ a u.1) H ∧ va_P D classes (wCo κ a2 u.2) H) (fun q => cA a 2 q ∨ cA a2 8 q)) 0 0 (fun q => cA a 2 q ∨ cA a2 8 q) := by
  refine Met_ofS l (own := RX3) (by decide) rfl (Nat.le_of_ble_eq_true rfl) (fun p e s m below meth c Cc hT hPP ls hl => ?_)
  obtain ⟨hx, hb, hml, hown, hts, hr, hlk, hE⟩ := id Cc
  have hl : lv_has ls 3 [(0, .ref (a 0)), (1, .ref (a2 0))] := hl
  obtain ⟨hPt, hPu⟩ := hPP
  have hS : va_S (fun q => cA a 2 q ∨ cA a2 8 q) s.heap s.heap [] := va_S.rf
  unfold pX3_readItem at h
  refine lv_aload_n hx hb dX3_readItem_0 rfl (lv_at hl 0 rfl) ?_
  refine kR (kVS Cc hT (mX3_kindNamed l D κ ρ ν N a h) (qX3_kindNamed hts (tw_579 hts) ⟨(Nat.le_of_ble_eq_true rfl), (Nat.le_of_ble_eq_true rfl)⟩) (va_recv hE.1 hPt (ci := 3) (q0 := 0) rfl rfl) (rest := []) hPt rfl hl.1 rfl (Nat.le_of_ble_eq_true rfl) dX3_readItem_1 ⟨Nat.zero_le _, Nat.zero_le _⟩) (fun r1 h => ?_)
  refine lv_istore_n (lv' := [(2, .int r1), (0, .ref (a 0)), (1, .ref (a2 0))]) hx hb dX3_readItem_4 rfl hl (by decide) rfl (fun ls hl => ?_)
  refine lv_iload_n hx hb dX3_readItem_5 rfl (lv_at hl 0 rfl) ?_
  refine lv_if_lt (tgt := 16) hx hb dX3_readItem_6 (by decide) (fun c6 => ?_) (fun c6 => ?_)
  · have h := h.1 c6
    refine lv_aload_n hx hb dX3_readItem_16 rfl (lv_at hl 1 rfl) ?_
    refine ldT Cc hT 7 (by decide) dX3_readItem_17 ?_
    refine kR (kVS Cc hT (mX3_isWord l D κ ρ ν N a (by decide) h) (qX3_isWord hts (tw_593 hts) ⟨(Nat.le_of_ble_eq_true rfl), (Nat.le_of_ble_eq_true rfl)⟩) (va_recv hE.1 hPt (ci := 3) (q0 := 0) rfl rfl) (rest := []) hPt rfl hl.1 rfl (Nat.le_of_ble_eq_true rfl) dX3_readItem_19 ⟨Nat.zero_le _, Nat.zero_le _⟩) (fun r19 h => ?_)
    refine lv_if_eq (tgt := 31) hx hb dX3_readItem_22 (by decide) (fun c22 => ?_) (fun c22 => ?_)
    · have h := h.1 c22
      refine lv_aload_n hx hb dX3_readItem_31 rfl (lv_at hl 1 rfl) ?_
      refine ldT Cc hT 8 (by decide) dX3_readItem_32 ?_
      refine kR (kVS Cc hT (mX3_isWord l D κ ρ ν N a (by decide) h) (qX3_isWord hts (tw_593 hts) ⟨(Nat.le_of_ble_eq_true rfl), (Nat.le_of_ble_eq_true rfl)⟩) (va_recv hE.1 hPt (ci := 3) (q0 := 0) rfl rfl) (rest := []) hPt rfl hl.1 rfl (Nat.le_of_ble_eq_true rfl) dX3_readItem_34 ⟨Nat.zero_le _, Nat.zero_le _⟩) (fun r34 h => ?_)
      refine lv_if_eq (tgt := 52) hx hb dX3_readItem_37 (by decide) (fun c37 => ?_) (fun c37 => ?_)
      · have h := h.1 c37
        exact bX3_readItem_52 Cc hF hIt hIu hDj σ σ2 _ _ hPt hPu hT hS _ (lv_sub hl [] rfl) h
      · have h := h.2 c37
        refine lv_aload_n hx hb dX3_readItem_40 rfl (lv_at hl 1 rfl) ?_
        refine lv_aload_n hx hb dX3_readItem_41 rfl (lv_at hl 2 rfl) ?_
        refine kWi (kV Cc (mX3_readLay l D κ a a2 hIt hIu hDj h) (qX3_readLay hts (tw_667 hts) ⟨(Nat.le_of_ble_eq_true rfl), (Nat.le_of_ble_eq_true rfl)⟩) (va_recv hE.1 hPt (ci := 3) (q0 := 0) rfl rfl) (rest := []) ⟨hPt, hPu⟩ rfl hl.1 rfl (Nat.le_of_ble_eq_true rfl) dX3_readItem_42 ⟨Nat.zero_le _, Nat.zero_le _⟩) hS (fun q h9 => h9) (fun r42 uu42 H1 locs1 h hB hk hS1 => ?_)
        obtain ⟨u42, w42⟩ := uu42
        obtain ⟨hB1, hB2⟩ := hB
        have hPt := hB1
        have hPu := hB2
        have hT := hT.kF (fun q h9 => hF q (h9)) hk
        have hS := hS1
        refine lv_if_eq (tgt := 52) hx hb dX3_readItem_45 (by decide) (fun c45 => ?_) (fun c45 => ?_)
        · have h := h.1 c45
          exact bX3_readItem_52 Cc hF hIt hIu hDj u42 w42 _ _ hPt hPu hT hS _ (lv_sub hl [] rfl) h
        · have h := h.2 c45
          refine lv_iconst (v := 1) hx hb dX3_readItem_48 (by decide) ?_
          refine lv_goto (tgt := 53) hx hb dX3_readItem_49 (by decide) ?_
          exact bX3_readItem_53 Cc hF hIt hIu hDj 1 u42 w42 _ _ hPt hPu hT hS _ (lv_sub hl [] rfl) h
    · have h := h.2 c22
      refine lv_aload_n hx hb dX3_readItem_25 rfl (lv_at hl 1 rfl) ?_
      refine lv_aload_n hx hb dX3_readItem_26 rfl (lv_at hl 2 rfl) ?_
      refine kWi (kV Cc (mX3_readSwap l D κ a a2 hIt hIu hDj h) (qX3_readSwap hts (tw_662 hts) ⟨(Nat.le_of_ble_eq_true rfl), (Nat.le_of_ble_eq_true rfl)⟩) (va_recv hE.1 hPt (ci := 3) (q0 := 0) rfl rfl) (rest := []) ⟨hPt, hPu⟩ rfl hl.1 rfl (Nat.le_of_ble_eq_true rfl) dX3_readItem_27 ⟨Nat.zero_le _, Nat.zero_le _⟩) hS (fun q h9 => h9) (fun r27 uu27 H1 locs1 h hB hk hS1 => ?_)
      obtain ⟨u27, w27⟩ := uu27
      obtain ⟨hB1, hB2⟩ := hB
      have hPt := hB1
      have hPu := hB2
      have hT := hT.kF (fun q h9 => hF q (h9)) hk
      have hS := hS1
      exact W.zret (v := r27) (ty := .boolean) hx hb hr (bool_nar h.1) (fun t ht _ => QWi.mk (u := (u27, w27)) h.2 ⟨hPt, hPu⟩ hS ht) hS.2.2 dX3_readItem_30 (hlocks := hlk)
  · have h := h.2 c6
    refine lv_aload_n hx hb dX3_readItem_9 rfl (lv_at hl 1 rfl) ?_
    refine lv_aload_n hx hb dX3_readItem_10 rfl (lv_at hl 2 rfl) ?_
    refine lv_iload_n hx hb dX3_readItem_11 rfl (lv_at hl 0 rfl) ?_
    refine kWi (kVS Cc hT (mX3_readPiece l D κ ρ ν N a a2 (fun q h9 => hF q (h9)) hIt hIu hDj h) (qX3_readPiece hts (tw_645 hts) ⟨(Nat.le_of_ble_eq_true rfl), (Nat.le_of_ble_eq_true rfl)⟩) (va_recv hE.1 hPt (ci := 3) (q0 := 0) rfl rfl) (rest := []) ⟨hPt, hPu⟩ rfl hl.1 rfl (Nat.le_of_ble_eq_true rfl) dX3_readItem_12 ⟨Nat.zero_le _, Nat.zero_le _⟩) hS (fun q h9 => h9) (fun r12 uu12 H1 locs1 h hB hk hS1 => ?_)
    obtain ⟨u12, w12⟩ := uu12
    obtain ⟨hB1, hB2⟩ := hB
    have hPt := hB1
    have hPu := hB2
    have hT := hT.kF (fun q h9 => hF q (h9)) hk
    have hS := hS1
    exact W.zret (v := r12) (ty := .boolean) hx hb hr (bool_nar h.1) (fun t ht _ => QWi.mk (u := (u12, w12)) h.2 ⟨hPt, hPu⟩ hS ht) hS.2.2 dX3_readItem_15 (hlocks := hlk)
theorem qX3_readItem {R : Room} {s : State} {args : Array Value} {own : String} {idx : Nat} (hts : ∀ w ∈ gG, w.before args s = true) (hl : (Cond.methodLink own idx yX3_readItem).before args s = true) (hR : rX3_readItem.frames + 1 ≤ R.frames ∧ 8 + (3 + 11) + rX3_readItem.locals ≤ R.locals) : CallW R s args own RX3 idx yX3_readItem cX3_readItem 3 (some .boolean) (wz yX3_readItem cX3_readItem 3 (some .boolean)) rX3_readItem 0 0 1 := ⟨kw 1 hts mw_578 rfl rfl (tw_73 hts) hl (by decide +kernel) hR, tw_577 hts, tw_14 hts⟩
abbrev rX3_readInto : Room := { frames := 7, cells := 0, slots := 0, locals := 155 }
def pX3_readInto_11s  (ih11 : Int32 → Mx → Mx → Prop) (Q : Int32 → Mx → Mx → Prop) (x2 : Int32) (σ : Mx) (σ2 : Mx) : Prop := ((σ 1 0) < x2 → (Q ((-1) - (σ 3 0)) σ σ2)) ∧ (¬ (σ 1 0) < x2 → (pX3_readItem σ σ2 (fun r21 u21 w21 => ((¬ r21 = 0 → ((¬ (u21 2 0) = 0 → (((u21 2 0) = 3 → (pX3_step u21 (fun u59 => (ih11 (x2 + 1) u59 w21)))) ∧ (¬ (u21 2 0) = 3 → (Q ((-1) - (u21 3 0)) u21 w21)))) ∧ ((u21 2 0) = 0 → (Q x2 u21 w21)))) ∧ (r21 = 0 → (Q ((-1) - (u21 3 0)) u21 w21))))))
noncomputable def pX3_readInto_11 (Q : Int32 → Mx → Mx → Prop) (n : Nat) : Int32 → Mx → Mx → Prop := Nat.rec (motive := fun _ => Int32 → Mx → Mx → Prop) (fun _ _ _ => False) (fun _ ih => pX3_readInto_11s ih Q) n
def pX3_readInto (σ : Mx) (σ2 : Mx)  (Q : Int32 → Mx → Mx → Prop) : Prop := pX3_step (st σ 4 0 0) (fun u6 => (∃ n, pX3_readInto_11 Q n 1 u6 σ2))
set_option maxHeartbeats 4000000 in
set_option maxRecDepth 100000 in
theorem bX3_readInto_11 {p : Program} {l : Launch} {e : Env} {s : State} {m : MethodId} {args : Array Value} {below : List Frame} {meth : Method} {c : Code} {D : va_G} {κ : Nat → ClassId} {ρ : Nat → Nat} {ν : Nat → Nat} {N : Nat → Prop} {a : Nat → Nat} {a2 : Nat → Nat}   {Q : Int32 → Mx → Mx → Prop} (Cc : Cx D κ RX3 cX3_readInto 3 (some .int) p s m args meth c) (hF : ∀ q, (fun q => cA a 2 q ∨ cA a2 8 q) q → N q) (hIt : Ij a 2) (hIu : Ij a2 8) (hDj : Dj a 2 a2 8)   (n : Nat) : ∀ (x2 : Int32) (σ : Mx) (σ2 : Mx) (H : Heap) (locs : List Loc) (hPt : va_P D classes (wTp κ a σ) H) (hPu : va_P D classes (wCo κ a2 σ2) H) (hT : SE ρ ν N s H) (hS : va_S (fun q => cA a 2 q ∨ cA a2 8 q) s.heap H locs) (ls : Array Slot) (hl : lv_has ls 3 [(0, .ref (a 0)), (1, .ref (a2 0)), (2, .int x2)]) (h : pX3_readInto_11 Q n x2 σ σ2), W p l e rX3_readInto s m args below meth c H locs 0 0 (MQ below (QWi (fun (r : Int32) (u : Mx × Mx) => Q r u.1 u.2) (fun (u : Mx × Mx) H => va_P D classes (wTp κ a u.1) H ∧ va_P D classes (wCo κ a2 u.2) H) (fun q => cA a 2 q ∨ cA a2 8 q)) args s 0 0 (fun q => cA a 2 q ∨ cA a2 8 q)) (F0 m 11 ls []) := by
  obtain ⟨hx, hb, hml, hown, hts, hr, hlk, hE⟩ := id Cc
  induction n with
  | zero =>
    intro x2 σ σ2 H locs hPt hPu hT hS ls hl h
    exact absurd h (fun z => z)
  | succ n hih11 =>
    intro x2 σ σ2 H locs hPt hPu hT hS ls hl h
    have h : pX3_readInto_11s (pX3_readInto_11 Q n) Q x2 σ σ2 := h
    unfold pX3_readInto_11s at h
    refine lv_iload_n hx hb dX3_readInto_11 rfl (lv_at hl 2 rfl) ?_
    refine lv_aload_n hx hb dX3_readInto_12 rfl (lv_at hl 0 rfl) ?_
    refine gTp_1 Cc hPt (tw_173 hts) dX3_readInto_13 ?_
    refine lv_icmp_gt (tgt := 68) hx hb dX3_readInto_16 (by decide) (fun c16 => ?_) (fun c16 => ?_)
    · have h := h.1 c16
      refine lv_iconst (v := (-1)) hx hb dX3_readInto_68 (by decide) ?_
      refine lv_aload_n hx hb dX3_readInto_69 rfl (lv_at hl 0 rfl) ?_
      refine gTp_3 Cc hPt (tw_176 hts) dX3_readInto_70 ?_
      refine lv_isub hx hb dX3_readInto_73 ?_
      exact W.iret (v := ((-1) - (σ 3 0))) hx hb hr (fun t ht _ => QWi.mk (u := (σ, σ2)) h ⟨hPt, hPu⟩ hS ht) hS.2.2 dX3_readInto_74 (hlocks := hlk)
    · have h := h.2 c16
      refine lv_aload_n hx hb dX3_readInto_19 rfl (lv_at hl 0 rfl) ?_
      refine lv_aload_n hx hb dX3_readInto_20 rfl (lv_at hl 1 rfl) ?_
      refine kWi (kVS Cc hT (mX3_readItem l D κ ρ ν N a a2 (fun q h9 => hF q (h9)) hIt hIu hDj h) (qX3_readItem hts (tw_575 hts) ⟨(Nat.le_of_ble_eq_true rfl), (Nat.le_of_ble_eq_true rfl)⟩) (va_recv hE.1 hPt (ci := 3) (q0 := 0) rfl rfl) (rest := []) ⟨hPt, hPu⟩ rfl hl.1 rfl (Nat.le_of_ble_eq_true rfl) dX3_readInto_21 ⟨Nat.zero_le _, Nat.zero_le _⟩) hS (fun q h9 => h9) (fun r21 uu21 H1 locs1 h hB hk hS1 => ?_)
      obtain ⟨u21, w21⟩ := uu21
      obtain ⟨hB1, hB2⟩ := hB
      have hPt := hB1
      have hPu := hB2
      have hT := hT.kF (fun q h9 => hF q (h9)) hk
      have hS := hS1
      refine lv_if_ne (tgt := 34) hx hb dX3_readInto_24 (by decide) (fun c24 => ?_) (fun c24 => ?_)
      · have h := h.1 c24
        refine lv_aload_n hx hb dX3_readInto_34 rfl (lv_at hl 0 rfl) ?_
        refine gTp_2 Cc hPt (tw_175 hts) dX3_readInto_35 ?_
        refine lv_if_ne (tgt := 43) hx hb dX3_readInto_38 (by decide) (fun c38 => ?_) (fun c38 => ?_)
        · have h := h.1 c38
          refine lv_aload_n hx hb dX3_readInto_43 rfl (lv_at hl 0 rfl) ?_
          refine gTp_2 Cc hPt (tw_175 hts) dX3_readInto_44 ?_
          refine lv_iconst (v := 3) hx hb dX3_readInto_47 (by decide) ?_
          refine lv_icmp_eq (tgt := 58) hx hb dX3_readInto_48 (by decide) (fun c48 => ?_) (fun c48 => ?_)
          · have h := h.1 c48
            refine lv_aload_n hx hb dX3_readInto_58 rfl (lv_at hl 0 rfl) ?_
            refine kWv (kV Cc (mX3_step l D κ a hIt h) (qX3_step hts (tw_567 hts) ⟨(Nat.le_of_ble_eq_true rfl), (Nat.le_of_ble_eq_true rfl)⟩) (va_recv hE.1 hPt (ci := 3) (q0 := 0) rfl rfl) (rest := []) hPt rfl hl.1 rfl (Nat.le_of_ble_eq_true rfl) dX3_readInto_59 ⟨Nat.zero_le _, Nat.zero_le _⟩) hS (fun q h9 => Or.inl h9) (fun  u59 H1 locs1 h hB hk hS1 => ?_)
            have hPu := kpF wCo_wl hPu hDj hk
            have hPt := hB
            have hT := hT.kF (fun q h9 => hF q (Or.inl h9)) hk
            have hS := hS1
            refine lv_iinc (v := (x2 + 1)) (lv' := [(2, .int (x2 + 1)), (0, .ref (a 0)), (1, .ref (a2 0))]) hx hb dX3_readInto_62 hl (k := 2) rfl rfl (by decide) rfl (fun ls hl => ?_)
            refine lv_goto (tgt := 11) hx hb dX3_readInto_65 (by decide) ?_
            exact hih11 (x2 + 1) u59 w21 _ _ hPt hPu hT hS _ (lv_sub hl [1, 2, 0] rfl) h
          · have h := h.2 c48
            refine lv_iconst (v := (-1)) hx hb dX3_readInto_51 (by decide) ?_
            refine lv_aload_n hx hb dX3_readInto_52 rfl (lv_at hl 0 rfl) ?_
            refine gTp_3 Cc hPt (tw_176 hts) dX3_readInto_53 ?_
            refine lv_isub hx hb dX3_readInto_56 ?_
            exact W.iret (v := ((-1) - (u21 3 0))) hx hb hr (fun t ht _ => QWi.mk (u := (u21, w21)) h ⟨hPt, hPu⟩ hS ht) hS.2.2 dX3_readInto_57 (hlocks := hlk)
        · have h := h.2 c38
          refine lv_iload_n hx hb dX3_readInto_41 rfl (lv_at hl 2 rfl) ?_
          exact W.iret (v := x2) hx hb hr (fun t ht _ => QWi.mk (u := (u21, w21)) h ⟨hPt, hPu⟩ hS ht) hS.2.2 dX3_readInto_42 (hlocks := hlk)
      · have h := h.2 c24
        refine lv_iconst (v := (-1)) hx hb dX3_readInto_27 (by decide) ?_
        refine lv_aload_n hx hb dX3_readInto_28 rfl (lv_at hl 0 rfl) ?_
        refine gTp_3 Cc hPt (tw_176 hts) dX3_readInto_29 ?_
        refine lv_isub hx hb dX3_readInto_32 ?_
        exact W.iret (v := ((-1) - (u21 3 0))) hx hb hr (fun t ht _ => QWi.mk (u := (u21, w21)) h ⟨hPt, hPu⟩ hS ht) hS.2.2 dX3_readInto_33 (hlocks := hlk)
set_option maxHeartbeats 4000000 in
set_option maxRecDepth 100000 in
theorem mX3_readInto (l : Launch) (D : va_G) (κ : Nat → ClassId) (ρ : Nat → Nat) (ν : Nat → Nat) (N : Nat → Prop) (a : Nat → Nat) (a2 : Nat → Nat) {σ : Mx} {σ2 : Mx}  {Q : Int32 → Mx → Mx → Prop} (hF : ∀ q, (fun q => cA a 2 q ∨ cA a2 8 q) q → N q) (hIt : Ij a 2) (hIu : Ij a2 8) (hDj : Dj a 2 a2 8) (h : pX3_readInto σ σ2  Q) : Met l yX3_readInto (wz yX3_readInto cX3_readInto 3 (some .int)) rX3_readInto (va_Pc [.ref (a 0), .ref (a2 0)] (PS D κ ρ ν N (fun H => va_P D classes (wTp κ a σ) H ∧ va_P D classes (wCo κ a2 σ2) H))) (QWi (fun (r : Int32) (u : Mx × Mx) => Q r u.1 u.2) (fun (u : Mx × Mx) H => va_P D classes (wTp κ a u.1) H ∧ va_P D classes (wCo κ a2 u.2) H) (fun q => cA a 2 q ∨ cA a2 8 q)) 0 0 (fun q => cA a 2 q ∨ cA a2 8 q) := by
  refine Met_ofS l (own := RX3) (by decide) rfl (Nat.le_of_ble_eq_true rfl) (fun p e s m below meth c Cc hT hPP ls hl => ?_)
  obtain ⟨hx, hb, hml, hown, hts, hr, hlk, hE⟩ := id Cc
  have hl : lv_has ls 3 [(0, .ref (a 0)), (1, .ref (a2 0))] := hl
  obtain ⟨hPt, hPu⟩ := hPP
  have hS : va_S (fun q => cA a 2 q ∨ cA a2 8 q) s.heap s.heap [] := va_S.rf
  unfold pX3_readInto at h
  refine lv_aload_n hx hb dX3_readInto_0 rfl (lv_at hl 0 rfl) ?_
  refine lv_iconst (v := 0) hx hb dX3_readInto_1 (by decide) ?_
  refine uTp_4 Cc hPt hIt hS (Or.inl ⟨0, by decide, rfl⟩) (tw_177 hts) dX3_readInto_2 (fun H1 locs1 hB hS1 hk => ?_)
  have hPu := kp1 wCo_wl hPu hDj (i0 := 0) (by decide) hk
  have hT := hT.k1 (hF _ (Or.inl ⟨0, by decide, rfl⟩)) hk
  have hPt := hB
  have hS := hS1
  refine lv_aload_n hx hb dX3_readInto_5 rfl (lv_at hl 0 rfl) ?_
  refine kWv (kV Cc (mX3_step l D κ a hIt h) (qX3_step hts (tw_567 hts) ⟨(Nat.le_of_ble_eq_true rfl), (Nat.le_of_ble_eq_true rfl)⟩) (va_recv hE.1 hPt (ci := 3) (q0 := 0) rfl rfl) (rest := []) hPt rfl hl.1 rfl (Nat.le_of_ble_eq_true rfl) dX3_readInto_6 ⟨Nat.zero_le _, Nat.zero_le _⟩) hS (fun q h9 => Or.inl h9) (fun  u6 H1 locs1 h hB hk hS1 => ?_)
  have hPu := kpF wCo_wl hPu hDj hk
  have hPt := hB
  have hT := hT.kF (fun q h9 => hF q (Or.inl h9)) hk
  have hS := hS1
  refine lv_iconst (v := 1) hx hb dX3_readInto_9 (by decide) ?_
  refine lv_istore_n (lv' := [(2, .int 1), (0, .ref (a 0)), (1, .ref (a2 0))]) hx hb dX3_readInto_10 rfl hl (by decide) rfl (fun ls hl => ?_)
  obtain ⟨n, h⟩ := h
  exact bX3_readInto_11 Cc hF hIt hIu hDj n 1 u6 σ2 _ _ hPt hPu hT hS _ (lv_sub hl [1, 2, 0] rfl) h
theorem qX3_readInto {R : Room} {s : State} {args : Array Value} {own : String} {idx : Nat} (hts : ∀ w ∈ gG, w.before args s = true) (hl : (Cond.methodLink own idx yX3_readInto).before args s = true) (hR : rX3_readInto.frames + 1 ≤ R.frames ∧ 8 + (3 + 11) + rX3_readInto.locals ≤ R.locals) : CallW R s args own RX3 idx yX3_readInto cX3_readInto 3 (some .int) (wz yX3_readInto cX3_readInto 3 (some .int)) rX3_readInto 0 0 1 := ⟨kw 1 hts mw_566 rfl rfl (tw_73 hts) hl (by decide +kernel) hR, tw_564 hts, tw_565 hts⟩
abbrev rX5_readItem : Room := { frames := 7, cells := 0, slots := 0, locals := 154 }
def pX5_readItem_31 (ih4 : Int32 → Int32 → Mx → Prop) (Q : Mx → Prop) (x2 : Int32) (y0 : Int32) (σ : Mx) : Prop := ih4 y0 (x2 + 1) σ
def pX5_readItem_144 (Q : Mx → Prop) (σ : Mx) : Prop := Q σ
def pX5_readItem_4s  (ih4 : Int32 → Int32 → Mx → Prop) (Q : Mx → Prop) (x1 : Int32) (x2 : Int32) (σ : Mx) : Prop := (7 ≤ x2 → ((x1 < 0 → (pX5_takesWord σ 7 (fun r54 u54 => ((r54 = 0 → (pX5_takesWord u54 8 (fun r98 u98 => ((r98 = 0 → (pX5_must u98 0 (fun u141 => (pX5_readItem_144 Q u141)))) ∧ (¬ r98 = 0 → (pX5_number u98 0 ((u98 16 0) - 1) (fun r112 u112 => (pX5_number u112 0 ((u112 16 0) - 1) (fun r128 u128 => (pX5_addItem u128 11 r112 r128 0 0 (fun u133 => (pX5_readItem_144 Q u133)))))))))))) ∧ (¬ r54 = 0 → (pX5_number u54 0 5 (fun r63 u63 => (pX5_number u63 0 7 (fun r71 u71 => (pX5_number u71 0 7 (fun r84 u84 => (pX5_addItem u84 10 r63 r71 r84 0 (fun u88 => (pX5_readItem_144 Q u88)))))))))))))) ∧ (¬ x1 < 0 → (pX5_readPiece σ x1 (fun u44 => (pX5_readItem_144 Q u44)))))) ∧ (¬ 7 ≤ x2 → (vp_in x2 7 ∧ (pX5_isWord σ x2.toNatClampNeg (fun r20 => ((r20 = 0 → (pX5_readItem_31 ih4 Q x2 x1 σ)) ∧ (¬ r20 = 0 → (pX5_readItem_31 ih4 Q x2 x2 σ)))))))
noncomputable def pX5_readItem_4 (Q : Mx → Prop) (n : Nat) : Int32 → Int32 → Mx → Prop := Nat.rec (motive := fun _ => Int32 → Int32 → Mx → Prop) (fun _ _ _ => False) (fun _ ih => pX5_readItem_4s ih Q) n
def pX5_readItem (σ : Mx)  (Q : Mx → Prop) : Prop := ∃ n, pX5_readItem_4 Q n (-1) 0 σ
set_option maxHeartbeats 4000000 in
set_option maxRecDepth 100000 in
theorem bX5_readItem_31 {p : Program} {l : Launch} {e : Env} {s : State} {m : MethodId} {args : Array Value} {below : List Frame} {meth : Method} {c : Code} {D : va_G} {κ : Nat → ClassId} {ρ : Nat → Nat} {ν : Nat → Nat} {N : Nat → Prop} {a : Nat → Nat}  {ih4 : Int32 → Int32 → Mx → Prop} {Q : Mx → Prop} (Cc : Cx D κ RX5 cX5_readItem 4 none p s m args meth c) (hF : ∀ q, (cA a 13) q → N q) (hIt : Ij a 13)  (hih4 : ∀ (x1 : Int32) (x2 : Int32) (σ : Mx) (H : Heap) (locs : List Loc) (hPt : va_P D classes (wMo κ ρ a σ) H) (hT : SE ρ ν N s H) (hS : va_S (cA a 13) s.heap H locs) (ls : Array Slot) (hl : lv_has ls 4 [(0, .ref (a 0)), (1, .int x1), (2, .int x2)]) (h : ih4 x1 x2 σ), W p l e rX5_readItem s m args below meth c H locs 0 0 (MQ below (QWv Q (fun u H => va_P D classes (wMo κ ρ a u) H) (cA a 13)) args s 0 0 (cA a 13)) (F0 m 4 ls [])) : ∀ (x2 : Int32) (y0 : Int32) (σ : Mx) (H : Heap) (locs : List Loc) (hPt : va_P D classes (wMo κ ρ a σ) H) (hT : SE ρ ν N s H) (hS : va_S (cA a 13) s.heap H locs) (ls : Array Slot) (hl : lv_has ls 4 [(0, .ref (a 0)), (2, .int x2)]) (h : pX5_readItem_31 ih4 Q x2 y0 σ), W p l e rX5_readItem s m args below meth c H locs 0 0 (MQ below (QWv Q (fun u H => va_P D classes (wMo κ ρ a u) H) (cA a 13)) args s 0 0 (cA a 13)) (F0 m 31 ls [.int y0]) := by
  obtain ⟨hx, hb, hml, hown, hts, hr, hlk, hE⟩ := id Cc
  intro x2 y0 σ H locs hPt hT hS ls hl h
  unfold pX5_readItem_31 at h
  refine lv_istore_n (lv' := [(1, .int y0), (0, .ref (a 0)), (2, .int x2)]) hx hb dX5_readItem_31 rfl hl (by decide) rfl (fun ls hl => ?_)
  refine lv_iinc (v := (x2 + 1)) (lv' := [(2, .int (x2 + 1)), (1, .int y0), (0, .ref (a 0))]) hx hb dX5_readItem_32 hl (k := 2) rfl rfl (by decide) rfl (fun ls hl => ?_)
  refine lv_goto (tgt := 4) hx hb dX5_readItem_35 (by decide) ?_
  exact hih4 y0 (x2 + 1) σ _ _ hPt hT hS _ (lv_sub hl [2, 1, 0] rfl) h
set_option maxHeartbeats 4000000 in
set_option maxRecDepth 100000 in
theorem bX5_readItem_144 {p : Program} {l : Launch} {e : Env} {s : State} {m : MethodId} {args : Array Value} {below : List Frame} {meth : Method} {c : Code} {D : va_G} {κ : Nat → ClassId} {ρ : Nat → Nat} {ν : Nat → Nat} {N : Nat → Prop} {a : Nat → Nat}   {Q : Mx → Prop} (Cc : Cx D κ RX5 cX5_readItem 4 none p s m args meth c) (hF : ∀ q, (cA a 13) q → N q) (hIt : Ij a 13)   : ∀ (σ : Mx) (H : Heap) (locs : List Loc) (hPt : va_P D classes (wMo κ ρ a σ) H) (hT : SE ρ ν N s H) (hS : va_S (cA a 13) s.heap H locs) (ls : Array Slot) (hl : lv_has ls 4 []) (h : pX5_readItem_144 Q σ), W p l e rX5_readItem s m args below meth c H locs 0 0 (MQ below (QWv Q (fun u H => va_P D classes (wMo κ ρ a u) H) (cA a 13)) args s 0 0 (cA a 13)) (F0 m 144 ls []) := by
  obtain ⟨hx, hb, hml, hown, hts, hr, hlk, hE⟩ := id Cc
  intro σ H locs hPt hT hS ls hl h
  unfold pX5_readItem_144 at h
  exact W.vret hx hb hr (fun t ht _ => QWv.mk (u := σ) h hPt hS ht) hS.2.2 dX5_readItem_144 (hlocks := hlk)
set_option maxHeartbeats 4000000 in
set_option maxRecDepth 100000 in
theorem bX5_readItem_4 {p : Program} {l : Launch} {e : Env} {s : State} {m : MethodId} {args : Array Value} {below : List Frame} {meth : Method} {c : Code} {D : va_G} {κ : Nat → ClassId} {ρ : Nat → Nat} {ν : Nat → Nat} {N : Nat → Prop} {a : Nat → Nat}   {Q : Mx → Prop} (Cc : Cx D κ RX5 cX5_readItem 4 none p s m args meth c) (hF : ∀ q, (cA a 13) q → N q) (hIt : Ij a 13)   (n : Nat) : ∀ (x1 : Int32) (x2 : Int32) (σ : Mx) (H : Heap) (locs : List Loc) (hPt : va_P D classes (wMo κ ρ a σ) H) (hT : SE ρ ν N s H) (hS : va_S (cA a 13) s.heap H locs) (ls : Array Slot) (hl : lv_has ls 4 [(0, .ref (a 0)), (1, .int x1), (2, .int x2)]) (h : pX5_readItem_4 Q n x1 x2 σ), W p l e rX5_readItem s m args below meth c H locs 0 0 (MQ below (QWv Q (fun u H => va_P D classes (wMo κ ρ a u) H) (cA a 13)) args s 0 0 (cA a 13)) (F0 m 4 ls []) := by
  obtain ⟨hx, hb, hml, hown, hts, hr, hlk, hE⟩ := id Cc
  induction n with
  | zero =>
    intro x1 x2 σ H locs hPt hT hS ls hl h
    exact absurd h (fun z => z)
  | succ n hih4 =>
    intro x1 x2 σ H locs hPt hT hS ls hl h
    have h : pX5_readItem_4s (pX5_readItem_4 Q n) Q x1 x2 σ := h
    unfold pX5_readItem_4s at h
    refine lv_iload_n hx hb dX5_readItem_4 rfl (lv_at hl 2 rfl) ?_
    refine lv_aload_n hx hb dX5_readItem_5 rfl (lv_at hl 0 rfl) ?_
    refine gMo_13 Cc hPt (tw_774 hts) dX5_readItem_6 ?_
    refine nMo_13 Cc hPt dX5_readItem_9 ?_
    refine lv_icmp_ge (tgt := 38) hx hb dX5_readItem_10 (by decide) (fun c10 => ?_) (fun c10 => ?_)
    · have h := h.1 c10
      refine lv_iload_n hx hb dX5_readItem_38 rfl (lv_at hl 1 rfl) ?_
      refine lv_if_lt (tgt := 50) hx hb dX5_readItem_39 (by decide) (fun c39 => ?_) (fun c39 => ?_)
      · have h := h.1 c39
        refine lv_aload_n hx hb dX5_readItem_50 rfl (lv_at hl 0 rfl) ?_
        refine ldMw Cc hT 7 (by decide) dX5_readItem_51 ?_
        refine kWi (kVS Cc hT (mX5_takesWord l D κ ρ ν N a (by decide) (fun q h9 => hF q (h9)) hIt h) (qX5_takesWord hts (tw_1161 hts) ⟨(Nat.le_of_ble_eq_true rfl), (Nat.le_of_ble_eq_true rfl)⟩) (va_recv hE.1 hPt (ci := 5) (q0 := 0) rfl rfl) (rest := []) hPt rfl hl.1 rfl (Nat.le_of_ble_eq_true rfl) dX5_readItem_54 ⟨Nat.zero_le _, Nat.zero_le _⟩) hS (fun q h9 => h9) (fun r54 u54 H1 locs1 h hB hk hS1 => ?_)
        have hPt := hB
        have hT := hT.kF (fun q h9 => hF q (h9)) hk
        have hS := hS1
        refine lv_if_eq (tgt := 94) hx hb dX5_readItem_57 (by decide) (fun c57 => ?_) (fun c57 => ?_)
        · have h := h.1 c57
          refine lv_aload_n hx hb dX5_readItem_94 rfl (lv_at hl 0 rfl) ?_
          refine ldMw Cc hT 8 (by decide) dX5_readItem_95 ?_
          refine kWi (kVS Cc hT (mX5_takesWord l D κ ρ ν N a (by decide) (fun q h9 => hF q (h9)) hIt h) (qX5_takesWord hts (tw_1161 hts) ⟨(Nat.le_of_ble_eq_true rfl), (Nat.le_of_ble_eq_true rfl)⟩) (va_recv hE.1 hPt (ci := 5) (q0 := 0) rfl rfl) (rest := []) hPt rfl hl.1 rfl (Nat.le_of_ble_eq_true rfl) dX5_readItem_98 ⟨Nat.zero_le _, Nat.zero_le _⟩) hS (fun q h9 => h9) (fun r98 u98 H1 locs1 h hB hk hS1 => ?_)
          have hPt := hB
          have hT := hT.kF (fun q h9 => hF q (h9)) hk
          have hS := hS1
          refine lv_if_eq (tgt := 139) hx hb dX5_readItem_101 (by decide) (fun c101 => ?_) (fun c101 => ?_)
          · have h := h.1 c101
            refine lv_aload_n hx hb dX5_readItem_139 rfl (lv_at hl 0 rfl) ?_
            refine lv_iconst (v := 0) hx hb dX5_readItem_140 (by decide) ?_
            refine kWv (kV Cc (mX5_must l D κ ρ a hIt h) (qX5_must hts (tw_1152 hts) ⟨(Nat.le_of_ble_eq_true rfl), (Nat.le_of_ble_eq_true rfl)⟩) (va_recv hE.1 hPt (ci := 5) (q0 := 0) rfl rfl) (rest := []) hPt rfl hl.1 rfl (Nat.le_of_ble_eq_true rfl) dX5_readItem_141 ⟨Nat.zero_le _, Nat.zero_le _⟩) hS (fun q h9 => h9) (fun  u141 H1 locs1 h hB hk hS1 => ?_)
            have hPt := hB
            have hT := hT.kF (fun q h9 => hF q (h9)) hk
            have hS := hS1
            exact bX5_readItem_144 Cc hF hIt u141 _ _ hPt hT hS _ (lv_sub hl [] rfl) h
          · have h := h.2 c101
            refine lv_aload_n hx hb dX5_readItem_104 rfl (lv_at hl 0 rfl) ?_
            refine lv_iconst (v := 0) hx hb dX5_readItem_105 (by decide) ?_
            refine lv_aload_n hx hb dX5_readItem_106 rfl (lv_at hl 0 rfl) ?_
            refine gMo_16 Cc hPt (tw_777 hts) dX5_readItem_107 ?_
            refine lv_iconst (v := 1) hx hb dX5_readItem_110 (by decide) ?_
            refine lv_isub hx hb dX5_readItem_111 ?_
            refine kWi (kV Cc (mX5_number l D κ ρ a hIt h) (qX5_number hts (tw_1156 hts) ⟨(Nat.le_of_ble_eq_true rfl), (Nat.le_of_ble_eq_true rfl)⟩) (va_recv hE.1 hPt (ci := 5) (q0 := 0) rfl rfl) (rest := []) hPt rfl hl.1 rfl (Nat.le_of_ble_eq_true rfl) dX5_readItem_112 ⟨Nat.zero_le _, Nat.zero_le _⟩) hS (fun q h9 => h9) (fun r112 u112 H1 locs1 h hB hk hS1 => ?_)
            have hPt := hB
            have hT := hT.kF (fun q h9 => hF q (h9)) hk
            have hS := hS1
            refine lv_istore_n (lv' := [(2, .int r112), (0, .ref (a 0)), (1, .int x1)]) hx hb dX5_readItem_115 rfl hl (by decide) rfl (fun ls hl => ?_)
            refine lv_aload_n hx hb dX5_readItem_116 rfl (lv_at hl 1 rfl) ?_
            refine lv_bipush (v := 11) hx hb dX5_readItem_117 (by decide) ?_
            refine lv_iload_n hx hb dX5_readItem_119 rfl (lv_at hl 0 rfl) ?_
            refine lv_aload_n hx hb dX5_readItem_120 rfl (lv_at hl 1 rfl) ?_
            refine lv_iconst (v := 0) hx hb dX5_readItem_121 (by decide) ?_
            refine lv_aload_n hx hb dX5_readItem_122 rfl (lv_at hl 1 rfl) ?_
            refine gMo_16 Cc hPt (tw_777 hts) dX5_readItem_123 ?_
            refine lv_iconst (v := 1) hx hb dX5_readItem_126 (by decide) ?_
            refine lv_isub hx hb dX5_readItem_127 ?_
            refine kWi (kV Cc (mX5_number l D κ ρ a hIt h) (qX5_number hts (tw_1156 hts) ⟨(Nat.le_of_ble_eq_true rfl), (Nat.le_of_ble_eq_true rfl)⟩) (va_recv hE.1 hPt (ci := 5) (q0 := 0) rfl rfl) (rest := [.int r112, .int 11, .ref (a 0)]) hPt rfl hl.1 rfl (Nat.le_of_ble_eq_true rfl) dX5_readItem_128 ⟨Nat.zero_le _, Nat.zero_le _⟩) hS (fun q h9 => h9) (fun r128 u128 H1 locs1 h hB hk hS1 => ?_)
            have hPt := hB
            have hT := hT.kF (fun q h9 => hF q (h9)) hk
            have hS := hS1
            refine lv_iconst (v := 0) hx hb dX5_readItem_131 (by decide) ?_
            refine lv_iconst (v := 0) hx hb dX5_readItem_132 (by decide) ?_
            refine kWv (kV Cc (mX5_addItem l D κ ρ a hIt h) (qX5_addItem hts (tw_1166 hts) ⟨(Nat.le_of_ble_eq_true rfl), (Nat.le_of_ble_eq_true rfl)⟩) (va_recv hE.1 hPt (ci := 5) (q0 := 0) rfl rfl) (rest := []) hPt rfl hl.1 rfl (Nat.le_of_ble_eq_true rfl) dX5_readItem_133 ⟨Nat.zero_le _, Nat.zero_le _⟩) hS (fun q h9 => h9) (fun  u133 H1 locs1 h hB hk hS1 => ?_)
            have hPt := hB
            have hT := hT.kF (fun q h9 => hF q (h9)) hk
            have hS := hS1
            refine lv_goto (tgt := 144) hx hb dX5_readItem_136 (by decide) ?_
            exact bX5_readItem_144 Cc hF hIt u133 _ _ hPt hT hS _ (lv_sub hl [] rfl) h
        · have h := h.2 c57
          refine lv_aload_n hx hb dX5_readItem_60 rfl (lv_at hl 0 rfl) ?_
          refine lv_iconst (v := 0) hx hb dX5_readItem_61 (by decide) ?_
          refine lv_iconst (v := 5) hx hb dX5_readItem_62 (by decide) ?_
          refine kWi (kV Cc (mX5_number l D κ ρ a hIt h) (qX5_number hts (tw_1156 hts) ⟨(Nat.le_of_ble_eq_true rfl), (Nat.le_of_ble_eq_true rfl)⟩) (va_recv hE.1 hPt (ci := 5) (q0 := 0) rfl rfl) (rest := []) hPt rfl hl.1 rfl (Nat.le_of_ble_eq_true rfl) dX5_readItem_63 ⟨Nat.zero_le _, Nat.zero_le _⟩) hS (fun q h9 => h9) (fun r63 u63 H1 locs1 h hB hk hS1 => ?_)
          have hPt := hB
          have hT := hT.kF (fun q h9 => hF q (h9)) hk
          have hS := hS1
          refine lv_istore_n (lv' := [(2, .int r63), (0, .ref (a 0)), (1, .int x1)]) hx hb dX5_readItem_66 rfl hl (by decide) rfl (fun ls hl => ?_)
          refine lv_aload_n hx hb dX5_readItem_67 rfl (lv_at hl 1 rfl) ?_
          refine lv_iconst (v := 0) hx hb dX5_readItem_68 (by decide) ?_
          refine lv_bipush (v := 7) hx hb dX5_readItem_69 (by decide) ?_
          refine kWi (kV Cc (mX5_number l D κ ρ a hIt h) (qX5_number hts (tw_1156 hts) ⟨(Nat.le_of_ble_eq_true rfl), (Nat.le_of_ble_eq_true rfl)⟩) (va_recv hE.1 hPt (ci := 5) (q0 := 0) rfl rfl) (rest := []) hPt rfl hl.1 rfl (Nat.le_of_ble_eq_true rfl) dX5_readItem_71 ⟨Nat.zero_le _, Nat.zero_le _⟩) hS (fun q h9 => h9) (fun r71 u71 H1 locs1 h hB hk hS1 => ?_)
          have hPt := hB
          have hT := hT.kF (fun q h9 => hF q (h9)) hk
          have hS := hS1
          refine lv_istore_n (lv' := [(3, .int r71), (2, .int r63), (0, .ref (a 0)), (1, .int x1)]) hx hb dX5_readItem_74 rfl hl (by decide) rfl (fun ls hl => ?_)
          refine lv_aload_n hx hb dX5_readItem_75 rfl (lv_at hl 2 rfl) ?_
          refine lv_bipush (v := 10) hx hb dX5_readItem_76 (by decide) ?_
          refine lv_iload_n hx hb dX5_readItem_78 rfl (lv_at hl 1 rfl) ?_
          refine lv_iload_n hx hb dX5_readItem_79 rfl (lv_at hl 0 rfl) ?_
          refine lv_aload_n hx hb dX5_readItem_80 rfl (lv_at hl 2 rfl) ?_
          refine lv_iconst (v := 0) hx hb dX5_readItem_81 (by decide) ?_
          refine lv_bipush (v := 7) hx hb dX5_readItem_82 (by decide) ?_
          refine kWi (kV Cc (mX5_number l D κ ρ a hIt h) (qX5_number hts (tw_1156 hts) ⟨(Nat.le_of_ble_eq_true rfl), (Nat.le_of_ble_eq_true rfl)⟩) (va_recv hE.1 hPt (ci := 5) (q0 := 0) rfl rfl) (rest := [.int r71, .int r63, .int 10, .ref (a 0)]) hPt rfl hl.1 rfl (Nat.le_of_ble_eq_true rfl) dX5_readItem_84 ⟨Nat.zero_le _, Nat.zero_le _⟩) hS (fun q h9 => h9) (fun r84 u84 H1 locs1 h hB hk hS1 => ?_)
          have hPt := hB
          have hT := hT.kF (fun q h9 => hF q (h9)) hk
          have hS := hS1
          refine lv_iconst (v := 0) hx hb dX5_readItem_87 (by decide) ?_
          refine kWv (kV Cc (mX5_addItem l D κ ρ a hIt h) (qX5_addItem hts (tw_1166 hts) ⟨(Nat.le_of_ble_eq_true rfl), (Nat.le_of_ble_eq_true rfl)⟩) (va_recv hE.1 hPt (ci := 5) (q0 := 0) rfl rfl) (rest := []) hPt rfl hl.1 rfl (Nat.le_of_ble_eq_true rfl) dX5_readItem_88 ⟨Nat.zero_le _, Nat.zero_le _⟩) hS (fun q h9 => h9) (fun  u88 H1 locs1 h hB hk hS1 => ?_)
          have hPt := hB
          have hT := hT.kF (fun q h9 => hF q (h9)) hk
          have hS := hS1
          refine lv_goto (tgt := 144) hx hb dX5_readItem_91 (by decide) ?_
          exact bX5_readItem_144 Cc hF hIt u88 _ _ hPt hT hS _ (lv_sub hl [] rfl) h
      · have h := h.2 c39
        refine lv_aload_n hx hb dX5_readItem_42 rfl (lv_at hl 0 rfl) ?_
        refine lv_iload_n hx hb dX5_readItem_43 rfl (lv_at hl 1 rfl) ?_
        refine kWv (kVS Cc hT (mX5_readPiece l D κ ρ ν N a (fun q h9 => hF q (h9)) hIt h) (qX5_readPiece hts (tw_1148 hts) ⟨(Nat.le_of_ble_eq_true rfl), (Nat.le_of_ble_eq_true rfl)⟩) (va_recv hE.1 hPt (ci := 5) (q0 := 0) rfl rfl) (rest := []) hPt rfl hl.1 rfl (Nat.le_of_ble_eq_true rfl) dX5_readItem_44 ⟨Nat.zero_le _, Nat.zero_le _⟩) hS (fun q h9 => h9) (fun  u44 H1 locs1 h hB hk hS1 => ?_)
        have hPt := hB
        have hT := hT.kF (fun q h9 => hF q (h9)) hk
        have hS := hS1
        refine lv_goto (tgt := 144) hx hb dX5_readItem_47 (by decide) ?_
        exact bX5_readItem_144 Cc hF hIt u44 _ _ hPt hT hS _ (lv_sub hl [] rfl) h
    · have h := h.2 c10
      refine lv_aload_n hx hb dX5_readItem_13 rfl (lv_at hl 0 rfl) ?_
      refine lv_aload_n hx hb dX5_readItem_14 rfl (lv_at hl 0 rfl) ?_
      refine gMo_13 Cc hPt (tw_774 hts) dX5_readItem_15 ?_
      refine lv_iload_n hx hb dX5_readItem_18 rfl (lv_at hl 2 rfl) ?_
      refine lMo_13 Cc hPt h.1 dX5_readItem_19 ?_
      have hj19 : x2.toNatClampNeg < 11 := Nat.lt_of_lt_of_le (vin_lt h.1) (by decide)
      have h := h.2
      refine kR (kVS Cc hT (mX5_isWord l D κ ρ ν N a hj19 h) (qX5_isWord hts (tw_1142 hts) ⟨(Nat.le_of_ble_eq_true rfl), (Nat.le_of_ble_eq_true rfl)⟩) (va_recv hE.1 hPt (ci := 5) (q0 := 0) rfl rfl) (rest := []) hPt rfl hl.1 rfl (Nat.le_of_ble_eq_true rfl) dX5_readItem_20 ⟨Nat.zero_le _, Nat.zero_le _⟩) (fun r20 h => ?_)
      refine lv_if_eq (tgt := 30) hx hb dX5_readItem_23 (by decide) (fun c23 => ?_) (fun c23 => ?_)
      · have h := h.1 c23
        refine lv_iload_n hx hb dX5_readItem_30 rfl (lv_at hl 1 rfl) ?_
        exact bX5_readItem_31 Cc hF hIt hih4 x2 x1 σ _ _ hPt hT hS _ (lv_sub hl [0, 2] rfl) h
      · have h := h.2 c23
        refine lv_iload_n hx hb dX5_readItem_26 rfl (lv_at hl 2 rfl) ?_
        refine lv_goto (tgt := 31) hx hb dX5_readItem_27 (by decide) ?_
        exact bX5_readItem_31 Cc hF hIt hih4 x2 x2 σ _ _ hPt hT hS _ (lv_sub hl [0, 2] rfl) h
set_option maxHeartbeats 4000000 in
set_option maxRecDepth 100000 in
theorem mX5_readItem (l : Launch) (D : va_G) (κ : Nat → ClassId) (ρ : Nat → Nat) (ν : Nat → Nat) (N : Nat → Prop) (a : Nat → Nat) {σ : Mx}  {Q : Mx → Prop} (hF : ∀ q, (cA a 13) q → N q) (hIt : Ij a 13) (h : pX5_readItem σ  Q) : Met l yX5_readItem (wz yX5_readItem cX5_readItem 4 none) rX5_readItem (va_Pc [.ref (a 0)] (PS D κ ρ ν N (fun H => va_P D classes (wMo κ ρ a σ) H))) (QWv Q (fun u H => va_P D classes (wMo κ ρ a u) H) (cA a 13)) 0 0 (cA a 13) := by
  refine Met_ofS l (own := RX5) (by decide) rfl (Nat.le_of_ble_eq_true rfl) (fun p e s m below meth c Cc hT hPP ls hl => ?_)
  obtain ⟨hx, hb, hml, hown, hts, hr, hlk, hE⟩ := id Cc
  have hl : lv_has ls 4 [(0, .ref (a 0))] := hl
  have hPt := hPP
  have hS : va_S (cA a 13) s.heap s.heap [] := va_S.rf
  unfold pX5_readItem at h
  refine lv_iconst (v := (-1)) hx hb dX5_readItem_0 (by decide) ?_
  refine lv_istore_n (lv' := [(1, .int (-1)), (0, .ref (a 0))]) hx hb dX5_readItem_1 rfl hl (by decide) rfl (fun ls hl => ?_)
  refine lv_iconst (v := 0) hx hb dX5_readItem_2 (by decide) ?_
  refine lv_istore_n (lv' := [(2, .int 0), (1, .int (-1)), (0, .ref (a 0))]) hx hb dX5_readItem_3 rfl hl (by decide) rfl (fun ls hl => ?_)
  obtain ⟨n, h⟩ := h
  exact bX5_readItem_4 Cc hF hIt n (-1) 0 σ _ _ hPt hT hS _ (lv_sub hl [2, 1, 0] rfl) h
theorem qX5_readItem {R : Room} {s : State} {args : Array Value} {own : String} {idx : Nat} (hts : ∀ w ∈ gG, w.before args s = true) (hl : (Cond.methodLink own idx yX5_readItem).before args s = true) (hR : rX5_readItem.frames + 1 ≤ R.frames ∧ 8 + (4 + 11) + rX5_readItem.locals ≤ R.locals) : CallW R s args own RX5 idx yX5_readItem cX5_readItem 4 none (wz yX5_readItem cX5_readItem 4 none) rX5_readItem 0 0 0 := ⟨kw 0 hts mw_1141 rfl rfl (tw_75 hts) hl (by decide +kernel) hR, tw_1140 hts, tw_61 hts⟩
abbrev rX4_text : Room := { frames := 8, cells := 0, slots := 0, locals := 177 }
def pX4_text_46 (Q : Int32 → (Nat → Mx) → Prop) (x1 : Int32) (S : Nat → Mx) : Prop := Q x1 S
def pX4_text (S : Nat → Mx)  (Q : Int32 → (Nat → Mx) → Prop) : Prop := pX1_takeFrom (S 2) (S 0) (fun u8 => (pX3_readInto ((va_up S 2 u8) 4) ((va_up S 2 u8) 2) (fun r19 u19 w19 => ((r19 < 0 → (pX4_text_46 Q r19 (va_up (va_up (va_up (va_up S 2 u8) 4 u19) 2 w19) 4 (st ((va_up (va_up (va_up S 2 u8) 4 u19) 2 w19) 4) 1 0 0)))) ∧ (¬ r19 < 0 → (pX1_takeFrom ((va_up (va_up (va_up (va_up S 2 u8) 4 u19) 2 w19) 4 (st ((va_up (va_up (va_up S 2 u8) 4 u19) 2 w19) 4) 1 0 0)) 0) ((va_up (va_up (va_up (va_up S 2 u8) 4 u19) 2 w19) 4 (st ((va_up (va_up (va_up S 2 u8) 4 u19) 2 w19) 4) 1 0 0)) 2) (fun u43 => (pX4_text_46 Q r19 (va_up (va_up (va_up (va_up (va_up S 2 u8) 4 u19) 2 w19) 4 (st ((va_up (va_up (va_up S 2 u8) 4 u19) 2 w19) 4) 1 0 0)) 0 u43)))))))))
set_option maxHeartbeats 4000000 in
set_option maxRecDepth 100000 in
theorem bX4_text_46 {p : Program} {l : Launch} {e : Env} {s : State} {m : MethodId} {args : Array Value} {below : List Frame} {meth : Method} {c : Code} {D : va_G} {κ : Nat → ClassId} {ρ : Nat → Nat} {ν : Nat → Nat} {N : Nat → Prop} {A : Nat → Nat → Nat}   {Q : Int32 → (Nat → Mx) → Prop} (Cc : Cx D κ RX4 cX4_text 2 (some .int) p s m args meth c) (hF : ∀ q, (aX A) q → N q) (hI : IX A)   : ∀ (x1 : Int32) (S : Nat → Mx) (H : Heap) (locs : List Loc) (hP : PX D κ A S H) (hT : SE ρ ν N s H) (hS : va_S (aX A) s.heap H locs) (ls : Array Slot) (hl : lv_has ls 2 [(1, .int x1)]) (h : pX4_text_46 Q x1 S), W p l e rX4_text s m args below meth c H locs 0 0 (MQ below (QWi Q (fun u H => PX D κ A u H) (aX A)) args s 0 0 (aX A)) (F0 m 46 ls []) := by
  obtain ⟨hx, hb, hml, hown, hts, hr, hlk, hE⟩ := id Cc
  intro x1 S H locs hP hT hS ls hl h
  unfold pX4_text_46 at h
  refine lv_iload_n hx hb dX4_text_46 rfl (lv_at hl 0 rfl) ?_
  exact W.iret (v := x1) hx hb hr (fun t ht _ => QWi.mk (u := S) h hP hS ht) hS.2.2 dX4_text_47 (hlocks := hlk)
set_option maxHeartbeats 4000000 in
set_option maxRecDepth 100000 in
theorem mX4_text (l : Launch) (D : va_G) (κ : Nat → ClassId) (ρ : Nat → Nat) (ν : Nat → Nat) (N : Nat → Prop) (A : Nat → Nat → Nat) {S : Nat → Mx}  {Q : Int32 → (Nat → Mx) → Prop} (hF : ∀ q, (aX A) q → N q) (hI : IX A) (h : pX4_text S  Q) : Met l yX4_text (wz yX4_text cX4_text 2 (some .int)) rX4_text (va_Pc [.ref (A 5 0)] (PS D κ ρ ν N (fun H => PX D κ A S H))) (QWi Q (fun u H => PX D κ A u H) (aX A)) 0 0 (aX A) := by
  refine Met_ofS l (own := RX4) (by decide) rfl (Nat.le_of_ble_eq_true rfl) (fun p e s m below meth c Cc hT hPP ls hl => ?_)
  obtain ⟨hx, hb, hml, hown, hts, hr, hlk, hE⟩ := id Cc
  have hl : lv_has ls 2 [(0, .ref (A 5 0))] := hl
  have hP := hPP
  have hS : va_S (aX A) s.heap s.heap [] := va_S.rf
  unfold pX4_text at h
  refine lv_aload_n hx hb dX4_text_0 rfl (lv_at hl 0 rfl) ?_
  refine gSf_2 Cc hP.c5 (tw_211 hts) dX4_text_1 ?_
  refine lv_aload_n hx hb dX4_text_4 rfl (lv_at hl 0 rfl) ?_
  refine gSf_0 Cc hP.c5 (tw_209 hts) dX4_text_5 ?_
  refine kWv (kV Cc (mX1_takeFrom l D κ (A 2) (A 0) (hI.ij (k := 2) (by decide)) (hI.dj (by decide) (by decide) (by decide)) h) (qX1_takeFrom hts (tw_435 hts) ⟨(Nat.le_of_ble_eq_true rfl), (Nat.le_of_ble_eq_true rfl)⟩) (va_recv hE.1 hP.c2 (ci := 1) (q0 := 0) rfl rfl) (rest := []) ⟨hP.c2, hP.c0⟩ rfl hl.1 rfl (Nat.le_of_ble_eq_true rfl) dX4_text_8 ⟨Nat.zero_le _, Nat.zero_le _⟩) hS (fun q h9 => aX_of (k := 2) (by decide) h9) (fun  u8 H1 locs1 h hB hk hS1 => ?_)
  have hP := PX.put (k := 2) (by decide) hI hP hB hk
  have hT := hT.kF (fun q h9 => hF q (aX_of (k := 2) (by decide) h9)) hk
  have hS := hS1
  refine lv_aload_n hx hb dX4_text_11 rfl (lv_at hl 0 rfl) ?_
  refine gSf_4 Cc hP.c5 (tw_213 hts) dX4_text_12 ?_
  refine lv_aload_n hx hb dX4_text_15 rfl (lv_at hl 0 rfl) ?_
  refine gSf_2 Cc hP.c5 (tw_211 hts) dX4_text_16 ?_
  refine kWi (kVS Cc hT (mX3_readInto l D κ ρ ν N (A 4) (A 2) (fun q h9 => hF q (aX_of2 (k := 4) (k2 := 2) (by decide) (by decide) h9)) (hI.ij (k := 4) (by decide)) (hI.ij (k := 2) (by decide)) (hI.dj (by decide) (by decide) (by decide)) h) (qX3_readInto hts (tw_563 hts) ⟨(Nat.le_of_ble_eq_true rfl), (Nat.le_of_ble_eq_true rfl)⟩) (va_recv hE.1 hP.c4 (ci := 3) (q0 := 0) rfl rfl) (rest := []) ⟨hP.c4, hP.c2⟩ rfl hl.1 rfl (Nat.le_of_ble_eq_true rfl) dX4_text_19 ⟨Nat.zero_le _, Nat.zero_le _⟩) hS (fun q h9 => aX_of2 (k := 4) (k2 := 2) (by decide) (by decide) h9) (fun r19 uu19 H1 locs1 h hB hk hS1 => ?_)
  obtain ⟨u19, w19⟩ := uu19
  obtain ⟨hB1, hB2⟩ := hB
  have hP := PX.put2 (k := 4) (k2 := 2) (by decide) (by decide) (by decide) hI hP hB1 hB2 hk
  have hT := hT.kF (fun q h9 => hF q (aX_of2 (k := 4) (k2 := 2) (by decide) (by decide) h9)) hk
  have hS := hS1
  refine lv_istore_n (lv' := [(1, .int r19), (0, .ref (A 5 0))]) hx hb dX4_text_22 rfl hl (by decide) rfl (fun ls hl => ?_)
  refine lv_aload_n hx hb dX4_text_23 rfl (lv_at hl 1 rfl) ?_
  refine gSf_4 Cc hP.c5 (tw_213 hts) dX4_text_24 ?_
  refine lv_iconst (v := 0) hx hb dX4_text_27 (by decide) ?_
  refine uTp_1 Cc hP.c4 (hI.ij (k := 4) (by decide)) hS (aX_of (k := 4) (by decide) ⟨0, by decide, rfl⟩) (tw_174 hts) dX4_text_28 (fun H1 locs1 hB hS1 hk => ?_)
  have hP := PX.put (k := 4) (by decide) hI hP hB (fun q _ hq => hk q (fun e => hq ⟨0, by decide, e⟩))
  have hS := hS1
  have hT := hT.k1 (hF _ (aX_of (k := 4) (by decide) ⟨0, by decide, rfl⟩)) hk
  refine lv_iload_n hx hb dX4_text_31 rfl (lv_at hl 0 rfl) ?_
  refine lv_if_lt (tgt := 46) hx hb dX4_text_32 (by decide) (fun c32 => ?_) (fun c32 => ?_)
  · have h := h.1 c32
    exact bX4_text_46 Cc hF hI r19 (va_up (va_up (va_up (va_up S 2 u8) 4 u19) 2 w19) 4 (st ((va_up (va_up (va_up S 2 u8) 4 u19) 2 w19) 4) 1 0 0)) _ _ hP hT hS _ (lv_sub hl [0] rfl) h
  · have h := h.2 c32
    refine lv_aload_n hx hb dX4_text_35 rfl (lv_at hl 1 rfl) ?_
    refine gSf_0 Cc hP.c5 (tw_209 hts) dX4_text_36 ?_
    refine lv_aload_n hx hb dX4_text_39 rfl (lv_at hl 1 rfl) ?_
    refine gSf_2 Cc hP.c5 (tw_211 hts) dX4_text_40 ?_
    refine kWv (kV Cc (mX1_takeFrom l D κ (A 0) (A 2) (hI.ij (k := 0) (by decide)) (hI.dj (by decide) (by decide) (by decide)) h) (qX1_takeFrom hts (tw_435 hts) ⟨(Nat.le_of_ble_eq_true rfl), (Nat.le_of_ble_eq_true rfl)⟩) (va_recv hE.1 hP.c0 (ci := 1) (q0 := 0) rfl rfl) (rest := []) ⟨hP.c0, hP.c2⟩ rfl hl.1 rfl (Nat.le_of_ble_eq_true rfl) dX4_text_43 ⟨Nat.zero_le _, Nat.zero_le _⟩) hS (fun q h9 => aX_of (k := 0) (by decide) h9) (fun  u43 H1 locs1 h hB hk hS1 => ?_)
    have hP := PX.put (k := 0) (by decide) hI hP hB hk
    have hT := hT.kF (fun q h9 => hF q (aX_of (k := 0) (by decide) h9)) hk
    have hS := hS1
    exact bX4_text_46 Cc hF hI r19 (va_up (va_up (va_up (va_up (va_up S 2 u8) 4 u19) 2 w19) 4 (st ((va_up (va_up (va_up S 2 u8) 4 u19) 2 w19) 4) 1 0 0)) 0 u43) _ _ hP hT hS _ (lv_sub hl [0] rfl) h
theorem qX4_text {R : Room} {s : State} {args : Array Value} {own : String} {idx : Nat} (hts : ∀ w ∈ gG, w.before args s = true) (hl : (Cond.methodLink own idx yX4_text).before args s = true) (hR : rX4_text.frames + 1 ≤ R.frames ∧ 8 + (2 + 11) + rX4_text.locals ≤ R.locals) : CallW R s args own RX4 idx yX4_text cX4_text 2 (some .int) (wz yX4_text cX4_text 2 (some .int)) rX4_text 0 0 0 := ⟨kw 0 hts mw_562 rfl rfl (tw_70 hts) hl (by decide +kernel) hR, tw_560 hts, tw_561 hts⟩
abbrev rX5_text : Room := { frames := 8, cells := 0, slots := 0, locals := 177 }
def pX5_text_111s  (ih111 : Int32 → Mx → Prop) (Q : Int32 → Mx → Prop) (x1 : Int32) (σ : Mx) : Prop := ((σ 15 0) ≤ x1 → (Q (σ 15 0) σ)) ∧ (¬ (σ 15 0) ≤ x1 → (pX5_isToldSo σ (5 * x1) (fun u123 => (ih111 (x1 + 1) u123))))
noncomputable def pX5_text_111 (Q : Int32 → Mx → Prop) (n : Nat) : Int32 → Mx → Prop := Nat.rec (motive := fun _ => Int32 → Mx → Prop) (fun _ _ => False) (fun _ ih => pX5_text_111s ih Q) n
def pX5_text_87 (Q : Int32 → Mx → Prop) (y0 : Int32) (σ : Mx) : Prop := pX5_must σ y0 (fun u87 => ((((st u87 7 0 0) 12 0) = 0 → (∃ n, pX5_text_111 Q n 0 (st u87 7 0 0))) ∧ (¬ ((st u87 7 0 0) 12 0) = 0 → (Q ((-1) - ((st u87 7 0 0) 8 0)) (st u87 7 0 0)))))
def pX5_text_74 (Q : Int32 → Mx → Prop) (σ : Mx) : Prop := (¬ (σ 10 0) = 0 → (pX5_text_87 Q 0 σ)) ∧ ((σ 10 0) = 0 → (pX5_text_87 Q 1 σ))
def pX5_text_33s  (ih33 : Mx → Prop) (Q : Int32 → Mx → Prop) (σ : Mx) : Prop := (¬ (σ 12 0) = 0 → (pX5_text_74 Q σ)) ∧ ((σ 12 0) = 0 → ((¬ (σ 10 0) = 3 → (pX5_text_74 Q σ)) ∧ ((σ 10 0) = 3 → (vp_in (σ 8 0) 120 ∧ ((¬ (σ 6 (σ 8 0).toNatClampNeg) = 59 → (pX5_text_74 Q σ)) ∧ ((σ 6 (σ 8 0).toNatClampNeg) = 59 → (pX5_must σ 1 (fun u64 => (pX5_readItem u64 (fun u68 => (ih33 u68)))))))))))
noncomputable def pX5_text_33 (Q : Int32 → Mx → Prop) (n : Nat) : Mx → Prop := Nat.rec (motive := fun _ => Mx → Prop) (fun _ => False) (fun _ ih => pX5_text_33s ih Q) n
def pX5_text (σ : Mx)  (Q : Int32 → Mx → Prop) : Prop := vp_in 1 67 ∧ (pX5_token (st (st (st (st σ 9 0 0) 12 0 0) 15 0 0) 16 0 ((st (st (st σ 9 0 0) 12 0 0) 15 0 0) 0 (1 : Int32).toNatClampNeg)) (fun u26 => (pX5_readItem u26 (fun u30 => (∃ n, pX5_text_33 Q n u30)))))
set_option maxHeartbeats 4000000 in
set_option maxRecDepth 100000 in
theorem bX5_text_111 {p : Program} {l : Launch} {e : Env} {s : State} {m : MethodId} {args : Array Value} {below : List Frame} {meth : Method} {c : Code} {D : va_G} {κ : Nat → ClassId} {ρ : Nat → Nat} {ν : Nat → Nat} {N : Nat → Prop} {a : Nat → Nat}   {Q : Int32 → Mx → Prop} (Cc : Cx D κ RX5 cX5_text 2 (some .int) p s m args meth c) (hF : ∀ q, (cA a 13) q → N q) (hIt : Ij a 13)   (n : Nat) : ∀ (x1 : Int32) (σ : Mx) (H : Heap) (locs : List Loc) (hPt : va_P D classes (wMo κ ρ a σ) H) (hT : SE ρ ν N s H) (hS : va_S (cA a 13) s.heap H locs) (ls : Array Slot) (hl : lv_has ls 2 [(0, .ref (a 0)), (1, .int x1)]) (h : pX5_text_111 Q n x1 σ), W p l e rX5_text s m args below meth c H locs 0 0 (MQ below (QWi Q (fun u H => va_P D classes (wMo κ ρ a u) H) (cA a 13)) args s 0 0 (cA a 13)) (F0 m 111 ls []) := by
  obtain ⟨hx, hb, hml, hown, hts, hr, hlk, hE⟩ := id Cc
  induction n with
  | zero =>
    intro x1 σ H locs hPt hT hS ls hl h
    exact absurd h (fun z => z)
  | succ n hih111 =>
    intro x1 σ H locs hPt hT hS ls hl h
    have h : pX5_text_111s (pX5_text_111 Q n) Q x1 σ := h
    unfold pX5_text_111s at h
    refine lv_iload_n hx hb dX5_text_111 rfl (lv_at hl 1 rfl) ?_
    refine lv_aload_n hx hb dX5_text_112 rfl (lv_at hl 0 rfl) ?_
    refine gMo_15 Cc hPt (tw_776 hts) dX5_text_113 ?_
    refine lv_icmp_ge (tgt := 132) hx hb dX5_text_116 (by decide) (fun c116 => ?_) (fun c116 => ?_)
    · have h := h.1 c116
      refine lv_aload_n hx hb dX5_text_132 rfl (lv_at hl 0 rfl) ?_
      refine gMo_15 Cc hPt (tw_776 hts) dX5_text_133 ?_
      exact W.iret (v := (σ 15 0)) hx hb hr (fun t ht _ => QWi.mk (u := σ) h hPt hS ht) hS.2.2 dX5_text_136 (hlocks := hlk)
    · have h := h.2 c116
      refine lv_aload_n hx hb dX5_text_119 rfl (lv_at hl 0 rfl) ?_
      refine lv_iconst (v := 5) hx hb dX5_text_120 (by decide) ?_
      refine lv_iload_n hx hb dX5_text_121 rfl (lv_at hl 1 rfl) ?_
      refine lv_imul hx hb dX5_text_122 ?_
      refine kWv (kV Cc (mX5_isToldSo l D κ ρ a hIt h) (qX5_isToldSo hts (tw_1172 hts) ⟨(Nat.le_of_ble_eq_true rfl), (Nat.le_of_ble_eq_true rfl)⟩) (va_recv hE.1 hPt (ci := 5) (q0 := 0) rfl rfl) (rest := []) hPt rfl hl.1 rfl (Nat.le_of_ble_eq_true rfl) dX5_text_123 ⟨Nat.zero_le _, Nat.zero_le _⟩) hS (fun q h9 => h9) (fun  u123 H1 locs1 h hB hk hS1 => ?_)
      have hPt := hB
      have hT := hT.kF (fun q h9 => hF q (h9)) hk
      have hS := hS1
      refine lv_iinc (v := (x1 + 1)) (lv' := [(1, .int (x1 + 1)), (0, .ref (a 0))]) hx hb dX5_text_126 hl (k := 1) rfl rfl (by decide) rfl (fun ls hl => ?_)
      refine lv_goto (tgt := 111) hx hb dX5_text_129 (by decide) ?_
      exact hih111 (x1 + 1) u123 _ _ hPt hT hS _ (lv_sub hl [1, 0] rfl) h
set_option maxHeartbeats 4000000 in
set_option maxRecDepth 100000 in
theorem bX5_text_87 {p : Program} {l : Launch} {e : Env} {s : State} {m : MethodId} {args : Array Value} {below : List Frame} {meth : Method} {c : Code} {D : va_G} {κ : Nat → ClassId} {ρ : Nat → Nat} {ν : Nat → Nat} {N : Nat → Prop} {a : Nat → Nat}   {Q : Int32 → Mx → Prop} (Cc : Cx D κ RX5 cX5_text 2 (some .int) p s m args meth c) (hF : ∀ q, (cA a 13) q → N q) (hIt : Ij a 13)   : ∀ (y0 : Int32) (σ : Mx) (H : Heap) (locs : List Loc) (hPt : va_P D classes (wMo κ ρ a σ) H) (hT : SE ρ ν N s H) (hS : va_S (cA a 13) s.heap H locs) (ls : Array Slot) (hl : lv_has ls 2 [(0, .ref (a 0))]) (h : pX5_text_87 Q y0 σ), W p l e rX5_text s m args below meth c H locs 0 0 (MQ below (QWi Q (fun u H => va_P D classes (wMo κ ρ a u) H) (cA a 13)) args s 0 0 (cA a 13)) (F0 m 87 ls [.int y0, .ref (a 0)]) := by
  obtain ⟨hx, hb, hml, hown, hts, hr, hlk, hE⟩ := id Cc
  intro y0 σ H locs hPt hT hS ls hl h
  unfold pX5_text_87 at h
  refine kWv (kV Cc (mX5_must l D κ ρ a hIt h) (qX5_must hts (tw_1152 hts) ⟨(Nat.le_of_ble_eq_true rfl), (Nat.le_of_ble_eq_true rfl)⟩) (va_recv hE.1 hPt (ci := 5) (q0 := 0) rfl rfl) (rest := []) hPt rfl hl.1 rfl (Nat.le_of_ble_eq_true rfl) dX5_text_87 ⟨Nat.zero_le _, Nat.zero_le _⟩) hS (fun q h9 => h9) (fun  u87 H1 locs1 h hB hk hS1 => ?_)
  have hPt := hB
  have hT := hT.kF (fun q h9 => hF q (h9)) hk
  have hS := hS1
  refine lv_aload_n hx hb dX5_text_90 rfl (lv_at hl 0 rfl) ?_
  refine lv_iconst (v := 0) hx hb dX5_text_91 (by decide) ?_
  refine uMo_7 Cc hPt hIt hS ⟨0, by decide, rfl⟩ (tw_768 hts) dX5_text_92 (fun H1 locs1 hB hS1 hk => ?_)
  have hT := hT.k1 (hF _ ⟨0, by decide, rfl⟩) hk
  have hPt := hB
  have hS := hS1
  refine lv_aload_n hx hb dX5_text_95 rfl (lv_at hl 0 rfl) ?_
  refine gMo_12 Cc hPt (tw_773 hts) dX5_text_96 ?_
  refine lv_if_eq (tgt := 109) hx hb dX5_text_99 (by decide) (fun c99 => ?_) (fun c99 => ?_)
  · have h := h.1 c99
    refine lv_iconst (v := 0) hx hb dX5_text_109 (by decide) ?_
    refine lv_istore_n (lv' := [(1, .int 0), (0, .ref (a 0))]) hx hb dX5_text_110 rfl hl (by decide) rfl (fun ls hl => ?_)
    obtain ⟨n, h⟩ := h
    exact bX5_text_111 Cc hF hIt n 0 (st u87 7 0 0) _ _ hPt hT hS _ (lv_sub hl [1, 0] rfl) h
  · have h := h.2 c99
    refine lv_iconst (v := (-1)) hx hb dX5_text_102 (by decide) ?_
    refine lv_aload_n hx hb dX5_text_103 rfl (lv_at hl 0 rfl) ?_
    refine gMo_8 Cc hPt (tw_769 hts) dX5_text_104 ?_
    refine lv_isub hx hb dX5_text_107 ?_
    exact W.iret (v := ((-1) - ((st u87 7 0 0) 8 0))) hx hb hr (fun t ht _ => QWi.mk (u := (st u87 7 0 0)) h hPt hS ht) hS.2.2 dX5_text_108 (hlocks := hlk)
set_option maxHeartbeats 4000000 in
set_option maxRecDepth 100000 in
theorem bX5_text_74 {p : Program} {l : Launch} {e : Env} {s : State} {m : MethodId} {args : Array Value} {below : List Frame} {meth : Method} {c : Code} {D : va_G} {κ : Nat → ClassId} {ρ : Nat → Nat} {ν : Nat → Nat} {N : Nat → Prop} {a : Nat → Nat}   {Q : Int32 → Mx → Prop} (Cc : Cx D κ RX5 cX5_text 2 (some .int) p s m args meth c) (hF : ∀ q, (cA a 13) q → N q) (hIt : Ij a 13)   : ∀ (σ : Mx) (H : Heap) (locs : List Loc) (hPt : va_P D classes (wMo κ ρ a σ) H) (hT : SE ρ ν N s H) (hS : va_S (cA a 13) s.heap H locs) (ls : Array Slot) (hl : lv_has ls 2 [(0, .ref (a 0))]) (h : pX5_text_74 Q σ), W p l e rX5_text s m args below meth c H locs 0 0 (MQ below (QWi Q (fun u H => va_P D classes (wMo κ ρ a u) H) (cA a 13)) args s 0 0 (cA a 13)) (F0 m 74 ls []) := by
  obtain ⟨hx, hb, hml, hown, hts, hr, hlk, hE⟩ := id Cc
  intro σ H locs hPt hT hS ls hl h
  unfold pX5_text_74 at h
  refine lv_aload_n hx hb dX5_text_74 rfl (lv_at hl 0 rfl) ?_
  refine lv_aload_n hx hb dX5_text_75 rfl (lv_at hl 0 rfl) ?_
  refine gMo_10 Cc hPt (tw_771 hts) dX5_text_76 ?_
  refine lv_if_ne (tgt := 86) hx hb dX5_text_79 (by decide) (fun c79 => ?_) (fun c79 => ?_)
  · have h := h.1 c79
    refine lv_iconst (v := 0) hx hb dX5_text_86 (by decide) ?_
    exact bX5_text_87 Cc hF hIt 0 σ _ _ hPt hT hS _ (lv_sub hl [0] rfl) h
  · have h := h.2 c79
    refine lv_iconst (v := 1) hx hb dX5_text_82 (by decide) ?_
    refine lv_goto (tgt := 87) hx hb dX5_text_83 (by decide) ?_
    exact bX5_text_87 Cc hF hIt 1 σ _ _ hPt hT hS _ (lv_sub hl [0] rfl) h
set_option maxHeartbeats 4000000 in
set_option maxRecDepth 100000 in
theorem bX5_text_33 {p : Program} {l : Launch} {e : Env} {s : State} {m : MethodId} {args : Array Value} {below : List Frame} {meth : Method} {c : Code} {D : va_G} {κ : Nat → ClassId} {ρ : Nat → Nat} {ν : Nat → Nat} {N : Nat → Prop} {a : Nat → Nat}   {Q : Int32 → Mx → Prop} (Cc : Cx D κ RX5 cX5_text 2 (some .int) p s m args meth c) (hF : ∀ q, (cA a 13) q → N q) (hIt : Ij a 13)   (n : Nat) : ∀ (σ : Mx) (H : Heap) (locs : List Loc) (hPt : va_P D classes (wMo κ ρ a σ) H) (hT : SE ρ ν N s H) (hS : va_S (cA a 13) s.heap H locs) (ls : Array Slot) (hl : lv_has ls 2 [(0, .ref (a 0))]) (h : pX5_text_33 Q n σ), W p l e rX5_text s m args below meth c H locs 0 0 (MQ below (QWi Q (fun u H => va_P D classes (wMo κ ρ a u) H) (cA a 13)) args s 0 0 (cA a 13)) (F0 m 33 ls []) := by
  obtain ⟨hx, hb, hml, hown, hts, hr, hlk, hE⟩ := id Cc
  induction n with
  | zero =>
    intro σ H locs hPt hT hS ls hl h
    exact absurd h (fun z => z)
  | succ n hih33 =>
    intro σ H locs hPt hT hS ls hl h
    have h : pX5_text_33s (pX5_text_33 Q n) Q σ := h
    unfold pX5_text_33s at h
    refine lv_aload_n hx hb dX5_text_33 rfl (lv_at hl 0 rfl) ?_
    refine gMo_12 Cc hPt (tw_773 hts) dX5_text_34 ?_
    refine lv_if_ne (tgt := 74) hx hb dX5_text_37 (by decide) (fun c37 => ?_) (fun c37 => ?_)
    · have h := h.1 c37
      exact bX5_text_74 Cc hF hIt σ _ _ hPt hT hS _ (lv_sub hl [0] rfl) h
    · have h := h.2 c37
      refine lv_aload_n hx hb dX5_text_40 rfl (lv_at hl 0 rfl) ?_
      refine gMo_10 Cc hPt (tw_771 hts) dX5_text_41 ?_
      refine lv_iconst (v := 3) hx hb dX5_text_44 (by decide) ?_
      refine lv_icmp_ne (tgt := 74) hx hb dX5_text_45 (by decide) (fun c45 => ?_) (fun c45 => ?_)
      · have h := h.1 c45
        exact bX5_text_74 Cc hF hIt σ _ _ hPt hT hS _ (lv_sub hl [0] rfl) h
      · have h := h.2 c45
        refine lv_aload_n hx hb dX5_text_48 rfl (lv_at hl 0 rfl) ?_
        refine gMo_6 Cc hPt (tw_767 hts) dX5_text_49 ?_
        refine lv_aload_n hx hb dX5_text_52 rfl (lv_at hl 0 rfl) ?_
        refine gMo_8 Cc hPt (tw_769 hts) dX5_text_53 ?_
        refine lMo_6 Cc hPt h.1 dX5_text_56 ?_
        have h := h.2
        refine lv_bipush (v := 59) hx hb dX5_text_57 (by decide) ?_
        refine lv_icmp_ne (tgt := 74) hx hb dX5_text_59 (by decide) (fun c59 => ?_) (fun c59 => ?_)
        · have h := h.1 c59
          exact bX5_text_74 Cc hF hIt σ _ _ hPt hT hS _ (lv_sub hl [0] rfl) h
        · have h := h.2 c59
          refine lv_aload_n hx hb dX5_text_62 rfl (lv_at hl 0 rfl) ?_
          refine lv_iconst (v := 1) hx hb dX5_text_63 (by decide) ?_
          refine kWv (kV Cc (mX5_must l D κ ρ a hIt h) (qX5_must hts (tw_1152 hts) ⟨(Nat.le_of_ble_eq_true rfl), (Nat.le_of_ble_eq_true rfl)⟩) (va_recv hE.1 hPt (ci := 5) (q0 := 0) rfl rfl) (rest := []) hPt rfl hl.1 rfl (Nat.le_of_ble_eq_true rfl) dX5_text_64 ⟨Nat.zero_le _, Nat.zero_le _⟩) hS (fun q h9 => h9) (fun  u64 H1 locs1 h hB hk hS1 => ?_)
          have hPt := hB
          have hT := hT.kF (fun q h9 => hF q (h9)) hk
          have hS := hS1
          refine lv_aload_n hx hb dX5_text_67 rfl (lv_at hl 0 rfl) ?_
          refine kWv (kVS Cc hT (mX5_readItem l D κ ρ ν N a (fun q h9 => hF q (h9)) hIt h) (qX5_readItem hts (tw_1138 hts) ⟨(Nat.le_of_ble_eq_true rfl), (Nat.le_of_ble_eq_true rfl)⟩) (va_recv hE.1 hPt (ci := 5) (q0 := 0) rfl rfl) (rest := []) hPt rfl hl.1 rfl (Nat.le_of_ble_eq_true rfl) dX5_text_68 ⟨Nat.zero_le _, Nat.zero_le _⟩) hS (fun q h9 => h9) (fun  u68 H1 locs1 h hB hk hS1 => ?_)
          have hPt := hB
          have hT := hT.kF (fun q h9 => hF q (h9)) hk
          have hS := hS1
          refine lv_goto (tgt := 33) hx hb dX5_text_71 (by decide) ?_
          exact hih33 u68 _ _ hPt hT hS _ (lv_sub hl [0] rfl) h
set_option maxHeartbeats 4000000 in
set_option maxRecDepth 100000 in
theorem mX5_text (l : Launch) (D : va_G) (κ : Nat → ClassId) (ρ : Nat → Nat) (ν : Nat → Nat) (N : Nat → Prop) (a : Nat → Nat) {σ : Mx}  {Q : Int32 → Mx → Prop} (hF : ∀ q, (cA a 13) q → N q) (hIt : Ij a 13) (h : pX5_text σ  Q) : Met l yX5_text (wz yX5_text cX5_text 2 (some .int)) rX5_text (va_Pc [.ref (a 0)] (PS D κ ρ ν N (fun H => va_P D classes (wMo κ ρ a σ) H))) (QWi Q (fun u H => va_P D classes (wMo κ ρ a u) H) (cA a 13)) 0 0 (cA a 13) := by
  refine Met_ofS l (own := RX5) (by decide) rfl (Nat.le_of_ble_eq_true rfl) (fun p e s m below meth c Cc hT hPP ls hl => ?_)
  obtain ⟨hx, hb, hml, hown, hts, hr, hlk, hE⟩ := id Cc
  have hl : lv_has ls 2 [(0, .ref (a 0))] := hl
  have hPt := hPP
  have hS : va_S (cA a 13) s.heap s.heap [] := va_S.rf
  unfold pX5_text at h
  refine lv_aload_n hx hb dX5_text_0 rfl (lv_at hl 0 rfl) ?_
  refine lv_iconst (v := 0) hx hb dX5_text_1 (by decide) ?_
  refine uMo_9 Cc hPt hIt hS ⟨0, by decide, rfl⟩ (tw_770 hts) dX5_text_2 (fun H1 locs1 hB hS1 hk => ?_)
  have hT := hT.k1 (hF _ ⟨0, by decide, rfl⟩) hk
  have hPt := hB
  have hS := hS1
  refine lv_aload_n hx hb dX5_text_5 rfl (lv_at hl 0 rfl) ?_
  refine lv_iconst (v := 0) hx hb dX5_text_6 (by decide) ?_
  refine uMo_12 Cc hPt hIt hS ⟨0, by decide, rfl⟩ (tw_773 hts) ⟨rfl, rfl⟩ dX5_text_7 (fun H1 locs1 hB hS1 hk => ?_)
  have hT := hT.k1 (hF _ ⟨0, by decide, rfl⟩) hk
  have hPt := hB
  have hS := hS1
  refine lv_aload_n hx hb dX5_text_10 rfl (lv_at hl 0 rfl) ?_
  refine lv_iconst (v := 0) hx hb dX5_text_11 (by decide) ?_
  refine uMo_15 Cc hPt hIt hS ⟨0, by decide, rfl⟩ (tw_776 hts) dX5_text_12 (fun H1 locs1 hB hS1 hk => ?_)
  have hT := hT.k1 (hF _ ⟨0, by decide, rfl⟩) hk
  have hPt := hB
  have hS := hS1
  refine lv_aload_n hx hb dX5_text_15 rfl (lv_at hl 0 rfl) ?_
  refine lv_aload_n hx hb dX5_text_16 rfl (lv_at hl 0 rfl) ?_
  refine gMo_0 Cc hPt (tw_761 hts) dX5_text_17 ?_
  refine lv_iconst (v := 1) hx hb dX5_text_20 (by decide) ?_
  refine lMo_0 Cc hPt h.1 dX5_text_21 ?_
  have h := h.2
  refine uMo_16 Cc hPt hIt hS ⟨0, by decide, rfl⟩ (tw_777 hts) dX5_text_22 (fun H1 locs1 hB hS1 hk => ?_)
  have hT := hT.k1 (hF _ ⟨0, by decide, rfl⟩) hk
  have hPt := hB
  have hS := hS1
  refine lv_aload_n hx hb dX5_text_25 rfl (lv_at hl 0 rfl) ?_
  refine kWv (kV Cc (mX5_token l D κ ρ a hIt h) (qX5_token hts (tw_1130 hts) ⟨(Nat.le_of_ble_eq_true rfl), (Nat.le_of_ble_eq_true rfl)⟩) (va_recv hE.1 hPt (ci := 5) (q0 := 0) rfl rfl) (rest := []) hPt rfl hl.1 rfl (Nat.le_of_ble_eq_true rfl) dX5_text_26 ⟨Nat.zero_le _, Nat.zero_le _⟩) hS (fun q h9 => h9) (fun  u26 H1 locs1 h hB hk hS1 => ?_)
  have hPt := hB
  have hT := hT.kF (fun q h9 => hF q (h9)) hk
  have hS := hS1
  refine lv_aload_n hx hb dX5_text_29 rfl (lv_at hl 0 rfl) ?_
  refine kWv (kVS Cc hT (mX5_readItem l D κ ρ ν N a (fun q h9 => hF q (h9)) hIt h) (qX5_readItem hts (tw_1138 hts) ⟨(Nat.le_of_ble_eq_true rfl), (Nat.le_of_ble_eq_true rfl)⟩) (va_recv hE.1 hPt (ci := 5) (q0 := 0) rfl rfl) (rest := []) hPt rfl hl.1 rfl (Nat.le_of_ble_eq_true rfl) dX5_text_30 ⟨Nat.zero_le _, Nat.zero_le _⟩) hS (fun q h9 => h9) (fun  u30 H1 locs1 h hB hk hS1 => ?_)
  have hPt := hB
  have hT := hT.kF (fun q h9 => hF q (h9)) hk
  have hS := hS1
  obtain ⟨n, h⟩ := h
  exact bX5_text_33 Cc hF hIt n u30 _ _ hPt hT hS _ (lv_sub hl [0] rfl) h
theorem qX5_text {R : Room} {s : State} {args : Array Value} {own : String} {idx : Nat} (hts : ∀ w ∈ gG, w.before args s = true) (hl : (Cond.methodLink own idx yX5_text).before args s = true) (hR : rX5_text.frames + 1 ≤ R.frames ∧ 8 + (2 + 11) + rX5_text.locals ≤ R.locals) : CallW R s args own RX5 idx yX5_text cX5_text 2 (some .int) (wz yX5_text cX5_text 2 (some .int)) rX5_text 0 0 0 := ⟨kw 0 hts mw_1129 rfl rfl (tw_75 hts) hl (by decide +kernel) hR, tw_1127 hts, tw_1128 hts⟩
