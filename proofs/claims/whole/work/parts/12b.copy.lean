abbrev rX4_copy : Room := { frames := 1, cells := 0, slots := 0, locals := 60 }
def pX4_copy_14 (Q : Int32 → (Nat → Mx) → Prop) (S : Nat → Mx) : Prop := pX4_found S 0 (fun r16 u16 => (Q r16 u16))
def pX4_copy_44 (Q : Int32 → (Nat → Mx) → Prop) (S : Nat → Mx) : Prop := pX4_found S 5 (fun r46 u46 => (Q r46 u46))
def pX4_copy_108 (Q : Int32 → (Nat → Mx) → Prop) (S : Nat → Mx) : Prop := pX4_found S 0 (fun r110 u110 => (Q r110 u110))
def pX4_copy (S : Nat → Mx) (x1 : Int32) (x2 : Int32) (x3 : Int32) (x4 : Int32) (x5 : Int32) (Q : Int32 → (Nat → Mx) → Prop) : Prop := pX4_isSheet x1 (fun r1 => ((r1 = 0 → (pX4_copy_14 Q S)) ∧ (¬ r1 = 0 → (pX4_isSheet x3 (fun r8 => ((¬ r8 = 0 → (vp_in x1 4 ∧ ((((S (x1.toNatClampNeg + 6)) 1 0) = 0 → (pX4_copy_44 Q S)) ∧ (¬ ((S (x1.toNatClampNeg + 6)) 1 0) = 0 → (vp_in x3 4 ∧ ((¬ ((S (x3.toNatClampNeg + 6)) 1 0) = 0 → (vp_in x1 4 ∧ (vp_in x3 4 ∧ ((((S (x1.toNatClampNeg + 6)) 1 0) = ((S (x3.toNatClampNeg + 6)) 1 0) → (vp_in x1 4 ∧ (pX2_hasRun (S (x1.toNatClampNeg + 6)) x2 x5 (fun r86 => ((r86 = 0 → (pX4_copy_108 Q S)) ∧ (¬ r86 = 0 → (vp_in x3 4 ∧ (pX2_hasRun (S (x3.toNatClampNeg + 6)) x4 x5 (fun r102 => ((¬ r102 = 0 → (vp_in x1 4 ∧ (vp_in x3 4 ∧ (¬ x2 < 0 ∧ ¬ x4 < 0 ∧ ¬ x5 < 0 ∧ x2.toNatClampNeg + x5.toNatClampNeg ≤ 40 ∧ x4.toNatClampNeg + x5.toNatClampNeg ≤ 40 ∧ (Q x5 (va_up S (x3.toNatClampNeg + 6) (va_up (S (x3.toNatClampNeg + 6)) 0 (va_cpy (S (x1.toNatClampNeg + 6) 0) (S (x3.toNatClampNeg + 6) 0) x2.toNatClampNeg x4.toNatClampNeg x5.toNatClampNeg)))))))) ∧ (r102 = 0 → (pX4_copy_108 Q S)))))))))))) ∧ (¬ ((S (x1.toNatClampNeg + 6)) 1 0) = ((S (x3.toNatClampNeg + 6)) 1 0) → (pX4_found S 2 (fun r73 u73 => (Q r73 u73)))))))) ∧ (((S (x3.toNatClampNeg + 6)) 1 0) = 0 → (pX4_copy_44 Q S)))))))) ∧ (r8 = 0 → (pX4_copy_14 Q S))))))))
set_option maxHeartbeats 4000000 in
set_option maxRecDepth 100000 in
theorem bX4_copy_14 {p : Program} {l : Launch} {e : Env} {s : State} {m : MethodId} {args : Array Value} {below : List Frame} {meth : Method} {c : Code} {D : va_G} {κ : Nat → ClassId} {A : Nat → Nat → Nat}   {Q : Int32 → (Nat → Mx) → Prop} (Cc : Cx D κ RX4 cX4_copy 6 (some .int) p s m args meth c) (hI : IX A)   : ∀ (S : Nat → Mx) (H : Heap) (locs : List Loc) (hP : PX D κ A S H) (hS : va_S (aX A) s.heap H locs) (ls : Array Slot) (hl : lv_has ls 6 [(0, .ref (A 5 0))]) (h : pX4_copy_14 Q S), W p l e rX4_copy s m args below meth c H locs 0 0 (MQ below (QWi Q (fun u H => PX D κ A u H) (aX A)) args s 0 0 (aX A)) (F0 m 14 ls []) := by
  obtain ⟨hx, hb, hml, hown, hts, hr, hlk, hE⟩ := id Cc
  intro S H locs hP hS ls hl h
  unfold pX4_copy_14 at h
  refine lv_aload_n hx hb dX4_copy_14 rfl (lv_at hl 0 rfl) ?_
  refine lv_iconst (v := 0) hx hb dX4_copy_15 (by decide) ?_
  refine kWi (kV Cc (mX4_found l D κ A hI h) (qX4_found hts (tw_244 hts) ⟨(Nat.le_of_ble_eq_true rfl), (Nat.le_of_ble_eq_true rfl)⟩) (va_recv hE.1 hP.c5 (ci := 4) (q0 := 0) rfl rfl) (rest := []) hP rfl hl.1 rfl (Nat.le_of_ble_eq_true rfl) dX4_copy_16 ⟨Nat.zero_le _, Nat.zero_le _⟩) hS (fun q h9 => h9) (fun r16 u16 H1 locs1 h hB hk hS1 => ?_)
  have hP := hB
  have hS := hS1
  exact W.iret (v := r16) hx hb hr (fun t ht _ => QWi.mk (u := u16) h hP hS ht) hS.2.2 dX4_copy_19 (hlocks := hlk)
set_option maxHeartbeats 4000000 in
set_option maxRecDepth 100000 in
theorem bX4_copy_44 {p : Program} {l : Launch} {e : Env} {s : State} {m : MethodId} {args : Array Value} {below : List Frame} {meth : Method} {c : Code} {D : va_G} {κ : Nat → ClassId} {A : Nat → Nat → Nat}   {Q : Int32 → (Nat → Mx) → Prop} (Cc : Cx D κ RX4 cX4_copy 6 (some .int) p s m args meth c) (hI : IX A)   : ∀ (S : Nat → Mx) (H : Heap) (locs : List Loc) (hP : PX D κ A S H) (hS : va_S (aX A) s.heap H locs) (ls : Array Slot) (hl : lv_has ls 6 [(0, .ref (A 5 0))]) (h : pX4_copy_44 Q S), W p l e rX4_copy s m args below meth c H locs 0 0 (MQ below (QWi Q (fun u H => PX D κ A u H) (aX A)) args s 0 0 (aX A)) (F0 m 44 ls []) := by
  obtain ⟨hx, hb, hml, hown, hts, hr, hlk, hE⟩ := id Cc
  intro S H locs hP hS ls hl h
  unfold pX4_copy_44 at h
  refine lv_aload_n hx hb dX4_copy_44 rfl (lv_at hl 0 rfl) ?_
  refine lv_iconst (v := 5) hx hb dX4_copy_45 (by decide) ?_
  refine kWi (kV Cc (mX4_found l D κ A hI h) (qX4_found hts (tw_244 hts) ⟨(Nat.le_of_ble_eq_true rfl), (Nat.le_of_ble_eq_true rfl)⟩) (va_recv hE.1 hP.c5 (ci := 4) (q0 := 0) rfl rfl) (rest := []) hP rfl hl.1 rfl (Nat.le_of_ble_eq_true rfl) dX4_copy_46 ⟨Nat.zero_le _, Nat.zero_le _⟩) hS (fun q h9 => h9) (fun r46 u46 H1 locs1 h hB hk hS1 => ?_)
  have hP := hB
  have hS := hS1
  exact W.iret (v := r46) hx hb hr (fun t ht _ => QWi.mk (u := u46) h hP hS ht) hS.2.2 dX4_copy_49 (hlocks := hlk)
set_option maxHeartbeats 4000000 in
set_option maxRecDepth 100000 in
theorem bX4_copy_108 {p : Program} {l : Launch} {e : Env} {s : State} {m : MethodId} {args : Array Value} {below : List Frame} {meth : Method} {c : Code} {D : va_G} {κ : Nat → ClassId} {A : Nat → Nat → Nat}   {Q : Int32 → (Nat → Mx) → Prop} (Cc : Cx D κ RX4 cX4_copy 6 (some .int) p s m args meth c) (hI : IX A)   : ∀ (S : Nat → Mx) (H : Heap) (locs : List Loc) (hP : PX D κ A S H) (hS : va_S (aX A) s.heap H locs) (ls : Array Slot) (hl : lv_has ls 6 [(0, .ref (A 5 0))]) (h : pX4_copy_108 Q S), W p l e rX4_copy s m args below meth c H locs 0 0 (MQ below (QWi Q (fun u H => PX D κ A u H) (aX A)) args s 0 0 (aX A)) (F0 m 108 ls []) := by
  obtain ⟨hx, hb, hml, hown, hts, hr, hlk, hE⟩ := id Cc
  intro S H locs hP hS ls hl h
  unfold pX4_copy_108 at h
  refine lv_aload_n hx hb dX4_copy_108 rfl (lv_at hl 0 rfl) ?_
  refine lv_iconst (v := 0) hx hb dX4_copy_109 (by decide) ?_
  refine kWi (kV Cc (mX4_found l D κ A hI h) (qX4_found hts (tw_244 hts) ⟨(Nat.le_of_ble_eq_true rfl), (Nat.le_of_ble_eq_true rfl)⟩) (va_recv hE.1 hP.c5 (ci := 4) (q0 := 0) rfl rfl) (rest := []) hP rfl hl.1 rfl (Nat.le_of_ble_eq_true rfl) dX4_copy_110 ⟨Nat.zero_le _, Nat.zero_le _⟩) hS (fun q h9 => h9) (fun r110 u110 H1 locs1 h hB hk hS1 => ?_)
  have hP := hB
  have hS := hS1
  exact W.iret (v := r110) hx hb hr (fun t ht _ => QWi.mk (u := u110) h hP hS ht) hS.2.2 dX4_copy_113 (hlocks := hlk)
set_option maxHeartbeats 4000000 in
set_option maxRecDepth 100000 in
theorem mX4_copy (l : Launch) (D : va_G) (κ : Nat → ClassId) (A : Nat → Nat → Nat) {S : Nat → Mx} {x1 : Int32} {x2 : Int32} {x3 : Int32} {x4 : Int32} {x5 : Int32} {Q : Int32 → (Nat → Mx) → Prop} (hI : IX A) (h : pX4_copy S x1 x2 x3 x4 x5 Q) : Met l yX4_copy (wz yX4_copy cX4_copy 6 (some .int)) rX4_copy (va_Pc [.ref (A 5 0), .int x1, .int x2, .int x3, .int x4, .int x5] (PE D κ (fun H => PX D κ A S H))) (QWi Q (fun u H => PX D κ A u H) (aX A)) 0 0 (aX A) := by
  refine Met_of l (own := RX4) (by decide) rfl (Nat.le_of_ble_eq_true rfl) (fun p e s m below meth c Cc hPP ls hl => ?_)
  obtain ⟨hx, hb, hml, hown, hts, hr, hlk, hE⟩ := id Cc
  have hl : lv_has ls 6 [(0, .ref (A 5 0)), (1, .int x1), (2, .int x2), (3, .int x3), (4, .int x4), (5, .int x5)] := hl
  have hP := hPP
  have hS : va_S (aX A) s.heap s.heap [] := va_S.rf
  unfold pX4_copy at h
  refine lv_iload_n hx hb dX4_copy_0 rfl (lv_at hl 1 rfl) ?_
  refine kR (kS Cc (mX4_isSheet l D κ h) (qX4_isSheet hts (tw_511 hts) ⟨(Nat.le_of_ble_eq_true rfl), (Nat.le_of_ble_eq_true rfl)⟩) (rest := []) trivial rfl hl.1 rfl (Nat.le_of_ble_eq_true rfl) dX4_copy_1 ⟨Nat.zero_le _, Nat.zero_le _⟩) (fun r1 h => ?_)
  refine lv_if_eq (tgt := 14) hx hb dX4_copy_4 (by decide) (fun c4 => ?_) (fun c4 => ?_)
  · have h := h.1 c4
    exact bX4_copy_14 Cc hI S _ _ hP hS _ (lv_sub hl [0] rfl) h
  · have h := h.2 c4
    refine lv_iload_n hx hb dX4_copy_7 rfl (lv_at hl 3 rfl) ?_
    refine kR (kS Cc (mX4_isSheet l D κ h) (qX4_isSheet hts (tw_511 hts) ⟨(Nat.le_of_ble_eq_true rfl), (Nat.le_of_ble_eq_true rfl)⟩) (rest := []) trivial rfl hl.1 rfl (Nat.le_of_ble_eq_true rfl) dX4_copy_8 ⟨Nat.zero_le _, Nat.zero_le _⟩) (fun r8 h => ?_)
    refine lv_if_ne (tgt := 20) hx hb dX4_copy_11 (by decide) (fun c11 => ?_) (fun c11 => ?_)
    · have h := h.1 c11
      refine lv_aload_n hx hb dX4_copy_20 rfl (lv_at hl 0 rfl) ?_
      refine gSf_5 Cc hP.c5 (tw_214 hts) dX4_copy_21 ?_
      refine lv_iload_n hx hb dX4_copy_24 rfl (lv_at hl 1 rfl) ?_
      refine lSf_s Cc hP.c5 h.1 dX4_copy_25 ?_
      have hj25 := vin_lt h.1
      have h := h.2
      refine gSh_1 Cc (hP.cs hj25) (tw_199 hts) dX4_copy_26 ?_
      refine lv_if_eq (tgt := 44) hx hb dX4_copy_29 (by decide) (fun c29 => ?_) (fun c29 => ?_)
      · have h := h.1 c29
        exact bX4_copy_44 Cc hI S _ _ hP hS _ (lv_sub hl [0] rfl) h
      · have h := h.2 c29
        refine lv_aload_n hx hb dX4_copy_32 rfl (lv_at hl 0 rfl) ?_
        refine gSf_5 Cc hP.c5 (tw_214 hts) dX4_copy_33 ?_
        refine lv_iload_n hx hb dX4_copy_36 rfl (lv_at hl 3 rfl) ?_
        refine lSf_s Cc hP.c5 h.1 dX4_copy_37 ?_
        have hj37 := vin_lt h.1
        have h := h.2
        refine gSh_1 Cc (hP.cs hj37) (tw_199 hts) dX4_copy_38 ?_
        refine lv_if_ne (tgt := 50) hx hb dX4_copy_41 (by decide) (fun c41 => ?_) (fun c41 => ?_)
        · have h := h.1 c41
          refine lv_aload_n hx hb dX4_copy_50 rfl (lv_at hl 0 rfl) ?_
          refine gSf_5 Cc hP.c5 (tw_214 hts) dX4_copy_51 ?_
          refine lv_iload_n hx hb dX4_copy_54 rfl (lv_at hl 1 rfl) ?_
          refine lSf_s Cc hP.c5 h.1 dX4_copy_55 ?_
          have hj55 := vin_lt h.1
          have h := h.2
          refine gSh_1 Cc (hP.cs hj55) (tw_199 hts) dX4_copy_56 ?_
          refine lv_aload_n hx hb dX4_copy_59 rfl (lv_at hl 0 rfl) ?_
          refine gSf_5 Cc hP.c5 (tw_214 hts) dX4_copy_60 ?_
          refine lv_iload_n hx hb dX4_copy_63 rfl (lv_at hl 3 rfl) ?_
          refine lSf_s Cc hP.c5 h.1 dX4_copy_64 ?_
          have hj64 := vin_lt h.1
          have h := h.2
          refine gSh_1 Cc (hP.cs hj64) (tw_199 hts) dX4_copy_65 ?_
          refine lv_icmp_eq (tgt := 77) hx hb dX4_copy_68 (by decide) (fun c68 => ?_) (fun c68 => ?_)
          · have h := h.1 c68
            refine lv_aload_n hx hb dX4_copy_77 rfl (lv_at hl 0 rfl) ?_
            refine gSf_5 Cc hP.c5 (tw_214 hts) dX4_copy_78 ?_
            refine lv_iload_n hx hb dX4_copy_81 rfl (lv_at hl 1 rfl) ?_
            refine lSf_s Cc hP.c5 h.1 dX4_copy_82 ?_
            have hj82 := vin_lt h.1
            have h := h.2
            refine lv_iload_n hx hb dX4_copy_83 rfl (lv_at hl 2 rfl) ?_
            refine lv_iload hx hb dX4_copy_84 (lv_at hl 5 rfl) ?_
            refine kR (kV Cc (mX2_hasRun l D κ (A (x1.toNatClampNeg + 6)) h) (qX2_hasRun hts (tw_705 hts) ⟨(Nat.le_of_ble_eq_true rfl), (Nat.le_of_ble_eq_true rfl)⟩) (va_recv hE.1 (hP.cs hj82) (ci := 2) (q0 := 0) rfl rfl) (rest := []) (hP.cs hj82) rfl hl.1 rfl (Nat.le_of_ble_eq_true rfl) dX4_copy_86 ⟨Nat.zero_le _, Nat.zero_le _⟩) (fun r86 h => ?_)
            refine lv_if_eq (tgt := 108) hx hb dX4_copy_89 (by decide) (fun c89 => ?_) (fun c89 => ?_)
            · have h := h.1 c89
              exact bX4_copy_108 Cc hI S _ _ hP hS _ (lv_sub hl [0] rfl) h
            · have h := h.2 c89
              refine lv_aload_n hx hb dX4_copy_92 rfl (lv_at hl 0 rfl) ?_
              refine gSf_5 Cc hP.c5 (tw_214 hts) dX4_copy_93 ?_
              refine lv_iload_n hx hb dX4_copy_96 rfl (lv_at hl 3 rfl) ?_
              refine lSf_s Cc hP.c5 h.1 dX4_copy_97 ?_
              have hj97 := vin_lt h.1
              have h := h.2
              refine lv_iload hx hb dX4_copy_98 (lv_at hl 4 rfl) ?_
              refine lv_iload hx hb dX4_copy_100 (lv_at hl 5 rfl) ?_
              refine kR (kV Cc (mX2_hasRun l D κ (A (x3.toNatClampNeg + 6)) h) (qX2_hasRun hts (tw_705 hts) ⟨(Nat.le_of_ble_eq_true rfl), (Nat.le_of_ble_eq_true rfl)⟩) (va_recv hE.1 (hP.cs hj97) (ci := 2) (q0 := 0) rfl rfl) (rest := []) (hP.cs hj97) rfl hl.1 rfl (Nat.le_of_ble_eq_true rfl) dX4_copy_102 ⟨Nat.zero_le _, Nat.zero_le _⟩) (fun r102 h => ?_)
              refine lv_if_ne (tgt := 114) hx hb dX4_copy_105 (by decide) (fun c105 => ?_) (fun c105 => ?_)
              · have h := h.1 c105
                refine lv_aload_n hx hb dX4_copy_114 rfl (lv_at hl 0 rfl) ?_
                refine gSf_5 Cc hP.c5 (tw_214 hts) dX4_copy_115 ?_
                refine lv_iload_n hx hb dX4_copy_118 rfl (lv_at hl 1 rfl) ?_
                refine lSf_s Cc hP.c5 h.1 dX4_copy_119 ?_
                have hj119 := vin_lt h.1
                have h := h.2
                refine gSh_0 Cc (hP.cs hj119) (tw_197 hts) dX4_copy_120 ?_
                refine lv_iload_n hx hb dX4_copy_123 rfl (lv_at hl 2 rfl) ?_
                refine lv_aload_n hx hb dX4_copy_124 rfl (lv_at hl 0 rfl) ?_
                refine gSf_5 Cc hP.c5 (tw_214 hts) dX4_copy_125 ?_
                refine lv_iload_n hx hb dX4_copy_128 rfl (lv_at hl 3 rfl) ?_
                refine lSf_s Cc hP.c5 h.1 dX4_copy_129 ?_
                have hj129 := vin_lt h.1
                have h := h.2
                refine gSh_0 Cc (hP.cs hj129) (tw_197 hts) dX4_copy_130 ?_
                refine lv_iload hx hb dX4_copy_133 (lv_at hl 4 rfl) ?_
                refine lv_iload hx hb dX4_copy_135 (lv_at hl 5 rfl) ?_
                refine cpX Cc hl.1 hP hI hS hj119 hj129 (tw_709 hts) (tw_441 hts) (tw_440 hts) (tw_77 hts) h.1 h.2.1 h.2.2.1 h.2.2.2.1 h.2.2.2.2.1 (Nat.le_of_ble_eq_true rfl) (Nat.le_of_ble_eq_true rfl) dX4_copy_137 (fun H1 locs1 hB hS1 => ?_)
                have h := h.2.2.2.2.2
                have hP := hB
                have hS := hS1
                refine lv_iload hx hb dX4_copy_140 (lv_at hl 5 rfl) ?_
                exact W.iret (v := x5) hx hb hr (fun t ht _ => QWi.mk (u := (va_up S (x3.toNatClampNeg + 6) (va_up (S (x3.toNatClampNeg + 6)) 0 (va_cpy (S (x1.toNatClampNeg + 6) 0) (S (x3.toNatClampNeg + 6) 0) x2.toNatClampNeg x4.toNatClampNeg x5.toNatClampNeg)))) h hP hS ht) hS.2.2 dX4_copy_142 (hlocks := hlk)
              · have h := h.2 c105
                exact bX4_copy_108 Cc hI S _ _ hP hS _ (lv_sub hl [0] rfl) h
          · have h := h.2 c68
            refine lv_aload_n hx hb dX4_copy_71 rfl (lv_at hl 0 rfl) ?_
            refine lv_iconst (v := 2) hx hb dX4_copy_72 (by decide) ?_
            refine kWi (kV Cc (mX4_found l D κ A hI h) (qX4_found hts (tw_244 hts) ⟨(Nat.le_of_ble_eq_true rfl), (Nat.le_of_ble_eq_true rfl)⟩) (va_recv hE.1 hP.c5 (ci := 4) (q0 := 0) rfl rfl) (rest := []) hP rfl hl.1 rfl (Nat.le_of_ble_eq_true rfl) dX4_copy_73 ⟨Nat.zero_le _, Nat.zero_le _⟩) hS (fun q h9 => h9) (fun r73 u73 H1 locs1 h hB hk hS1 => ?_)
            have hP := hB
            have hS := hS1
            exact W.iret (v := r73) hx hb hr (fun t ht _ => QWi.mk (u := u73) h hP hS ht) hS.2.2 dX4_copy_76 (hlocks := hlk)
        · have h := h.2 c41
          exact bX4_copy_44 Cc hI S _ _ hP hS _ (lv_sub hl [0] rfl) h
    · have h := h.2 c11
      exact bX4_copy_14 Cc hI S _ _ hP hS _ (lv_sub hl [0] rfl) h
theorem qX4_copy {R : Room} {s : State} {args : Array Value} {own : String} {idx : Nat} (hts : ∀ w ∈ gG, w.before args s = true) (hl : (Cond.methodLink own idx yX4_copy).before args s = true) (hR : rX4_copy.frames + 1 ≤ R.frames ∧ 8 + (6 + 11) + rX4_copy.locals ≤ R.locals) : CallW R s args own RX4 idx yX4_copy cX4_copy 6 (some .int) (wz yX4_copy cX4_copy 6 (some .int)) rX4_copy 0 0 5 := ⟨kw 5 hts mw_704 rfl rfl (tw_70 hts) hl (by decide +kernel) hR, tw_702 hts, tw_703 hts⟩
