theorem aX_of2 {A : Nat → Nat → Nat} {k k2 q : Nat} (hk : k < 10) (hk2 : k2 < 10) (h : cA (A k) (nc k) q ∨ cA (A k2) (nc k2) q) : aX A q := h.elim (fun z => aX_of hk z) (fun z => aX_of hk2 z)
abbrev rJ3_checkIndex_8e157 : Room := { frames := 0, cells := 0, slots := 0, locals := 0 }
set_option maxHeartbeats 4000000 in
theorem mJ3n (l : Launch) (D : va_G) (κ : Nat → ClassId) {x0 x1 : Int32} {Q : Int32 → Prop} (h : ¬ x0 < 0 ∧ x0 < x1 ∧ Q x0) : Met l yJ3_checkIndex_8e157 (wz yJ3_checkIndex_8e157 cJ3_checkIndex_8e157 3 (some .int)) rJ3_checkIndex_8e157 (va_Pc [.int x0, .int x1, .null] (PE D κ (fun _ => True))) (RQ Q) 0 0 (fun _ => False) := by
  refine Met_of l (own := RJ3) (by decide) rfl (Nat.le_of_ble_eq_true rfl) (fun p e s m below meth c Cc hPP ls hl => ?_)
  obtain ⟨hx, hb, hml, hown, hts, hr, hlk, hE⟩ := id Cc
  have hl : lv_has ls 3 [(0, .int x0), (1, .int x1), (2, .null)] := hl
  refine lv_iload_n hx hb dJ3_checkIndex_8e157_0 rfl (lv_at hl 0 rfl) ?_
  refine lv_if_lt (tgt := 9) hx hb dJ3_checkIndex_8e157_1 (by decide) (fun c1 => absurd c1 h.1) (fun c1 => ?_)
  refine lv_iload_n hx hb dJ3_checkIndex_8e157_4 rfl (lv_at hl 0 rfl) ?_
  refine lv_iload_n hx hb dJ3_checkIndex_8e157_5 rfl (lv_at hl 1 rfl) ?_
  refine lv_icmp_lt (tgt := 16) hx hb dJ3_checkIndex_8e157_6 (by decide) (fun c6 => ?_) (fun c6 => absurd h.2.1 c6)
  refine lv_iload_n hx hb dJ3_checkIndex_8e157_16 rfl (lv_at hl 0 rfl) ?_
  exact W.iret (v := x0) hx hb hr (fun t ht _ => RQ.mk h.2.2 ht) (fun _ h9 => by cases h9) dJ3_checkIndex_8e157_17 (hlocks := hlk)
set_option maxHeartbeats 4000000 in
theorem mJ3r (l : Launch) (D : va_G) (κ : Nat → ClassId) {t : Nat} {x0 x1 : Int32} {Q : Int32 → Prop} (h : ¬ x0 < 0 ∧ x0 < x1 ∧ Q x0) : Met l yJ3_checkIndex_8e157 (wz yJ3_checkIndex_8e157 cJ3_checkIndex_8e157 3 (some .int)) rJ3_checkIndex_8e157 (va_Pc [.int x0, .int x1, .ref t] (PE D κ (fun _ => True))) (RQ Q) 0 0 (fun _ => False) := by
  refine Met_of l (own := RJ3) (by decide) rfl (Nat.le_of_ble_eq_true rfl) (fun p e s m below meth c Cc hPP ls hl => ?_)
  obtain ⟨hx, hb, hml, hown, hts, hr, hlk, hE⟩ := id Cc
  have hl : lv_has ls 3 [(0, .int x0), (1, .int x1), (2, .ref t)] := hl
  refine lv_iload_n hx hb dJ3_checkIndex_8e157_0 rfl (lv_at hl 0 rfl) ?_
  refine lv_if_lt (tgt := 9) hx hb dJ3_checkIndex_8e157_1 (by decide) (fun c1 => absurd c1 h.1) (fun c1 => ?_)
  refine lv_iload_n hx hb dJ3_checkIndex_8e157_4 rfl (lv_at hl 0 rfl) ?_
  refine lv_iload_n hx hb dJ3_checkIndex_8e157_5 rfl (lv_at hl 1 rfl) ?_
  refine lv_icmp_lt (tgt := 16) hx hb dJ3_checkIndex_8e157_6 (by decide) (fun c6 => ?_) (fun c6 => absurd h.2.1 c6)
  refine lv_iload_n hx hb dJ3_checkIndex_8e157_16 rfl (lv_at hl 0 rfl) ?_
  exact W.iret (v := x0) hx hb hr (fun t ht _ => RQ.mk h.2.2 ht) (fun _ h9 => by cases h9) dJ3_checkIndex_8e157_17 (hlocks := hlk)
theorem qJ3_checkIndex_8e157 {R : Room} {s : State} {args : Array Value} {own : String} {idx : Nat} (hts : ∀ w ∈ gG, w.before args s = true) (hl : (Cond.methodLink own idx yJ3_checkIndex_8e157).before args s = true) (hR : rJ3_checkIndex_8e157.frames + 1 ≤ R.frames ∧ 8 + (3 + 11) + rJ3_checkIndex_8e157.locals ≤ R.locals) : CallB R s args own idx yJ3_checkIndex_8e157 cJ3_checkIndex_8e157 3 (some .int) (wz yJ3_checkIndex_8e157 cJ3_checkIndex_8e157 3 (some .int)) rJ3_checkIndex_8e157 0 0 3 ∧ (Cond.static yJ3_checkIndex_8e157).before args s = true := ⟨kw 3 hts mw_625 rfl rfl (tw_81 hts) hl (by decide +kernel) hR, tw_624 hts⟩
abbrev rJ0_checkIndex_df160 : Room := { frames := 1, cells := 0, slots := 0, locals := 22 }
def pJ0_checkIndex_df160 (x1 x2 : Int32) (Q : Prop) : Prop := ¬ x1 < 0 ∧ x1 < x2 ∧ Q
set_option maxHeartbeats 4000000 in
theorem mJ0_checkIndex_df160 (l : Launch) (D : va_G) (κ : Nat → ClassId) (ρ : Nat → Nat) (ν : Nat → Nat) (N : Nat → Prop) {x1 x2 : Int32} {Q : Prop} (h : pJ0_checkIndex_df160 x1 x2 Q) : Met l yJ0_checkIndex_df160 (wz yJ0_checkIndex_df160 cJ0_checkIndex_df160 2 none) rJ0_checkIndex_df160 (va_Pc [.int x1, .int x2] (PS D κ ρ ν N (fun _ => True))) (RQv Q) 0 0 (fun _ => False) := by
  refine Met_ofS l (own := RJ0) (by decide) rfl (Nat.le_of_ble_eq_true rfl) (fun p e s m below meth c Cc hT hPP ls hl => ?_)
  obtain ⟨hx, hb, hml, hown, hts, hr, hlk, hE⟩ := id Cc
  have hl : lv_has ls 2 [(0, .int x1), (1, .int x2)] := hl
  unfold pJ0_checkIndex_df160 at h
  refine lv_iload_n hx hb dJ0_checkIndex_df160_0 rfl (lv_at hl 0 rfl) ?_
  refine lv_iload_n hx hb dJ0_checkIndex_df160_1 rfl (lv_at hl 1 rfl) ?_
  rcases hT.2.2.1 with hz | ⟨t0, hz⟩
  · refine va_gets hx hb hz va_S.rf hown (tw_621 hts) (fun _ h9 => h9) dJ0_checkIndex_df160_2 ?_
    refine kR (kS Cc (mJ3n l D κ (Q := fun _ => Q) h) (qJ3_checkIndex_8e157 hts (tw_623 hts) ⟨(Nat.le_of_ble_eq_true rfl), (Nat.le_of_ble_eq_true rfl)⟩) (rest := []) trivial rfl hl.1 rfl (Nat.le_of_ble_eq_true rfl) dJ0_checkIndex_df160_5 ⟨Nat.zero_le _, Nat.zero_le _⟩) (fun r5 h => ?_)
    refine lv_pop hx hb dJ0_checkIndex_df160_8 rfl ?_
    exact W.vret hx hb hr (fun t ht _ => RQv.mk h ht) (fun _ h9 => by cases h9) dJ0_checkIndex_df160_9 (hlocks := hlk)
  · refine va_gets hx hb hz va_S.rf hown (tw_621 hts) (fun _ h9 => h9) dJ0_checkIndex_df160_2 ?_
    refine kR (kS Cc (mJ3r l D κ (Q := fun _ => Q) h) (qJ3_checkIndex_8e157 hts (tw_623 hts) ⟨(Nat.le_of_ble_eq_true rfl), (Nat.le_of_ble_eq_true rfl)⟩) (rest := []) trivial rfl hl.1 rfl (Nat.le_of_ble_eq_true rfl) dJ0_checkIndex_df160_5 ⟨Nat.zero_le _, Nat.zero_le _⟩) (fun r5 h => ?_)
    refine lv_pop hx hb dJ0_checkIndex_df160_8 rfl ?_
    exact W.vret hx hb hr (fun t ht _ => RQv.mk h ht) (fun _ h9 => by cases h9) dJ0_checkIndex_df160_9 (hlocks := hlk)
theorem qJ0_checkIndex_df160 {R : Room} {s : State} {args : Array Value} {own : String} {idx : Nat} (hts : ∀ w ∈ gG, w.before args s = true) (hl : (Cond.methodLink own idx yJ0_checkIndex_df160).before args s = true) (hR : rJ0_checkIndex_df160.frames + 1 ≤ R.frames ∧ 8 + (2 + 11) + rJ0_checkIndex_df160.locals ≤ R.locals) : CallB R s args own idx yJ0_checkIndex_df160 cJ0_checkIndex_df160 2 none (wz yJ0_checkIndex_df160 cJ0_checkIndex_df160 2 none) rJ0_checkIndex_df160 0 0 2 ∧ (Cond.static yJ0_checkIndex_df160).before args s = true := ⟨kw 2 hts mw_620 rfl rfl (tw_79 hts) hl (by decide +kernel) hR, tw_619 hts⟩
