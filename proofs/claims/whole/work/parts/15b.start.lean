theorem cw_ex {κ : Nat → ClassId} {A : Nat → Nat → Nat} {σ : Mx} : ∀ (k i : Nat), i < nc k → ∃ x, (cw κ A k σ)[i]? = some (A k i, x)
  | 0, 0, _ => ⟨_, rfl⟩
  | 0, 1, _ => ⟨_, rfl⟩
  | 0, 2, _ => ⟨_, rfl⟩
  | 0, 3, _ => ⟨_, rfl⟩
  | 0, 4, _ => ⟨_, rfl⟩
  | 0, 5, _ => ⟨_, rfl⟩
  | 0, 6, _ => ⟨_, rfl⟩
  | 0, 7, _ => ⟨_, rfl⟩
  | 1, 0, _ => ⟨_, rfl⟩
  | 1, 1, _ => ⟨_, rfl⟩
  | 1, 2, _ => ⟨_, rfl⟩
  | 1, 3, _ => ⟨_, rfl⟩
  | 1, 4, _ => ⟨_, rfl⟩
  | 1, 5, _ => ⟨_, rfl⟩
  | 1, 6, _ => ⟨_, rfl⟩
  | 1, 7, _ => ⟨_, rfl⟩
  | 2, 0, _ => ⟨_, rfl⟩
  | 2, 1, _ => ⟨_, rfl⟩
  | 2, 2, _ => ⟨_, rfl⟩
  | 2, 3, _ => ⟨_, rfl⟩
  | 2, 4, _ => ⟨_, rfl⟩
  | 2, 5, _ => ⟨_, rfl⟩
  | 2, 6, _ => ⟨_, rfl⟩
  | 2, 7, _ => ⟨_, rfl⟩
  | 3, 0, _ => ⟨_, rfl⟩
  | 3, 1, _ => ⟨_, rfl⟩
  | 3, 2, _ => ⟨_, rfl⟩
  | 3, 3, _ => ⟨_, rfl⟩
  | 3, 4, _ => ⟨_, rfl⟩
  | 4, 0, _ => ⟨_, rfl⟩
  | 4, 1, _ => ⟨_, rfl⟩
  | 5, 0, _ => ⟨_, rfl⟩
  | 5, 1, _ => ⟨_, rfl⟩
  | 5, 2, _ => ⟨_, rfl⟩
  | _ + 6, 0, _ => ⟨_, rfl⟩
  | _ + 6, 1, _ => ⟨_, rfl⟩
  | 0, i + 8, h => absurd h (by show ¬ i + 8 < 8; omega)
  | 1, i + 8, h => absurd h (by show ¬ i + 8 < 8; omega)
  | 2, i + 8, h => absurd h (by show ¬ i + 8 < 8; omega)
  | 3, i + 5, h => absurd h (by show ¬ i + 5 < 5; omega)
  | 4, i + 2, h => absurd h (by show ¬ i + 2 < 2; omega)
  | 5, i + 3, h => absurd h (by show ¬ i + 3 < 3; omega)
  | k + 6, i + 2, h => absurd h (by show ¬ i + 2 < 2; omega)
section GN
variable {p : Program} {l : Launch} {e : Env} {R : Room} {s : State} {m : MethodId} {args : Array Value} {below : List Frame} {meth : Method} {c : Code} {H : Heap} {locs : List Loc} {cells slots : Nat} {Q : State → Prop} {pc : Nat} {ls : Array Slot} {rest : List Value} {cc : ByteArray} {D : va_G} {κ : Nat → ClassId} {own C : String} {index nL N ci : Nat} {rt : Option FieldType} {T : u_T}
theorem xnew (Cc : Cx D κ own cc nL rt p s m args meth c) (hin : ∀ w ∈ u_ws C T N, w ∈ gG) (ty : Nat → FieldType) (hty : ∀ k, k < N → parseFieldDescriptor (T k).2.2.1 = some (ty k)) (hcl : (Cond.classLink own index C).before args s = true) (hinst : (Cond.instantiable C N).before args s = true) (hini : (Cond.initialized C).before args s = true)
    (hc : classes[ci]? = some (C, T, N)) {fs : List Value} (hfs : ∀ j, j < N → defaultValue (ty j) = vp_V fs j) (hcells : cells + 1 ≤ R.cells) (hslots : slots + N ≤ R.slots) (hdg : decode cc pc = .ok (.new index, 3))
    (kk : ∀ (H1 : Heap), va_P D classes [(H.size, .inr (ci, fs))] H1 → H1.size = H.size + 1 → (∀ q, q < H.size → H1[q]? = H[q]?) → W p l e R s m args below meth c H1 locs (cells + 1) (slots + N) Q (F0 m (pc + 3) ls (.ref H.size :: rest))) : W p l e R s m args below meth c H locs cells slots Q (F0 m pc ls rest) := by
  obtain ⟨hexec, hb, hml, hown, hts, hr, hlk, hE⟩ := Cc
  have hKn := hE.1.1 ci _ hc
  refine W.newcK hexec hb hown hcl hinst hini rfl hdg hcells hslots hKn.2.1 rfl fun H1 kC hkC e1 z1 o1 => ?_
  refine kk H1 (fun k x hx => ?_) z1 o1
  have hz : k < 1 := (List.getElem?_eq_some_iff.mp hx).1
  rw [show k = 0 by omega] at hx
  cases hx
  exact ⟨_, hc, (u_born ty hts hin hKn hkC e1 hty).to hfs⟩
end GN
theorem va_S.grow {A : Nat → Prop} {H0 H H1 : Heap} {locs : List Loc} (h : va_S A H0 H locs) (hz : H1.size = H.size + 1) (ho : ∀ q, q < H.size → H1[q]? = H[q]?) : va_S A H0 H1 locs := ⟨by have := h.1; omega, fun q h1 h2 => (ho q (Nat.lt_of_lt_of_le h1 h.1)).trans (h.2.1 q h1 h2), h.2.2⟩
set_option maxHeartbeats 8000000 in
set_option maxRecDepth 100000 in
/-- THE LAW, from its entry, over an invariant of the two states -/
theorem start_I {I : (Nat → Mx) → Mx → Prop} (hI : LOK I) (hI0 : I S0 σIMo) {p : Program} {e : Env} {s : State} {m : MethodId} {below : List Frame} {meth : Method} {c : Code} (l : Launch) {b L : Nat} {xs : Nat → Int32} (hL : L ≤ 3072) (C0 : lw_At p s m meth c b L xs) : W p l e room_1 s m #[Value.ref b] below meth c s.heap [] 0 0 (lw_Z below #[Value.ref b] s) (entryFrame m ([Value.ref b] : List Value).toArray 4) := by
  obtain ⟨hx, hb, hr, hml, hown, hts, hX, hbl, hlk, hgv⟩ := id C0
  have hG := gG_sub hts
  obtain ⟨ρ, ν, hT⟩ := st_SE hts hgv
  obtain ⟨D, κ, hE⟩ := st_EK hts
  have hEC := st_EC hts
  have Cc : Cx D κ R_law code 4 ret p s m #[Value.ref b] meth c := ⟨hx, hb, hml, hown, hG, hr, hlk, hE⟩
  have hS : va_S (fun q : Nat => s.heap.size ≤ q) s.heap s.heap [] := va_S.rf
  have hl := lv_entry ([.ref b]) (n := 4) (Nat.le_of_ble_eq_true rfl)
  rw [lg_entry_eq]
  generalize (lg_sl ([.ref b]) ++ List.replicate (4 - (lg_sl ([.ref b])).length) Slot.unset).toArray = ls at hl ⊢
  have hl : lv_has ls 4 [(0, .ref b)] := hl
  refine xnew (ci := 4) (fs := [.null, .null, .null, .null, .null, .null, .null, .int 0]) (C := RX4) (T := TX4) (N := 8) Cc iX4 tyX4 tyX4_ok (tw_83 hG) (tw_84 hG) (tw_70 hG) rfl (fun j hj => by match j, hj with | 0, _ => rfl | 1, _ => rfl | 2, _ => rfl | 3, _ => rfl | 4, _ => rfl | 5, _ => rfl | 6, _ => rfl | 7, _ => rfl | j + 8, hj => exact absurd hj (by omega)) (Nat.le_of_ble_eq_true rfl) (Nat.le_of_ble_eq_true rfl) dL_law_0 (fun H1 hP hz1 ho1 => ?_)
  have hT := hT.kept (fun x h1 _ => ho1 x h1)
  have hS := hS.grow hz1 ho1
  have hq0 : s.heap.size ≤ s.heap.size := Nat.le_refl _
  generalize hq0e : s.heap.size = q0 at hP hq0 ⊢
  generalize H1 = H at hP hS hT ⊢
  refine W.widen (k := 1) (n := 8) (by omega) (by omega) ?_
  refine lv_dup hx hb dL_law_3 rfl ?_
  rw [hq0e] at hS hT
  have hF0 : ∀ q, iA q0 H.size q → q0 ≤ q := fun q h => h.elim (fun z => by rw [z]; exact hq0) (fun z => by have h9 := hS.1; omega)
  refine kWvA (va_runI (Ts := gG) (As := []) (rest := [.ref q0]) ⟨hx, hb, hml, hown, hG⟩ (mX4_init l D κ q0 H.size) ⟨callB_of 0 hG (good_wz mw_87) rfl rfl rfl (tw_70 hG) (tw_85 hG) (by decide +kernel) ⟨(Nat.le_of_ble_eq_true rfl), (Nat.le_of_ble_eq_true rfl)⟩, rfl, tw_86 hG⟩ ⟨fun a U g mk q => ⟨q.1, EK.same (s := U) (U := U.calling g mk a) rfl q.2.1, EC.same (s := U) (U := U.calling g mk a) rfl q.2.2.1, q.2.2.2⟩, fun U hU hW => ⟨rfl, EK.warm hW hE, EC.warm hW hEC, by rw [hU], by rw [hU]; exact hP⟩⟩ rfl rfl hl.1 rfl (lv_room (Nat.le_of_ble_eq_true rfl)) dL_law_4 ⟨(Nat.le_of_ble_eq_true rfl), (Nat.le_of_ble_eq_true rfl)⟩) hS hF0 (fun A H1 locs1 hq hPX hk hS1 => ?_)
  obtain ⟨eA, hIX, hAX⟩ := hq
  have hT := hT.kF hF0 hk
  have hAX : ∀ q, aX A q → q0 ≤ q := fun q h => hF0 q (hAX q h)
  have hS := hS1
  generalize H1 = H at hPX hS hT ⊢
  generalize locs1 = locs at hS ⊢
  have hlow : ∀ q, aX A q → q < H.size := by
    intro q h
    obtain ⟨k, i, hk9, hi9, rfl⟩ := h
    obtain ⟨x, hx9⟩ := cw_ex (κ := κ) (A := A) (σ := S0 k) k i hi9
    exact (hPX k hk9 i _ hx9).lt
  refine W.widen (k := 42) (n := 2649) (Nat.le_of_ble_eq_true rfl) (Nat.le_of_ble_eq_true rfl) ?_
  rw [← eA]
  refine lv_astore_n (lv' := [(1, .ref (A 5 0)), (0, .ref b)]) hx hb dL_law_7 rfl hl (by decide) rfl (fun ls hl => ?_)
  refine xnew (ci := 5) (fs := [.null, .null, .null, .int 0, .null, .null, .null, .int 0, .int 0, .int 0, .int 0, .int 0, .int 0, .null, .null, .int 0, .int 0, .null, .null, .null, .null]) (C := RX5) (T := TX5) (N := 21) Cc iX5 tyX5 tyX5_ok (tw_746 hG) (tw_747 hG) (tw_75 hG) rfl (fun j hj => by match j, hj with | 0, _ => rfl | 1, _ => rfl | 2, _ => rfl | 3, _ => rfl | 4, _ => rfl | 5, _ => rfl | 6, _ => rfl | 7, _ => rfl | 8, _ => rfl | 9, _ => rfl | 10, _ => rfl | 11, _ => rfl | 12, _ => rfl | 13, _ => rfl | 14, _ => rfl | 15, _ => rfl | 16, _ => rfl | 17, _ => rfl | 18, _ => rfl | 19, _ => rfl | 20, _ => rfl | j + 21, hj => exact absurd hj (by omega)) (Nat.le_of_ble_eq_true rfl) (Nat.le_of_ble_eq_true rfl) dL_law_8 (fun H1 hP hz1 ho1 => ?_)
  have hq1 : q0 ≤ H.size := by have h9 := hS.1; omega
  have hT := hT.kept (fun x h1 _ => ho1 x h1)
  have hS := hS.grow hz1 ho1
  have hPX : PX D κ A S0 H1 := fun k hk9 => (hPX k hk9).kept (fun i q hq => ho1 q.1 (hPX k hk9 i q hq).lt)
  generalize hq1e : H.size = q1 at hP hlow hq1 hz1 ⊢
  generalize H1 = H at hP hS hT hPX hz1 ⊢
  refine W.widen (k := 43) (n := 2670) (Nat.le_of_ble_eq_true rfl) (Nat.le_of_ble_eq_true rfl) ?_
  refine lv_dup hx hb dL_law_11 rfl ?_
  have hF1 : ∀ q, iA q1 H.size q → q0 ≤ q := fun q h => h.elim (fun z => by rw [z]; exact hq1) (fun z => by omega)
  refine kWvA (va_runI (Ts := gG) (As := []) (rest := [.ref q1]) ⟨hx, hb, hml, hown, hG⟩ (mX5_init l D κ ρ ν (fun q => q0 ≤ q) q1 H.size hF1) ⟨callB_of 0 hG (good_wz mw_750) rfl rfl rfl (tw_75 hG) (tw_748 hG) (by decide +kernel) ⟨(Nat.le_of_ble_eq_true rfl), (Nat.le_of_ble_eq_true rfl)⟩, rfl, tw_749 hG⟩ ⟨fun a U g mk q => ⟨q.1, EK.same (s := U) (U := U.calling g mk a) rfl q.2.1, EC.same (s := U) (U := U.calling g mk a) rfl q.2.2.1, SE.same (s := U) (U := U.calling g mk a) rfl q.2.2.2.1, q.2.2.2.2⟩, fun U hU hW => ⟨rfl, EK.warm hW hE, EC.warm hW hEC, by rw [hU]; exact hT.warm hW, by rw [hU], by rw [hU]; exact hP⟩⟩ rfl rfl hl.1 rfl (lv_room (Nat.le_of_ble_eq_true rfl)) dL_law_12 ⟨(Nat.le_of_ble_eq_true rfl), (Nat.le_of_ble_eq_true rfl)⟩) hS hF1 (fun a H1 locs1 hq hPM hk hS1 => ?_)
  obtain ⟨ea, hIj, hai⟩ := hq
  have hT := hT.kF hF1 hk
  have hPX : PX D κ A S0 H1 := fun k hk9 => (hPX k hk9).kept (fun i q hq => by
    have hw := cw_wl k i q hq
    have h1 := hlow q.1 ⟨k, i, hk9, hw.1, hw.2⟩
    refine hk q.1 (by omega) (fun z => ?_)
    rcases z with z | z
    · omega
    · omega)
  have hS := hS1
  have hlo2 : ∀ i, i < 13 → q1 ≤ a i := fun i hi => (hai i hi).elim (fun z => by omega) (fun z => by omega)
  refine W.widen (k := 55) (n := 5862) (Nat.le_of_ble_eq_true rfl) (Nat.le_of_ble_eq_true rfl) ?_
  rw [← ea]
  refine lv_astore_n (lv' := [(2, .ref (a 0)), (1, .ref (A 5 0)), (0, .ref b)]) hx hb dL_law_15 rfl hl (by decide) rfl (fun ls hl => ?_)
  refine lv_iconst (v := 0) hx hb dL_law_16 (by decide) ?_
  refine lv_istore_n (lv' := [(3, .int 0), (2, .ref (a 0)), (1, .ref (A 5 0)), (0, .ref b)]) hx hb dL_law_17 rfl hl (by decide) rfl (fun ls hl => ?_)
  subst hq0e
  exact law_loop (ρ := ρ) (ν := ν) hI ⟨Cc, hX, hbl, hIX, hIj, hAX, fun i hi => Nat.le_trans hq1 (hlo2 i hi), fun i hi z => absurd (hlow _ z) (Nat.not_lt.mpr (hlo2 i hi)), hL⟩ (L + 7) 0 (by omega) (by omega) S0 σIMo hI0 H1 locs1 ⟨hPX, hPM, hT, hS⟩ ls (lv_sub hl [3, 2, 1, 0] rfl)
