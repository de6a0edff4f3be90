section GI
variable {p : Program} {l : Launch} {e : Env} {R : Room} {s : State} {m : MethodId} {args : Array Value} {below : List Frame} {meth : Method} {c : Code} {H : Heap} {locs : List Loc} {cells slots : Nat} {Q : State → Prop} {pc : Nat} {ls : Array Slot} {rest : List Value} {cc : ByteArray} {D : va_G} {κ : Nat → ClassId} {own : String} {idx nL : Nat} {rt : Option FieldType}
theorem xnewi (Cc : Cx D κ own cc nL rt p s m args meth c) {ws : va_W} {A : Nat → Prop} {H0 : Heap} (hP : va_P D classes ws H) (hD : va_D A ws) (hS : va_S A H0 H locs) (hA : ∀ q, H0.size ≤ q → A q) {n : Int32} {N' : Nat} (hn : ¬ n < 0) (hN : n.toNatClampNeg = N') (hby : N' * componentBytes .int ≤ 536870912) (hcells : cells + 1 ≤ R.cells) (hslots : slots + N' ≤ R.slots) (hdg : decode cc pc = .ok (.newarray .int, 2))
    (kk : ∀ (q : Nat) (H1 : Heap), va_P D classes (ws ++ [(q, .inl (κ 0, N', .inl (fun _ => 0)))]) H1 → va_D A (ws ++ [(q, .inl (κ 0, N', .inl (fun _ => 0)))]) → va_S A H0 H1 locs → W p l e R s m args below meth c H1 locs (cells + 1) (slots + N') Q (F0 m (pc + 2) ls (.ref q :: rest))) : W p l e R s m args below meth c H locs cells slots Q (F0 m pc ls (.int n :: rest)) := by
  refine va_newa (atype := .int) Cc.1 Cc.2.1 (tw_146 Cc.2.2.2.2.1) rfl Cc.2.2.2.2.2.2.2.1 hP hD hS hA (a0 := (N', .inl (fun _ => 0))) (fun cA => rfl) hn hN hby hcells hslots hdg (fun q cA H1 hK1 h1 h2 h3 => ?_)
  have e1 : s.vm.findClass ("[" ++ (FieldType.int).toString) = some cA := (hK1.2 3 _ rfl).2
  have e2 : s.vm.findClass ("[" ++ (FieldType.int).toString) = some (κ 0) := (Cc.2.2.2.2.2.2.2.1.2 0 _ rfl).2
  have e9 : cA = κ 0 := Option.some.inj (e1.symm.trans e2)
  subst e9
  exact kk q H1 h1 h2 h3
end GI
def iA (h0 sz : Nat) : Nat → Prop := fun q => q = h0 ∨ sz ≤ q
theorem Met_ofI (l : Launch) {y : MethodName} {b : ByteArray} {n mc ms : Nat} {r : Option FieldType} {rm : Room} {D : va_G} {κ : Nat → ClassId} {av : List Value} {PH : Heap → Prop} {Qc : Array Value → State → Outcome → State → Prop} {free : Addr → Prop} {own : String}
    (hy : plainName y.cls = true) (hyc : y.cls = own) (hyn : y.name = "<init>") (hsl : (lg_sl av).length ≤ n)
    (body : ∀ (p : Program) (e : Env) (s : State) (m : MethodId) (below : List Frame) (meth : Method) (c : Code), Cx D κ own b n r p s m av.toArray meth c → meth.name = "<init>" → PH s.heap → ∀ ls : Array Slot, lv_has ls n (lv_args 0 av) → W p l e rm s m av.toArray below meth c s.heap [] 0 0 (MQ below Qc av.toArray s mc ms free) (F0 m 0 ls [])) : Met l y (wz y b n r) rm (va_Pc av (PE D κ PH)) Qc mc ms free := by
  refine Met.ofW (cc := b) (maxL := n) (ret := r) hy rfl ?_
  intro p e s m args below meth c s₁ B hml hv
  obtain ⟨rfl, hE, hP⟩ := hv
  have hts := atoms_spec (ws := wz y b n r) B.pre
  have hown : s.vm.findClass own = some m.cls := hyc ▸ findClass_of_methodNamed B.named
  rw [lg_entry_eq]
  exact body p e s m below meth c ⟨B.exec, B.bytes, hml, hown, fun w h => hts w (List.mem_cons_of_mem _ h), B.returns, B.notSynchronized, hE⟩ ((name_of_methodNamed B.named B.method).1.trans hyn) hP _ (lv_entry av (n := n) hsl)
theorem Ij_of {A : Nat → Prop} {ws : va_W} {a : Nat → Nat} {n : Nat} (hD : va_D A ws) (h : ∀ i, i < n → ∃ e, ws[i]? = some (a i, e)) : Ij a n := by
  intro i j hi hj e9
  obtain ⟨x, hx⟩ := h i hi
  obtain ⟨z, hz⟩ := h j hj
  exact hD.1 i j _ _ hx hz e9
abbrev rX0_init : Room := { frames := 1, cells := 4, slots := 2128, locals := 32 }
def σILy : Mx := fun _ _ => 0
set_option maxHeartbeats 4000000 in
set_option maxRecDepth 100000 in
theorem mX0_init (l : Launch) (D : va_G) (κ : Nat → ClassId) (h0 sz : Nat) : Met l yX0_init (wz yX0_init cX0_init 1 none) rX0_init (va_Pc [.ref h0] (PE D κ (fun H => H.size = sz ∧ va_P D classes [(h0, .inr (0, [.null, .null, .null, .null]))] H))) (QWv (fun a : Nat → Nat => a 0 = h0 ∧ Ij a 5 ∧ ∀ i, i < 5 → iA h0 sz (a i)) (fun a H => va_P D classes (wLy κ a σILy) H) (iA h0 sz)) 4 2128 (iA h0 sz) := by
  refine Met_ofI l (own := RX0) (by decide) rfl rfl (Nat.le_of_ble_eq_true rfl) (fun p e s m below meth c Cc hin hPP ls hl => ?_)
  obtain ⟨hx, hb, hml, hown, hts, hr, hlk, hE⟩ := id Cc
  have hl : lv_has ls 1 [(0, .ref h0)] := hl
  obtain ⟨hsz, hP⟩ := hPP
  subst hsz
  generalize hAe : iA h0 s.heap.size = A
  have hA : ∀ q : Nat, s.heap.size ≤ q → A q := fun q h => by rw [← hAe]; exact Or.inr h
  have hD : va_D A [(h0, .inr (0, [.null, .null, .null, .null]))] := ⟨fun i j p q hp hq _ => by have h1 := (List.getElem?_eq_some_iff.mp hp).1; have h2 := (List.getElem?_eq_some_iff.mp hq).1; simp at h1 h2; omega, fun k q hk => by have h1 := (List.getElem?_eq_some_iff.mp hk).1; simp at h1; subst h1; cases hk; rw [← hAe]; exact Or.inl rfl⟩
  have hS : va_S A s.heap s.heap [] := va_S.rf
  refine lv_aload_n hx hb dX0_init_0 rfl (lv_at hl 0 rfl) ?_
  refine W.objInit hx hb hown (tw_152 hts) (tw_89 hts) (tw_90 hts) rfl (by rw [hml]; exact hl.1) rfl dX0_init_1 (Nat.le_of_ble_eq_true rfl) (Nat.le_of_ble_eq_true rfl) ?_
  refine W.eq (g2 := F0 m 4 ls []) rfl ?_
  refine lv_aload_n hx hb dX0_init_4 rfl (lv_at hl 0 rfl) ?_
  refine lv_bipush (v := 64) hx hb dX0_init_5 (by decide) ?_
  refine xnewi Cc hP hD hS hA (N' := 64) (by decide) rfl (by decide) (Nat.le_of_ble_eq_true rfl) (Nat.le_of_ble_eq_true rfl) dX0_init_7 (fun q1 H hP hD hS => ?_)
  have hP : va_P D classes [(h0, .inr (0, [.null, .null, .null, .null])), (q1, .inl (κ 0, 64, .inl (fun _ => 0)))] H := hP
  have hD : va_D A [(h0, .inr (0, [.null, .null, .null, .null])), (q1, .inl (κ 0, 64, .inl (fun _ => 0)))] := hD
  refine va_putF (D := D) (ci := 0) (v := .ref q1) (ty := .array .int) (C := RX0) (T := TX0) (N := 4) hx hb hts iX0 tyX0 tyX0_ok nmX0 hown hE.1 hP hD hS 0 rfl rfl 0 (by decide) (tw_153 hts) (fun _ h9 => h9) rfl hin rfl (by decide +kernel) rfl rfl (Nat.le_of_ble_eq_true rfl) dX0_init_9 (fun H locs hP hD hS => ?_)
  have hP : va_P D classes [(h0, .inr (0, [.ref q1, .null, .null, .null])), (q1, .inl (κ 0, 64, .inl (fun _ => 0)))] H := hP
  have hD : va_D A [(h0, .inr (0, [.ref q1, .null, .null, .null])), (q1, .inl (κ 0, 64, .inl (fun _ => 0)))] := hD
  refine lv_aload_n hx hb dX0_init_12 rfl (lv_at hl 0 rfl) ?_
  refine lv_bipush (v := 8) hx hb dX0_init_13 (by decide) ?_
  refine xnewi Cc hP hD hS hA (N' := 8) (by decide) rfl (by decide) (Nat.le_of_ble_eq_true rfl) (Nat.le_of_ble_eq_true rfl) dX0_init_15 (fun q2 H hP hD hS => ?_)
  have hP : va_P D classes [(h0, .inr (0, [.ref q1, .null, .null, .null])), (q1, .inl (κ 0, 64, .inl (fun _ => 0))), (q2, .inl (κ 0, 8, .inl (fun _ => 0)))] H := hP
  have hD : va_D A [(h0, .inr (0, [.ref q1, .null, .null, .null])), (q1, .inl (κ 0, 64, .inl (fun _ => 0))), (q2, .inl (κ 0, 8, .inl (fun _ => 0)))] := hD
  refine va_putF (D := D) (ci := 0) (v := .ref q2) (ty := .array .int) (C := RX0) (T := TX0) (N := 4) hx hb hts iX0 tyX0 tyX0_ok nmX0 hown hE.1 hP hD hS 0 rfl rfl 1 (by decide) (tw_154 hts) (fun _ h9 => h9) rfl hin rfl (by decide +kernel) rfl rfl (Nat.le_of_ble_eq_true rfl) dX0_init_17 (fun H locs hP hD hS => ?_)
  have hP : va_P D classes [(h0, .inr (0, [.ref q1, .ref q2, .null, .null])), (q1, .inl (κ 0, 64, .inl (fun _ => 0))), (q2, .inl (κ 0, 8, .inl (fun _ => 0)))] H := hP
  have hD : va_D A [(h0, .inr (0, [.ref q1, .ref q2, .null, .null])), (q1, .inl (κ 0, 64, .inl (fun _ => 0))), (q2, .inl (κ 0, 8, .inl (fun _ => 0)))] := hD
  refine lv_aload_n hx hb dX0_init_20 rfl (lv_at hl 0 rfl) ?_
  refine lv_bipush (v := 8) hx hb dX0_init_21 (by decide) ?_
  refine xnewi Cc hP hD hS hA (N' := 8) (by decide) rfl (by decide) (Nat.le_of_ble_eq_true rfl) (Nat.le_of_ble_eq_true rfl) dX0_init_23 (fun q3 H hP hD hS => ?_)
  have hP : va_P D classes [(h0, .inr (0, [.ref q1, .ref q2, .null, .null])), (q1, .inl (κ 0, 64, .inl (fun _ => 0))), (q2, .inl (κ 0, 8, .inl (fun _ => 0))), (q3, .inl (κ 0, 8, .inl (fun _ => 0)))] H := hP
  have hD : va_D A [(h0, .inr (0, [.ref q1, .ref q2, .null, .null])), (q1, .inl (κ 0, 64, .inl (fun _ => 0))), (q2, .inl (κ 0, 8, .inl (fun _ => 0))), (q3, .inl (κ 0, 8, .inl (fun _ => 0)))] := hD
  refine va_putF (D := D) (ci := 0) (v := .ref q3) (ty := .array .int) (C := RX0) (T := TX0) (N := 4) hx hb hts iX0 tyX0 tyX0_ok nmX0 hown hE.1 hP hD hS 0 rfl rfl 2 (by decide) (tw_155 hts) (fun _ h9 => h9) rfl hin rfl (by decide +kernel) rfl rfl (Nat.le_of_ble_eq_true rfl) dX0_init_25 (fun H locs hP hD hS => ?_)
  have hP : va_P D classes [(h0, .inr (0, [.ref q1, .ref q2, .ref q3, .null])), (q1, .inl (κ 0, 64, .inl (fun _ => 0))), (q2, .inl (κ 0, 8, .inl (fun _ => 0))), (q3, .inl (κ 0, 8, .inl (fun _ => 0)))] H := hP
  have hD : va_D A [(h0, .inr (0, [.ref q1, .ref q2, .ref q3, .null])), (q1, .inl (κ 0, 64, .inl (fun _ => 0))), (q2, .inl (κ 0, 8, .inl (fun _ => 0))), (q3, .inl (κ 0, 8, .inl (fun _ => 0)))] := hD
  refine lv_aload_n hx hb dX0_init_28 rfl (lv_at hl 0 rfl) ?_
  refine lv_sipush (v := 2048) hx hb dX0_init_29 (by decide) ?_
  refine xnewi Cc hP hD hS hA (N' := 2048) (by decide) rfl (by decide) (Nat.le_of_ble_eq_true rfl) (Nat.le_of_ble_eq_true rfl) dX0_init_32 (fun q4 H hP hD hS => ?_)
  have hP : va_P D classes [(h0, .inr (0, [.ref q1, .ref q2, .ref q3, .null])), (q1, .inl (κ 0, 64, .inl (fun _ => 0))), (q2, .inl (κ 0, 8, .inl (fun _ => 0))), (q3, .inl (κ 0, 8, .inl (fun _ => 0))), (q4, .inl (κ 0, 2048, .inl (fun _ => 0)))] H := hP
  have hD : va_D A [(h0, .inr (0, [.ref q1, .ref q2, .ref q3, .null])), (q1, .inl (κ 0, 64, .inl (fun _ => 0))), (q2, .inl (κ 0, 8, .inl (fun _ => 0))), (q3, .inl (κ 0, 8, .inl (fun _ => 0))), (q4, .inl (κ 0, 2048, .inl (fun _ => 0)))] := hD
  refine va_putF (D := D) (ci := 0) (v := .ref q4) (ty := .array .int) (C := RX0) (T := TX0) (N := 4) hx hb hts iX0 tyX0 tyX0_ok nmX0 hown hE.1 hP hD hS 0 rfl rfl 3 (by decide) (tw_156 hts) (fun _ h9 => h9) rfl hin rfl (by decide +kernel) rfl rfl (Nat.le_of_ble_eq_true rfl) dX0_init_34 (fun H locs hP hD hS => ?_)
  have hP : va_P D classes [(h0, .inr (0, [.ref q1, .ref q2, .ref q3, .ref q4])), (q1, .inl (κ 0, 64, .inl (fun _ => 0))), (q2, .inl (κ 0, 8, .inl (fun _ => 0))), (q3, .inl (κ 0, 8, .inl (fun _ => 0))), (q4, .inl (κ 0, 2048, .inl (fun _ => 0)))] H := hP
  have hD : va_D A [(h0, .inr (0, [.ref q1, .ref q2, .ref q3, .ref q4])), (q1, .inl (κ 0, 64, .inl (fun _ => 0))), (q2, .inl (κ 0, 8, .inl (fun _ => 0))), (q3, .inl (κ 0, 8, .inl (fun _ => 0))), (q4, .inl (κ 0, 2048, .inl (fun _ => 0)))] := hD
  have hIj : Ij (fun i => [h0, q1, q2, q3, q4].getD i 0) 5 := Ij_of hD (fun i hi => by
    match i, hi with
    | 0, _ => exact ⟨_, rfl⟩
    | 1, _ => exact ⟨_, rfl⟩
    | 2, _ => exact ⟨_, rfl⟩
    | 3, _ => exact ⟨_, rfl⟩
    | 4, _ => exact ⟨_, rfl⟩
    | i + 5, hi => exact absurd hi (by omega))
  have hAa : ∀ i, i < 5 → A ((fun i => [h0, q1, q2, q3, q4].getD i 0) i) := fun i hi => by
    match i, hi with
    | 0, _ => exact hD.2 0 _ rfl
    | 1, _ => exact hD.2 1 _ rfl
    | 2, _ => exact hD.2 2 _ rfl
    | 3, _ => exact hD.2 3 _ rfl
    | 4, _ => exact hD.2 4 _ rfl
    | i + 5, hi => exact absurd hi (by omega)
  exact W.vret hx hb hr (fun t ht _ => QWv.mk (u := (fun i => [h0, q1, q2, q3, q4].getD i 0)) ⟨rfl, hIj, hAa⟩ hP hS ht) hS.2.2 dX0_init_37 (hlocks := hlk)
abbrev rX2_init : Room := { frames := 1, cells := 1, slots := 40, locals := 32 }
def σISh : Mx := fun _ _ => 0
set_option maxHeartbeats 4000000 in
set_option maxRecDepth 100000 in
theorem mX2_init (l : Launch) (D : va_G) (κ : Nat → ClassId) (h0 sz : Nat) : Met l yX2_init (wz yX2_init cX2_init 1 none) rX2_init (va_Pc [.ref h0] (PE D κ (fun H => H.size = sz ∧ va_P D classes [(h0, .inr (2, [.null, .int 0, .int 0]))] H))) (QWv (fun a : Nat → Nat => a 0 = h0 ∧ Ij a 2 ∧ ∀ i, i < 2 → iA h0 sz (a i)) (fun a H => va_P D classes (wSh κ a σISh) H) (iA h0 sz)) 1 40 (iA h0 sz) := by
  refine Met_ofI l (own := RX2) (by decide) rfl rfl (Nat.le_of_ble_eq_true rfl) (fun p e s m below meth c Cc hin hPP ls hl => ?_)
  obtain ⟨hx, hb, hml, hown, hts, hr, hlk, hE⟩ := id Cc
  have hl : lv_has ls 1 [(0, .ref h0)] := hl
  obtain ⟨hsz, hP⟩ := hPP
  subst hsz
  generalize hAe : iA h0 s.heap.size = A
  have hA : ∀ q : Nat, s.heap.size ≤ q → A q := fun q h => by rw [← hAe]; exact Or.inr h
  have hD : va_D A [(h0, .inr (2, [.null, .int 0, .int 0]))] := ⟨fun i j p q hp hq _ => by have h1 := (List.getElem?_eq_some_iff.mp hp).1; have h2 := (List.getElem?_eq_some_iff.mp hq).1; simp at h1 h2; omega, fun k q hk => by have h1 := (List.getElem?_eq_some_iff.mp hk).1; simp at h1; subst h1; cases hk; rw [← hAe]; exact Or.inl rfl⟩
  have hS : va_S A s.heap s.heap [] := va_S.rf
  refine lv_aload_n hx hb dX2_init_0 rfl (lv_at hl 0 rfl) ?_
  refine W.objInit hx hb hown (tw_195 hts) (tw_89 hts) (tw_90 hts) rfl (by rw [hml]; exact hl.1) rfl dX2_init_1 (Nat.le_of_ble_eq_true rfl) (Nat.le_of_ble_eq_true rfl) ?_
  refine W.eq (g2 := F0 m 4 ls []) rfl ?_
  refine lv_aload_n hx hb dX2_init_4 rfl (lv_at hl 0 rfl) ?_
  refine lv_bipush (v := 40) hx hb dX2_init_5 (by decide) ?_
  refine xnewi Cc hP hD hS hA (N' := 40) (by decide) rfl (by decide) (Nat.le_of_ble_eq_true rfl) (Nat.le_of_ble_eq_true rfl) dX2_init_7 (fun q1 H hP hD hS => ?_)
  have hP : va_P D classes [(h0, .inr (2, [.null, .int 0, .int 0])), (q1, .inl (κ 0, 40, .inl (fun _ => 0)))] H := hP
  have hD : va_D A [(h0, .inr (2, [.null, .int 0, .int 0])), (q1, .inl (κ 0, 40, .inl (fun _ => 0)))] := hD
  refine va_putF (D := D) (ci := 2) (v := .ref q1) (ty := .array .int) (C := RX2) (T := TX2) (N := 3) hx hb hts iX2 tyX2 tyX2_ok nmX2 hown hE.1 hP hD hS 0 rfl rfl 0 (by decide) (tw_196 hts) (fun _ h9 => h9) rfl hin rfl (by decide +kernel) rfl rfl (Nat.le_of_ble_eq_true rfl) dX2_init_9 (fun H locs hP hD hS => ?_)
  have hP : va_P D classes [(h0, .inr (2, [.ref q1, .int 0, .int 0])), (q1, .inl (κ 0, 40, .inl (fun _ => 0)))] H := hP
  have hD : va_D A [(h0, .inr (2, [.ref q1, .int 0, .int 0])), (q1, .inl (κ 0, 40, .inl (fun _ => 0)))] := hD
  have hIj : Ij (fun i => [h0, q1].getD i 0) 2 := Ij_of hD (fun i hi => by
    match i, hi with
    | 0, _ => exact ⟨_, rfl⟩
    | 1, _ => exact ⟨_, rfl⟩
    | i + 2, hi => exact absurd hi (by omega))
  have hAa : ∀ i, i < 2 → A ((fun i => [h0, q1].getD i 0) i) := fun i hi => by
    match i, hi with
    | 0, _ => exact hD.2 0 _ rfl
    | 1, _ => exact hD.2 1 _ rfl
    | i + 2, hi => exact absurd hi (by omega)
  exact W.vret hx hb hr (fun t ht _ => QWv.mk (u := (fun i => [h0, q1].getD i 0)) ⟨rfl, hIj, hAa⟩ hP hS ht) hS.2.2 dX2_init_12 (hlocks := hlk)
abbrev rX3_init : Room := { frames := 1, cells := 1, slots := 120, locals := 32 }
def σITp : Mx := fun _ _ => 0
set_option maxHeartbeats 4000000 in
set_option maxRecDepth 100000 in
theorem mX3_init (l : Launch) (D : va_G) (κ : Nat → ClassId) (h0 sz : Nat) : Met l yX3_init (wz yX3_init cX3_init 1 none) rX3_init (va_Pc [.ref h0] (PE D κ (fun H => H.size = sz ∧ va_P D classes [(h0, .inr (3, [.null, .int 0, .int 0, .int 0, .int 0]))] H))) (QWv (fun a : Nat → Nat => a 0 = h0 ∧ Ij a 2 ∧ ∀ i, i < 2 → iA h0 sz (a i)) (fun a H => va_P D classes (wTp κ a σITp) H) (iA h0 sz)) 1 120 (iA h0 sz) := by
  refine Met_ofI l (own := RX3) (by decide) rfl rfl (Nat.le_of_ble_eq_true rfl) (fun p e s m below meth c Cc hin hPP ls hl => ?_)
  obtain ⟨hx, hb, hml, hown, hts, hr, hlk, hE⟩ := id Cc
  have hl : lv_has ls 1 [(0, .ref h0)] := hl
  obtain ⟨hsz, hP⟩ := hPP
  subst hsz
  generalize hAe : iA h0 s.heap.size = A
  have hA : ∀ q : Nat, s.heap.size ≤ q → A q := fun q h => by rw [← hAe]; exact Or.inr h
  have hD : va_D A [(h0, .inr (3, [.null, .int 0, .int 0, .int 0, .int 0]))] := ⟨fun i j p q hp hq _ => by have h1 := (List.getElem?_eq_some_iff.mp hp).1; have h2 := (List.getElem?_eq_some_iff.mp hq).1; simp at h1 h2; omega, fun k q hk => by have h1 := (List.getElem?_eq_some_iff.mp hk).1; simp at h1; subst h1; cases hk; rw [← hAe]; exact Or.inl rfl⟩
  have hS : va_S A s.heap s.heap [] := va_S.rf
  refine lv_aload_n hx hb dX3_init_0 rfl (lv_at hl 0 rfl) ?_
  refine W.objInit hx hb hown (tw_171 hts) (tw_89 hts) (tw_90 hts) rfl (by rw [hml]; exact hl.1) rfl dX3_init_1 (Nat.le_of_ble_eq_true rfl) (Nat.le_of_ble_eq_true rfl) ?_
  refine W.eq (g2 := F0 m 4 ls []) rfl ?_
  refine lv_aload_n hx hb dX3_init_4 rfl (lv_at hl 0 rfl) ?_
  refine lv_bipush (v := 120) hx hb dX3_init_5 (by decide) ?_
  refine xnewi Cc hP hD hS hA (N' := 120) (by decide) rfl (by decide) (Nat.le_of_ble_eq_true rfl) (Nat.le_of_ble_eq_true rfl) dX3_init_7 (fun q1 H hP hD hS => ?_)
  have hP : va_P D classes [(h0, .inr (3, [.null, .int 0, .int 0, .int 0, .int 0])), (q1, .inl (κ 0, 120, .inl (fun _ => 0)))] H := hP
  have hD : va_D A [(h0, .inr (3, [.null, .int 0, .int 0, .int 0, .int 0])), (q1, .inl (κ 0, 120, .inl (fun _ => 0)))] := hD
  refine va_putF (D := D) (ci := 3) (v := .ref q1) (ty := .array .int) (C := RX3) (T := TX3) (N := 5) hx hb hts iX3 tyX3 tyX3_ok nmX3 hown hE.1 hP hD hS 0 rfl rfl 0 (by decide) (tw_172 hts) (fun _ h9 => h9) rfl hin rfl (by decide +kernel) rfl rfl (Nat.le_of_ble_eq_true rfl) dX3_init_9 (fun H locs hP hD hS => ?_)
  have hP : va_P D classes [(h0, .inr (3, [.ref q1, .int 0, .int 0, .int 0, .int 0])), (q1, .inl (κ 0, 120, .inl (fun _ => 0)))] H := hP
  have hD : va_D A [(h0, .inr (3, [.ref q1, .int 0, .int 0, .int 0, .int 0])), (q1, .inl (κ 0, 120, .inl (fun _ => 0)))] := hD
  have hIj : Ij (fun i => [h0, q1].getD i 0) 2 := Ij_of hD (fun i hi => by
    match i, hi with
    | 0, _ => exact ⟨_, rfl⟩
    | 1, _ => exact ⟨_, rfl⟩
    | i + 2, hi => exact absurd hi (by omega))
  have hAa : ∀ i, i < 2 → A ((fun i => [h0, q1].getD i 0) i) := fun i hi => by
    match i, hi with
    | 0, _ => exact hD.2 0 _ rfl
    | 1, _ => exact hD.2 1 _ rfl
    | i + 2, hi => exact absurd hi (by omega)
  exact W.vret hx hb hr (fun t ht _ => QWv.mk (u := (fun i => [h0, q1].getD i 0)) ⟨rfl, hIj, hAa⟩ hP hS ht) hS.2.2 dX3_init_12 (hlocks := hlk)
abbrev rX1_init : Room := { frames := 1, cells := 7, slots := 56, locals := 32 }
def σICo : Mx := fun f j => if f = 6 ∧ 0 ≤ j ∧ j < 0 + 10 then -1 else if f = 10 ∧ j = 0 then 1 else 0
/-- the row 6 filled with -1 from place i on, n places -/
def fillS (σ : Mx) (i : Nat) : Nat → Mx
  | 0 => σ
  | n + 1 => fillS (st σ 6 i (-1)) (i + 1) n
theorem fillS_at : ∀ (n i : Nat) (σ : Mx) (f j : Nat), fillS σ i n f j = if f = 6 ∧ i ≤ j ∧ j < i + n then -1 else σ f j
  | 0, i, σ, f, j => by
    rw [if_neg (by omega)]
    rfl
  | n + 1, i, σ, f, j => by
    rw [fillS, fillS_at n (i + 1)]
    by_cases h : f = 6 ∧ i ≤ j ∧ j < i + (n + 1)
    · rw [if_pos h]
      by_cases h2 : f = 6 ∧ i + 1 ≤ j ∧ j < i + 1 + n
      · rw [if_pos h2]
      · rw [if_neg h2]
        have e9 : j = i := by omega
        simp [st, h.1, e9]
    · rw [if_neg h, if_neg (by omega)]
      have h3 : ¬ (f = 6 ∧ j = i) := by omega
      simp [st, h3]
set_option maxHeartbeats 4000000 in
theorem lX1_init {p : Program} {l : Launch} {e : Env} {R : Room} {s : State} {m : MethodId} {args : Array Value} {below : List Frame} {meth : Method} {c : Code} {cells slots : Nat} {Q : State → Prop} {D : va_G} {κ : Nat → ClassId} {a : Nat → Nat} {A : Nat → Prop} {H0 : Heap}
    (Cc : Cx D κ RX1 cX1_init 2 none p s m args meth c) (hI : Ij a 8) (hA : A (a 7)) : ∀ (n i : Nat), i + n = 10 → ∀ (σ : Mx) (H : Heap) (locs : List Loc), va_P D classes (wCo κ a σ) H → va_S A H0 H locs → ∀ (ls : Array Slot), lv_has ls 2 [(0, .ref (a 0)), (1, .int (nI i))] →
      (∀ (H : Heap) (locs : List Loc), va_P D classes (wCo κ a (fillS σ i n)) H → va_S A H0 H locs → ∀ (ls : Array Slot), W p l e R s m args below meth c H locs cells slots Q (F0 m 86 ls [])) → W p l e R s m args below meth c H locs cells slots Q (F0 m 67 ls []) := by
  obtain ⟨hx, hb, hml, hown, hts, hr, hlk, hE⟩ := id Cc
  intro n
  induction n with
  | zero =>
    intro i hi σ H locs hP hS ls hl kk
    refine lv_iload_n hx hb dX1_init_67 rfl (lv_at hl 1 rfl) ?_
    refine lv_bipush (v := 10) hx hb dX1_init_68 (by decide) ?_
    refine lv_icmp_ge (tgt := 86) hx hb dX1_init_70 (by decide) (fun _ => kk H locs hP hS ls) (fun c9 => absurd (show (10 : Int32) ≤ nI i by rw [show i = 10 by omega]; decide) c9)
  | succ n ih =>
    intro i hi σ H locs hP hS ls hl kk
    have h10 : ¬ (10 : Int32) ≤ nI i := nI_ge (a := i) (b := 10) (by omega) (by decide)
    refine lv_iload_n hx hb dX1_init_67 rfl (lv_at hl 1 rfl) ?_
    refine lv_bipush (v := 10) hx hb dX1_init_68 (by decide) ?_
    refine lv_icmp_ge (tgt := 86) hx hb dX1_init_70 (by decide) (fun c9 => absurd c9 h10) (fun _ => ?_)
    refine lv_aload_n hx hb dX1_init_73 rfl (lv_at hl 0 rfl) ?_
    refine gCo_6 Cc hP (tw_110 hts) dX1_init_74 ?_
    refine lv_iload_n hx hb dX1_init_77 rfl (lv_at hl 1 rfl) ?_
    refine lv_iconst (v := (-1)) hx hb dX1_init_78 (by decide) ?_
    refine sCo_6 Cc hP hI hS hA (vp_in_nI (by omega) (by decide)) dX1_init_79 (fun H locs hP hS hk => ?_)
    rw [nI_clamp (by omega)] at hP
    refine lv_iinc (v := nI (i + 1)) (lv' := [(1, .int (nI (i + 1))), (0, .ref (a 0))]) hx hb dX1_init_80 hl (k := 1) rfl (nI_1 i) (by decide) rfl (fun ls hl => ?_)
    refine lv_goto (tgt := 67) hx hb dX1_init_83 (by decide) ?_
    exact ih (i + 1) (by omega) _ H locs hP hS ls (lv_sub hl [1, 0] rfl) kk
set_option maxHeartbeats 4000000 in
set_option maxRecDepth 100000 in
theorem mX1_init (l : Launch) (D : va_G) (κ : Nat → ClassId) (h0 sz : Nat) : Met l yX1_init (wz yX1_init cX1_init 2 none) rX1_init (va_Pc [.ref h0] (PE D κ (fun H => H.size = sz ∧ va_P D classes [(h0, .inr (1, [.null, .null, .null, .null, .null, .null, .null, .int 0, .int 0, .int 0, .int 0]))] H))) (QWv (fun a : Nat → Nat => a 0 = h0 ∧ Ij a 8 ∧ ∀ i, i < 8 → iA h0 sz (a i)) (fun a H => va_P D classes (wCo κ a σICo) H) (iA h0 sz)) 7 56 (iA h0 sz) := by
  refine Met_ofI l (own := RX1) (by decide) rfl rfl (Nat.le_of_ble_eq_true rfl) (fun p e s m below meth c Cc hin hPP ls hl => ?_)
  obtain ⟨hx, hb, hml, hown, hts, hr, hlk, hE⟩ := id Cc
  have hl : lv_has ls 2 [(0, .ref h0)] := hl
  obtain ⟨hsz, hP⟩ := hPP
  subst hsz
  generalize hAe : iA h0 s.heap.size = A
  have hA : ∀ q : Nat, s.heap.size ≤ q → A q := fun q h => by rw [← hAe]; exact Or.inr h
  have hD : va_D A [(h0, .inr (1, [.null, .null, .null, .null, .null, .null, .null, .int 0, .int 0, .int 0, .int 0]))] := ⟨fun i j p q hp hq _ => by have h1 := (List.getElem?_eq_some_iff.mp hp).1; have h2 := (List.getElem?_eq_some_iff.mp hq).1; simp at h1 h2; omega, fun k q hk => by have h1 := (List.getElem?_eq_some_iff.mp hk).1; simp at h1; subst h1; cases hk; rw [← hAe]; exact Or.inl rfl⟩
  have hS : va_S A s.heap s.heap [] := va_S.rf
  refine lv_aload_n hx hb dX1_init_0 rfl (lv_at hl 0 rfl) ?_
  refine W.objInit hx hb hown (tw_96 hts) (tw_89 hts) (tw_90 hts) rfl (by rw [hml]; exact hl.1) rfl dX1_init_1 (Nat.le_of_ble_eq_true rfl) (Nat.le_of_ble_eq_true rfl) ?_
  refine W.eq (g2 := F0 m 4 ls []) rfl ?_
  refine lv_aload_n hx hb dX1_init_4 rfl (lv_at hl 0 rfl) ?_
  refine lv_bipush (v := 8) hx hb dX1_init_5 (by decide) ?_
  refine xnewi Cc hP hD hS hA (N' := 8) (by decide) rfl (by decide) (Nat.le_of_ble_eq_true rfl) (Nat.le_of_ble_eq_true rfl) dX1_init_7 (fun q1 H hP hD hS => ?_)
  have hP : va_P D classes [(h0, .inr (1, [.null, .null, .null, .null, .null, .null, .null, .int 0, .int 0, .int 0, .int 0])), (q1, .inl (κ 0, 8, .inl (fun _ => 0)))] H := hP
  have hD : va_D A [(h0, .inr (1, [.null, .null, .null, .null, .null, .null, .null, .int 0, .int 0, .int 0, .int 0])), (q1, .inl (κ 0, 8, .inl (fun _ => 0)))] := hD
  refine va_putF (D := D) (ci := 1) (v := .ref q1) (ty := .array .int) (C := RX1) (T := TX1) (N := 11) hx hb hts iX1 tyX1 tyX1_ok nmX1 hown hE.1 hP hD hS 0 rfl rfl 0 (by decide) (tw_97 hts) (fun _ h9 => h9) rfl hin rfl (by decide +kernel) rfl rfl (Nat.le_of_ble_eq_true rfl) dX1_init_9 (fun H locs hP hD hS => ?_)
  have hP : va_P D classes [(h0, .inr (1, [.ref q1, .null, .null, .null, .null, .null, .null, .int 0, .int 0, .int 0, .int 0])), (q1, .inl (κ 0, 8, .inl (fun _ => 0)))] H := hP
  have hD : va_D A [(h0, .inr (1, [.ref q1, .null, .null, .null, .null, .null, .null, .int 0, .int 0, .int 0, .int 0])), (q1, .inl (κ 0, 8, .inl (fun _ => 0)))] := hD
  refine lv_aload_n hx hb dX1_init_12 rfl (lv_at hl 0 rfl) ?_
  refine lv_bipush (v := 8) hx hb dX1_init_13 (by decide) ?_
  refine xnewi Cc hP hD hS hA (N' := 8) (by decide) rfl (by decide) (Nat.le_of_ble_eq_true rfl) (Nat.le_of_ble_eq_true rfl) dX1_init_15 (fun q2 H hP hD hS => ?_)
  have hP : va_P D classes [(h0, .inr (1, [.ref q1, .null, .null, .null, .null, .null, .null, .int 0, .int 0, .int 0, .int 0])), (q1, .inl (κ 0, 8, .inl (fun _ => 0))), (q2, .inl (κ 0, 8, .inl (fun _ => 0)))] H := hP
  have hD : va_D A [(h0, .inr (1, [.ref q1, .null, .null, .null, .null, .null, .null, .int 0, .int 0, .int 0, .int 0])), (q1, .inl (κ 0, 8, .inl (fun _ => 0))), (q2, .inl (κ 0, 8, .inl (fun _ => 0)))] := hD
  refine va_putF (D := D) (ci := 1) (v := .ref q2) (ty := .array .int) (C := RX1) (T := TX1) (N := 11) hx hb hts iX1 tyX1 tyX1_ok nmX1 hown hE.1 hP hD hS 0 rfl rfl 1 (by decide) (tw_99 hts) (fun _ h9 => h9) rfl hin rfl (by decide +kernel) rfl rfl (Nat.le_of_ble_eq_true rfl) dX1_init_17 (fun H locs hP hD hS => ?_)
  have hP : va_P D classes [(h0, .inr (1, [.ref q1, .ref q2, .null, .null, .null, .null, .null, .int 0, .int 0, .int 0, .int 0])), (q1, .inl (κ 0, 8, .inl (fun _ => 0))), (q2, .inl (κ 0, 8, .inl (fun _ => 0)))] H := hP
  have hD : va_D A [(h0, .inr (1, [.ref q1, .ref q2, .null, .null, .null, .null, .null, .int 0, .int 0, .int 0, .int 0])), (q1, .inl (κ 0, 8, .inl (fun _ => 0))), (q2, .inl (κ 0, 8, .inl (fun _ => 0)))] := hD
  refine lv_aload_n hx hb dX1_init_20 rfl (lv_at hl 0 rfl) ?_
  refine lv_bipush (v := 8) hx hb dX1_init_21 (by decide) ?_
  refine xnewi Cc hP hD hS hA (N' := 8) (by decide) rfl (by decide) (Nat.le_of_ble_eq_true rfl) (Nat.le_of_ble_eq_true rfl) dX1_init_23 (fun q3 H hP hD hS => ?_)
  have hP : va_P D classes [(h0, .inr (1, [.ref q1, .ref q2, .null, .null, .null, .null, .null, .int 0, .int 0, .int 0, .int 0])), (q1, .inl (κ 0, 8, .inl (fun _ => 0))), (q2, .inl (κ 0, 8, .inl (fun _ => 0))), (q3, .inl (κ 0, 8, .inl (fun _ => 0)))] H := hP
  have hD : va_D A [(h0, .inr (1, [.ref q1, .ref q2, .null, .null, .null, .null, .null, .int 0, .int 0, .int 0, .int 0])), (q1, .inl (κ 0, 8, .inl (fun _ => 0))), (q2, .inl (κ 0, 8, .inl (fun _ => 0))), (q3, .inl (κ 0, 8, .inl (fun _ => 0)))] := hD
  refine va_putF (D := D) (ci := 1) (v := .ref q3) (ty := .array .int) (C := RX1) (T := TX1) (N := 11) hx hb hts iX1 tyX1 tyX1_ok nmX1 hown hE.1 hP hD hS 0 rfl rfl 2 (by decide) (tw_101 hts) (fun _ h9 => h9) rfl hin rfl (by decide +kernel) rfl rfl (Nat.le_of_ble_eq_true rfl) dX1_init_25 (fun H locs hP hD hS => ?_)
  have hP : va_P D classes [(h0, .inr (1, [.ref q1, .ref q2, .ref q3, .null, .null, .null, .null, .int 0, .int 0, .int 0, .int 0])), (q1, .inl (κ 0, 8, .inl (fun _ => 0))), (q2, .inl (κ 0, 8, .inl (fun _ => 0))), (q3, .inl (κ 0, 8, .inl (fun _ => 0)))] H := hP
  have hD : va_D A [(h0, .inr (1, [.ref q1, .ref q2, .ref q3, .null, .null, .null, .null, .int 0, .int 0, .int 0, .int 0])), (q1, .inl (κ 0, 8, .inl (fun _ => 0))), (q2, .inl (κ 0, 8, .inl (fun _ => 0))), (q3, .inl (κ 0, 8, .inl (fun _ => 0)))] := hD
  refine lv_aload_n hx hb dX1_init_28 rfl (lv_at hl 0 rfl) ?_
  refine lv_bipush (v := 8) hx hb dX1_init_29 (by decide) ?_
  refine xnewi Cc hP hD hS hA (N' := 8) (by decide) rfl (by decide) (Nat.le_of_ble_eq_true rfl) (Nat.le_of_ble_eq_true rfl) dX1_init_31 (fun q4 H hP hD hS => ?_)
  have hP : va_P D classes [(h0, .inr (1, [.ref q1, .ref q2, .ref q3, .null, .null, .null, .null, .int 0, .int 0, .int 0, .int 0])), (q1, .inl (κ 0, 8, .inl (fun _ => 0))), (q2, .inl (κ 0, 8, .inl (fun _ => 0))), (q3, .inl (κ 0, 8, .inl (fun _ => 0))), (q4, .inl (κ 0, 8, .inl (fun _ => 0)))] H := hP
  have hD : va_D A [(h0, .inr (1, [.ref q1, .ref q2, .ref q3, .null, .null, .null, .null, .int 0, .int 0, .int 0, .int 0])), (q1, .inl (κ 0, 8, .inl (fun _ => 0))), (q2, .inl (κ 0, 8, .inl (fun _ => 0))), (q3, .inl (κ 0, 8, .inl (fun _ => 0))), (q4, .inl (κ 0, 8, .inl (fun _ => 0)))] := hD
  refine va_putF (D := D) (ci := 1) (v := .ref q4) (ty := .array .int) (C := RX1) (T := TX1) (N := 11) hx hb hts iX1 tyX1 tyX1_ok nmX1 hown hE.1 hP hD hS 0 rfl rfl 3 (by decide) (tw_103 hts) (fun _ h9 => h9) rfl hin rfl (by decide +kernel) rfl rfl (Nat.le_of_ble_eq_true rfl) dX1_init_33 (fun H locs hP hD hS => ?_)
  have hP : va_P D classes [(h0, .inr (1, [.ref q1, .ref q2, .ref q3, .ref q4, .null, .null, .null, .int 0, .int 0, .int 0, .int 0])), (q1, .inl (κ 0, 8, .inl (fun _ => 0))), (q2, .inl (κ 0, 8, .inl (fun _ => 0))), (q3, .inl (κ 0, 8, .inl (fun _ => 0))), (q4, .inl (κ 0, 8, .inl (fun _ => 0)))] H := hP
  have hD : va_D A [(h0, .inr (1, [.ref q1, .ref q2, .ref q3, .ref q4, .null, .null, .null, .int 0, .int 0, .int 0, .int 0])), (q1, .inl (κ 0, 8, .inl (fun _ => 0))), (q2, .inl (κ 0, 8, .inl (fun _ => 0))), (q3, .inl (κ 0, 8, .inl (fun _ => 0))), (q4, .inl (κ 0, 8, .inl (fun _ => 0)))] := hD
  refine lv_aload_n hx hb dX1_init_36 rfl (lv_at hl 0 rfl) ?_
  refine lv_bipush (v := 8) hx hb dX1_init_37 (by decide) ?_
  refine xnewi Cc hP hD hS hA (N' := 8) (by decide) rfl (by decide) (Nat.le_of_ble_eq_true rfl) (Nat.le_of_ble_eq_true rfl) dX1_init_39 (fun q5 H hP hD hS => ?_)
  have hP : va_P D classes [(h0, .inr (1, [.ref q1, .ref q2, .ref q3, .ref q4, .null, .null, .null, .int 0, .int 0, .int 0, .int 0])), (q1, .inl (κ 0, 8, .inl (fun _ => 0))), (q2, .inl (κ 0, 8, .inl (fun _ => 0))), (q3, .inl (κ 0, 8, .inl (fun _ => 0))), (q4, .inl (κ 0, 8, .inl (fun _ => 0))), (q5, .inl (κ 0, 8, .inl (fun _ => 0)))] H := hP
  have hD : va_D A [(h0, .inr (1, [.ref q1, .ref q2, .ref q3, .ref q4, .null, .null, .null, .int 0, .int 0, .int 0, .int 0])), (q1, .inl (κ 0, 8, .inl (fun _ => 0))), (q2, .inl (κ 0, 8, .inl (fun _ => 0))), (q3, .inl (κ 0, 8, .inl (fun _ => 0))), (q4, .inl (κ 0, 8, .inl (fun _ => 0))), (q5, .inl (κ 0, 8, .inl (fun _ => 0)))] := hD
  refine va_putF (D := D) (ci := 1) (v := .ref q5) (ty := .array .int) (C := RX1) (T := TX1) (N := 11) hx hb hts iX1 tyX1 tyX1_ok nmX1 hown hE.1 hP hD hS 0 rfl rfl 4 (by decide) (tw_105 hts) (fun _ h9 => h9) rfl hin rfl (by decide +kernel) rfl rfl (Nat.le_of_ble_eq_true rfl) dX1_init_41 (fun H locs hP hD hS => ?_)
  have hP : va_P D classes [(h0, .inr (1, [.ref q1, .ref q2, .ref q3, .ref q4, .ref q5, .null, .null, .int 0, .int 0, .int 0, .int 0])), (q1, .inl (κ 0, 8, .inl (fun _ => 0))), (q2, .inl (κ 0, 8, .inl (fun _ => 0))), (q3, .inl (κ 0, 8, .inl (fun _ => 0))), (q4, .inl (κ 0, 8, .inl (fun _ => 0))), (q5, .inl (κ 0, 8, .inl (fun _ => 0)))] H := hP
  have hD : va_D A [(h0, .inr (1, [.ref q1, .ref q2, .ref q3, .ref q4, .ref q5, .null, .null, .int 0, .int 0, .int 0, .int 0])), (q1, .inl (κ 0, 8, .inl (fun _ => 0))), (q2, .inl (κ 0, 8, .inl (fun _ => 0))), (q3, .inl (κ 0, 8, .inl (fun _ => 0))), (q4, .inl (κ 0, 8, .inl (fun _ => 0))), (q5, .inl (κ 0, 8, .inl (fun _ => 0)))] := hD
  refine lv_aload_n hx hb dX1_init_44 rfl (lv_at hl 0 rfl) ?_
  refine lv_bipush (v := 6) hx hb dX1_init_45 (by decide) ?_
  refine xnewi Cc hP hD hS hA (N' := 6) (by decide) rfl (by decide) (Nat.le_of_ble_eq_true rfl) (Nat.le_of_ble_eq_true rfl) dX1_init_47 (fun q6 H hP hD hS => ?_)
  have hP : va_P D classes [(h0, .inr (1, [.ref q1, .ref q2, .ref q3, .ref q4, .ref q5, .null, .null, .int 0, .int 0, .int 0, .int 0])), (q1, .inl (κ 0, 8, .inl (fun _ => 0))), (q2, .inl (κ 0, 8, .inl (fun _ => 0))), (q3, .inl (κ 0, 8, .inl (fun _ => 0))), (q4, .inl (κ 0, 8, .inl (fun _ => 0))), (q5, .inl (κ 0, 8, .inl (fun _ => 0))), (q6, .inl (κ 0, 6, .inl (fun _ => 0)))] H := hP
  have hD : va_D A [(h0, .inr (1, [.ref q1, .ref q2, .ref q3, .ref q4, .ref q5, .null, .null, .int 0, .int 0, .int 0, .int 0])), (q1, .inl (κ 0, 8, .inl (fun _ => 0))), (q2, .inl (κ 0, 8, .inl (fun _ => 0))), (q3, .inl (κ 0, 8, .inl (fun _ => 0))), (q4, .inl (κ 0, 8, .inl (fun _ => 0))), (q5, .inl (κ 0, 8, .inl (fun _ => 0))), (q6, .inl (κ 0, 6, .inl (fun _ => 0)))] := hD
  refine va_putF (D := D) (ci := 1) (v := .ref q6) (ty := .array .int) (C := RX1) (T := TX1) (N := 11) hx hb hts iX1 tyX1 tyX1_ok nmX1 hown hE.1 hP hD hS 0 rfl rfl 5 (by decide) (tw_107 hts) (fun _ h9 => h9) rfl hin rfl (by decide +kernel) rfl rfl (Nat.le_of_ble_eq_true rfl) dX1_init_49 (fun H locs hP hD hS => ?_)
  have hP : va_P D classes [(h0, .inr (1, [.ref q1, .ref q2, .ref q3, .ref q4, .ref q5, .ref q6, .null, .int 0, .int 0, .int 0, .int 0])), (q1, .inl (κ 0, 8, .inl (fun _ => 0))), (q2, .inl (κ 0, 8, .inl (fun _ => 0))), (q3, .inl (κ 0, 8, .inl (fun _ => 0))), (q4, .inl (κ 0, 8, .inl (fun _ => 0))), (q5, .inl (κ 0, 8, .inl (fun _ => 0))), (q6, .inl (κ 0, 6, .inl (fun _ => 0)))] H := hP
  have hD : va_D A [(h0, .inr (1, [.ref q1, .ref q2, .ref q3, .ref q4, .ref q5, .ref q6, .null, .int 0, .int 0, .int 0, .int 0])), (q1, .inl (κ 0, 8, .inl (fun _ => 0))), (q2, .inl (κ 0, 8, .inl (fun _ => 0))), (q3, .inl (κ 0, 8, .inl (fun _ => 0))), (q4, .inl (κ 0, 8, .inl (fun _ => 0))), (q5, .inl (κ 0, 8, .inl (fun _ => 0))), (q6, .inl (κ 0, 6, .inl (fun _ => 0)))] := hD
  refine lv_aload_n hx hb dX1_init_52 rfl (lv_at hl 0 rfl) ?_
  refine lv_bipush (v := 10) hx hb dX1_init_53 (by decide) ?_
  refine xnewi Cc hP hD hS hA (N' := 10) (by decide) rfl (by decide) (Nat.le_of_ble_eq_true rfl) (Nat.le_of_ble_eq_true rfl) dX1_init_55 (fun q7 H hP hD hS => ?_)
  have hP : va_P D classes [(h0, .inr (1, [.ref q1, .ref q2, .ref q3, .ref q4, .ref q5, .ref q6, .null, .int 0, .int 0, .int 0, .int 0])), (q1, .inl (κ 0, 8, .inl (fun _ => 0))), (q2, .inl (κ 0, 8, .inl (fun _ => 0))), (q3, .inl (κ 0, 8, .inl (fun _ => 0))), (q4, .inl (κ 0, 8, .inl (fun _ => 0))), (q5, .inl (κ 0, 8, .inl (fun _ => 0))), (q6, .inl (κ 0, 6, .inl (fun _ => 0))), (q7, .inl (κ 0, 10, .inl (fun _ => 0)))] H := hP
  have hD : va_D A [(h0, .inr (1, [.ref q1, .ref q2, .ref q3, .ref q4, .ref q5, .ref q6, .null, .int 0, .int 0, .int 0, .int 0])), (q1, .inl (κ 0, 8, .inl (fun _ => 0))), (q2, .inl (κ 0, 8, .inl (fun _ => 0))), (q3, .inl (κ 0, 8, .inl (fun _ => 0))), (q4, .inl (κ 0, 8, .inl (fun _ => 0))), (q5, .inl (κ 0, 8, .inl (fun _ => 0))), (q6, .inl (κ 0, 6, .inl (fun _ => 0))), (q7, .inl (κ 0, 10, .inl (fun _ => 0)))] := hD
  refine va_putF (D := D) (ci := 1) (v := .ref q7) (ty := .array .int) (C := RX1) (T := TX1) (N := 11) hx hb hts iX1 tyX1 tyX1_ok nmX1 hown hE.1 hP hD hS 0 rfl rfl 6 (by decide) (tw_110 hts) (fun _ h9 => h9) rfl hin rfl (by decide +kernel) rfl rfl (Nat.le_of_ble_eq_true rfl) dX1_init_57 (fun H locs hP hD hS => ?_)
  have hP : va_P D classes [(h0, .inr (1, [.ref q1, .ref q2, .ref q3, .ref q4, .ref q5, .ref q6, .ref q7, .int 0, .int 0, .int 0, .int 0])), (q1, .inl (κ 0, 8, .inl (fun _ => 0))), (q2, .inl (κ 0, 8, .inl (fun _ => 0))), (q3, .inl (κ 0, 8, .inl (fun _ => 0))), (q4, .inl (κ 0, 8, .inl (fun _ => 0))), (q5, .inl (κ 0, 8, .inl (fun _ => 0))), (q6, .inl (κ 0, 6, .inl (fun _ => 0))), (q7, .inl (κ 0, 10, .inl (fun _ => 0)))] H := hP
  have hD : va_D A [(h0, .inr (1, [.ref q1, .ref q2, .ref q3, .ref q4, .ref q5, .ref q6, .ref q7, .int 0, .int 0, .int 0, .int 0])), (q1, .inl (κ 0, 8, .inl (fun _ => 0))), (q2, .inl (κ 0, 8, .inl (fun _ => 0))), (q3, .inl (κ 0, 8, .inl (fun _ => 0))), (q4, .inl (κ 0, 8, .inl (fun _ => 0))), (q5, .inl (κ 0, 8, .inl (fun _ => 0))), (q6, .inl (κ 0, 6, .inl (fun _ => 0))), (q7, .inl (κ 0, 10, .inl (fun _ => 0)))] := hD
  have hIj : Ij (fun i => [h0, q1, q2, q3, q4, q5, q6, q7].getD i 0) 8 := Ij_of hD (fun i hi => by
    match i, hi with
    | 0, _ => exact ⟨_, rfl⟩
    | 1, _ => exact ⟨_, rfl⟩
    | 2, _ => exact ⟨_, rfl⟩
    | 3, _ => exact ⟨_, rfl⟩
    | 4, _ => exact ⟨_, rfl⟩
    | 5, _ => exact ⟨_, rfl⟩
    | 6, _ => exact ⟨_, rfl⟩
    | 7, _ => exact ⟨_, rfl⟩
    | i + 8, hi => exact absurd hi (by omega))
  have hAa : ∀ i, i < 8 → A ((fun i => [h0, q1, q2, q3, q4, q5, q6, q7].getD i 0) i) := fun i hi => by
    match i, hi with
    | 0, _ => exact hD.2 0 _ rfl
    | 1, _ => exact hD.2 1 _ rfl
    | 2, _ => exact hD.2 2 _ rfl
    | 3, _ => exact hD.2 3 _ rfl
    | 4, _ => exact hD.2 4 _ rfl
    | 5, _ => exact hD.2 5 _ rfl
    | 6, _ => exact hD.2 6 _ rfl
    | 7, _ => exact hD.2 7 _ rfl
    | i + 8, hi => exact absurd hi (by omega)
  have hP : va_P D classes (wCo κ (fun i => [h0, q1, q2, q3, q4, q5, q6, q7].getD i 0) (fun _ _ => 0)) H := hP
  refine lv_aload_n hx hb dX1_init_60 rfl (lv_at hl 0 rfl) ?_
  refine lv_iconst (v := 1) hx hb dX1_init_61 (by decide) ?_
  refine uCo_10 (a := (fun i => [h0, q1, q2, q3, q4, q5, q6, q7].getD i 0)) Cc hP hIj hS (hAa 0 (by decide)) (tw_121 hts) dX1_init_62 (fun H locs hP hS hk => ?_)
  refine lv_iconst (v := 0) hx hb dX1_init_65 (by decide) ?_
  refine lv_istore_n (lv' := [(1, .int 0), (0, .ref h0)]) hx hb dX1_init_66 rfl hl (by decide) rfl (fun ls hl => ?_)
  refine lX1_init (a := (fun i => [h0, q1, q2, q3, q4, q5, q6, q7].getD i 0)) Cc hIj (hAa 7 (by decide)) 10 0 rfl _ _ _ hP hS ls (lv_sub hl [1, 0] rfl) (fun H locs hP hS ls => ?_)
  have e9 : fillS (st (fun _ _ => 0) 10 0 1) 0 10 = σICo := by
    funext f j
    rw [fillS_at]
    rfl
  rw [e9] at hP
  exact W.vret hx hb hr (fun t ht _ => QWv.mk (u := (fun i => [h0, q1, q2, q3, q4, q5, q6, q7].getD i 0)) ⟨rfl, hIj, hAa⟩ hP hS ht) hS.2.2 dX1_init_86 (hlocks := hlk)
