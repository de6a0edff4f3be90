section GK
variable {p : Program} {l : Launch} {e : Env} {R : Room} {s : State} {m : MethodId} {args : Array Value} {below : List Frame} {meth : Method} {c : Code} {H : Heap} {locs : List Loc} {cells slots : Nat} {Q : State → Prop} {pc : Nat} {ls : Array Slot} {rest : List Value} {cc : ByteArray} {D : va_G} {κ : Nat → ClassId} {own : String} {idx nL w a : Nat} {rt : Option FieldType} {ρ ν : Nat → Nat} {N A : Nat → Prop} {ws : va_W} {H0 : Heap}
theorem xa_asts (Cc : Cx D κ own cc nL rt p s m args meth c) (hT : SE ρ ν N s H) (hw : w < 11) (hP : va_P D classes ws H) (hD : va_D A ws) (hS : va_S A H0 H locs) (q0 : Nat) {n : Nat} {f : Nat → Option Nat} (ha : ws[q0]? = some (a, .inl (κ 2, n, .inr (.inr (.inr (.inr f)))))) {i : Int32} (hin : vp_in i n) (hdg : decode cc pc = .ok (.aastore, 1))
    (kk : ∀ (H1 : Heap) (locs1 : List Loc), va_P D classes (ws.set q0 (a, .inl (κ 2, n, .inr (.inr (.inr (.inr (va_up f i.toNatClampNeg (some (ρ w))))))))) H1 → va_D A (ws.set q0 (a, .inl (κ 2, n, .inr (.inr (.inr (.inr (va_up f i.toNatClampNeg (some (ρ w))))))))) → va_S A H0 H1 locs1 → (∀ q : Nat, q ≠ a → H1[q]? = H[q]?) → W p l e R s m args below meth c H1 locs1 cells slots Q (F0 m (pc + 1) ls rest)) : W p l e R s m args below meth c H locs cells slots Q (F0 m pc ls (.ref (ρ w) :: .int i :: .ref a :: rest)) := by
  have hlt : i.toNatClampNeg < n := vin_lt hin
  have h0 : ¬ i < 0 := fun q => hin (Or.inl q)
  obtain ⟨cellV, g1, g2, g3, -⟩ := (hT.1.1 w hw).1
  have hty : (tyl κ)[2]? = some (κ 2, .object "java/lang/String") := rfl
  obtain ⟨kA, comp, k1, k2, k3, -⟩ := (Cc.2.2.2.2.2.2.2.1.2 2 _ hty).2
  have hcomp : comp = cellV.cls := Option.some.inj (k3.symm.trans g3)
  subst hcomp
  obtain ⟨kC, hkC, -⟩ := Vm.findClass_spec k3
  refine W.aast Cc.1 Cc.2.1 (hP q0 _ ha) (fun q h => by cases h) (fun h => by cases h) k1 k2 rfl hkC ⟨h0, by show _ < (arrV _ _ _).slots.size; rw [arrV_size]; exact hlt⟩ g1 (fun q h => by rw [h] at g2; cases g2) hkC (va_asg _ _) rfl rfl hdg fun H1 e1 z oq => ?_
  refine kk H1 _ (hP.set hD ha ?_ oq) (hD.set ha) (hS.put z oq (hD.2 q0 _ ha)) oq
  show H1[a]? = some (vp_cell _ _)
  rw [e1, vp_cell_q, vp_cell_q, arrV_store]
  refine congrArg (fun z => some (arrV (κ 2) n z)) ?_
  funext q
  by_cases hq : q = i.toNatClampNeg
  · subst hq
    simp [updV, va_up, va_rf]
  · simp [updV, va_up, hq]
end GK
def fillM (σ : Mx) (i : Nat) : Nat → Mx
  | 0 => σ
  | n + 1 => fillM (st σ 0 (9 + i) (-1)) (i + 1) n
def σIMo : Mx := fillM (st (fun _ _ => 0) 0 2 1) 0 10
set_option maxHeartbeats 4000000 in
theorem lX5_init {p : Program} {l : Launch} {e : Env} {R : Room} {s : State} {m : MethodId} {args : Array Value} {below : List Frame} {meth : Method} {c : Code} {cells slots : Nat} {Q : State → Prop} {D : va_G} {κ : Nat → ClassId} {ρ a : Nat → Nat} {A : Nat → Prop} {H0 : Heap}
    (Cc : Cx D κ RX5 cX5_init 2 none p s m args meth c) (hI : Ij a 13) (hA : A (a 1)) : ∀ (n i : Nat), i + n = 10 → ∀ (σ : Mx) (H : Heap) (locs : List Loc), va_P D classes (wMo κ ρ a σ) H → va_S A H0 H locs → ∀ (ls : Array Slot), lv_has ls 2 [(0, .ref (a 0)), (1, .int (nI i))] →
      (∀ (H : Heap) (locs : List Loc), va_P D classes (wMo κ ρ a (fillM σ i n)) H → va_S A H0 H locs → ∀ (ls : Array Slot), W p l e R s m args below meth c H locs cells slots Q (F0 m 169 ls [])) → W p l e R s m args below meth c H locs cells slots Q (F0 m 147 ls []) := by
  obtain ⟨hx, hb, hml, hown, hts, hr, hlk, hE⟩ := id Cc
  intro n
  induction n with
  | zero =>
    intro i hi σ H locs hP hS ls hl kk
    refine lv_iload_n hx hb dX5_init_147 rfl (lv_at hl 1 rfl) ?_
    refine lv_bipush (v := 10) hx hb dX5_init_148 (by decide) ?_
    refine lv_icmp_ge (tgt := 169) hx hb dX5_init_150 (by decide) (fun _ => kk H locs hP hS ls) (fun c9 => absurd (show (10 : Int32) ≤ nI i by rw [show i = 10 by omega]; decide) c9)
  | succ n ih =>
    intro i hi σ H locs hP hS ls hl kk
    have h10 : ¬ (10 : Int32) ≤ nI i := nI_ge (a := i) (b := 10) (by omega) (by decide)
    refine lv_iload_n hx hb dX5_init_147 rfl (lv_at hl 1 rfl) ?_
    refine lv_bipush (v := 10) hx hb dX5_init_148 (by decide) ?_
    refine lv_icmp_ge (tgt := 169) hx hb dX5_init_150 (by decide) (fun c9 => absurd c9 h10) (fun _ => ?_)
    refine lv_aload_n hx hb dX5_init_153 rfl (lv_at hl 0 rfl) ?_
    refine gMo_0 Cc hP (tw_761 hts) dX5_init_154 ?_
    refine lv_bipush (v := 9) hx hb dX5_init_157 (by decide) ?_
    refine lv_iload_n hx hb dX5_init_159 rfl (lv_at hl 1 rfl) ?_
    refine lv_iadd hx hb dX5_init_160 ?_
    refine lv_iconst (v := (-1)) hx hb dX5_init_161 (by decide) ?_
    have e9 : (9 : Int32) + nI i = nI (9 + i) := nI_add 9 i
    rw [e9]
    refine sMo_0 Cc hP hI hS hA (vp_in_nI (by omega) (by decide)) dX5_init_162 (fun H locs hP hS hk => ?_)
    rw [nI_clamp (by omega)] at hP
    refine lv_iinc (v := nI (i + 1)) (lv' := [(1, .int (nI (i + 1))), (0, .ref (a 0))]) hx hb dX5_init_163 hl (k := 1) rfl (nI_1 i) (by decide) rfl (fun ls hl => ?_)
    refine lv_goto (tgt := 147) hx hb dX5_init_166 (by decide) ?_
    exact ih (i + 1) (by omega) _ H locs hP hS ls (lv_sub hl [1, 0] rfl) kk
abbrev rX5_init : Room := { frames := 1, cells := 12, slots := 3192, locals := 32 }
set_option maxHeartbeats 4000000 in
set_option maxRecDepth 100000 in
theorem mX5_init (l : Launch) (D : va_G) (κ : Nat → ClassId) (ρ ν : Nat → Nat) (N : Nat → Prop) (h0 sz : Nat) (hN : ∀ q, iA h0 sz q → N q) : Met l yX5_init (wz yX5_init cX5_init 2 none) rX5_init (va_Pc [.ref h0] (fun U => EK D κ U ∧ EC U ∧ SE ρ ν N U U.heap ∧ U.heap.size = sz ∧ va_P D classes [(h0, .inr (5, [.null, .null, .null, .int 0, .null, .null, .null, .int 0, .int 0, .int 0, .int 0, .int 0, .int 0, .null, .null, .int 0, .int 0, .null, .null, .null, .null]))] U.heap)) (QWv (fun a : Nat → Nat => a 0 = h0 ∧ Ij a 13 ∧ ∀ i, i < 13 → iA h0 sz (a i)) (fun a H => va_P D classes (wMo κ ρ a σIMo) H) (iA h0 sz)) 12 3192 (iA h0 sz) := by
  refine Met.ofW (cc := cX5_init) (maxL := 2) (ret := none) (by decide) rfl ?_
  intro p e s m args below meth c s₁ B hml hv
  obtain ⟨rfl, hE, hEC, hT0, hsz, hP⟩ := hv
  have hts0 := atoms_spec (ws := wz yX5_init cX5_init 2 none) B.pre
  have hown : s.vm.findClass RX5 = some m.cls := findClass_of_methodNamed B.named
  have hin : meth.name = "<init>" := (name_of_methodNamed B.named B.method).1
  have Cc : Cx D κ RX5 cX5_init 2 none p s m [Value.ref h0].toArray meth c := ⟨B.exec, B.bytes, hml, hown, fun w h => hts0 w (List.mem_cons_of_mem _ h), B.returns, B.notSynchronized, hE⟩
  obtain ⟨hx, hb, hml, hown, hts, hr, hlk, hE⟩ := id Cc
  rw [lg_entry_eq]
  have hl := lv_entry [Value.ref h0] (n := 2) (Nat.le_of_ble_eq_true rfl)
  generalize (lg_sl [Value.ref h0] ++ List.replicate (2 - (lg_sl [Value.ref h0]).length) Slot.unset).toArray = ls at hl ⊢
  have hl : lv_has ls 2 [(0, .ref h0)] := hl
  subst hsz
  generalize hAe : iA h0 s.heap.size = A at hN ⊢
  have hA : ∀ q : Nat, s.heap.size ≤ q → A q := fun q h => by rw [← hAe]; exact Or.inr h
  have hD : va_D A [(h0, .inr (5, [.null, .null, .null, .int 0, .null, .null, .null, .int 0, .int 0, .int 0, .int 0, .int 0, .int 0, .null, .null, .int 0, .int 0, .null, .null, .null, .null]))] := ⟨fun i j p q hp hq _ => by have h1 := (List.getElem?_eq_some_iff.mp hp).1; have h2 := (List.getElem?_eq_some_iff.mp hq).1; simp at h1 h2; omega, fun k q hk => by have h1 := (List.getElem?_eq_some_iff.mp hk).1; simp at h1; subst h1; cases hk; rw [← hAe]; exact Or.inl rfl⟩
  have hS : va_S A s.heap s.heap [] := va_S.rf

  refine lv_aload_n hx hb dX5_init_0 rfl (lv_at hl 0 rfl) ?_
  refine W.objInit hx hb hown (tw_751 hts) (tw_89 hts) (tw_90 hts) rfl (by rw [hml]; exact hl.1) rfl dX5_init_1 (Nat.le_of_ble_eq_true rfl) (Nat.le_of_ble_eq_true rfl) ?_
  refine W.eq (g2 := F0 m 4 ls []) rfl ?_
  refine lv_aload_n hx hb dX5_init_4 rfl (lv_at hl 0 rfl) ?_
  refine lv_bipush (v := 67) hx hb dX5_init_5 (by decide) ?_
  refine xnewi Cc hP hD hS hA (N' := 67) (by decide) rfl (by decide) (Nat.le_of_ble_eq_true rfl) (Nat.le_of_ble_eq_true rfl) dX5_init_7 (fun q1 H1 hP hD hS1 => ?_)
  have hS := hS1
  generalize H1 = H at hP hS ⊢
  have hP : va_P D classes [(h0, .inr (5, [.null, .null, .null, .int 0, .null, .null, .null, .int 0, .int 0, .int 0, .int 0, .int 0, .int 0, .null, .null, .int 0, .int 0, .null, .null, .null, .null])), (q1, .inl (κ 0, 67, .inl (fun _ => 0)))] H := hP
  have hD : va_D A [(h0, .inr (5, [.null, .null, .null, .int 0, .null, .null, .null, .int 0, .int 0, .int 0, .int 0, .int 0, .int 0, .null, .null, .int 0, .int 0, .null, .null, .null, .null])), (q1, .inl (κ 0, 67, .inl (fun _ => 0)))] := hD
  refine va_putF (D := D) (ci := 5) (v := .ref q1) (ty := .array .int) (C := RX5) (T := TX5) (N := 21) hx hb hts iX5 tyX5 tyX5_ok nmX5 hown hE.1 hP hD hS 0 rfl rfl 0 (by decide) (tw_761 hts) (fun _ h9 => h9) rfl hin rfl (by decide +kernel) rfl rfl (Nat.le_of_ble_eq_true rfl) dX5_init_9 (fun H1 locs hP hD hS1 => ?_)
  have hS := hS1
  generalize H1 = H at hP hS ⊢
  have hP : va_P D classes [(h0, .inr (5, [.ref q1, .null, .null, .int 0, .null, .null, .null, .int 0, .int 0, .int 0, .int 0, .int 0, .int 0, .null, .null, .int 0, .int 0, .null, .null, .null, .null])), (q1, .inl (κ 0, 67, .inl (fun _ => 0)))] H := hP
  have hD : va_D A [(h0, .inr (5, [.ref q1, .null, .null, .int 0, .null, .null, .null, .int 0, .int 0, .int 0, .int 0, .int 0, .int 0, .null, .null, .int 0, .int 0, .null, .null, .null, .null])), (q1, .inl (κ 0, 67, .inl (fun _ => 0)))] := hD
  refine lv_aload_n hx hb dX5_init_12 rfl (lv_at hl 0 rfl) ?_
  refine lv_bipush (v := 67) hx hb dX5_init_13 (by decide) ?_
  refine xnewi Cc hP hD hS hA (N' := 67) (by decide) rfl (by decide) (Nat.le_of_ble_eq_true rfl) (Nat.le_of_ble_eq_true rfl) dX5_init_15 (fun q2 H1 hP hD hS1 => ?_)
  have hS := hS1
  generalize H1 = H at hP hS ⊢
  have hP : va_P D classes [(h0, .inr (5, [.ref q1, .null, .null, .int 0, .null, .null, .null, .int 0, .int 0, .int 0, .int 0, .int 0, .int 0, .null, .null, .int 0, .int 0, .null, .null, .null, .null])), (q1, .inl (κ 0, 67, .inl (fun _ => 0))), (q2, .inl (κ 0, 67, .inl (fun _ => 0)))] H := hP
  have hD : va_D A [(h0, .inr (5, [.ref q1, .null, .null, .int 0, .null, .null, .null, .int 0, .int 0, .int 0, .int 0, .int 0, .int 0, .null, .null, .int 0, .int 0, .null, .null, .null, .null])), (q1, .inl (κ 0, 67, .inl (fun _ => 0))), (q2, .inl (κ 0, 67, .inl (fun _ => 0)))] := hD
  refine va_putF (D := D) (ci := 5) (v := .ref q2) (ty := .array .int) (C := RX5) (T := TX5) (N := 21) hx hb hts iX5 tyX5 tyX5_ok nmX5 hown hE.1 hP hD hS 0 rfl rfl 1 (by decide) (tw_762 hts) (fun _ h9 => h9) rfl hin rfl (by decide +kernel) rfl rfl (Nat.le_of_ble_eq_true rfl) dX5_init_17 (fun H1 locs hP hD hS1 => ?_)
  have hS := hS1
  generalize H1 = H at hP hS ⊢
  have hP : va_P D classes [(h0, .inr (5, [.ref q1, .ref q2, .null, .int 0, .null, .null, .null, .int 0, .int 0, .int 0, .int 0, .int 0, .int 0, .null, .null, .int 0, .int 0, .null, .null, .null, .null])), (q1, .inl (κ 0, 67, .inl (fun _ => 0))), (q2, .inl (κ 0, 67, .inl (fun _ => 0)))] H := hP
  have hD : va_D A [(h0, .inr (5, [.ref q1, .ref q2, .null, .int 0, .null, .null, .null, .int 0, .int 0, .int 0, .int 0, .int 0, .int 0, .null, .null, .int 0, .int 0, .null, .null, .null, .null])), (q1, .inl (κ 0, 67, .inl (fun _ => 0))), (q2, .inl (κ 0, 67, .inl (fun _ => 0)))] := hD
  refine lv_aload_n hx hb dX5_init_20 rfl (lv_at hl 0 rfl) ?_
  refine lv_bipush (v := 67) hx hb dX5_init_21 (by decide) ?_
  refine xnewi Cc hP hD hS hA (N' := 67) (by decide) rfl (by decide) (Nat.le_of_ble_eq_true rfl) (Nat.le_of_ble_eq_true rfl) dX5_init_23 (fun q3 H1 hP hD hS1 => ?_)
  have hS := hS1
  generalize H1 = H at hP hS ⊢
  have hP : va_P D classes [(h0, .inr (5, [.ref q1, .ref q2, .null, .int 0, .null, .null, .null, .int 0, .int 0, .int 0, .int 0, .int 0, .int 0, .null, .null, .int 0, .int 0, .null, .null, .null, .null])), (q1, .inl (κ 0, 67, .inl (fun _ => 0))), (q2, .inl (κ 0, 67, .inl (fun _ => 0))), (q3, .inl (κ 0, 67, .inl (fun _ => 0)))] H := hP
  have hD : va_D A [(h0, .inr (5, [.ref q1, .ref q2, .null, .int 0, .null, .null, .null, .int 0, .int 0, .int 0, .int 0, .int 0, .int 0, .null, .null, .int 0, .int 0, .null, .null, .null, .null])), (q1, .inl (κ 0, 67, .inl (fun _ => 0))), (q2, .inl (κ 0, 67, .inl (fun _ => 0))), (q3, .inl (κ 0, 67, .inl (fun _ => 0)))] := hD
  refine va_putF (D := D) (ci := 5) (v := .ref q3) (ty := .array .int) (C := RX5) (T := TX5) (N := 21) hx hb hts iX5 tyX5 tyX5_ok nmX5 hown hE.1 hP hD hS 0 rfl rfl 2 (by decide) (tw_763 hts) (fun _ h9 => h9) rfl hin rfl (by decide +kernel) rfl rfl (Nat.le_of_ble_eq_true rfl) dX5_init_25 (fun H1 locs hP hD hS1 => ?_)
  have hS := hS1
  generalize H1 = H at hP hS ⊢
  have hP : va_P D classes [(h0, .inr (5, [.ref q1, .ref q2, .ref q3, .int 0, .null, .null, .null, .int 0, .int 0, .int 0, .int 0, .int 0, .int 0, .null, .null, .int 0, .int 0, .null, .null, .null, .null])), (q1, .inl (κ 0, 67, .inl (fun _ => 0))), (q2, .inl (κ 0, 67, .inl (fun _ => 0))), (q3, .inl (κ 0, 67, .inl (fun _ => 0)))] H := hP
  have hD : va_D A [(h0, .inr (5, [.ref q1, .ref q2, .ref q3, .int 0, .null, .null, .null, .int 0, .int 0, .int 0, .int 0, .int 0, .int 0, .null, .null, .int 0, .int 0, .null, .null, .null, .null])), (q1, .inl (κ 0, 67, .inl (fun _ => 0))), (q2, .inl (κ 0, 67, .inl (fun _ => 0))), (q3, .inl (κ 0, 67, .inl (fun _ => 0)))] := hD
  refine lv_aload_n hx hb dX5_init_28 rfl (lv_at hl 0 rfl) ?_
  refine lv_bipush (v := 8) hx hb dX5_init_29 (by decide) ?_
  refine xnewi Cc hP hD hS hA (N' := 8) (by decide) rfl (by decide) (Nat.le_of_ble_eq_true rfl) (Nat.le_of_ble_eq_true rfl) dX5_init_31 (fun q4 H1 hP hD hS1 => ?_)
  have hS := hS1
  generalize H1 = H at hP hS ⊢
  have hP : va_P D classes [(h0, .inr (5, [.ref q1, .ref q2, .ref q3, .int 0, .null, .null, .null, .int 0, .int 0, .int 0, .int 0, .int 0, .int 0, .null, .null, .int 0, .int 0, .null, .null, .null, .null])), (q1, .inl (κ 0, 67, .inl (fun _ => 0))), (q2, .inl (κ 0, 67, .inl (fun _ => 0))), (q3, .inl (κ 0, 67, .inl (fun _ => 0))), (q4, .inl (κ 0, 8, .inl (fun _ => 0)))] H := hP
  have hD : va_D A [(h0, .inr (5, [.ref q1, .ref q2, .ref q3, .int 0, .null, .null, .null, .int 0, .int 0, .int 0, .int 0, .int 0, .int 0, .null, .null, .int 0, .int 0, .null, .null, .null, .null])), (q1, .inl (κ 0, 67, .inl (fun _ => 0))), (q2, .inl (κ 0, 67, .inl (fun _ => 0))), (q3, .inl (κ 0, 67, .inl (fun _ => 0))), (q4, .inl (κ 0, 8, .inl (fun _ => 0)))] := hD
  refine va_putF (D := D) (ci := 5) (v := .ref q4) (ty := .array .int) (C := RX5) (T := TX5) (N := 21) hx hb hts iX5 tyX5 tyX5_ok nmX5 hown hE.1 hP hD hS 0 rfl rfl 4 (by decide) (tw_765 hts) (fun _ h9 => h9) rfl hin rfl (by decide +kernel) rfl rfl (Nat.le_of_ble_eq_true rfl) dX5_init_33 (fun H1 locs hP hD hS1 => ?_)
  have hS := hS1
  generalize H1 = H at hP hS ⊢
  have hP : va_P D classes [(h0, .inr (5, [.ref q1, .ref q2, .ref q3, .int 0, .ref q4, .null, .null, .int 0, .int 0, .int 0, .int 0, .int 0, .int 0, .null, .null, .int 0, .int 0, .null, .null, .null, .null])), (q1, .inl (κ 0, 67, .inl (fun _ => 0))), (q2, .inl (κ 0, 67, .inl (fun _ => 0))), (q3, .inl (κ 0, 67, .inl (fun _ => 0))), (q4, .inl (κ 0, 8, .inl (fun _ => 0)))] H := hP
  have hD : va_D A [(h0, .inr (5, [.ref q1, .ref q2, .ref q3, .int 0, .ref q4, .null, .null, .int 0, .int 0, .int 0, .int 0, .int 0, .int 0, .null, .null, .int 0, .int 0, .null, .null, .null, .null])), (q1, .inl (κ 0, 67, .inl (fun _ => 0))), (q2, .inl (κ 0, 67, .inl (fun _ => 0))), (q3, .inl (κ 0, 67, .inl (fun _ => 0))), (q4, .inl (κ 0, 8, .inl (fun _ => 0)))] := hD
  refine lv_aload_n hx hb dX5_init_36 rfl (lv_at hl 0 rfl) ?_
  refine lv_sipush (v := 2048) hx hb dX5_init_37 (by decide) ?_
  refine xnewi Cc hP hD hS hA (N' := 2048) (by decide) rfl (by decide) (Nat.le_of_ble_eq_true rfl) (Nat.le_of_ble_eq_true rfl) dX5_init_40 (fun q5 H1 hP hD hS1 => ?_)
  have hS := hS1
  generalize H1 = H at hP hS ⊢
  have hP : va_P D classes [(h0, .inr (5, [.ref q1, .ref q2, .ref q3, .int 0, .ref q4, .null, .null, .int 0, .int 0, .int 0, .int 0, .int 0, .int 0, .null, .null, .int 0, .int 0, .null, .null, .null, .null])), (q1, .inl (κ 0, 67, .inl (fun _ => 0))), (q2, .inl (κ 0, 67, .inl (fun _ => 0))), (q3, .inl (κ 0, 67, .inl (fun _ => 0))), (q4, .inl (κ 0, 8, .inl (fun _ => 0))), (q5, .inl (κ 0, 2048, .inl (fun _ => 0)))] H := hP
  have hD : va_D A [(h0, .inr (5, [.ref q1, .ref q2, .ref q3, .int 0, .ref q4, .null, .null, .int 0, .int 0, .int 0, .int 0, .int 0, .int 0, .null, .null, .int 0, .int 0, .null, .null, .null, .null])), (q1, .inl (κ 0, 67, .inl (fun _ => 0))), (q2, .inl (κ 0, 67, .inl (fun _ => 0))), (q3, .inl (κ 0, 67, .inl (fun _ => 0))), (q4, .inl (κ 0, 8, .inl (fun _ => 0))), (q5, .inl (κ 0, 2048, .inl (fun _ => 0)))] := hD
  refine va_putF (D := D) (ci := 5) (v := .ref q5) (ty := .array .int) (C := RX5) (T := TX5) (N := 21) hx hb hts iX5 tyX5 tyX5_ok nmX5 hown hE.1 hP hD hS 0 rfl rfl 5 (by decide) (tw_766 hts) (fun _ h9 => h9) rfl hin rfl (by decide +kernel) rfl rfl (Nat.le_of_ble_eq_true rfl) dX5_init_42 (fun H1 locs hP hD hS1 => ?_)
  have hS := hS1
  generalize H1 = H at hP hS ⊢
  have hP : va_P D classes [(h0, .inr (5, [.ref q1, .ref q2, .ref q3, .int 0, .ref q4, .ref q5, .null, .int 0, .int 0, .int 0, .int 0, .int 0, .int 0, .null, .null, .int 0, .int 0, .null, .null, .null, .null])), (q1, .inl (κ 0, 67, .inl (fun _ => 0))), (q2, .inl (κ 0, 67, .inl (fun _ => 0))), (q3, .inl (κ 0, 67, .inl (fun _ => 0))), (q4, .inl (κ 0, 8, .inl (fun _ => 0))), (q5, .inl (κ 0, 2048, .inl (fun _ => 0)))] H := hP
  have hD : va_D A [(h0, .inr (5, [.ref q1, .ref q2, .ref q3, .int 0, .ref q4, .ref q5, .null, .int 0, .int 0, .int 0, .int 0, .int 0, .int 0, .null, .null, .int 0, .int 0, .null, .null, .null, .null])), (q1, .inl (κ 0, 67, .inl (fun _ => 0))), (q2, .inl (κ 0, 67, .inl (fun _ => 0))), (q3, .inl (κ 0, 67, .inl (fun _ => 0))), (q4, .inl (κ 0, 8, .inl (fun _ => 0))), (q5, .inl (κ 0, 2048, .inl (fun _ => 0)))] := hD
  refine lv_aload_n hx hb dX5_init_45 rfl (lv_at hl 0 rfl) ?_
  refine lv_bipush (v := 120) hx hb dX5_init_46 (by decide) ?_
  refine xnewi Cc hP hD hS hA (N' := 120) (by decide) rfl (by decide) (Nat.le_of_ble_eq_true rfl) (Nat.le_of_ble_eq_true rfl) dX5_init_48 (fun q6 H1 hP hD hS1 => ?_)
  have hS := hS1
  generalize H1 = H at hP hS ⊢
  have hP : va_P D classes [(h0, .inr (5, [.ref q1, .ref q2, .ref q3, .int 0, .ref q4, .ref q5, .null, .int 0, .int 0, .int 0, .int 0, .int 0, .int 0, .null, .null, .int 0, .int 0, .null, .null, .null, .null])), (q1, .inl (κ 0, 67, .inl (fun _ => 0))), (q2, .inl (κ 0, 67, .inl (fun _ => 0))), (q3, .inl (κ 0, 67, .inl (fun _ => 0))), (q4, .inl (κ 0, 8, .inl (fun _ => 0))), (q5, .inl (κ 0, 2048, .inl (fun _ => 0))), (q6, .inl (κ 0, 120, .inl (fun _ => 0)))] H := hP
  have hD : va_D A [(h0, .inr (5, [.ref q1, .ref q2, .ref q3, .int 0, .ref q4, .ref q5, .null, .int 0, .int 0, .int 0, .int 0, .int 0, .int 0, .null, .null, .int 0, .int 0, .null, .null, .null, .null])), (q1, .inl (κ 0, 67, .inl (fun _ => 0))), (q2, .inl (κ 0, 67, .inl (fun _ => 0))), (q3, .inl (κ 0, 67, .inl (fun _ => 0))), (q4, .inl (κ 0, 8, .inl (fun _ => 0))), (q5, .inl (κ 0, 2048, .inl (fun _ => 0))), (q6, .inl (κ 0, 120, .inl (fun _ => 0)))] := hD
  refine va_putF (D := D) (ci := 5) (v := .ref q6) (ty := .array .int) (C := RX5) (T := TX5) (N := 21) hx hb hts iX5 tyX5 tyX5_ok nmX5 hown hE.1 hP hD hS 0 rfl rfl 6 (by decide) (tw_767 hts) (fun _ h9 => h9) rfl hin rfl (by decide +kernel) rfl rfl (Nat.le_of_ble_eq_true rfl) dX5_init_50 (fun H1 locs hP hD hS1 => ?_)
  have hS := hS1
  generalize H1 = H at hP hS ⊢
  have hP : va_P D classes [(h0, .inr (5, [.ref q1, .ref q2, .ref q3, .int 0, .ref q4, .ref q5, .ref q6, .int 0, .int 0, .int 0, .int 0, .int 0, .int 0, .null, .null, .int 0, .int 0, .null, .null, .null, .null])), (q1, .inl (κ 0, 67, .inl (fun _ => 0))), (q2, .inl (κ 0, 67, .inl (fun _ => 0))), (q3, .inl (κ 0, 67, .inl (fun _ => 0))), (q4, .inl (κ 0, 8, .inl (fun _ => 0))), (q5, .inl (κ 0, 2048, .inl (fun _ => 0))), (q6, .inl (κ 0, 120, .inl (fun _ => 0)))] H := hP
  have hD : va_D A [(h0, .inr (5, [.ref q1, .ref q2, .ref q3, .int 0, .ref q4, .ref q5, .ref q6, .int 0, .int 0, .int 0, .int 0, .int 0, .int 0, .null, .null, .int 0, .int 0, .null, .null, .null, .null])), (q1, .inl (κ 0, 67, .inl (fun _ => 0))), (q2, .inl (κ 0, 67, .inl (fun _ => 0))), (q3, .inl (κ 0, 67, .inl (fun _ => 0))), (q4, .inl (κ 0, 8, .inl (fun _ => 0))), (q5, .inl (κ 0, 2048, .inl (fun _ => 0))), (q6, .inl (κ 0, 120, .inl (fun _ => 0)))] := hD
  refine lv_aload_n hx hb dX5_init_53 rfl (lv_at hl 0 rfl) ?_
  refine lv_bipush (v := 7) hx hb dX5_init_54 (by decide) ?_
  refine va_newq hx hb hown (tw_752 hts) hEC.2.2.2.2 hE.1 hP hD hS hA (N' := 7) (by decide) rfl (by decide) (Nat.le_of_ble_eq_true rfl) (Nat.le_of_ble_eq_true rfl) dX5_init_56 (fun q7 cS H1 hK1 hP hD hS1 => ?_)
  have ecS : cS = κ 2 := by
    obtain ⟨_, _, _, _, _, f1⟩ := (hK1.2 3 _ rfl).2
    obtain ⟨_, _, _, _, _, f2⟩ := (hE.1.2 2 _ rfl).2
    exact Option.some.inj (f1.symm.trans f2)
  subst ecS
  have hS := hS1
  generalize H1 = H at hP hS ⊢
  have hP : va_P D classes [(h0, .inr (5, [.ref q1, .ref q2, .ref q3, .int 0, .ref q4, .ref q5, .ref q6, .int 0, .int 0, .int 0, .int 0, .int 0, .int 0, .null, .null, .int 0, .int 0, .null, .null, .null, .null])), (q1, .inl (κ 0, 67, .inl (fun _ => 0))), (q2, .inl (κ 0, 67, .inl (fun _ => 0))), (q3, .inl (κ 0, 67, .inl (fun _ => 0))), (q4, .inl (κ 0, 8, .inl (fun _ => 0))), (q5, .inl (κ 0, 2048, .inl (fun _ => 0))), (q6, .inl (κ 0, 120, .inl (fun _ => 0))), (q7, .inl (κ 2, 7, .inr (.inr (.inr (.inr (fun _ => none))))))] H := hP
  have hD : va_D A [(h0, .inr (5, [.ref q1, .ref q2, .ref q3, .int 0, .ref q4, .ref q5, .ref q6, .int 0, .int 0, .int 0, .int 0, .int 0, .int 0, .null, .null, .int 0, .int 0, .null, .null, .null, .null])), (q1, .inl (κ 0, 67, .inl (fun _ => 0))), (q2, .inl (κ 0, 67, .inl (fun _ => 0))), (q3, .inl (κ 0, 67, .inl (fun _ => 0))), (q4, .inl (κ 0, 8, .inl (fun _ => 0))), (q5, .inl (κ 0, 2048, .inl (fun _ => 0))), (q6, .inl (κ 0, 120, .inl (fun _ => 0))), (q7, .inl (κ 2, 7, .inr (.inr (.inr (.inr (fun _ => none))))))] := hD
  refine lv_dup hx hb dX5_init_59 rfl ?_
  refine lv_iconst (v := 0) hx hb dX5_init_60 (by decide) ?_
  have hT := hT0.kept (fun x hx9 hn9 => hS.2.1 x hx9 (fun z => hn9 (hN x z)))
  refine ldM Cc hT 0 (by decide) dX5_init_61 ?_
  refine xa_asts Cc hT (w := 0) (by decide) hP hD hS 7 rfl (show vp_in (0 : Int32) 7 by unfold vp_in; decide) dX5_init_63 (fun H1 locs hP hD hS1 _ => ?_)
  have hS := hS1
  generalize H1 = H at hP hS ⊢
  have hP : va_P D classes [(h0, .inr (5, [.ref q1, .ref q2, .ref q3, .int 0, .ref q4, .ref q5, .ref q6, .int 0, .int 0, .int 0, .int 0, .int 0, .int 0, .null, .null, .int 0, .int 0, .null, .null, .null, .null])), (q1, .inl (κ 0, 67, .inl (fun _ => 0))), (q2, .inl (κ 0, 67, .inl (fun _ => 0))), (q3, .inl (κ 0, 67, .inl (fun _ => 0))), (q4, .inl (κ 0, 8, .inl (fun _ => 0))), (q5, .inl (κ 0, 2048, .inl (fun _ => 0))), (q6, .inl (κ 0, 120, .inl (fun _ => 0))), (q7, .inl (κ 2, 7, .inr (.inr (.inr (.inr (va_up (fun _ => none) 0 (some (ρ 0))))))))] H := hP
  have hD : va_D A [(h0, .inr (5, [.ref q1, .ref q2, .ref q3, .int 0, .ref q4, .ref q5, .ref q6, .int 0, .int 0, .int 0, .int 0, .int 0, .int 0, .null, .null, .int 0, .int 0, .null, .null, .null, .null])), (q1, .inl (κ 0, 67, .inl (fun _ => 0))), (q2, .inl (κ 0, 67, .inl (fun _ => 0))), (q3, .inl (κ 0, 67, .inl (fun _ => 0))), (q4, .inl (κ 0, 8, .inl (fun _ => 0))), (q5, .inl (κ 0, 2048, .inl (fun _ => 0))), (q6, .inl (κ 0, 120, .inl (fun _ => 0))), (q7, .inl (κ 2, 7, .inr (.inr (.inr (.inr (va_up (fun _ => none) 0 (some (ρ 0))))))))] := hD
  refine lv_dup hx hb dX5_init_64 rfl ?_
  refine lv_iconst (v := 1) hx hb dX5_init_65 (by decide) ?_
  have hT := hT0.kept (fun x hx9 hn9 => hS.2.1 x hx9 (fun z => hn9 (hN x z)))
  refine ldM Cc hT 1 (by decide) dX5_init_66 ?_
  refine xa_asts Cc hT (w := 1) (by decide) hP hD hS 7 rfl (show vp_in (1 : Int32) 7 by unfold vp_in; decide) dX5_init_68 (fun H1 locs hP hD hS1 _ => ?_)
  have hS := hS1
  generalize H1 = H at hP hS ⊢
  have hP : va_P D classes [(h0, .inr (5, [.ref q1, .ref q2, .ref q3, .int 0, .ref q4, .ref q5, .ref q6, .int 0, .int 0, .int 0, .int 0, .int 0, .int 0, .null, .null, .int 0, .int 0, .null, .null, .null, .null])), (q1, .inl (κ 0, 67, .inl (fun _ => 0))), (q2, .inl (κ 0, 67, .inl (fun _ => 0))), (q3, .inl (κ 0, 67, .inl (fun _ => 0))), (q4, .inl (κ 0, 8, .inl (fun _ => 0))), (q5, .inl (κ 0, 2048, .inl (fun _ => 0))), (q6, .inl (κ 0, 120, .inl (fun _ => 0))), (q7, .inl (κ 2, 7, .inr (.inr (.inr (.inr (va_up (va_up (fun _ => none) 0 (some (ρ 0))) 1 (some (ρ 1))))))))] H := hP
  have hD : va_D A [(h0, .inr (5, [.ref q1, .ref q2, .ref q3, .int 0, .ref q4, .ref q5, .ref q6, .int 0, .int 0, .int 0, .int 0, .int 0, .int 0, .null, .null, .int 0, .int 0, .null, .null, .null, .null])), (q1, .inl (κ 0, 67, .inl (fun _ => 0))), (q2, .inl (κ 0, 67, .inl (fun _ => 0))), (q3, .inl (κ 0, 67, .inl (fun _ => 0))), (q4, .inl (κ 0, 8, .inl (fun _ => 0))), (q5, .inl (κ 0, 2048, .inl (fun _ => 0))), (q6, .inl (κ 0, 120, .inl (fun _ => 0))), (q7, .inl (κ 2, 7, .inr (.inr (.inr (.inr (va_up (va_up (fun _ => none) 0 (some (ρ 0))) 1 (some (ρ 1))))))))] := hD
  refine lv_dup hx hb dX5_init_69 rfl ?_
  refine lv_iconst (v := 2) hx hb dX5_init_70 (by decide) ?_
  have hT := hT0.kept (fun x hx9 hn9 => hS.2.1 x hx9 (fun z => hn9 (hN x z)))
  refine ldM Cc hT 2 (by decide) dX5_init_71 ?_
  refine xa_asts Cc hT (w := 2) (by decide) hP hD hS 7 rfl (show vp_in (2 : Int32) 7 by unfold vp_in; decide) dX5_init_73 (fun H1 locs hP hD hS1 _ => ?_)
  have hS := hS1
  generalize H1 = H at hP hS ⊢
  have hP : va_P D classes [(h0, .inr (5, [.ref q1, .ref q2, .ref q3, .int 0, .ref q4, .ref q5, .ref q6, .int 0, .int 0, .int 0, .int 0, .int 0, .int 0, .null, .null, .int 0, .int 0, .null, .null, .null, .null])), (q1, .inl (κ 0, 67, .inl (fun _ => 0))), (q2, .inl (κ 0, 67, .inl (fun _ => 0))), (q3, .inl (κ 0, 67, .inl (fun _ => 0))), (q4, .inl (κ 0, 8, .inl (fun _ => 0))), (q5, .inl (κ 0, 2048, .inl (fun _ => 0))), (q6, .inl (κ 0, 120, .inl (fun _ => 0))), (q7, .inl (κ 2, 7, .inr (.inr (.inr (.inr (va_up (va_up (va_up (fun _ => none) 0 (some (ρ 0))) 1 (some (ρ 1))) 2 (some (ρ 2))))))))] H := hP
  have hD : va_D A [(h0, .inr (5, [.ref q1, .ref q2, .ref q3, .int 0, .ref q4, .ref q5, .ref q6, .int 0, .int 0, .int 0, .int 0, .int 0, .int 0, .null, .null, .int 0, .int 0, .null, .null, .null, .null])), (q1, .inl (κ 0, 67, .inl (fun _ => 0))), (q2, .inl (κ 0, 67, .inl (fun _ => 0))), (q3, .inl (κ 0, 67, .inl (fun _ => 0))), (q4, .inl (κ 0, 8, .inl (fun _ => 0))), (q5, .inl (κ 0, 2048, .inl (fun _ => 0))), (q6, .inl (κ 0, 120, .inl (fun _ => 0))), (q7, .inl (κ 2, 7, .inr (.inr (.inr (.inr (va_up (va_up (va_up (fun _ => none) 0 (some (ρ 0))) 1 (some (ρ 1))) 2 (some (ρ 2))))))))] := hD
  refine lv_dup hx hb dX5_init_74 rfl ?_
  refine lv_iconst (v := 3) hx hb dX5_init_75 (by decide) ?_
  have hT := hT0.kept (fun x hx9 hn9 => hS.2.1 x hx9 (fun z => hn9 (hN x z)))
  refine ldM Cc hT 3 (by decide) dX5_init_76 ?_
  refine xa_asts Cc hT (w := 3) (by decide) hP hD hS 7 rfl (show vp_in (3 : Int32) 7 by unfold vp_in; decide) dX5_init_78 (fun H1 locs hP hD hS1 _ => ?_)
  have hS := hS1
  generalize H1 = H at hP hS ⊢
  have hP : va_P D classes [(h0, .inr (5, [.ref q1, .ref q2, .ref q3, .int 0, .ref q4, .ref q5, .ref q6, .int 0, .int 0, .int 0, .int 0, .int 0, .int 0, .null, .null, .int 0, .int 0, .null, .null, .null, .null])), (q1, .inl (κ 0, 67, .inl (fun _ => 0))), (q2, .inl (κ 0, 67, .inl (fun _ => 0))), (q3, .inl (κ 0, 67, .inl (fun _ => 0))), (q4, .inl (κ 0, 8, .inl (fun _ => 0))), (q5, .inl (κ 0, 2048, .inl (fun _ => 0))), (q6, .inl (κ 0, 120, .inl (fun _ => 0))), (q7, .inl (κ 2, 7, .inr (.inr (.inr (.inr (va_up (va_up (va_up (va_up (fun _ => none) 0 (some (ρ 0))) 1 (some (ρ 1))) 2 (some (ρ 2))) 3 (some (ρ 3))))))))] H := hP
  have hD : va_D A [(h0, .inr (5, [.ref q1, .ref q2, .ref q3, .int 0, .ref q4, .ref q5, .ref q6, .int 0, .int 0, .int 0, .int 0, .int 0, .int 0, .null, .null, .int 0, .int 0, .null, .null, .null, .null])), (q1, .inl (κ 0, 67, .inl (fun _ => 0))), (q2, .inl (κ 0, 67, .inl (fun _ => 0))), (q3, .inl (κ 0, 67, .inl (fun _ => 0))), (q4, .inl (κ 0, 8, .inl (fun _ => 0))), (q5, .inl (κ 0, 2048, .inl (fun _ => 0))), (q6, .inl (κ 0, 120, .inl (fun _ => 0))), (q7, .inl (κ 2, 7, .inr (.inr (.inr (.inr (va_up (va_up (va_up (va_up (fun _ => none) 0 (some (ρ 0))) 1 (some (ρ 1))) 2 (some (ρ 2))) 3 (some (ρ 3))))))))] := hD
  refine lv_dup hx hb dX5_init_79 rfl ?_
  refine lv_iconst (v := 4) hx hb dX5_init_80 (by decide) ?_
  have hT := hT0.kept (fun x hx9 hn9 => hS.2.1 x hx9 (fun z => hn9 (hN x z)))
  refine ldM Cc hT 4 (by decide) dX5_init_81 ?_
  refine xa_asts Cc hT (w := 4) (by decide) hP hD hS 7 rfl (show vp_in (4 : Int32) 7 by unfold vp_in; decide) dX5_init_83 (fun H1 locs hP hD hS1 _ => ?_)
  have hS := hS1
  generalize H1 = H at hP hS ⊢
  have hP : va_P D classes [(h0, .inr (5, [.ref q1, .ref q2, .ref q3, .int 0, .ref q4, .ref q5, .ref q6, .int 0, .int 0, .int 0, .int 0, .int 0, .int 0, .null, .null, .int 0, .int 0, .null, .null, .null, .null])), (q1, .inl (κ 0, 67, .inl (fun _ => 0))), (q2, .inl (κ 0, 67, .inl (fun _ => 0))), (q3, .inl (κ 0, 67, .inl (fun _ => 0))), (q4, .inl (κ 0, 8, .inl (fun _ => 0))), (q5, .inl (κ 0, 2048, .inl (fun _ => 0))), (q6, .inl (κ 0, 120, .inl (fun _ => 0))), (q7, .inl (κ 2, 7, .inr (.inr (.inr (.inr (va_up (va_up (va_up (va_up (va_up (fun _ => none) 0 (some (ρ 0))) 1 (some (ρ 1))) 2 (some (ρ 2))) 3 (some (ρ 3))) 4 (some (ρ 4))))))))] H := hP
  have hD : va_D A [(h0, .inr (5, [.ref q1, .ref q2, .ref q3, .int 0, .ref q4, .ref q5, .ref q6, .int 0, .int 0, .int 0, .int 0, .int 0, .int 0, .null, .null, .int 0, .int 0, .null, .null, .null, .null])), (q1, .inl (κ 0, 67, .inl (fun _ => 0))), (q2, .inl (κ 0, 67, .inl (fun _ => 0))), (q3, .inl (κ 0, 67, .inl (fun _ => 0))), (q4, .inl (κ 0, 8, .inl (fun _ => 0))), (q5, .inl (κ 0, 2048, .inl (fun _ => 0))), (q6, .inl (κ 0, 120, .inl (fun _ => 0))), (q7, .inl (κ 2, 7, .inr (.inr (.inr (.inr (va_up (va_up (va_up (va_up (va_up (fun _ => none) 0 (some (ρ 0))) 1 (some (ρ 1))) 2 (some (ρ 2))) 3 (some (ρ 3))) 4 (some (ρ 4))))))))] := hD
  refine lv_dup hx hb dX5_init_84 rfl ?_
  refine lv_iconst (v := 5) hx hb dX5_init_85 (by decide) ?_
  have hT := hT0.kept (fun x hx9 hn9 => hS.2.1 x hx9 (fun z => hn9 (hN x z)))
  refine ldM Cc hT 5 (by decide) dX5_init_86 ?_
  refine xa_asts Cc hT (w := 5) (by decide) hP hD hS 7 rfl (show vp_in (5 : Int32) 7 by unfold vp_in; decide) dX5_init_88 (fun H1 locs hP hD hS1 _ => ?_)
  have hS := hS1
  generalize H1 = H at hP hS ⊢
  have hP : va_P D classes [(h0, .inr (5, [.ref q1, .ref q2, .ref q3, .int 0, .ref q4, .ref q5, .ref q6, .int 0, .int 0, .int 0, .int 0, .int 0, .int 0, .null, .null, .int 0, .int 0, .null, .null, .null, .null])), (q1, .inl (κ 0, 67, .inl (fun _ => 0))), (q2, .inl (κ 0, 67, .inl (fun _ => 0))), (q3, .inl (κ 0, 67, .inl (fun _ => 0))), (q4, .inl (κ 0, 8, .inl (fun _ => 0))), (q5, .inl (κ 0, 2048, .inl (fun _ => 0))), (q6, .inl (κ 0, 120, .inl (fun _ => 0))), (q7, .inl (κ 2, 7, .inr (.inr (.inr (.inr (va_up (va_up (va_up (va_up (va_up (va_up (fun _ => none) 0 (some (ρ 0))) 1 (some (ρ 1))) 2 (some (ρ 2))) 3 (some (ρ 3))) 4 (some (ρ 4))) 5 (some (ρ 5))))))))] H := hP
  have hD : va_D A [(h0, .inr (5, [.ref q1, .ref q2, .ref q3, .int 0, .ref q4, .ref q5, .ref q6, .int 0, .int 0, .int 0, .int 0, .int 0, .int 0, .null, .null, .int 0, .int 0, .null, .null, .null, .null])), (q1, .inl (κ 0, 67, .inl (fun _ => 0))), (q2, .inl (κ 0, 67, .inl (fun _ => 0))), (q3, .inl (κ 0, 67, .inl (fun _ => 0))), (q4, .inl (κ 0, 8, .inl (fun _ => 0))), (q5, .inl (κ 0, 2048, .inl (fun _ => 0))), (q6, .inl (κ 0, 120, .inl (fun _ => 0))), (q7, .inl (κ 2, 7, .inr (.inr (.inr (.inr (va_up (va_up (va_up (va_up (va_up (va_up (fun _ => none) 0 (some (ρ 0))) 1 (some (ρ 1))) 2 (some (ρ 2))) 3 (some (ρ 3))) 4 (some (ρ 4))) 5 (some (ρ 5))))))))] := hD
  refine lv_dup hx hb dX5_init_89 rfl ?_
  refine lv_bipush (v := 6) hx hb dX5_init_90 (by decide) ?_
  have hT := hT0.kept (fun x hx9 hn9 => hS.2.1 x hx9 (fun z => hn9 (hN x z)))
  refine ldM Cc hT 6 (by decide) dX5_init_92 ?_
  refine xa_asts Cc hT (w := 6) (by decide) hP hD hS 7 rfl (show vp_in (6 : Int32) 7 by unfold vp_in; decide) dX5_init_94 (fun H1 locs hP hD hS1 _ => ?_)
  have hS := hS1
  generalize H1 = H at hP hS ⊢
  have hP : va_P D classes [(h0, .inr (5, [.ref q1, .ref q2, .ref q3, .int 0, .ref q4, .ref q5, .ref q6, .int 0, .int 0, .int 0, .int 0, .int 0, .int 0, .null, .null, .int 0, .int 0, .null, .null, .null, .null])), (q1, .inl (κ 0, 67, .inl (fun _ => 0))), (q2, .inl (κ 0, 67, .inl (fun _ => 0))), (q3, .inl (κ 0, 67, .inl (fun _ => 0))), (q4, .inl (κ 0, 8, .inl (fun _ => 0))), (q5, .inl (κ 0, 2048, .inl (fun _ => 0))), (q6, .inl (κ 0, 120, .inl (fun _ => 0))), (q7, .inl (κ 2, 7, .inr (.inr (.inr (.inr (va_up (va_up (va_up (va_up (va_up (va_up (va_up (fun _ => none) 0 (some (ρ 0))) 1 (some (ρ 1))) 2 (some (ρ 2))) 3 (some (ρ 3))) 4 (some (ρ 4))) 5 (some (ρ 5))) 6 (some (ρ 6))))))))] H := hP
  have hD : va_D A [(h0, .inr (5, [.ref q1, .ref q2, .ref q3, .int 0, .ref q4, .ref q5, .ref q6, .int 0, .int 0, .int 0, .int 0, .int 0, .int 0, .null, .null, .int 0, .int 0, .null, .null, .null, .null])), (q1, .inl (κ 0, 67, .inl (fun _ => 0))), (q2, .inl (κ 0, 67, .inl (fun _ => 0))), (q3, .inl (κ 0, 67, .inl (fun _ => 0))), (q4, .inl (κ 0, 8, .inl (fun _ => 0))), (q5, .inl (κ 0, 2048, .inl (fun _ => 0))), (q6, .inl (κ 0, 120, .inl (fun _ => 0))), (q7, .inl (κ 2, 7, .inr (.inr (.inr (.inr (va_up (va_up (va_up (va_up (va_up (va_up (va_up (fun _ => none) 0 (some (ρ 0))) 1 (some (ρ 1))) 2 (some (ρ 2))) 3 (some (ρ 3))) 4 (some (ρ 4))) 5 (some (ρ 5))) 6 (some (ρ 6))))))))] := hD
  refine va_putF (D := D) (ci := 5) (v := .ref q7) (ty := .array (.object "java/lang/String")) (C := RX5) (T := TX5) (N := 21) hx hb hts iX5 tyX5 tyX5_ok nmX5 hown hE.1 hP hD hS 0 rfl rfl 13 (by decide) (tw_774 hts) (fun _ h9 => h9) rfl hin rfl (by decide +kernel) rfl rfl (Nat.le_of_ble_eq_true rfl) dX5_init_95 (fun H1 locs hP hD hS1 => ?_)
  have hS := hS1
  generalize H1 = H at hP hS ⊢
  have hP : va_P D classes [(h0, .inr (5, [.ref q1, .ref q2, .ref q3, .int 0, .ref q4, .ref q5, .ref q6, .int 0, .int 0, .int 0, .int 0, .int 0, .int 0, .ref q7, .null, .int 0, .int 0, .null, .null, .null, .null])), (q1, .inl (κ 0, 67, .inl (fun _ => 0))), (q2, .inl (κ 0, 67, .inl (fun _ => 0))), (q3, .inl (κ 0, 67, .inl (fun _ => 0))), (q4, .inl (κ 0, 8, .inl (fun _ => 0))), (q5, .inl (κ 0, 2048, .inl (fun _ => 0))), (q6, .inl (κ 0, 120, .inl (fun _ => 0))), (q7, .inl (κ 2, 7, .inr (.inr (.inr (.inr (va_up (va_up (va_up (va_up (va_up (va_up (va_up (fun _ => none) 0 (some (ρ 0))) 1 (some (ρ 1))) 2 (some (ρ 2))) 3 (some (ρ 3))) 4 (some (ρ 4))) 5 (some (ρ 5))) 6 (some (ρ 6))))))))] H := hP
  have hD : va_D A [(h0, .inr (5, [.ref q1, .ref q2, .ref q3, .int 0, .ref q4, .ref q5, .ref q6, .int 0, .int 0, .int 0, .int 0, .int 0, .int 0, .ref q7, .null, .int 0, .int 0, .null, .null, .null, .null])), (q1, .inl (κ 0, 67, .inl (fun _ => 0))), (q2, .inl (κ 0, 67, .inl (fun _ => 0))), (q3, .inl (κ 0, 67, .inl (fun _ => 0))), (q4, .inl (κ 0, 8, .inl (fun _ => 0))), (q5, .inl (κ 0, 2048, .inl (fun _ => 0))), (q6, .inl (κ 0, 120, .inl (fun _ => 0))), (q7, .inl (κ 2, 7, .inr (.inr (.inr (.inr (va_up (va_up (va_up (va_up (va_up (va_up (va_up (fun _ => none) 0 (some (ρ 0))) 1 (some (ρ 1))) 2 (some (ρ 2))) 3 (some (ρ 3))) 4 (some (ρ 4))) 5 (some (ρ 5))) 6 (some (ρ 6))))))))] := hD
  refine lv_aload_n hx hb dX5_init_98 rfl (lv_at hl 0 rfl) ?_
  refine lv_sipush (v := 600) hx hb dX5_init_99 (by decide) ?_
  refine xnewi Cc hP hD hS hA (N' := 600) (by decide) rfl (by decide) (Nat.le_of_ble_eq_true rfl) (Nat.le_of_ble_eq_true rfl) dX5_init_102 (fun q8 H1 hP hD hS1 => ?_)
  have hS := hS1
  generalize H1 = H at hP hS ⊢
  have hP : va_P D classes [(h0, .inr (5, [.ref q1, .ref q2, .ref q3, .int 0, .ref q4, .ref q5, .ref q6, .int 0, .int 0, .int 0, .int 0, .int 0, .int 0, .ref q7, .null, .int 0, .int 0, .null, .null, .null, .null])), (q1, .inl (κ 0, 67, .inl (fun _ => 0))), (q2, .inl (κ 0, 67, .inl (fun _ => 0))), (q3, .inl (κ 0, 67, .inl (fun _ => 0))), (q4, .inl (κ 0, 8, .inl (fun _ => 0))), (q5, .inl (κ 0, 2048, .inl (fun _ => 0))), (q6, .inl (κ 0, 120, .inl (fun _ => 0))), (q7, .inl (κ 2, 7, .inr (.inr (.inr (.inr (va_up (va_up (va_up (va_up (va_up (va_up (va_up (fun _ => none) 0 (some (ρ 0))) 1 (some (ρ 1))) 2 (some (ρ 2))) 3 (some (ρ 3))) 4 (some (ρ 4))) 5 (some (ρ 5))) 6 (some (ρ 6)))))))), (q8, .inl (κ 0, 600, .inl (fun _ => 0)))] H := hP
  have hD : va_D A [(h0, .inr (5, [.ref q1, .ref q2, .ref q3, .int 0, .ref q4, .ref q5, .ref q6, .int 0, .int 0, .int 0, .int 0, .int 0, .int 0, .ref q7, .null, .int 0, .int 0, .null, .null, .null, .null])), (q1, .inl (κ 0, 67, .inl (fun _ => 0))), (q2, .inl (κ 0, 67, .inl (fun _ => 0))), (q3, .inl (κ 0, 67, .inl (fun _ => 0))), (q4, .inl (κ 0, 8, .inl (fun _ => 0))), (q5, .inl (κ 0, 2048, .inl (fun _ => 0))), (q6, .inl (κ 0, 120, .inl (fun _ => 0))), (q7, .inl (κ 2, 7, .inr (.inr (.inr (.inr (va_up (va_up (va_up (va_up (va_up (va_up (va_up (fun _ => none) 0 (some (ρ 0))) 1 (some (ρ 1))) 2 (some (ρ 2))) 3 (some (ρ 3))) 4 (some (ρ 4))) 5 (some (ρ 5))) 6 (some (ρ 6)))))))), (q8, .inl (κ 0, 600, .inl (fun _ => 0)))] := hD
  refine va_putF (D := D) (ci := 5) (v := .ref q8) (ty := .array .int) (C := RX5) (T := TX5) (N := 21) hx hb hts iX5 tyX5 tyX5_ok nmX5 hown hE.1 hP hD hS 0 rfl rfl 14 (by decide) (tw_775 hts) (fun _ h9 => h9) rfl hin rfl (by decide +kernel) rfl rfl (Nat.le_of_ble_eq_true rfl) dX5_init_104 (fun H1 locs hP hD hS1 => ?_)
  have hS := hS1
  generalize H1 = H at hP hS ⊢
  have hP : va_P D classes [(h0, .inr (5, [.ref q1, .ref q2, .ref q3, .int 0, .ref q4, .ref q5, .ref q6, .int 0, .int 0, .int 0, .int 0, .int 0, .int 0, .ref q7, .ref q8, .int 0, .int 0, .null, .null, .null, .null])), (q1, .inl (κ 0, 67, .inl (fun _ => 0))), (q2, .inl (κ 0, 67, .inl (fun _ => 0))), (q3, .inl (κ 0, 67, .inl (fun _ => 0))), (q4, .inl (κ 0, 8, .inl (fun _ => 0))), (q5, .inl (κ 0, 2048, .inl (fun _ => 0))), (q6, .inl (κ 0, 120, .inl (fun _ => 0))), (q7, .inl (κ 2, 7, .inr (.inr (.inr (.inr (va_up (va_up (va_up (va_up (va_up (va_up (va_up (fun _ => none) 0 (some (ρ 0))) 1 (some (ρ 1))) 2 (some (ρ 2))) 3 (some (ρ 3))) 4 (some (ρ 4))) 5 (some (ρ 5))) 6 (some (ρ 6)))))))), (q8, .inl (κ 0, 600, .inl (fun _ => 0)))] H := hP
  have hD : va_D A [(h0, .inr (5, [.ref q1, .ref q2, .ref q3, .int 0, .ref q4, .ref q5, .ref q6, .int 0, .int 0, .int 0, .int 0, .int 0, .int 0, .ref q7, .ref q8, .int 0, .int 0, .null, .null, .null, .null])), (q1, .inl (κ 0, 67, .inl (fun _ => 0))), (q2, .inl (κ 0, 67, .inl (fun _ => 0))), (q3, .inl (κ 0, 67, .inl (fun _ => 0))), (q4, .inl (κ 0, 8, .inl (fun _ => 0))), (q5, .inl (κ 0, 2048, .inl (fun _ => 0))), (q6, .inl (κ 0, 120, .inl (fun _ => 0))), (q7, .inl (κ 2, 7, .inr (.inr (.inr (.inr (va_up (va_up (va_up (va_up (va_up (va_up (va_up (fun _ => none) 0 (some (ρ 0))) 1 (some (ρ 1))) 2 (some (ρ 2))) 3 (some (ρ 3))) 4 (some (ρ 4))) 5 (some (ρ 5))) 6 (some (ρ 6)))))))), (q8, .inl (κ 0, 600, .inl (fun _ => 0)))] := hD
  refine lv_aload_n hx hb dX5_init_107 rfl (lv_at hl 0 rfl) ?_
  refine lv_iconst (v := 4) hx hb dX5_init_108 (by decide) ?_
  refine xnewi Cc hP hD hS hA (N' := 4) (by decide) rfl (by decide) (Nat.le_of_ble_eq_true rfl) (Nat.le_of_ble_eq_true rfl) dX5_init_109 (fun q9 H1 hP hD hS1 => ?_)
  have hS := hS1
  generalize H1 = H at hP hS ⊢
  have hP : va_P D classes [(h0, .inr (5, [.ref q1, .ref q2, .ref q3, .int 0, .ref q4, .ref q5, .ref q6, .int 0, .int 0, .int 0, .int 0, .int 0, .int 0, .ref q7, .ref q8, .int 0, .int 0, .null, .null, .null, .null])), (q1, .inl (κ 0, 67, .inl (fun _ => 0))), (q2, .inl (κ 0, 67, .inl (fun _ => 0))), (q3, .inl (κ 0, 67, .inl (fun _ => 0))), (q4, .inl (κ 0, 8, .inl (fun _ => 0))), (q5, .inl (κ 0, 2048, .inl (fun _ => 0))), (q6, .inl (κ 0, 120, .inl (fun _ => 0))), (q7, .inl (κ 2, 7, .inr (.inr (.inr (.inr (va_up (va_up (va_up (va_up (va_up (va_up (va_up (fun _ => none) 0 (some (ρ 0))) 1 (some (ρ 1))) 2 (some (ρ 2))) 3 (some (ρ 3))) 4 (some (ρ 4))) 5 (some (ρ 5))) 6 (some (ρ 6)))))))), (q8, .inl (κ 0, 600, .inl (fun _ => 0))), (q9, .inl (κ 0, 4, .inl (fun _ => 0)))] H := hP
  have hD : va_D A [(h0, .inr (5, [.ref q1, .ref q2, .ref q3, .int 0, .ref q4, .ref q5, .ref q6, .int 0, .int 0, .int 0, .int 0, .int 0, .int 0, .ref q7, .ref q8, .int 0, .int 0, .null, .null, .null, .null])), (q1, .inl (κ 0, 67, .inl (fun _ => 0))), (q2, .inl (κ 0, 67, .inl (fun _ => 0))), (q3, .inl (κ 0, 67, .inl (fun _ => 0))), (q4, .inl (κ 0, 8, .inl (fun _ => 0))), (q5, .inl (κ 0, 2048, .inl (fun _ => 0))), (q6, .inl (κ 0, 120, .inl (fun _ => 0))), (q7, .inl (κ 2, 7, .inr (.inr (.inr (.inr (va_up (va_up (va_up (va_up (va_up (va_up (va_up (fun _ => none) 0 (some (ρ 0))) 1 (some (ρ 1))) 2 (some (ρ 2))) 3 (some (ρ 3))) 4 (some (ρ 4))) 5 (some (ρ 5))) 6 (some (ρ 6)))))))), (q8, .inl (κ 0, 600, .inl (fun _ => 0))), (q9, .inl (κ 0, 4, .inl (fun _ => 0)))] := hD
  refine va_putF (D := D) (ci := 5) (v := .ref q9) (ty := .array .int) (C := RX5) (T := TX5) (N := 21) hx hb hts iX5 tyX5 tyX5_ok nmX5 hown hE.1 hP hD hS 0 rfl rfl 17 (by decide) (tw_778 hts) (fun _ h9 => h9) rfl hin rfl (by decide +kernel) rfl rfl (Nat.le_of_ble_eq_true rfl) dX5_init_111 (fun H1 locs hP hD hS1 => ?_)
  have hS := hS1
  generalize H1 = H at hP hS ⊢
  have hP : va_P D classes [(h0, .inr (5, [.ref q1, .ref q2, .ref q3, .int 0, .ref q4, .ref q5, .ref q6, .int 0, .int 0, .int 0, .int 0, .int 0, .int 0, .ref q7, .ref q8, .int 0, .int 0, .ref q9, .null, .null, .null])), (q1, .inl (κ 0, 67, .inl (fun _ => 0))), (q2, .inl (κ 0, 67, .inl (fun _ => 0))), (q3, .inl (κ 0, 67, .inl (fun _ => 0))), (q4, .inl (κ 0, 8, .inl (fun _ => 0))), (q5, .inl (κ 0, 2048, .inl (fun _ => 0))), (q6, .inl (κ 0, 120, .inl (fun _ => 0))), (q7, .inl (κ 2, 7, .inr (.inr (.inr (.inr (va_up (va_up (va_up (va_up (va_up (va_up (va_up (fun _ => none) 0 (some (ρ 0))) 1 (some (ρ 1))) 2 (some (ρ 2))) 3 (some (ρ 3))) 4 (some (ρ 4))) 5 (some (ρ 5))) 6 (some (ρ 6)))))))), (q8, .inl (κ 0, 600, .inl (fun _ => 0))), (q9, .inl (κ 0, 4, .inl (fun _ => 0)))] H := hP
  have hD : va_D A [(h0, .inr (5, [.ref q1, .ref q2, .ref q3, .int 0, .ref q4, .ref q5, .ref q6, .int 0, .int 0, .int 0, .int 0, .int 0, .int 0, .ref q7, .ref q8, .int 0, .int 0, .ref q9, .null, .null, .null])), (q1, .inl (κ 0, 67, .inl (fun _ => 0))), (q2, .inl (κ 0, 67, .inl (fun _ => 0))), (q3, .inl (κ 0, 67, .inl (fun _ => 0))), (q4, .inl (κ 0, 8, .inl (fun _ => 0))), (q5, .inl (κ 0, 2048, .inl (fun _ => 0))), (q6, .inl (κ 0, 120, .inl (fun _ => 0))), (q7, .inl (κ 2, 7, .inr (.inr (.inr (.inr (va_up (va_up (va_up (va_up (va_up (va_up (va_up (fun _ => none) 0 (some (ρ 0))) 1 (some (ρ 1))) 2 (some (ρ 2))) 3 (some (ρ 3))) 4 (some (ρ 4))) 5 (some (ρ 5))) 6 (some (ρ 6)))))))), (q8, .inl (κ 0, 600, .inl (fun _ => 0))), (q9, .inl (κ 0, 4, .inl (fun _ => 0)))] := hD
  refine lv_aload_n hx hb dX5_init_114 rfl (lv_at hl 0 rfl) ?_
  refine lv_iconst (v := 4) hx hb dX5_init_115 (by decide) ?_
  refine xnewi Cc hP hD hS hA (N' := 4) (by decide) rfl (by decide) (Nat.le_of_ble_eq_true rfl) (Nat.le_of_ble_eq_true rfl) dX5_init_116 (fun q10 H1 hP hD hS1 => ?_)
  have hS := hS1
  generalize H1 = H at hP hS ⊢
  have hP : va_P D classes [(h0, .inr (5, [.ref q1, .ref q2, .ref q3, .int 0, .ref q4, .ref q5, .ref q6, .int 0, .int 0, .int 0, .int 0, .int 0, .int 0, .ref q7, .ref q8, .int 0, .int 0, .ref q9, .null, .null, .null])), (q1, .inl (κ 0, 67, .inl (fun _ => 0))), (q2, .inl (κ 0, 67, .inl (fun _ => 0))), (q3, .inl (κ 0, 67, .inl (fun _ => 0))), (q4, .inl (κ 0, 8, .inl (fun _ => 0))), (q5, .inl (κ 0, 2048, .inl (fun _ => 0))), (q6, .inl (κ 0, 120, .inl (fun _ => 0))), (q7, .inl (κ 2, 7, .inr (.inr (.inr (.inr (va_up (va_up (va_up (va_up (va_up (va_up (va_up (fun _ => none) 0 (some (ρ 0))) 1 (some (ρ 1))) 2 (some (ρ 2))) 3 (some (ρ 3))) 4 (some (ρ 4))) 5 (some (ρ 5))) 6 (some (ρ 6)))))))), (q8, .inl (κ 0, 600, .inl (fun _ => 0))), (q9, .inl (κ 0, 4, .inl (fun _ => 0))), (q10, .inl (κ 0, 4, .inl (fun _ => 0)))] H := hP
  have hD : va_D A [(h0, .inr (5, [.ref q1, .ref q2, .ref q3, .int 0, .ref q4, .ref q5, .ref q6, .int 0, .int 0, .int 0, .int 0, .int 0, .int 0, .ref q7, .ref q8, .int 0, .int 0, .ref q9, .null, .null, .null])), (q1, .inl (κ 0, 67, .inl (fun _ => 0))), (q2, .inl (κ 0, 67, .inl (fun _ => 0))), (q3, .inl (κ 0, 67, .inl (fun _ => 0))), (q4, .inl (κ 0, 8, .inl (fun _ => 0))), (q5, .inl (κ 0, 2048, .inl (fun _ => 0))), (q6, .inl (κ 0, 120, .inl (fun _ => 0))), (q7, .inl (κ 2, 7, .inr (.inr (.inr (.inr (va_up (va_up (va_up (va_up (va_up (va_up (va_up (fun _ => none) 0 (some (ρ 0))) 1 (some (ρ 1))) 2 (some (ρ 2))) 3 (some (ρ 3))) 4 (some (ρ 4))) 5 (some (ρ 5))) 6 (some (ρ 6)))))))), (q8, .inl (κ 0, 600, .inl (fun _ => 0))), (q9, .inl (κ 0, 4, .inl (fun _ => 0))), (q10, .inl (κ 0, 4, .inl (fun _ => 0)))] := hD
  refine va_putF (D := D) (ci := 5) (v := .ref q10) (ty := .array .int) (C := RX5) (T := TX5) (N := 21) hx hb hts iX5 tyX5 tyX5_ok nmX5 hown hE.1 hP hD hS 0 rfl rfl 18 (by decide) (tw_779 hts) (fun _ h9 => h9) rfl hin rfl (by decide +kernel) rfl rfl (Nat.le_of_ble_eq_true rfl) dX5_init_118 (fun H1 locs hP hD hS1 => ?_)
  have hS := hS1
  generalize H1 = H at hP hS ⊢
  have hP : va_P D classes [(h0, .inr (5, [.ref q1, .ref q2, .ref q3, .int 0, .ref q4, .ref q5, .ref q6, .int 0, .int 0, .int 0, .int 0, .int 0, .int 0, .ref q7, .ref q8, .int 0, .int 0, .ref q9, .ref q10, .null, .null])), (q1, .inl (κ 0, 67, .inl (fun _ => 0))), (q2, .inl (κ 0, 67, .inl (fun _ => 0))), (q3, .inl (κ 0, 67, .inl (fun _ => 0))), (q4, .inl (κ 0, 8, .inl (fun _ => 0))), (q5, .inl (κ 0, 2048, .inl (fun _ => 0))), (q6, .inl (κ 0, 120, .inl (fun _ => 0))), (q7, .inl (κ 2, 7, .inr (.inr (.inr (.inr (va_up (va_up (va_up (va_up (va_up (va_up (va_up (fun _ => none) 0 (some (ρ 0))) 1 (some (ρ 1))) 2 (some (ρ 2))) 3 (some (ρ 3))) 4 (some (ρ 4))) 5 (some (ρ 5))) 6 (some (ρ 6)))))))), (q8, .inl (κ 0, 600, .inl (fun _ => 0))), (q9, .inl (κ 0, 4, .inl (fun _ => 0))), (q10, .inl (κ 0, 4, .inl (fun _ => 0)))] H := hP
  have hD : va_D A [(h0, .inr (5, [.ref q1, .ref q2, .ref q3, .int 0, .ref q4, .ref q5, .ref q6, .int 0, .int 0, .int 0, .int 0, .int 0, .int 0, .ref q7, .ref q8, .int 0, .int 0, .ref q9, .ref q10, .null, .null])), (q1, .inl (κ 0, 67, .inl (fun _ => 0))), (q2, .inl (κ 0, 67, .inl (fun _ => 0))), (q3, .inl (κ 0, 67, .inl (fun _ => 0))), (q4, .inl (κ 0, 8, .inl (fun _ => 0))), (q5, .inl (κ 0, 2048, .inl (fun _ => 0))), (q6, .inl (κ 0, 120, .inl (fun _ => 0))), (q7, .inl (κ 2, 7, .inr (.inr (.inr (.inr (va_up (va_up (va_up (va_up (va_up (va_up (va_up (fun _ => none) 0 (some (ρ 0))) 1 (some (ρ 1))) 2 (some (ρ 2))) 3 (some (ρ 3))) 4 (some (ρ 4))) 5 (some (ρ 5))) 6 (some (ρ 6)))))))), (q8, .inl (κ 0, 600, .inl (fun _ => 0))), (q9, .inl (κ 0, 4, .inl (fun _ => 0))), (q10, .inl (κ 0, 4, .inl (fun _ => 0)))] := hD
  refine lv_aload_n hx hb dX5_init_121 rfl (lv_at hl 0 rfl) ?_
  refine lv_sipush (v := 160) hx hb dX5_init_122 (by decide) ?_
  refine xnewi Cc hP hD hS hA (N' := 160) (by decide) rfl (by decide) (Nat.le_of_ble_eq_true rfl) (Nat.le_of_ble_eq_true rfl) dX5_init_125 (fun q11 H1 hP hD hS1 => ?_)
  have hS := hS1
  generalize H1 = H at hP hS ⊢
  have hP : va_P D classes [(h0, .inr (5, [.ref q1, .ref q2, .ref q3, .int 0, .ref q4, .ref q5, .ref q6, .int 0, .int 0, .int 0, .int 0, .int 0, .int 0, .ref q7, .ref q8, .int 0, .int 0, .ref q9, .ref q10, .null, .null])), (q1, .inl (κ 0, 67, .inl (fun _ => 0))), (q2, .inl (κ 0, 67, .inl (fun _ => 0))), (q3, .inl (κ 0, 67, .inl (fun _ => 0))), (q4, .inl (κ 0, 8, .inl (fun _ => 0))), (q5, .inl (κ 0, 2048, .inl (fun _ => 0))), (q6, .inl (κ 0, 120, .inl (fun _ => 0))), (q7, .inl (κ 2, 7, .inr (.inr (.inr (.inr (va_up (va_up (va_up (va_up (va_up (va_up (va_up (fun _ => none) 0 (some (ρ 0))) 1 (some (ρ 1))) 2 (some (ρ 2))) 3 (some (ρ 3))) 4 (some (ρ 4))) 5 (some (ρ 5))) 6 (some (ρ 6)))))))), (q8, .inl (κ 0, 600, .inl (fun _ => 0))), (q9, .inl (κ 0, 4, .inl (fun _ => 0))), (q10, .inl (κ 0, 4, .inl (fun _ => 0))), (q11, .inl (κ 0, 160, .inl (fun _ => 0)))] H := hP
  have hD : va_D A [(h0, .inr (5, [.ref q1, .ref q2, .ref q3, .int 0, .ref q4, .ref q5, .ref q6, .int 0, .int 0, .int 0, .int 0, .int 0, .int 0, .ref q7, .ref q8, .int 0, .int 0, .ref q9, .ref q10, .null, .null])), (q1, .inl (κ 0, 67, .inl (fun _ => 0))), (q2, .inl (κ 0, 67, .inl (fun _ => 0))), (q3, .inl (κ 0, 67, .inl (fun _ => 0))), (q4, .inl (κ 0, 8, .inl (fun _ => 0))), (q5, .inl (κ 0, 2048, .inl (fun _ => 0))), (q6, .inl (κ 0, 120, .inl (fun _ => 0))), (q7, .inl (κ 2, 7, .inr (.inr (.inr (.inr (va_up (va_up (va_up (va_up (va_up (va_up (va_up (fun _ => none) 0 (some (ρ 0))) 1 (some (ρ 1))) 2 (some (ρ 2))) 3 (some (ρ 3))) 4 (some (ρ 4))) 5 (some (ρ 5))) 6 (some (ρ 6)))))))), (q8, .inl (κ 0, 600, .inl (fun _ => 0))), (q9, .inl (κ 0, 4, .inl (fun _ => 0))), (q10, .inl (κ 0, 4, .inl (fun _ => 0))), (q11, .inl (κ 0, 160, .inl (fun _ => 0)))] := hD
  refine va_putF (D := D) (ci := 5) (v := .ref q11) (ty := .array .int) (C := RX5) (T := TX5) (N := 21) hx hb hts iX5 tyX5 tyX5_ok nmX5 hown hE.1 hP hD hS 0 rfl rfl 19 (by decide) (tw_780 hts) (fun _ h9 => h9) rfl hin rfl (by decide +kernel) rfl rfl (Nat.le_of_ble_eq_true rfl) dX5_init_127 (fun H1 locs hP hD hS1 => ?_)
  have hS := hS1
  generalize H1 = H at hP hS ⊢
  have hP : va_P D classes [(h0, .inr (5, [.ref q1, .ref q2, .ref q3, .int 0, .ref q4, .ref q5, .ref q6, .int 0, .int 0, .int 0, .int 0, .int 0, .int 0, .ref q7, .ref q8, .int 0, .int 0, .ref q9, .ref q10, .ref q11, .null])), (q1, .inl (κ 0, 67, .inl (fun _ => 0))), (q2, .inl (κ 0, 67, .inl (fun _ => 0))), (q3, .inl (κ 0, 67, .inl (fun _ => 0))), (q4, .inl (κ 0, 8, .inl (fun _ => 0))), (q5, .inl (κ 0, 2048, .inl (fun _ => 0))), (q6, .inl (κ 0, 120, .inl (fun _ => 0))), (q7, .inl (κ 2, 7, .inr (.inr (.inr (.inr (va_up (va_up (va_up (va_up (va_up (va_up (va_up (fun _ => none) 0 (some (ρ 0))) 1 (some (ρ 1))) 2 (some (ρ 2))) 3 (some (ρ 3))) 4 (some (ρ 4))) 5 (some (ρ 5))) 6 (some (ρ 6)))))))), (q8, .inl (κ 0, 600, .inl (fun _ => 0))), (q9, .inl (κ 0, 4, .inl (fun _ => 0))), (q10, .inl (κ 0, 4, .inl (fun _ => 0))), (q11, .inl (κ 0, 160, .inl (fun _ => 0)))] H := hP
  have hD : va_D A [(h0, .inr (5, [.ref q1, .ref q2, .ref q3, .int 0, .ref q4, .ref q5, .ref q6, .int 0, .int 0, .int 0, .int 0, .int 0, .int 0, .ref q7, .ref q8, .int 0, .int 0, .ref q9, .ref q10, .ref q11, .null])), (q1, .inl (κ 0, 67, .inl (fun _ => 0))), (q2, .inl (κ 0, 67, .inl (fun _ => 0))), (q3, .inl (κ 0, 67, .inl (fun _ => 0))), (q4, .inl (κ 0, 8, .inl (fun _ => 0))), (q5, .inl (κ 0, 2048, .inl (fun _ => 0))), (q6, .inl (κ 0, 120, .inl (fun _ => 0))), (q7, .inl (κ 2, 7, .inr (.inr (.inr (.inr (va_up (va_up (va_up (va_up (va_up (va_up (va_up (fun _ => none) 0 (some (ρ 0))) 1 (some (ρ 1))) 2 (some (ρ 2))) 3 (some (ρ 3))) 4 (some (ρ 4))) 5 (some (ρ 5))) 6 (some (ρ 6)))))))), (q8, .inl (κ 0, 600, .inl (fun _ => 0))), (q9, .inl (κ 0, 4, .inl (fun _ => 0))), (q10, .inl (κ 0, 4, .inl (fun _ => 0))), (q11, .inl (κ 0, 160, .inl (fun _ => 0)))] := hD
  refine lv_aload_n hx hb dX5_init_130 rfl (lv_at hl 0 rfl) ?_
  refine lv_bipush (v := 40) hx hb dX5_init_131 (by decide) ?_
  refine xnewi Cc hP hD hS hA (N' := 40) (by decide) rfl (by decide) (Nat.le_of_ble_eq_true rfl) (Nat.le_of_ble_eq_true rfl) dX5_init_133 (fun q12 H1 hP hD hS1 => ?_)
  have hS := hS1
  generalize H1 = H at hP hS ⊢
  have hP : va_P D classes [(h0, .inr (5, [.ref q1, .ref q2, .ref q3, .int 0, .ref q4, .ref q5, .ref q6, .int 0, .int 0, .int 0, .int 0, .int 0, .int 0, .ref q7, .ref q8, .int 0, .int 0, .ref q9, .ref q10, .ref q11, .null])), (q1, .inl (κ 0, 67, .inl (fun _ => 0))), (q2, .inl (κ 0, 67, .inl (fun _ => 0))), (q3, .inl (κ 0, 67, .inl (fun _ => 0))), (q4, .inl (κ 0, 8, .inl (fun _ => 0))), (q5, .inl (κ 0, 2048, .inl (fun _ => 0))), (q6, .inl (κ 0, 120, .inl (fun _ => 0))), (q7, .inl (κ 2, 7, .inr (.inr (.inr (.inr (va_up (va_up (va_up (va_up (va_up (va_up (va_up (fun _ => none) 0 (some (ρ 0))) 1 (some (ρ 1))) 2 (some (ρ 2))) 3 (some (ρ 3))) 4 (some (ρ 4))) 5 (some (ρ 5))) 6 (some (ρ 6)))))))), (q8, .inl (κ 0, 600, .inl (fun _ => 0))), (q9, .inl (κ 0, 4, .inl (fun _ => 0))), (q10, .inl (κ 0, 4, .inl (fun _ => 0))), (q11, .inl (κ 0, 160, .inl (fun _ => 0))), (q12, .inl (κ 0, 40, .inl (fun _ => 0)))] H := hP
  have hD : va_D A [(h0, .inr (5, [.ref q1, .ref q2, .ref q3, .int 0, .ref q4, .ref q5, .ref q6, .int 0, .int 0, .int 0, .int 0, .int 0, .int 0, .ref q7, .ref q8, .int 0, .int 0, .ref q9, .ref q10, .ref q11, .null])), (q1, .inl (κ 0, 67, .inl (fun _ => 0))), (q2, .inl (κ 0, 67, .inl (fun _ => 0))), (q3, .inl (κ 0, 67, .inl (fun _ => 0))), (q4, .inl (κ 0, 8, .inl (fun _ => 0))), (q5, .inl (κ 0, 2048, .inl (fun _ => 0))), (q6, .inl (κ 0, 120, .inl (fun _ => 0))), (q7, .inl (κ 2, 7, .inr (.inr (.inr (.inr (va_up (va_up (va_up (va_up (va_up (va_up (va_up (fun _ => none) 0 (some (ρ 0))) 1 (some (ρ 1))) 2 (some (ρ 2))) 3 (some (ρ 3))) 4 (some (ρ 4))) 5 (some (ρ 5))) 6 (some (ρ 6)))))))), (q8, .inl (κ 0, 600, .inl (fun _ => 0))), (q9, .inl (κ 0, 4, .inl (fun _ => 0))), (q10, .inl (κ 0, 4, .inl (fun _ => 0))), (q11, .inl (κ 0, 160, .inl (fun _ => 0))), (q12, .inl (κ 0, 40, .inl (fun _ => 0)))] := hD
  refine va_putF (D := D) (ci := 5) (v := .ref q12) (ty := .array .int) (C := RX5) (T := TX5) (N := 21) hx hb hts iX5 tyX5 tyX5_ok nmX5 hown hE.1 hP hD hS 0 rfl rfl 20 (by decide) (tw_781 hts) (fun _ h9 => h9) rfl hin rfl (by decide +kernel) rfl rfl (Nat.le_of_ble_eq_true rfl) dX5_init_135 (fun H1 locs hP hD hS1 => ?_)
  have hS := hS1
  generalize H1 = H at hP hS ⊢
  have hP : va_P D classes [(h0, .inr (5, [.ref q1, .ref q2, .ref q3, .int 0, .ref q4, .ref q5, .ref q6, .int 0, .int 0, .int 0, .int 0, .int 0, .int 0, .ref q7, .ref q8, .int 0, .int 0, .ref q9, .ref q10, .ref q11, .ref q12])), (q1, .inl (κ 0, 67, .inl (fun _ => 0))), (q2, .inl (κ 0, 67, .inl (fun _ => 0))), (q3, .inl (κ 0, 67, .inl (fun _ => 0))), (q4, .inl (κ 0, 8, .inl (fun _ => 0))), (q5, .inl (κ 0, 2048, .inl (fun _ => 0))), (q6, .inl (κ 0, 120, .inl (fun _ => 0))), (q7, .inl (κ 2, 7, .inr (.inr (.inr (.inr (va_up (va_up (va_up (va_up (va_up (va_up (va_up (fun _ => none) 0 (some (ρ 0))) 1 (some (ρ 1))) 2 (some (ρ 2))) 3 (some (ρ 3))) 4 (some (ρ 4))) 5 (some (ρ 5))) 6 (some (ρ 6)))))))), (q8, .inl (κ 0, 600, .inl (fun _ => 0))), (q9, .inl (κ 0, 4, .inl (fun _ => 0))), (q10, .inl (κ 0, 4, .inl (fun _ => 0))), (q11, .inl (κ 0, 160, .inl (fun _ => 0))), (q12, .inl (κ 0, 40, .inl (fun _ => 0)))] H := hP
  have hD : va_D A [(h0, .inr (5, [.ref q1, .ref q2, .ref q3, .int 0, .ref q4, .ref q5, .ref q6, .int 0, .int 0, .int 0, .int 0, .int 0, .int 0, .ref q7, .ref q8, .int 0, .int 0, .ref q9, .ref q10, .ref q11, .ref q12])), (q1, .inl (κ 0, 67, .inl (fun _ => 0))), (q2, .inl (κ 0, 67, .inl (fun _ => 0))), (q3, .inl (κ 0, 67, .inl (fun _ => 0))), (q4, .inl (κ 0, 8, .inl (fun _ => 0))), (q5, .inl (κ 0, 2048, .inl (fun _ => 0))), (q6, .inl (κ 0, 120, .inl (fun _ => 0))), (q7, .inl (κ 2, 7, .inr (.inr (.inr (.inr (va_up (va_up (va_up (va_up (va_up (va_up (va_up (fun _ => none) 0 (some (ρ 0))) 1 (some (ρ 1))) 2 (some (ρ 2))) 3 (some (ρ 3))) 4 (some (ρ 4))) 5 (some (ρ 5))) 6 (some (ρ 6)))))))), (q8, .inl (κ 0, 600, .inl (fun _ => 0))), (q9, .inl (κ 0, 4, .inl (fun _ => 0))), (q10, .inl (κ 0, 4, .inl (fun _ => 0))), (q11, .inl (κ 0, 160, .inl (fun _ => 0))), (q12, .inl (κ 0, 40, .inl (fun _ => 0)))] := hD
  have hIj : Ij (fun i => [h0, q1, q2, q3, q4, q5, q6, q7, q8, q9, q10, q11, q12].getD i 0) 13 := Ij_of hD (fun i hi => by
    match i, hi with
    | 0, _ => exact ⟨_, rfl⟩
    | 1, _ => exact ⟨_, rfl⟩
    | 2, _ => exact ⟨_, rfl⟩
    | 3, _ => exact ⟨_, rfl⟩
    | 4, _ => exact ⟨_, rfl⟩
    | 5, _ => exact ⟨_, rfl⟩
    | 6, _ => exact ⟨_, rfl⟩
    | 7, _ => exact ⟨_, rfl⟩
    | 8, _ => exact ⟨_, rfl⟩
    | 9, _ => exact ⟨_, rfl⟩
    | 10, _ => exact ⟨_, rfl⟩
    | 11, _ => exact ⟨_, rfl⟩
    | 12, _ => exact ⟨_, rfl⟩
    | i + 13, hi => exact absurd hi (by omega))
  have hAa : ∀ i, i < 13 → A ((fun i => [h0, q1, q2, q3, q4, q5, q6, q7, q8, q9, q10, q11, q12].getD i 0) i) := fun i hi => by
    match i, hi with
    | 0, _ => exact hD.2 0 _ rfl
    | 1, _ => exact hD.2 1 _ rfl
    | 2, _ => exact hD.2 2 _ rfl
    | 3, _ => exact hD.2 3 _ rfl
    | 4, _ => exact hD.2 4 _ rfl
    | 5, _ => exact hD.2 5 _ rfl
    | 6, _ => exact hD.2 6 _ rfl
    | 7, _ => exact hD.2 7 _ rfl
    | 8, _ => exact hD.2 8 _ rfl
    | 9, _ => exact hD.2 9 _ rfl
    | 10, _ => exact hD.2 10 _ rfl
    | 11, _ => exact hD.2 11 _ rfl
    | 12, _ => exact hD.2 12 _ rfl
    | i + 13, hi => exact absurd hi (by omega)
  have hP : va_P D classes (wMo κ ρ (fun i => [h0, q1, q2, q3, q4, q5, q6, q7, q8, q9, q10, q11, q12].getD i 0) (fun _ _ => 0)) H := by
    intro k x hk
    by_cases h7 : k = 7
    · subst h7
      cases hk
      show H[q7]? = some (vp_cell _ _)
      have h1 : H[q7]? = some (vp_cell (κ 2) _) := hP 7 _ rfl
      rw [h1]
      refine congrArg some (cell_congq (fun j hj => ?_))
      match j, hj with
      | 0, _ => rfl
      | 1, _ => rfl
      | 2, _ => rfl
      | 3, _ => rfl
      | 4, _ => rfl
      | 5, _ => rfl
      | 6, _ => rfl
      | j + 7, hj => exact absurd hj (by omega)
    · match k, hk, h7 with
      | 0, hk, _ => cases hk; exact hP 0 _ rfl
      | 1, hk, _ => cases hk; exact hP 1 _ rfl
      | 2, hk, _ => cases hk; exact hP 2 _ rfl
      | 3, hk, _ => cases hk; exact hP 3 _ rfl
      | 4, hk, _ => cases hk; exact hP 4 _ rfl
      | 5, hk, _ => cases hk; exact hP 5 _ rfl
      | 6, hk, _ => cases hk; exact hP 6 _ rfl
      | 8, hk, _ => cases hk; exact hP 8 _ rfl
      | 9, hk, _ => cases hk; exact hP 9 _ rfl
      | 10, hk, _ => cases hk; exact hP 10 _ rfl
      | 11, hk, _ => cases hk; exact hP 11 _ rfl
      | 12, hk, _ => cases hk; exact hP 12 _ rfl
      | 7, _, h7 => exact absurd rfl h7
      | k + 13, hk, _ => simp [wMo] at hk
  refine lv_aload_n hx hb dX5_init_138 rfl (lv_at hl 0 rfl) ?_
  refine gMo_0 (a := (fun i => [h0, q1, q2, q3, q4, q5, q6, q7, q8, q9, q10, q11, q12].getD i 0)) Cc hP (tw_761 hts) dX5_init_139 ?_
  refine lv_iconst (v := 2) hx hb dX5_init_142 (by decide) ?_
  refine lv_iconst (v := 1) hx hb dX5_init_143 (by decide) ?_
  refine sMo_0 (a := (fun i => [h0, q1, q2, q3, q4, q5, q6, q7, q8, q9, q10, q11, q12].getD i 0)) Cc hP hIj hS (hAa 1 (by decide)) (show vp_in (2 : Int32) 67 by unfold vp_in; decide) dX5_init_144 (fun H1 locs hP hS1 _ => ?_)
  have hS := hS1
  generalize H1 = H at hP hS ⊢
  refine lv_iconst (v := 0) hx hb dX5_init_145 (by decide) ?_
  refine lv_istore_n (lv' := [(1, .int 0), (0, .ref h0)]) hx hb dX5_init_146 rfl hl (by decide) rfl (fun ls hl => ?_)
  refine lX5_init (a := (fun i => [h0, q1, q2, q3, q4, q5, q6, q7, q8, q9, q10, q11, q12].getD i 0)) Cc hIj (hAa 1 (by decide)) 10 0 rfl _ _ _ hP hS ls (lv_sub hl [1, 0] rfl) (fun H locs hP hS ls => ?_)
  exact W.vret hx hb hr (fun t ht _ => QWv.mk (u := (fun i => [h0, q1, q2, q3, q4, q5, q6, q7, q8, q9, q10, q11, q12].getD i 0)) ⟨rfl, hIj, hAa⟩ hP hS ht) hS.2.2 dX5_init_169 (hlocks := hlk)
