def EC (U : State) : Prop := va_Nw (.methodLinkNest RX4 24 yX0_init RX4) U ∧ va_Nw (.methodLinkNest RX4 31 yX3_init RX4) U ∧ va_Nw (.methodLinkNest RX4 46 yX2_init RX4) U ∧ va_AO "CountyJigsaw$Sheet" U ∧ va_AO "java/lang/String" U
theorem EC.warm {s U : State} (hW : s.WarmedH U.vm) (h : EC s) : EC U := ⟨va_Nw.warmM hW h.1, va_Nw.warmM hW h.2.1, va_Nw.warmM hW h.2.2.1, va_AO.moved hW.alike h.2.2.2.1, va_AO.moved hW.alike h.2.2.2.2⟩
theorem EC.same {s U : State} (hv : s.vm = U.vm) (h : EC s) : EC U := ⟨va_Nw.same rfl hv h.1, va_Nw.same rfl hv h.2.1, va_Nw.same rfl hv h.2.2.1, va_AO.moved (hv ▸ Vm.Alike.refl s.vm) h.2.2.2.1, va_AO.moved (hv ▸ Vm.Alike.refl s.vm) h.2.2.2.2⟩
theorem va_P_l {D : va_G} {cl : List vw_C} {a b : va_W} {H : Heap} (h : va_P D cl (a ++ b) H) : va_P D cl a H := fun k q hk => h k q (by rw [List.getElem?_append_left (List.getElem?_eq_some_iff.mp hk).1]; exact hk)
theorem va_P_r {D : va_G} {cl : List vw_C} {a b : va_W} {H : Heap} (h : va_P D cl (a ++ b) H) : va_P D cl b H := fun k q hk => h (a.length + k) q (by rw [List.getElem?_append_right (Nat.le_add_right _ _), Nat.add_sub_cancel_left]; exact hk)
theorem join_last {D : va_G} {cl : List vw_C} {A0 : Nat → Prop} {ws w1 : va_W} {q : Nat} {x0 : va_E} {a : Nat → Nat} {n : Nat} {H0 H H1 : Heap} (hP : va_P D cl (ws ++ [(q, x0)]) H) (hD : va_D A0 (ws ++ [(q, x0)])) (hA : ∀ x, H0.size ≤ x → A0 x) (hsz : H0.size ≤ H.size) (hk : ∀ x : Nat, x < H.size → ¬ iA q H.size x → H1[x]? = H[x]?) (hP1 : va_P D cl w1 H1) (hw : wl a n w1) (hI : Ij a n) (ha : ∀ i, i < n → iA q H.size (a i)) : va_P D cl (ws ++ w1) H1 ∧ va_D A0 (ws ++ w1) := by
  have hin : ∀ (k : Nat) (x : Nat × va_E), ws[k]? = some x → (ws ++ [(q, x0)])[k]? = some x ∧ k < ws.length := fun k x hk => ⟨by rw [List.getElem?_append_left (List.getElem?_eq_some_iff.mp hk).1]; exact hk, (List.getElem?_eq_some_iff.mp hk).1⟩
  have hlast : (ws ++ [(q, x0)])[ws.length]? = some (q, x0) := by simp
  have hap : ∀ (k : Nat) (x : Nat × va_E), ws[k]? = some x → x.1 < H.size ∧ ¬ iA q H.size x.1 := by
    intro k x hx
    obtain ⟨h1, h2⟩ := hin k x hx
    have h3 := (hP k x h1).lt
    refine ⟨h3, fun z => ?_⟩
    rcases z with z | z
    · have h4 := hD.1 k ws.length x (q, x0) h1 hlast z
      omega
    · omega
  have hAq : ∀ x, iA q H.size x → A0 x := by
    intro x z
    rcases z with z | z
    · subst z
      exact hD.2 _ _ hlast
    · exact hA x (Nat.le_trans hsz z)
  refine ⟨va_P.app (fun k x hx => ?_) hP1, va_D.app ⟨fun i j x y hx hy e9 => hD.1 i j x y (hin i x hx).1 (hin j y hy).1 e9, fun k x hx => hD.2 k x (hin k x hx).1⟩ ((hw.D hI).weaken (fun k x hx _ => hAq x.1 (by rw [(hw k x hx).2]; exact ha k (hw k x hx).1))) (fun i j x y hx hy e9 => ?_)⟩
  · exact (hP k x (hin k x hx).1).kept (hk x.1 (hap k x hx).1 (hap k x hx).2)
  · refine (hap i x hx).2 ?_
    rw [e9, (hw j y hy).2]
    exact ha j (hw j y hy).1
theorem hF_last {A : Nat → Prop} {ws : va_W} {q : Nat} {x0 : va_E} {H0 H : Heap} {locs : List Loc} (hD : va_D A (ws ++ [(q, x0)])) (hA : ∀ x, H0.size ≤ x → A x) (hS : va_S A H0 H locs) : ∀ x, iA q H.size x → A x := by
  intro x hx
  rcases hx with hx | hx
  · subst hx
    exact hD.2 ws.length (x, x0) (by simp)
  · exact hA x (Nat.le_trans hS.1 hx)
theorem cell_congq {cI : ClassId} {n : Nat} {f g : Nat → Option Nat} (h : ∀ j, j < n → f j = g j) : vp_cell cI (n, .inr (.inr (.inr (.inr f)))) = vp_cell cI (n, .inr (.inr (.inr (.inr g)))) := by
  rw [vp_cell_q, vp_cell_q]
  unfold arrV
  congr 1
  apply Array.ext
  · simp
  · intro i h1 h2
    simp at h1 ⊢
    rw [h i h1]
section GJ
variable {p : Program} {l : Launch} {e : Env} {R : Room} {s : State} {m : MethodId} {args : Array Value} {below : List Frame} {meth : Method} {c : Code} {H : Heap} {locs : List Loc} {cells slots : Nat} {Q : State → Prop} {pc : Nat} {ls : Array Slot} {rest st0 : List Value} {cc : ByteArray} {D : va_G} {κ : Nat → ClassId}
variable {own C : String} {y : MethodName} {bytes : ByteArray} {maxL nL n index mc ms : Nat} {ret' : Option FieldType} {rm : Room} {As : List Value} {b : Nat} {PH : Heap → Prop} {A0 F : Nat → Prop} {H0 : Heap} {S : Type} {B : S → Heap → Prop} {a : Array Value}
theorem kI {Qc : Array Value → State → Outcome → State → Prop} {free : Addr → Prop} (Cc : Cx D κ own cc nL ret' p s m args meth c) (hM : Met l y (wz y bytes maxL none) rm (va_Pc (.ref b :: As) (PE D κ PH)) Qc mc ms free) (cw : CallB R s args own index y bytes maxL none (wz y bytes maxL none) rm mc ms n ∧ y.name = "<init>" ∧ (Cond.instanceMethod y).before args s = true)
    (hPH : PH H) (hn : As.length = n) (hsz : ls.size = nL) (hst : st0 = As.reverse ++ .ref b :: rest) (hw : (rest.map fun v => v.category).sum ≤ 8) (hdg : decode cc pc = .ok (.invokespecial index, 3)) (hc : cells + mc ≤ R.cells ∧ slots + ms ≤ R.slots) :
    va_Run p l e R s m args below meth c H locs cells slots mc ms (F0 m pc ls st0) rest (Qc (Value.ref b :: As).toArray) free :=
  va_runI (Ts := gG) ⟨Cc.1, Cc.2.1, Cc.2.2.1, Cc.2.2.2.1, Cc.2.2.2.2.1⟩ hM cw ⟨PE.blind, fun U hU hW => ⟨rfl, EK.warm hW Cc.2.2.2.2.2.2.2, by rw [hU]; exact hPH⟩⟩ rfl hn hsz hst (lv_room hw) hdg hc
theorem kIN {host : String} {Qc : Array Value → State → Outcome → State → Prop} {free : Addr → Prop} (Cc : Cx D κ own cc nL ret' p s m args meth c) (hM : Met l y (wz y bytes maxL none) rm (va_Pc (.ref b :: As) (PE D κ PH)) Qc mc ms free) (cw : va_CN R s args own index y host bytes maxL none (wz y bytes maxL none) rm mc ms n ∧ y.name = "<init>" ∧ (Cond.instanceMethod y).before args s = true)
    (hPH : PH H) (hn : As.length = n) (hsz : ls.size = nL) (hst : st0 = As.reverse ++ .ref b :: rest) (hw : (rest.map fun v => v.category).sum ≤ 8) (hdg : decode cc pc = .ok (.invokespecial index, 3)) (hc : cells + mc ≤ R.cells ∧ slots + ms ≤ R.slots) :
    va_Run p l e R s m args below meth c H locs cells slots mc ms (F0 m pc ls st0) rest (Qc (Value.ref b :: As).toArray) free :=
  va_runIN (Ts := gG) ⟨Cc.1, Cc.2.1, Cc.2.2.1, Cc.2.2.2.1, Cc.2.2.2.2.1⟩ hM cw ⟨PE.blind, fun U hU hW => ⟨rfl, EK.warm hW Cc.2.2.2.2.2.2.2, by rw [hU]; exact hPH⟩⟩ rfl hn hsz hst (lv_room hw) hdg hc
theorem kWvA {Qp : S → Prop} (hr : va_Run p l e R s m args below meth c H locs cells slots mc ms (F0 m pc ls st0) rest (QWv Qp B F a) F) (hS : va_S A0 H0 H locs) (hF : ∀ q, F q → A0 q)
    (kk : ∀ (u : S) (H1 : Heap) (locs1 : List Loc), Qp u → B u H1 → (∀ q : Nat, q < H.size → ¬ F q → H1[q]? = H[q]?) → va_S A0 H0 H1 locs1 → W p l e R s m args below meth c H1 locs1 (cells + mc) (slots + ms) Q (F0 m (pc + 3) ls rest)) : W p l e R s m args below meth c H locs cells slots Q (F0 m pc ls st0) :=
  va_callv hr hS (fun q _ h => hF q h) hF (fun u t H1 locs1 ht _ hq hB _ hk hS1 => by subst ht; exact kk u _ locs1 hq hB hk hS1)
end GJ
def S0 : Nat → Mx := fun k => if k = 0 ∨ k = 1 ∨ k = 2 then σICo else fun _ _ => 0
def fA (a0 a1 a2 a3 a4 : Nat → Nat) (h0 qs qf : Nat) (b0 b1 b2 b3 : Nat → Nat) : Nat → Nat → Nat := fun k i => match k with | 0 => a0 i | 1 => a1 i | 2 => a2 i | 3 => a3 i | 4 => a4 i | 5 => [h0, qs, qf].getD i 0 | 6 => b0 i | 7 => b1 i | 8 => b2 i | _ => b3 i
def fpos (k i : Nat) : Nat := match k with | 0 => 1 + i | 1 => 9 + i | 2 => 17 + i | 3 => 25 + i | 4 => 30 + i | 5 => [0, 32, 33].getD i 0 | 6 => 34 + i | 7 => 36 + i | 8 => 38 + i | _ => 40 + i
theorem fpos_injB : ((List.range 10).all fun k => (List.range 10).all fun k2 => (List.range (nc k)).all fun i => (List.range (nc k2)).all fun i2 => (fpos k i != fpos k2 i2) || (k == k2 && i == i2)) = true := by decide +kernel
theorem fpos_inj : ∀ k, k < 10 → ∀ k2, k2 < 10 → ∀ i, i < nc k → ∀ i2, i2 < nc k2 → fpos k i = fpos k2 i2 → k = k2 ∧ i = i2 := by
  intro k hk k2 hk2 i hi i2 hi2 e9
  have h := fpos_injB
  rw [List.all_eq_true] at h
  have h := h k (List.mem_range.mpr hk)
  rw [List.all_eq_true] at h
  have h := h k2 (List.mem_range.mpr hk2)
  rw [List.all_eq_true] at h
  have h := h i (List.mem_range.mpr hi)
  rw [List.all_eq_true] at h
  have h := h i2 (List.mem_range.mpr hi2)
  simp [e9] at h
  exact h
abbrev wFin (κ : Nat → ClassId) (a0 a1 a2 a3 a4 : Nat → Nat) (h0 qs qf : Nat) (b0 b1 b2 b3 : Nat → Nat) : va_W := ((((((((((([(h0, .inr (4, [.ref (a0 0), .ref (a1 0), .ref (a2 0), .ref (a3 0), .ref (a4 0), .ref qs, .ref qf, .int 0]))] ++ wCo κ a0 σICo) ++ wCo κ a1 σICo) ++ wCo κ a2 σICo) ++ wLy κ a3 σILy) ++ wTp κ a4 σITp) ++ [(qs, .inl (κ 1, 4, .inr (.inr (.inr (.inr (va_up (va_up (va_up (va_up (fun _ => none) 0 (some (b0 0))) 1 (some (b1 0))) 2 (some (b2 0))) 3 (some (b3 0))))))))]) ++ [(qf, .inl (κ 0, 7, .inl (fun _ => 0)))]) ++ wSh κ b0 σISh) ++ wSh κ b1 σISh) ++ wSh κ b2 σISh) ++ wSh κ b3 σISh)
theorem fA_at {κ : Nat → ClassId} {a0 a1 a2 a3 a4 : Nat → Nat} {h0 qs qf : Nat} {b0 b1 b2 b3 : Nat → Nat} : ∀ (k : Nat) (_ : k < 10) (i : Nat) (_ : i < nc k), ∃ x, (wFin κ a0 a1 a2 a3 a4 h0 qs qf b0 b1 b2 b3)[fpos k i]? = some (fA a0 a1 a2 a3 a4 h0 qs qf b0 b1 b2 b3 k i, x)
  | 0, _, 0, _ => ⟨_, rfl⟩
  | 0, _, 1, _ => ⟨_, rfl⟩
  | 0, _, 2, _ => ⟨_, rfl⟩
  | 0, _, 3, _ => ⟨_, rfl⟩
  | 0, _, 4, _ => ⟨_, rfl⟩
  | 0, _, 5, _ => ⟨_, rfl⟩
  | 0, _, 6, _ => ⟨_, rfl⟩
  | 0, _, 7, _ => ⟨_, rfl⟩
  | 1, _, 0, _ => ⟨_, rfl⟩
  | 1, _, 1, _ => ⟨_, rfl⟩
  | 1, _, 2, _ => ⟨_, rfl⟩
  | 1, _, 3, _ => ⟨_, rfl⟩
  | 1, _, 4, _ => ⟨_, rfl⟩
  | 1, _, 5, _ => ⟨_, rfl⟩
  | 1, _, 6, _ => ⟨_, rfl⟩
  | 1, _, 7, _ => ⟨_, rfl⟩
  | 2, _, 0, _ => ⟨_, rfl⟩
  | 2, _, 1, _ => ⟨_, rfl⟩
  | 2, _, 2, _ => ⟨_, rfl⟩
  | 2, _, 3, _ => ⟨_, rfl⟩
  | 2, _, 4, _ => ⟨_, rfl⟩
  | 2, _, 5, _ => ⟨_, rfl⟩
  | 2, _, 6, _ => ⟨_, rfl⟩
  | 2, _, 7, _ => ⟨_, rfl⟩
  | 3, _, 0, _ => ⟨_, rfl⟩
  | 3, _, 1, _ => ⟨_, rfl⟩
  | 3, _, 2, _ => ⟨_, rfl⟩
  | 3, _, 3, _ => ⟨_, rfl⟩
  | 3, _, 4, _ => ⟨_, rfl⟩
  | 4, _, 0, _ => ⟨_, rfl⟩
  | 4, _, 1, _ => ⟨_, rfl⟩
  | 5, _, 0, _ => ⟨_, rfl⟩
  | 5, _, 1, _ => ⟨_, rfl⟩
  | 5, _, 2, _ => ⟨_, rfl⟩
  | 6, _, 0, _ => ⟨_, rfl⟩
  | 6, _, 1, _ => ⟨_, rfl⟩
  | 7, _, 0, _ => ⟨_, rfl⟩
  | 7, _, 1, _ => ⟨_, rfl⟩
  | 8, _, 0, _ => ⟨_, rfl⟩
  | 8, _, 1, _ => ⟨_, rfl⟩
  | 9, _, 0, _ => ⟨_, rfl⟩
  | 9, _, 1, _ => ⟨_, rfl⟩
  | 0, _, i + 8, h => absurd h (by show ¬ i + 8 < 8; omega)
  | 1, _, i + 8, h => absurd h (by show ¬ i + 8 < 8; omega)
  | 2, _, i + 8, h => absurd h (by show ¬ i + 8 < 8; omega)
  | 3, _, i + 5, h => absurd h (by show ¬ i + 5 < 5; omega)
  | 4, _, i + 2, h => absurd h (by show ¬ i + 2 < 2; omega)
  | 5, _, i + 3, h => absurd h (by show ¬ i + 3 < 3; omega)
  | 6, _, i + 2, h => absurd h (by show ¬ i + 2 < 2; omega)
  | 7, _, i + 2, h => absurd h (by show ¬ i + 2 < 2; omega)
  | 8, _, i + 2, h => absurd h (by show ¬ i + 2 < 2; omega)
  | 9, _, i + 2, h => absurd h (by show ¬ i + 2 < 2; omega)
  | k + 10, h, _, _ => absurd h (by omega)
theorem fA_ok {κ : Nat → ClassId} {a0 a1 a2 a3 a4 : Nat → Nat} {h0 sz qs qf : Nat} {b0 b1 b2 b3 : Nat → Nat} {A : Nat → Prop} (hAe : iA h0 sz = A) (hD : va_D A (wFin κ a0 a1 a2 a3 a4 h0 qs qf b0 b1 b2 b3)) : fA a0 a1 a2 a3 a4 h0 qs qf b0 b1 b2 b3 5 0 = h0 ∧ IX (fA a0 a1 a2 a3 a4 h0 qs qf b0 b1 b2 b3) ∧ ∀ q, aX (fA a0 a1 a2 a3 a4 h0 qs qf b0 b1 b2 b3) q → A q := by
  refine ⟨rfl, fun k k' i i' hk hk' hi hi' e9 => ?_, fun q hq => ?_⟩
  · obtain ⟨x, hx⟩ := fA_at (κ := κ) (a0 := a0) (a1 := a1) (a2 := a2) (a3 := a3) (a4 := a4) (h0 := h0) (qs := qs) (qf := qf) (b0 := b0) (b1 := b1) (b2 := b2) (b3 := b3) k hk i hi
    obtain ⟨z, hz⟩ := fA_at (κ := κ) (a0 := a0) (a1 := a1) (a2 := a2) (a3 := a3) (a4 := a4) (h0 := h0) (qs := qs) (qf := qf) (b0 := b0) (b1 := b1) (b2 := b2) (b3 := b3) k' hk' i' hi'
    exact fpos_inj k hk k' hk' i hi i' hi' (hD.1 _ _ _ _ hx hz e9)
  · obtain ⟨k, i, hk, hi, rfl⟩ := hq
    obtain ⟨x, hx⟩ := fA_at (κ := κ) (a0 := a0) (a1 := a1) (a2 := a2) (a3 := a3) (a4 := a4) (h0 := h0) (qs := qs) (qf := qf) (b0 := b0) (b1 := b1) (b2 := b2) (b3 := b3) k hk i hi
    exact hD.2 _ _ hx
theorem fA_P {D : va_G} {κ : Nat → ClassId} {a0 a1 a2 a3 a4 : Nat → Nat} {h0 qs qf : Nat} {b0 b1 b2 b3 : Nat → Nat} {H : Heap} (hP : va_P D classes (wFin κ a0 a1 a2 a3 a4 h0 qs qf b0 b1 b2 b3) H) : PX D κ (fA a0 a1 a2 a3 a4 h0 qs qf b0 b1 b2 b3) S0 H
  | 0, _ => (va_P_r (va_P_l (va_P_l (va_P_l (va_P_l (va_P_l (va_P_l (va_P_l (va_P_l (va_P_l (va_P_l hP)))))))))))
  | 1, _ => (va_P_r (va_P_l (va_P_l (va_P_l (va_P_l (va_P_l (va_P_l (va_P_l (va_P_l (va_P_l hP))))))))))
  | 2, _ => (va_P_r (va_P_l (va_P_l (va_P_l (va_P_l (va_P_l (va_P_l (va_P_l (va_P_l hP)))))))))
  | 3, _ => (va_P_r (va_P_l (va_P_l (va_P_l (va_P_l (va_P_l (va_P_l (va_P_l hP))))))))
  | 4, _ => (va_P_r (va_P_l (va_P_l (va_P_l (va_P_l (va_P_l (va_P_l hP)))))))
  | 5, _ => fun k q hk => by
    match k, hk with
    | 0, hk => cases hk; exact hP 0 _ rfl
    | 1, hk =>
      cases hk
      show H[qs]? = some (vp_cell _ _)
      have h1 : H[qs]? = some (vp_cell (κ 1) _) := hP 32 _ rfl
      rw [h1]
      refine congrArg some (cell_congq (fun j hj => ?_))
      match j, hj with
      | 0, _ => rfl
      | 1, _ => rfl
      | 2, _ => rfl
      | 3, _ => rfl
      | j + 4, hj => exact absurd hj (by omega)
    | 2, hk => cases hk; exact hP 33 _ rfl
    | k + 3, hk => simp [cw, wSf] at hk
  | 6, _ => (va_P_r (va_P_l (va_P_l (va_P_l hP))))
  | 7, _ => (va_P_r (va_P_l (va_P_l hP)))
  | 8, _ => (va_P_r (va_P_l hP))
  | 9, _ => (va_P_r hP)
  | k + 10, h => absurd h (by omega)
abbrev rX4_init : Room := { frames := 2, cells := 41, slots := 2641, locals := 64 }
set_option maxHeartbeats 4000000 in
set_option maxRecDepth 100000 in
theorem mX4_init (l : Launch) (D : va_G) (κ : Nat → ClassId) (h0 sz : Nat) : Met l yX4_init (wz yX4_init cX4_init 2 none) rX4_init (va_Pc [.ref h0] (fun U => EK D κ U ∧ EC U ∧ U.heap.size = sz ∧ va_P D classes [(h0, .inr (4, [.null, .null, .null, .null, .null, .null, .null, .int 0]))] U.heap)) (QWv (fun A : Nat → Nat → Nat => A 5 0 = h0 ∧ IX A ∧ ∀ q, aX A q → iA h0 sz q) (fun A H => PX D κ A S0 H) (iA h0 sz)) 41 2641 (iA h0 sz) := by
  refine Met.ofW (cc := cX4_init) (maxL := 2) (ret := none) (by decide) rfl ?_
  intro p e s m args below meth c s₁ B hml hv
  obtain ⟨rfl, hE, hEC, hsz, hP⟩ := hv
  have hts0 := atoms_spec (ws := wz yX4_init cX4_init 2 none) B.pre
  have hown : s.vm.findClass RX4 = some m.cls := findClass_of_methodNamed B.named
  have hin : meth.name = "<init>" := (name_of_methodNamed B.named B.method).1
  have Cc : Cx D κ RX4 cX4_init 2 none p s m [Value.ref h0].toArray meth c := ⟨B.exec, B.bytes, hml, hown, fun w h => hts0 w (List.mem_cons_of_mem _ h), B.returns, B.notSynchronized, hE⟩
  obtain ⟨hx, hb, hml, hown, hts, hr, hlk, hE⟩ := id Cc
  rw [lg_entry_eq]
  have hl := lv_entry [Value.ref h0] (n := 2) (Nat.le_of_ble_eq_true rfl)
  generalize (lg_sl [Value.ref h0] ++ List.replicate (2 - (lg_sl [Value.ref h0]).length) Slot.unset).toArray = ls at hl ⊢
  have hl : lv_has ls 2 [(0, .ref h0)] := hl
  subst hsz
  generalize hAe : iA h0 s.heap.size = A
  have hA : ∀ q : Nat, s.heap.size ≤ q → A q := fun q h => by rw [← hAe]; exact Or.inr h
  have hD : va_D A [(h0, .inr (4, [.null, .null, .null, .null, .null, .null, .null, .int 0]))] := ⟨fun i j p q hp hq _ => by have h1 := (List.getElem?_eq_some_iff.mp hp).1; have h2 := (List.getElem?_eq_some_iff.mp hq).1; simp at h1 h2; omega, fun k q hk => by have h1 := (List.getElem?_eq_some_iff.mp hk).1; simp at h1; subst h1; cases hk; rw [← hAe]; exact Or.inl rfl⟩
  have hS : va_S A s.heap s.heap [] := va_S.rf
  refine lv_aload_n hx hb dX4_init_0 rfl (lv_at hl 0 rfl) ?_
  refine W.objInit hx hb hown (tw_88 hts) (tw_89 hts) (tw_90 hts) rfl (by rw [hml]; exact hl.1) rfl dX4_init_1 (Nat.le_of_ble_eq_true rfl) (Nat.le_of_ble_eq_true rfl) ?_
  refine W.eq (g2 := F0 m 4 ls []) rfl ?_
  refine lv_aload_n hx hb dX4_init_4 rfl (lv_at hl 0 rfl) ?_
  refine va_new (ci := 1) (fs := [.null, .null, .null, .null, .null, .null, .null, .int 0, .int 0, .int 0, .int 0]) (C := RX1) (T := TX1) (N := 11) hx hb hts iX1 tyX1 tyX1_ok hown (tw_91 hts) (tw_92 hts) (tw_71 hts) hE.1 hP hD hS hA rfl (fun j hj => by match j, hj with | 0, _ => rfl | 1, _ => rfl | 2, _ => rfl | 3, _ => rfl | 4, _ => rfl | 5, _ => rfl | 6, _ => rfl | 7, _ => rfl | 8, _ => rfl | 9, _ => rfl | 10, _ => rfl | j + 11, hj => exact absurd hj (by omega)) (Nat.le_of_ble_eq_true rfl) (Nat.le_of_ble_eq_true rfl) dX4_init_5 (fun z5 H hP hD hS => ?_)
  refine W.widen (k := 1) (n := 11) (Nat.le_of_ble_eq_true rfl) (Nat.le_of_ble_eq_true rfl) ?_
  refine lv_dup hx hb dX4_init_8 rfl ?_
  refine kWvA (kI Cc (mX1_init l D κ z5 H.size) ⟨callB_of 0 hts (good_wz mw_95) rfl rfl rfl (tw_71 hts) (tw_93 hts) (by decide +kernel) ⟨(Nat.le_of_ble_eq_true rfl), (Nat.le_of_ble_eq_true rfl)⟩, rfl, tw_94 hts⟩ (rest := [.ref z5, .ref h0]) ⟨rfl, va_P_r hP⟩ rfl hl.1 rfl (Nat.le_of_ble_eq_true rfl) dX4_init_9 ⟨(Nat.le_of_ble_eq_true rfl), (Nat.le_of_ble_eq_true rfl)⟩) hS (hF_last hD hA hS) (fun a0 H1 locs1 hq hB hk hS1 => ?_)
  obtain ⟨eaa0, hIa0, hia0⟩ := hq
  obtain ⟨hP, hD⟩ := join_last hP hD hA hS.1 hk hB wCo_wl hIa0 hia0
  have hS := hS1
  generalize H1 = H at hP hS ⊢
  generalize locs1 = locs at hS ⊢
  refine W.widen (k := 8) (n := 67) (Nat.le_of_ble_eq_true rfl) (Nat.le_of_ble_eq_true rfl) ?_
  have hP : va_P D classes ([(h0, .inr (4, [.null, .null, .null, .null, .null, .null, .null, .int 0]))] ++ wCo κ a0 σICo) H := hP
  have hD : va_D A ([(h0, .inr (4, [.null, .null, .null, .null, .null, .null, .null, .int 0]))] ++ wCo κ a0 σICo) := hD
  rw [← eaa0]
  refine va_putF (D := D) (ci := 4) (v := .ref (a0 0)) (ty := .object "CountyJigsaw$County") (C := RX4) (T := TX4) (N := 8) hx hb hts iX4 tyX4 tyX4_ok nmX4 hown hE.1 hP hD hS 0 rfl rfl 0 (by decide) (tw_209 hts) (fun _ h9 => h9) rfl hin rfl (by decide +kernel) rfl rfl (Nat.le_of_ble_eq_true rfl) dX4_init_12 (fun H locs hP hD hS => ?_)
  have hP : va_P D classes ([(h0, .inr (4, [.ref (a0 0), .null, .null, .null, .null, .null, .null, .int 0]))] ++ wCo κ a0 σICo) H := hP
  have hD : va_D A ([(h0, .inr (4, [.ref (a0 0), .null, .null, .null, .null, .null, .null, .int 0]))] ++ wCo κ a0 σICo) := hD
  refine lv_aload_n hx hb dX4_init_15 rfl (lv_at hl 0 rfl) ?_
  refine va_new (ci := 1) (fs := [.null, .null, .null, .null, .null, .null, .null, .int 0, .int 0, .int 0, .int 0]) (C := RX1) (T := TX1) (N := 11) hx hb hts iX1 tyX1 tyX1_ok hown (tw_91 hts) (tw_92 hts) (tw_71 hts) hE.1 hP hD hS hA rfl (fun j hj => by match j, hj with | 0, _ => rfl | 1, _ => rfl | 2, _ => rfl | 3, _ => rfl | 4, _ => rfl | 5, _ => rfl | 6, _ => rfl | 7, _ => rfl | 8, _ => rfl | 9, _ => rfl | 10, _ => rfl | j + 11, hj => exact absurd hj (by omega)) (Nat.le_of_ble_eq_true rfl) (Nat.le_of_ble_eq_true rfl) dX4_init_16 (fun z16 H hP hD hS => ?_)
  refine W.widen (k := 9) (n := 78) (Nat.le_of_ble_eq_true rfl) (Nat.le_of_ble_eq_true rfl) ?_
  refine lv_dup hx hb dX4_init_19 rfl ?_
  refine kWvA (kI Cc (mX1_init l D κ z16 H.size) ⟨callB_of 0 hts (good_wz mw_95) rfl rfl rfl (tw_71 hts) (tw_93 hts) (by decide +kernel) ⟨(Nat.le_of_ble_eq_true rfl), (Nat.le_of_ble_eq_true rfl)⟩, rfl, tw_94 hts⟩ (rest := [.ref z16, .ref h0]) ⟨rfl, va_P_r hP⟩ rfl hl.1 rfl (Nat.le_of_ble_eq_true rfl) dX4_init_20 ⟨(Nat.le_of_ble_eq_true rfl), (Nat.le_of_ble_eq_true rfl)⟩) hS (hF_last hD hA hS) (fun a1 H1 locs1 hq hB hk hS1 => ?_)
  obtain ⟨eaa1, hIa1, hia1⟩ := hq
  obtain ⟨hP, hD⟩ := join_last hP hD hA hS.1 hk hB wCo_wl hIa1 hia1
  have hS := hS1
  generalize H1 = H at hP hS ⊢
  generalize locs1 = locs at hS ⊢
  refine W.widen (k := 16) (n := 134) (Nat.le_of_ble_eq_true rfl) (Nat.le_of_ble_eq_true rfl) ?_
  have hP : va_P D classes (([(h0, .inr (4, [.ref (a0 0), .null, .null, .null, .null, .null, .null, .int 0]))] ++ wCo κ a0 σICo) ++ wCo κ a1 σICo) H := hP
  have hD : va_D A (([(h0, .inr (4, [.ref (a0 0), .null, .null, .null, .null, .null, .null, .int 0]))] ++ wCo κ a0 σICo) ++ wCo κ a1 σICo) := hD
  rw [← eaa1]
  refine va_putF (D := D) (ci := 4) (v := .ref (a1 0)) (ty := .object "CountyJigsaw$County") (C := RX4) (T := TX4) (N := 8) hx hb hts iX4 tyX4 tyX4_ok nmX4 hown hE.1 hP hD hS 0 rfl rfl 1 (by decide) (tw_210 hts) (fun _ h9 => h9) rfl hin rfl (by decide +kernel) rfl rfl (Nat.le_of_ble_eq_true rfl) dX4_init_23 (fun H locs hP hD hS => ?_)
  have hP : va_P D classes (([(h0, .inr (4, [.ref (a0 0), .ref (a1 0), .null, .null, .null, .null, .null, .int 0]))] ++ wCo κ a0 σICo) ++ wCo κ a1 σICo) H := hP
  have hD : va_D A (([(h0, .inr (4, [.ref (a0 0), .ref (a1 0), .null, .null, .null, .null, .null, .int 0]))] ++ wCo κ a0 σICo) ++ wCo κ a1 σICo) := hD
  refine lv_aload_n hx hb dX4_init_26 rfl (lv_at hl 0 rfl) ?_
  refine va_new (ci := 1) (fs := [.null, .null, .null, .null, .null, .null, .null, .int 0, .int 0, .int 0, .int 0]) (C := RX1) (T := TX1) (N := 11) hx hb hts iX1 tyX1 tyX1_ok hown (tw_91 hts) (tw_92 hts) (tw_71 hts) hE.1 hP hD hS hA rfl (fun j hj => by match j, hj with | 0, _ => rfl | 1, _ => rfl | 2, _ => rfl | 3, _ => rfl | 4, _ => rfl | 5, _ => rfl | 6, _ => rfl | 7, _ => rfl | 8, _ => rfl | 9, _ => rfl | 10, _ => rfl | j + 11, hj => exact absurd hj (by omega)) (Nat.le_of_ble_eq_true rfl) (Nat.le_of_ble_eq_true rfl) dX4_init_27 (fun z27 H hP hD hS => ?_)
  refine W.widen (k := 17) (n := 145) (Nat.le_of_ble_eq_true rfl) (Nat.le_of_ble_eq_true rfl) ?_
  refine lv_dup hx hb dX4_init_30 rfl ?_
  refine kWvA (kI Cc (mX1_init l D κ z27 H.size) ⟨callB_of 0 hts (good_wz mw_95) rfl rfl rfl (tw_71 hts) (tw_93 hts) (by decide +kernel) ⟨(Nat.le_of_ble_eq_true rfl), (Nat.le_of_ble_eq_true rfl)⟩, rfl, tw_94 hts⟩ (rest := [.ref z27, .ref h0]) ⟨rfl, va_P_r hP⟩ rfl hl.1 rfl (Nat.le_of_ble_eq_true rfl) dX4_init_31 ⟨(Nat.le_of_ble_eq_true rfl), (Nat.le_of_ble_eq_true rfl)⟩) hS (hF_last hD hA hS) (fun a2 H1 locs1 hq hB hk hS1 => ?_)
  obtain ⟨eaa2, hIa2, hia2⟩ := hq
  obtain ⟨hP, hD⟩ := join_last hP hD hA hS.1 hk hB wCo_wl hIa2 hia2
  have hS := hS1
  generalize H1 = H at hP hS ⊢
  generalize locs1 = locs at hS ⊢
  refine W.widen (k := 24) (n := 201) (Nat.le_of_ble_eq_true rfl) (Nat.le_of_ble_eq_true rfl) ?_
  have hP : va_P D classes ((([(h0, .inr (4, [.ref (a0 0), .ref (a1 0), .null, .null, .null, .null, .null, .int 0]))] ++ wCo κ a0 σICo) ++ wCo κ a1 σICo) ++ wCo κ a2 σICo) H := hP
  have hD : va_D A ((([(h0, .inr (4, [.ref (a0 0), .ref (a1 0), .null, .null, .null, .null, .null, .int 0]))] ++ wCo κ a0 σICo) ++ wCo κ a1 σICo) ++ wCo κ a2 σICo) := hD
  rw [← eaa2]
  refine va_putF (D := D) (ci := 4) (v := .ref (a2 0)) (ty := .object "CountyJigsaw$County") (C := RX4) (T := TX4) (N := 8) hx hb hts iX4 tyX4 tyX4_ok nmX4 hown hE.1 hP hD hS 0 rfl rfl 2 (by decide) (tw_211 hts) (fun _ h9 => h9) rfl hin rfl (by decide +kernel) rfl rfl (Nat.le_of_ble_eq_true rfl) dX4_init_34 (fun H locs hP hD hS => ?_)
  have hP : va_P D classes ((([(h0, .inr (4, [.ref (a0 0), .ref (a1 0), .ref (a2 0), .null, .null, .null, .null, .int 0]))] ++ wCo κ a0 σICo) ++ wCo κ a1 σICo) ++ wCo κ a2 σICo) H := hP
  have hD : va_D A ((([(h0, .inr (4, [.ref (a0 0), .ref (a1 0), .ref (a2 0), .null, .null, .null, .null, .int 0]))] ++ wCo κ a0 σICo) ++ wCo κ a1 σICo) ++ wCo κ a2 σICo) := hD
  refine lv_aload_n hx hb dX4_init_37 rfl (lv_at hl 0 rfl) ?_
  refine va_new (ci := 0) (fs := [.null, .null, .null, .null]) (C := RX0) (T := TX0) (N := 4) hx hb hts iX0 tyX0 tyX0_ok hown (tw_147 hts) (tw_148 hts) (tw_72 hts) hE.1 hP hD hS hA rfl (fun j hj => by match j, hj with | 0, _ => rfl | 1, _ => rfl | 2, _ => rfl | 3, _ => rfl | j + 4, hj => exact absurd hj (by omega)) (Nat.le_of_ble_eq_true rfl) (Nat.le_of_ble_eq_true rfl) dX4_init_38 (fun z38 H hP hD hS => ?_)
  refine W.widen (k := 25) (n := 205) (Nat.le_of_ble_eq_true rfl) (Nat.le_of_ble_eq_true rfl) ?_
  refine lv_dup hx hb dX4_init_41 rfl ?_
  refine kWvA (kIN Cc (mX0_init l D κ z38 H.size) ⟨va_cnB 0 hts (good_wz mw_151) rfl rfl rfl hEC.1 (tw_72 hts) (by decide +kernel) ⟨(Nat.le_of_ble_eq_true rfl), (Nat.le_of_ble_eq_true rfl)⟩, rfl, tw_150 hts⟩ (rest := [.ref z38, .ref h0]) ⟨rfl, va_P_r hP⟩ rfl hl.1 rfl (Nat.le_of_ble_eq_true rfl) dX4_init_42 ⟨(Nat.le_of_ble_eq_true rfl), (Nat.le_of_ble_eq_true rfl)⟩) hS (hF_last hD hA hS) (fun a3 H1 locs1 hq hB hk hS1 => ?_)
  obtain ⟨eaa3, hIa3, hia3⟩ := hq
  obtain ⟨hP, hD⟩ := join_last hP hD hA hS.1 hk hB wLy_wl hIa3 hia3
  have hS := hS1
  generalize H1 = H at hP hS ⊢
  generalize locs1 = locs at hS ⊢
  refine W.widen (k := 29) (n := 2333) (Nat.le_of_ble_eq_true rfl) (Nat.le_of_ble_eq_true rfl) ?_
  have hP : va_P D classes (((([(h0, .inr (4, [.ref (a0 0), .ref (a1 0), .ref (a2 0), .null, .null, .null, .null, .int 0]))] ++ wCo κ a0 σICo) ++ wCo κ a1 σICo) ++ wCo κ a2 σICo) ++ wLy κ a3 σILy) H := hP
  have hD : va_D A (((([(h0, .inr (4, [.ref (a0 0), .ref (a1 0), .ref (a2 0), .null, .null, .null, .null, .int 0]))] ++ wCo κ a0 σICo) ++ wCo κ a1 σICo) ++ wCo κ a2 σICo) ++ wLy κ a3 σILy) := hD
  rw [← eaa3]
  refine va_putF (D := D) (ci := 4) (v := .ref (a3 0)) (ty := .object "CountyJigsaw$BestLaying") (C := RX4) (T := TX4) (N := 8) hx hb hts iX4 tyX4 tyX4_ok nmX4 hown hE.1 hP hD hS 0 rfl rfl 3 (by decide) (tw_212 hts) (fun _ h9 => h9) rfl hin rfl (by decide +kernel) rfl rfl (Nat.le_of_ble_eq_true rfl) dX4_init_45 (fun H locs hP hD hS => ?_)
  have hP : va_P D classes (((([(h0, .inr (4, [.ref (a0 0), .ref (a1 0), .ref (a2 0), .ref (a3 0), .null, .null, .null, .int 0]))] ++ wCo κ a0 σICo) ++ wCo κ a1 σICo) ++ wCo κ a2 σICo) ++ wLy κ a3 σILy) H := hP
  have hD : va_D A (((([(h0, .inr (4, [.ref (a0 0), .ref (a1 0), .ref (a2 0), .ref (a3 0), .null, .null, .null, .int 0]))] ++ wCo κ a0 σICo) ++ wCo κ a1 σICo) ++ wCo κ a2 σICo) ++ wLy κ a3 σILy) := hD
  refine lv_aload_n hx hb dX4_init_48 rfl (lv_at hl 0 rfl) ?_
  refine va_new (ci := 3) (fs := [.null, .int 0, .int 0, .int 0, .int 0]) (C := RX3) (T := TX3) (N := 5) hx hb hts iX3 tyX3 tyX3_ok hown (tw_166 hts) (tw_167 hts) (tw_73 hts) hE.1 hP hD hS hA rfl (fun j hj => by match j, hj with | 0, _ => rfl | 1, _ => rfl | 2, _ => rfl | 3, _ => rfl | 4, _ => rfl | j + 5, hj => exact absurd hj (by omega)) (Nat.le_of_ble_eq_true rfl) (Nat.le_of_ble_eq_true rfl) dX4_init_49 (fun z49 H hP hD hS => ?_)
  refine W.widen (k := 30) (n := 2338) (Nat.le_of_ble_eq_true rfl) (Nat.le_of_ble_eq_true rfl) ?_
  refine lv_dup hx hb dX4_init_52 rfl ?_
  refine kWvA (kIN Cc (mX3_init l D κ z49 H.size) ⟨va_cnB 0 hts (good_wz mw_170) rfl rfl rfl hEC.2.1 (tw_73 hts) (by decide +kernel) ⟨(Nat.le_of_ble_eq_true rfl), (Nat.le_of_ble_eq_true rfl)⟩, rfl, tw_169 hts⟩ (rest := [.ref z49, .ref h0]) ⟨rfl, va_P_r hP⟩ rfl hl.1 rfl (Nat.le_of_ble_eq_true rfl) dX4_init_53 ⟨(Nat.le_of_ble_eq_true rfl), (Nat.le_of_ble_eq_true rfl)⟩) hS (hF_last hD hA hS) (fun a4 H1 locs1 hq hB hk hS1 => ?_)
  obtain ⟨eaa4, hIa4, hia4⟩ := hq
  obtain ⟨hP, hD⟩ := join_last hP hD hA hS.1 hk hB wTp_wl hIa4 hia4
  have hS := hS1
  generalize H1 = H at hP hS ⊢
  generalize locs1 = locs at hS ⊢
  refine W.widen (k := 31) (n := 2458) (Nat.le_of_ble_eq_true rfl) (Nat.le_of_ble_eq_true rfl) ?_
  have hP : va_P D classes ((((([(h0, .inr (4, [.ref (a0 0), .ref (a1 0), .ref (a2 0), .ref (a3 0), .null, .null, .null, .int 0]))] ++ wCo κ a0 σICo) ++ wCo κ a1 σICo) ++ wCo κ a2 σICo) ++ wLy κ a3 σILy) ++ wTp κ a4 σITp) H := hP
  have hD : va_D A ((((([(h0, .inr (4, [.ref (a0 0), .ref (a1 0), .ref (a2 0), .ref (a3 0), .null, .null, .null, .int 0]))] ++ wCo κ a0 σICo) ++ wCo κ a1 σICo) ++ wCo κ a2 σICo) ++ wLy κ a3 σILy) ++ wTp κ a4 σITp) := hD
  rw [← eaa4]
  refine va_putF (D := D) (ci := 4) (v := .ref (a4 0)) (ty := .object "CountyJigsaw$Tape") (C := RX4) (T := TX4) (N := 8) hx hb hts iX4 tyX4 tyX4_ok nmX4 hown hE.1 hP hD hS 0 rfl rfl 4 (by decide) (tw_213 hts) (fun _ h9 => h9) rfl hin rfl (by decide +kernel) rfl rfl (Nat.le_of_ble_eq_true rfl) dX4_init_56 (fun H locs hP hD hS => ?_)
  have hP : va_P D classes ((((([(h0, .inr (4, [.ref (a0 0), .ref (a1 0), .ref (a2 0), .ref (a3 0), .ref (a4 0), .null, .null, .int 0]))] ++ wCo κ a0 σICo) ++ wCo κ a1 σICo) ++ wCo κ a2 σICo) ++ wLy κ a3 σILy) ++ wTp κ a4 σITp) H := hP
  have hD : va_D A ((((([(h0, .inr (4, [.ref (a0 0), .ref (a1 0), .ref (a2 0), .ref (a3 0), .ref (a4 0), .null, .null, .int 0]))] ++ wCo κ a0 σICo) ++ wCo κ a1 σICo) ++ wCo κ a2 σICo) ++ wLy κ a3 σILy) ++ wTp κ a4 σITp) := hD
  refine lv_aload_n hx hb dX4_init_59 rfl (lv_at hl 0 rfl) ?_
  refine lv_iconst (v := 4) hx hb dX4_init_60 (by decide) ?_
  refine va_newq hx hb hown (tw_189 hts) hEC.2.2.2.1 hE.1 hP hD hS hA (N' := 4) (by decide) rfl (by decide) (Nat.le_of_ble_eq_true rfl) (Nat.le_of_ble_eq_true rfl) dX4_init_61 (fun qs cS H hK1 hP hD hS => ?_)
  have ecS : cS = κ 1 := by
    obtain ⟨_, _, _, _, _, f1⟩ := (hK1.2 3 _ rfl).2
    obtain ⟨_, _, _, _, _, f2⟩ := (hE.1.2 1 _ rfl).2
    exact Option.some.inj (f1.symm.trans f2)
  subst ecS
  refine W.widen (k := 32) (n := 2462) (Nat.le_of_ble_eq_true rfl) (Nat.le_of_ble_eq_true rfl) ?_
  have hP : va_P D classes (((((([(h0, .inr (4, [.ref (a0 0), .ref (a1 0), .ref (a2 0), .ref (a3 0), .ref (a4 0), .null, .null, .int 0]))] ++ wCo κ a0 σICo) ++ wCo κ a1 σICo) ++ wCo κ a2 σICo) ++ wLy κ a3 σILy) ++ wTp κ a4 σITp) ++ [(qs, .inl (κ 1, 4, .inr (.inr (.inr (.inr (fun _ => none))))))]) H := hP
  have hD : va_D A (((((([(h0, .inr (4, [.ref (a0 0), .ref (a1 0), .ref (a2 0), .ref (a3 0), .ref (a4 0), .null, .null, .int 0]))] ++ wCo κ a0 σICo) ++ wCo κ a1 σICo) ++ wCo κ a2 σICo) ++ wLy κ a3 σILy) ++ wTp κ a4 σITp) ++ [(qs, .inl (κ 1, 4, .inr (.inr (.inr (.inr (fun _ => none))))))]) := hD
  refine va_putF (D := D) (ci := 4) (v := .ref qs) (ty := .array (.object "CountyJigsaw$Sheet")) (C := RX4) (T := TX4) (N := 8) hx hb hts iX4 tyX4 tyX4_ok nmX4 hown hE.1 hP hD hS 0 rfl rfl 5 (by decide) (tw_214 hts) (fun _ h9 => h9) rfl hin rfl (by decide +kernel) rfl rfl (Nat.le_of_ble_eq_true rfl) dX4_init_64 (fun H locs hP hD hS => ?_)
  have hP : va_P D classes (((((([(h0, .inr (4, [.ref (a0 0), .ref (a1 0), .ref (a2 0), .ref (a3 0), .ref (a4 0), .ref qs, .null, .int 0]))] ++ wCo κ a0 σICo) ++ wCo κ a1 σICo) ++ wCo κ a2 σICo) ++ wLy κ a3 σILy) ++ wTp κ a4 σITp) ++ [(qs, .inl (κ 1, 4, .inr (.inr (.inr (.inr (fun _ => none))))))]) H := hP
  have hD : va_D A (((((([(h0, .inr (4, [.ref (a0 0), .ref (a1 0), .ref (a2 0), .ref (a3 0), .ref (a4 0), .ref qs, .null, .int 0]))] ++ wCo κ a0 σICo) ++ wCo κ a1 σICo) ++ wCo κ a2 σICo) ++ wLy κ a3 σILy) ++ wTp κ a4 σITp) ++ [(qs, .inl (κ 1, 4, .inr (.inr (.inr (.inr (fun _ => none))))))]) := hD
  refine lv_aload_n hx hb dX4_init_67 rfl (lv_at hl 0 rfl) ?_
  refine lv_bipush (v := 7) hx hb dX4_init_68 (by decide) ?_
  refine xnewi Cc hP hD hS hA (N' := 7) (by decide) rfl (by decide) (Nat.le_of_ble_eq_true rfl) (Nat.le_of_ble_eq_true rfl) dX4_init_70 (fun qf H hP hD hS => ?_)
  refine W.widen (k := 33) (n := 2469) (Nat.le_of_ble_eq_true rfl) (Nat.le_of_ble_eq_true rfl) ?_
  have hP : va_P D classes ((((((([(h0, .inr (4, [.ref (a0 0), .ref (a1 0), .ref (a2 0), .ref (a3 0), .ref (a4 0), .ref qs, .null, .int 0]))] ++ wCo κ a0 σICo) ++ wCo κ a1 σICo) ++ wCo κ a2 σICo) ++ wLy κ a3 σILy) ++ wTp κ a4 σITp) ++ [(qs, .inl (κ 1, 4, .inr (.inr (.inr (.inr (fun _ => none))))))]) ++ [(qf, .inl (κ 0, 7, .inl (fun _ => 0)))]) H := hP
  have hD : va_D A ((((((([(h0, .inr (4, [.ref (a0 0), .ref (a1 0), .ref (a2 0), .ref (a3 0), .ref (a4 0), .ref qs, .null, .int 0]))] ++ wCo κ a0 σICo) ++ wCo κ a1 σICo) ++ wCo κ a2 σICo) ++ wLy κ a3 σILy) ++ wTp κ a4 σITp) ++ [(qs, .inl (κ 1, 4, .inr (.inr (.inr (.inr (fun _ => none))))))]) ++ [(qf, .inl (κ 0, 7, .inl (fun _ => 0)))]) := hD
  refine va_putF (D := D) (ci := 4) (v := .ref qf) (ty := .array .int) (C := RX4) (T := TX4) (N := 8) hx hb hts iX4 tyX4 tyX4_ok nmX4 hown hE.1 hP hD hS 0 rfl rfl 6 (by decide) (tw_215 hts) (fun _ h9 => h9) rfl hin rfl (by decide +kernel) rfl rfl (Nat.le_of_ble_eq_true rfl) dX4_init_72 (fun H locs hP hD hS => ?_)
  have hP : va_P D classes ((((((([(h0, .inr (4, [.ref (a0 0), .ref (a1 0), .ref (a2 0), .ref (a3 0), .ref (a4 0), .ref qs, .ref qf, .int 0]))] ++ wCo κ a0 σICo) ++ wCo κ a1 σICo) ++ wCo κ a2 σICo) ++ wLy κ a3 σILy) ++ wTp κ a4 σITp) ++ [(qs, .inl (κ 1, 4, .inr (.inr (.inr (.inr (fun _ => none))))))]) ++ [(qf, .inl (κ 0, 7, .inl (fun _ => 0)))]) H := hP
  have hD : va_D A ((((((([(h0, .inr (4, [.ref (a0 0), .ref (a1 0), .ref (a2 0), .ref (a3 0), .ref (a4 0), .ref qs, .ref qf, .int 0]))] ++ wCo κ a0 σICo) ++ wCo κ a1 σICo) ++ wCo κ a2 σICo) ++ wLy κ a3 σILy) ++ wTp κ a4 σITp) ++ [(qs, .inl (κ 1, 4, .inr (.inr (.inr (.inr (fun _ => none))))))]) ++ [(qf, .inl (κ 0, 7, .inl (fun _ => 0)))]) := hD
  refine lv_iconst (v := 0) hx hb dX4_init_75 (by decide) ?_
  refine lv_istore_n (lv' := [(1, .int 0), (0, .ref h0)]) hx hb dX4_init_76 rfl hl (by decide) rfl (fun ls hl => ?_)
  refine lv_iload_n hx hb dX4_init_77 rfl (lv_at hl 0 rfl) ?_
  refine lv_iconst (v := 4) hx hb dX4_init_78 (by decide) ?_
  refine lv_icmp_ge (tgt := 101) hx hb dX4_init_79 (by decide) (fun c9 => absurd c9 (by decide)) (fun _ => ?_)
  refine lv_aload_n hx hb dX4_init_82 rfl (lv_at hl 1 rfl) ?_
  refine va_get (D := D) (ci := 4) (v := .ref qs) (C := RX4) (T := TX4) (N := 8) hx hb hts iX4 hown hE.1 hP 0 rfl rfl 5 (by decide) (tw_214 hts) (fun _ h9 => h9) rfl dX4_init_83 ?_
  refine lv_iload_n hx hb dX4_init_86 rfl (lv_at hl 0 rfl) ?_
  refine va_new (ci := 2) (fs := [.null, .int 0, .int 0]) (C := RX2) (T := TX2) (N := 3) hx hb hts iX2 tyX2 tyX2_ok hown (tw_189 hts) (tw_191 hts) (tw_74 hts) hE.1 hP hD hS hA rfl (fun j hj => by match j, hj with | 0, _ => rfl | 1, _ => rfl | 2, _ => rfl | j + 3, hj => exact absurd hj (by omega)) (Nat.le_of_ble_eq_true rfl) (Nat.le_of_ble_eq_true rfl) dX4_init_87 (fun z87 H hP hD hS => ?_)
  refine W.widen (k := 34) (n := 2472) (Nat.le_of_ble_eq_true rfl) (Nat.le_of_ble_eq_true rfl) ?_
  refine lv_dup hx hb dX4_init_90 rfl ?_
  refine kWvA (kIN Cc (mX2_init l D κ z87 H.size) ⟨va_cnB 0 hts (good_wz mw_194) rfl rfl rfl hEC.2.2.1 (tw_74 hts) (by decide +kernel) ⟨(Nat.le_of_ble_eq_true rfl), (Nat.le_of_ble_eq_true rfl)⟩, rfl, tw_193 hts⟩ (rest := [.ref z87, .int 0, .ref qs]) ⟨rfl, va_P_r hP⟩ rfl hl.1 rfl (Nat.le_of_ble_eq_true rfl) dX4_init_91 ⟨(Nat.le_of_ble_eq_true rfl), (Nat.le_of_ble_eq_true rfl)⟩) hS (hF_last hD hA hS) (fun b0 H1 locs1 hq hB hk hS1 => ?_)
  obtain ⟨eab0, hIb0, hib0⟩ := hq
  obtain ⟨hP, hD⟩ := join_last hP hD hA hS.1 hk hB wSh_wl hIb0 hib0
  have hS := hS1
  generalize H1 = H at hP hS ⊢
  generalize locs1 = locs at hS ⊢
  refine W.widen (k := 35) (n := 2512) (Nat.le_of_ble_eq_true rfl) (Nat.le_of_ble_eq_true rfl) ?_
  have hP : va_P D classes (((((((([(h0, .inr (4, [.ref (a0 0), .ref (a1 0), .ref (a2 0), .ref (a3 0), .ref (a4 0), .ref qs, .ref qf, .int 0]))] ++ wCo κ a0 σICo) ++ wCo κ a1 σICo) ++ wCo κ a2 σICo) ++ wLy κ a3 σILy) ++ wTp κ a4 σITp) ++ [(qs, .inl (κ 1, 4, .inr (.inr (.inr (.inr (fun _ => none))))))]) ++ [(qf, .inl (κ 0, 7, .inl (fun _ => 0)))]) ++ wSh κ b0 σISh) H := hP
  have hD : va_D A (((((((([(h0, .inr (4, [.ref (a0 0), .ref (a1 0), .ref (a2 0), .ref (a3 0), .ref (a4 0), .ref qs, .ref qf, .int 0]))] ++ wCo κ a0 σICo) ++ wCo κ a1 σICo) ++ wCo κ a2 σICo) ++ wLy κ a3 σILy) ++ wTp κ a4 σITp) ++ [(qs, .inl (κ 1, 4, .inr (.inr (.inr (.inr (fun _ => none))))))]) ++ [(qf, .inl (κ 0, 7, .inl (fun _ => 0)))]) ++ wSh κ b0 σISh) := hD
  rw [← eab0]
  refine va_astq hx hb hE.1 hP hD hS 32 1 34 2 (r := (RX2, TX2, 3)) rfl rfl rfl rfl (show vp_in (0 : Int32) 4 by unfold vp_in; decide) dX4_init_94 (fun H locs hP hD hS => ?_)
  have hP : va_P D classes (((((((([(h0, .inr (4, [.ref (a0 0), .ref (a1 0), .ref (a2 0), .ref (a3 0), .ref (a4 0), .ref qs, .ref qf, .int 0]))] ++ wCo κ a0 σICo) ++ wCo κ a1 σICo) ++ wCo κ a2 σICo) ++ wLy κ a3 σILy) ++ wTp κ a4 σITp) ++ [(qs, .inl (κ 1, 4, .inr (.inr (.inr (.inr (va_up (fun _ => none) 0 (some (b0 0))))))))]) ++ [(qf, .inl (κ 0, 7, .inl (fun _ => 0)))]) ++ wSh κ b0 σISh) H := hP
  have hD : va_D A (((((((([(h0, .inr (4, [.ref (a0 0), .ref (a1 0), .ref (a2 0), .ref (a3 0), .ref (a4 0), .ref qs, .ref qf, .int 0]))] ++ wCo κ a0 σICo) ++ wCo κ a1 σICo) ++ wCo κ a2 σICo) ++ wLy κ a3 σILy) ++ wTp κ a4 σITp) ++ [(qs, .inl (κ 1, 4, .inr (.inr (.inr (.inr (va_up (fun _ => none) 0 (some (b0 0))))))))]) ++ [(qf, .inl (κ 0, 7, .inl (fun _ => 0)))]) ++ wSh κ b0 σISh) := hD
  refine lv_iinc (v := 1) (lv' := [(1, .int 1), (0, .ref h0)]) hx hb dX4_init_95 hl (k := 0) rfl (by decide) (by decide) rfl (fun ls hl => ?_)
  refine lv_goto (tgt := 77) hx hb dX4_init_98 (by decide) ?_
  refine lv_iload_n hx hb dX4_init_77 rfl (lv_at hl 0 rfl) ?_
  refine lv_iconst (v := 4) hx hb dX4_init_78 (by decide) ?_
  refine lv_icmp_ge (tgt := 101) hx hb dX4_init_79 (by decide) (fun c9 => absurd c9 (by decide)) (fun _ => ?_)
  refine lv_aload_n hx hb dX4_init_82 rfl (lv_at hl 1 rfl) ?_
  refine va_get (D := D) (ci := 4) (v := .ref qs) (C := RX4) (T := TX4) (N := 8) hx hb hts iX4 hown hE.1 hP 0 rfl rfl 5 (by decide) (tw_214 hts) (fun _ h9 => h9) rfl dX4_init_83 ?_
  refine lv_iload_n hx hb dX4_init_86 rfl (lv_at hl 0 rfl) ?_
  refine va_new (ci := 2) (fs := [.null, .int 0, .int 0]) (C := RX2) (T := TX2) (N := 3) hx hb hts iX2 tyX2 tyX2_ok hown (tw_189 hts) (tw_191 hts) (tw_74 hts) hE.1 hP hD hS hA rfl (fun j hj => by match j, hj with | 0, _ => rfl | 1, _ => rfl | 2, _ => rfl | j + 3, hj => exact absurd hj (by omega)) (Nat.le_of_ble_eq_true rfl) (Nat.le_of_ble_eq_true rfl) dX4_init_87 (fun z87 H hP hD hS => ?_)
  refine W.widen (k := 36) (n := 2515) (Nat.le_of_ble_eq_true rfl) (Nat.le_of_ble_eq_true rfl) ?_
  refine lv_dup hx hb dX4_init_90 rfl ?_
  refine kWvA (kIN Cc (mX2_init l D κ z87 H.size) ⟨va_cnB 0 hts (good_wz mw_194) rfl rfl rfl hEC.2.2.1 (tw_74 hts) (by decide +kernel) ⟨(Nat.le_of_ble_eq_true rfl), (Nat.le_of_ble_eq_true rfl)⟩, rfl, tw_193 hts⟩ (rest := [.ref z87, .int 1, .ref qs]) ⟨rfl, va_P_r hP⟩ rfl hl.1 rfl (Nat.le_of_ble_eq_true rfl) dX4_init_91 ⟨(Nat.le_of_ble_eq_true rfl), (Nat.le_of_ble_eq_true rfl)⟩) hS (hF_last hD hA hS) (fun b1 H1 locs1 hq hB hk hS1 => ?_)
  obtain ⟨eab1, hIb1, hib1⟩ := hq
  obtain ⟨hP, hD⟩ := join_last hP hD hA hS.1 hk hB wSh_wl hIb1 hib1
  have hS := hS1
  generalize H1 = H at hP hS ⊢
  generalize locs1 = locs at hS ⊢
  refine W.widen (k := 37) (n := 2555) (Nat.le_of_ble_eq_true rfl) (Nat.le_of_ble_eq_true rfl) ?_
  have hP : va_P D classes ((((((((([(h0, .inr (4, [.ref (a0 0), .ref (a1 0), .ref (a2 0), .ref (a3 0), .ref (a4 0), .ref qs, .ref qf, .int 0]))] ++ wCo κ a0 σICo) ++ wCo κ a1 σICo) ++ wCo κ a2 σICo) ++ wLy κ a3 σILy) ++ wTp κ a4 σITp) ++ [(qs, .inl (κ 1, 4, .inr (.inr (.inr (.inr (va_up (fun _ => none) 0 (some (b0 0))))))))]) ++ [(qf, .inl (κ 0, 7, .inl (fun _ => 0)))]) ++ wSh κ b0 σISh) ++ wSh κ b1 σISh) H := hP
  have hD : va_D A ((((((((([(h0, .inr (4, [.ref (a0 0), .ref (a1 0), .ref (a2 0), .ref (a3 0), .ref (a4 0), .ref qs, .ref qf, .int 0]))] ++ wCo κ a0 σICo) ++ wCo κ a1 σICo) ++ wCo κ a2 σICo) ++ wLy κ a3 σILy) ++ wTp κ a4 σITp) ++ [(qs, .inl (κ 1, 4, .inr (.inr (.inr (.inr (va_up (fun _ => none) 0 (some (b0 0))))))))]) ++ [(qf, .inl (κ 0, 7, .inl (fun _ => 0)))]) ++ wSh κ b0 σISh) ++ wSh κ b1 σISh) := hD
  rw [← eab1]
  refine va_astq hx hb hE.1 hP hD hS 32 1 36 2 (r := (RX2, TX2, 3)) rfl rfl rfl rfl (show vp_in (1 : Int32) 4 by unfold vp_in; decide) dX4_init_94 (fun H locs hP hD hS => ?_)
  have hP : va_P D classes ((((((((([(h0, .inr (4, [.ref (a0 0), .ref (a1 0), .ref (a2 0), .ref (a3 0), .ref (a4 0), .ref qs, .ref qf, .int 0]))] ++ wCo κ a0 σICo) ++ wCo κ a1 σICo) ++ wCo κ a2 σICo) ++ wLy κ a3 σILy) ++ wTp κ a4 σITp) ++ [(qs, .inl (κ 1, 4, .inr (.inr (.inr (.inr (va_up (va_up (fun _ => none) 0 (some (b0 0))) 1 (some (b1 0))))))))]) ++ [(qf, .inl (κ 0, 7, .inl (fun _ => 0)))]) ++ wSh κ b0 σISh) ++ wSh κ b1 σISh) H := hP
  have hD : va_D A ((((((((([(h0, .inr (4, [.ref (a0 0), .ref (a1 0), .ref (a2 0), .ref (a3 0), .ref (a4 0), .ref qs, .ref qf, .int 0]))] ++ wCo κ a0 σICo) ++ wCo κ a1 σICo) ++ wCo κ a2 σICo) ++ wLy κ a3 σILy) ++ wTp κ a4 σITp) ++ [(qs, .inl (κ 1, 4, .inr (.inr (.inr (.inr (va_up (va_up (fun _ => none) 0 (some (b0 0))) 1 (some (b1 0))))))))]) ++ [(qf, .inl (κ 0, 7, .inl (fun _ => 0)))]) ++ wSh κ b0 σISh) ++ wSh κ b1 σISh) := hD
  refine lv_iinc (v := 2) (lv' := [(1, .int 2), (0, .ref h0)]) hx hb dX4_init_95 hl (k := 0) rfl (by decide) (by decide) rfl (fun ls hl => ?_)
  refine lv_goto (tgt := 77) hx hb dX4_init_98 (by decide) ?_
  refine lv_iload_n hx hb dX4_init_77 rfl (lv_at hl 0 rfl) ?_
  refine lv_iconst (v := 4) hx hb dX4_init_78 (by decide) ?_
  refine lv_icmp_ge (tgt := 101) hx hb dX4_init_79 (by decide) (fun c9 => absurd c9 (by decide)) (fun _ => ?_)
  refine lv_aload_n hx hb dX4_init_82 rfl (lv_at hl 1 rfl) ?_
  refine va_get (D := D) (ci := 4) (v := .ref qs) (C := RX4) (T := TX4) (N := 8) hx hb hts iX4 hown hE.1 hP 0 rfl rfl 5 (by decide) (tw_214 hts) (fun _ h9 => h9) rfl dX4_init_83 ?_
  refine lv_iload_n hx hb dX4_init_86 rfl (lv_at hl 0 rfl) ?_
  refine va_new (ci := 2) (fs := [.null, .int 0, .int 0]) (C := RX2) (T := TX2) (N := 3) hx hb hts iX2 tyX2 tyX2_ok hown (tw_189 hts) (tw_191 hts) (tw_74 hts) hE.1 hP hD hS hA rfl (fun j hj => by match j, hj with | 0, _ => rfl | 1, _ => rfl | 2, _ => rfl | j + 3, hj => exact absurd hj (by omega)) (Nat.le_of_ble_eq_true rfl) (Nat.le_of_ble_eq_true rfl) dX4_init_87 (fun z87 H hP hD hS => ?_)
  refine W.widen (k := 38) (n := 2558) (Nat.le_of_ble_eq_true rfl) (Nat.le_of_ble_eq_true rfl) ?_
  refine lv_dup hx hb dX4_init_90 rfl ?_
  refine kWvA (kIN Cc (mX2_init l D κ z87 H.size) ⟨va_cnB 0 hts (good_wz mw_194) rfl rfl rfl hEC.2.2.1 (tw_74 hts) (by decide +kernel) ⟨(Nat.le_of_ble_eq_true rfl), (Nat.le_of_ble_eq_true rfl)⟩, rfl, tw_193 hts⟩ (rest := [.ref z87, .int 2, .ref qs]) ⟨rfl, va_P_r hP⟩ rfl hl.1 rfl (Nat.le_of_ble_eq_true rfl) dX4_init_91 ⟨(Nat.le_of_ble_eq_true rfl), (Nat.le_of_ble_eq_true rfl)⟩) hS (hF_last hD hA hS) (fun b2 H1 locs1 hq hB hk hS1 => ?_)
  obtain ⟨eab2, hIb2, hib2⟩ := hq
  obtain ⟨hP, hD⟩ := join_last hP hD hA hS.1 hk hB wSh_wl hIb2 hib2
  have hS := hS1
  generalize H1 = H at hP hS ⊢
  generalize locs1 = locs at hS ⊢
  refine W.widen (k := 39) (n := 2598) (Nat.le_of_ble_eq_true rfl) (Nat.le_of_ble_eq_true rfl) ?_
  have hP : va_P D classes (((((((((([(h0, .inr (4, [.ref (a0 0), .ref (a1 0), .ref (a2 0), .ref (a3 0), .ref (a4 0), .ref qs, .ref qf, .int 0]))] ++ wCo κ a0 σICo) ++ wCo κ a1 σICo) ++ wCo κ a2 σICo) ++ wLy κ a3 σILy) ++ wTp κ a4 σITp) ++ [(qs, .inl (κ 1, 4, .inr (.inr (.inr (.inr (va_up (va_up (fun _ => none) 0 (some (b0 0))) 1 (some (b1 0))))))))]) ++ [(qf, .inl (κ 0, 7, .inl (fun _ => 0)))]) ++ wSh κ b0 σISh) ++ wSh κ b1 σISh) ++ wSh κ b2 σISh) H := hP
  have hD : va_D A (((((((((([(h0, .inr (4, [.ref (a0 0), .ref (a1 0), .ref (a2 0), .ref (a3 0), .ref (a4 0), .ref qs, .ref qf, .int 0]))] ++ wCo κ a0 σICo) ++ wCo κ a1 σICo) ++ wCo κ a2 σICo) ++ wLy κ a3 σILy) ++ wTp κ a4 σITp) ++ [(qs, .inl (κ 1, 4, .inr (.inr (.inr (.inr (va_up (va_up (fun _ => none) 0 (some (b0 0))) 1 (some (b1 0))))))))]) ++ [(qf, .inl (κ 0, 7, .inl (fun _ => 0)))]) ++ wSh κ b0 σISh) ++ wSh κ b1 σISh) ++ wSh κ b2 σISh) := hD
  rw [← eab2]
  refine va_astq hx hb hE.1 hP hD hS 32 1 38 2 (r := (RX2, TX2, 3)) rfl rfl rfl rfl (show vp_in (2 : Int32) 4 by unfold vp_in; decide) dX4_init_94 (fun H locs hP hD hS => ?_)
  have hP : va_P D classes (((((((((([(h0, .inr (4, [.ref (a0 0), .ref (a1 0), .ref (a2 0), .ref (a3 0), .ref (a4 0), .ref qs, .ref qf, .int 0]))] ++ wCo κ a0 σICo) ++ wCo κ a1 σICo) ++ wCo κ a2 σICo) ++ wLy κ a3 σILy) ++ wTp κ a4 σITp) ++ [(qs, .inl (κ 1, 4, .inr (.inr (.inr (.inr (va_up (va_up (va_up (fun _ => none) 0 (some (b0 0))) 1 (some (b1 0))) 2 (some (b2 0))))))))]) ++ [(qf, .inl (κ 0, 7, .inl (fun _ => 0)))]) ++ wSh κ b0 σISh) ++ wSh κ b1 σISh) ++ wSh κ b2 σISh) H := hP
  have hD : va_D A (((((((((([(h0, .inr (4, [.ref (a0 0), .ref (a1 0), .ref (a2 0), .ref (a3 0), .ref (a4 0), .ref qs, .ref qf, .int 0]))] ++ wCo κ a0 σICo) ++ wCo κ a1 σICo) ++ wCo κ a2 σICo) ++ wLy κ a3 σILy) ++ wTp κ a4 σITp) ++ [(qs, .inl (κ 1, 4, .inr (.inr (.inr (.inr (va_up (va_up (va_up (fun _ => none) 0 (some (b0 0))) 1 (some (b1 0))) 2 (some (b2 0))))))))]) ++ [(qf, .inl (κ 0, 7, .inl (fun _ => 0)))]) ++ wSh κ b0 σISh) ++ wSh κ b1 σISh) ++ wSh κ b2 σISh) := hD
  refine lv_iinc (v := 3) (lv' := [(1, .int 3), (0, .ref h0)]) hx hb dX4_init_95 hl (k := 0) rfl (by decide) (by decide) rfl (fun ls hl => ?_)
  refine lv_goto (tgt := 77) hx hb dX4_init_98 (by decide) ?_
  refine lv_iload_n hx hb dX4_init_77 rfl (lv_at hl 0 rfl) ?_
  refine lv_iconst (v := 4) hx hb dX4_init_78 (by decide) ?_
  refine lv_icmp_ge (tgt := 101) hx hb dX4_init_79 (by decide) (fun c9 => absurd c9 (by decide)) (fun _ => ?_)
  refine lv_aload_n hx hb dX4_init_82 rfl (lv_at hl 1 rfl) ?_
  refine va_get (D := D) (ci := 4) (v := .ref qs) (C := RX4) (T := TX4) (N := 8) hx hb hts iX4 hown hE.1 hP 0 rfl rfl 5 (by decide) (tw_214 hts) (fun _ h9 => h9) rfl dX4_init_83 ?_
  refine lv_iload_n hx hb dX4_init_86 rfl (lv_at hl 0 rfl) ?_
  refine va_new (ci := 2) (fs := [.null, .int 0, .int 0]) (C := RX2) (T := TX2) (N := 3) hx hb hts iX2 tyX2 tyX2_ok hown (tw_189 hts) (tw_191 hts) (tw_74 hts) hE.1 hP hD hS hA rfl (fun j hj => by match j, hj with | 0, _ => rfl | 1, _ => rfl | 2, _ => rfl | j + 3, hj => exact absurd hj (by omega)) (Nat.le_of_ble_eq_true rfl) (Nat.le_of_ble_eq_true rfl) dX4_init_87 (fun z87 H hP hD hS => ?_)
  refine W.widen (k := 40) (n := 2601) (Nat.le_of_ble_eq_true rfl) (Nat.le_of_ble_eq_true rfl) ?_
  refine lv_dup hx hb dX4_init_90 rfl ?_
  refine kWvA (kIN Cc (mX2_init l D κ z87 H.size) ⟨va_cnB 0 hts (good_wz mw_194) rfl rfl rfl hEC.2.2.1 (tw_74 hts) (by decide +kernel) ⟨(Nat.le_of_ble_eq_true rfl), (Nat.le_of_ble_eq_true rfl)⟩, rfl, tw_193 hts⟩ (rest := [.ref z87, .int 3, .ref qs]) ⟨rfl, va_P_r hP⟩ rfl hl.1 rfl (Nat.le_of_ble_eq_true rfl) dX4_init_91 ⟨(Nat.le_of_ble_eq_true rfl), (Nat.le_of_ble_eq_true rfl)⟩) hS (hF_last hD hA hS) (fun b3 H1 locs1 hq hB hk hS1 => ?_)
  obtain ⟨eab3, hIb3, hib3⟩ := hq
  obtain ⟨hP, hD⟩ := join_last hP hD hA hS.1 hk hB wSh_wl hIb3 hib3
  have hS := hS1
  generalize H1 = H at hP hS ⊢
  generalize locs1 = locs at hS ⊢
  refine W.widen (k := 41) (n := 2641) (Nat.le_of_ble_eq_true rfl) (Nat.le_of_ble_eq_true rfl) ?_
  have hP : va_P D classes ((((((((((([(h0, .inr (4, [.ref (a0 0), .ref (a1 0), .ref (a2 0), .ref (a3 0), .ref (a4 0), .ref qs, .ref qf, .int 0]))] ++ wCo κ a0 σICo) ++ wCo κ a1 σICo) ++ wCo κ a2 σICo) ++ wLy κ a3 σILy) ++ wTp κ a4 σITp) ++ [(qs, .inl (κ 1, 4, .inr (.inr (.inr (.inr (va_up (va_up (va_up (fun _ => none) 0 (some (b0 0))) 1 (some (b1 0))) 2 (some (b2 0))))))))]) ++ [(qf, .inl (κ 0, 7, .inl (fun _ => 0)))]) ++ wSh κ b0 σISh) ++ wSh κ b1 σISh) ++ wSh κ b2 σISh) ++ wSh κ b3 σISh) H := hP
  have hD : va_D A ((((((((((([(h0, .inr (4, [.ref (a0 0), .ref (a1 0), .ref (a2 0), .ref (a3 0), .ref (a4 0), .ref qs, .ref qf, .int 0]))] ++ wCo κ a0 σICo) ++ wCo κ a1 σICo) ++ wCo κ a2 σICo) ++ wLy κ a3 σILy) ++ wTp κ a4 σITp) ++ [(qs, .inl (κ 1, 4, .inr (.inr (.inr (.inr (va_up (va_up (va_up (fun _ => none) 0 (some (b0 0))) 1 (some (b1 0))) 2 (some (b2 0))))))))]) ++ [(qf, .inl (κ 0, 7, .inl (fun _ => 0)))]) ++ wSh κ b0 σISh) ++ wSh κ b1 σISh) ++ wSh κ b2 σISh) ++ wSh κ b3 σISh) := hD
  rw [← eab3]
  refine va_astq hx hb hE.1 hP hD hS 32 1 40 2 (r := (RX2, TX2, 3)) rfl rfl rfl rfl (show vp_in (3 : Int32) 4 by unfold vp_in; decide) dX4_init_94 (fun H locs hP hD hS => ?_)
  have hP : va_P D classes ((((((((((([(h0, .inr (4, [.ref (a0 0), .ref (a1 0), .ref (a2 0), .ref (a3 0), .ref (a4 0), .ref qs, .ref qf, .int 0]))] ++ wCo κ a0 σICo) ++ wCo κ a1 σICo) ++ wCo κ a2 σICo) ++ wLy κ a3 σILy) ++ wTp κ a4 σITp) ++ [(qs, .inl (κ 1, 4, .inr (.inr (.inr (.inr (va_up (va_up (va_up (va_up (fun _ => none) 0 (some (b0 0))) 1 (some (b1 0))) 2 (some (b2 0))) 3 (some (b3 0))))))))]) ++ [(qf, .inl (κ 0, 7, .inl (fun _ => 0)))]) ++ wSh κ b0 σISh) ++ wSh κ b1 σISh) ++ wSh κ b2 σISh) ++ wSh κ b3 σISh) H := hP
  have hD : va_D A ((((((((((([(h0, .inr (4, [.ref (a0 0), .ref (a1 0), .ref (a2 0), .ref (a3 0), .ref (a4 0), .ref qs, .ref qf, .int 0]))] ++ wCo κ a0 σICo) ++ wCo κ a1 σICo) ++ wCo κ a2 σICo) ++ wLy κ a3 σILy) ++ wTp κ a4 σITp) ++ [(qs, .inl (κ 1, 4, .inr (.inr (.inr (.inr (va_up (va_up (va_up (va_up (fun _ => none) 0 (some (b0 0))) 1 (some (b1 0))) 2 (some (b2 0))) 3 (some (b3 0))))))))]) ++ [(qf, .inl (κ 0, 7, .inl (fun _ => 0)))]) ++ wSh κ b0 σISh) ++ wSh κ b1 σISh) ++ wSh κ b2 σISh) ++ wSh κ b3 σISh) := hD
  refine lv_iinc (v := 4) (lv' := [(1, .int 4), (0, .ref h0)]) hx hb dX4_init_95 hl (k := 0) rfl (by decide) (by decide) rfl (fun ls hl => ?_)
  refine lv_goto (tgt := 77) hx hb dX4_init_98 (by decide) ?_
  refine lv_iload_n hx hb dX4_init_77 rfl (lv_at hl 0 rfl) ?_
  refine lv_iconst (v := 4) hx hb dX4_init_78 (by decide) ?_
  refine lv_icmp_ge (tgt := 101) hx hb dX4_init_79 (by decide) (fun _ => ?_) (fun c9 => absurd (by decide) c9)
  exact W.vret hx hb hr (fun t ht _ => QWv.mk (u := fA a0 a1 a2 a3 a4 h0 qs qf b0 b1 b2 b3) (fA_ok hAe hD) (fA_P hP) hS ht) hS.2.2 dX4_init_101 (hlocks := hlk)
