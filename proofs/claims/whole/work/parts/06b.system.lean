def wSf (κ : Nat → ClassId) (A : Nat → Nat → Nat) (σ : Mx) : va_W := [(A 5 0, .inr (4, [.ref (A 0 0), .ref (A 1 0), .ref (A 2 0), .ref (A 3 0), .ref (A 4 0), .ref (A 5 1), .ref (A 5 2), .int (σ 1 0)])), (A 5 1, .inl (κ 1, 4, .inr (.inr (.inr (.inr (fun j => some (A (j + 6) 0))))))), (A 5 2, .inl (κ 0, 7, .inl (σ 0)))]
theorem wSf_wl {κ : Nat → ClassId} {A : Nat → Nat → Nat} {σ : Mx} : wl (A 5) 3 (wSf κ A σ)
  | 0, q, h => by cases h; exact ⟨by decide, rfl⟩
  | 1, q, h => by cases h; exact ⟨by decide, rfl⟩
  | 2, q, h => by cases h; exact ⟨by decide, rfl⟩
  | k + 3, q, h => by simp [wSf] at h
/-- the chunks: 0 county, 1 kept, 2 trial, 3 laying, 4 tape, 5 itself, 6 to 9 sheets -/
def nc (k : Nat) : Nat := match k with
  | 0 => 8
  | 1 => 8
  | 2 => 8
  | 3 => 5
  | 4 => 2
  | 5 => 3
  | _ => 2
def cw (κ : Nat → ClassId) (A : Nat → Nat → Nat) (k : Nat) (σ : Mx) : va_W := match k with
  | 0 => wCo κ (A 0) σ
  | 1 => wCo κ (A 1) σ
  | 2 => wCo κ (A 2) σ
  | 3 => wLy κ (A 3) σ
  | 4 => wTp κ (A 4) σ
  | 5 => wSf κ A σ
  | k + 6 => wSh κ (A (k + 6)) σ
theorem cw_wl {κ : Nat → ClassId} {A : Nat → Nat → Nat} {σ : Mx} : ∀ k, wl (A k) (nc k) (cw κ A k σ)
  | 0 => wCo_wl
  | 1 => wCo_wl
  | 2 => wCo_wl
  | 3 => wLy_wl
  | 4 => wTp_wl
  | 5 => wSf_wl
  | _ + 6 => wSh_wl
def PX (D : va_G) (κ : Nat → ClassId) (A : Nat → Nat → Nat) (S : Nat → Mx) (H : Heap) : Prop := ∀ k, k < 10 → va_P D classes (cw κ A k (S k)) H
def IX (A : Nat → Nat → Nat) : Prop := ∀ k k' i i', k < 10 → k' < 10 → i < nc k → i' < nc k' → A k i = A k' i' → k = k' ∧ i = i'
def aX (A : Nat → Nat → Nat) : Nat → Prop := fun q => ∃ k i, k < 10 ∧ i < nc k ∧ q = A k i
theorem aX_of {A : Nat → Nat → Nat} {k q : Nat} (hk : k < 10) (h : cA (A k) (nc k) q) : aX A q := by
  obtain ⟨i, hi, e⟩ := h
  exact ⟨k, i, hk, hi, e⟩
theorem IX.ij {A : Nat → Nat → Nat} (h : IX A) {k : Nat} (hk : k < 10) : Ij (A k) (nc k) := fun i j hi hj e => (h k k i j hk hk hi hj e).2
theorem IX.dj {A : Nat → Nat → Nat} (h : IX A) {k k' : Nat} (hk : k < 10) (hk' : k' < 10) (hn : k ≠ k') : Dj (A k) (nc k) (A k') (nc k') := fun i j hi hj e => hn (h k k' i j hk hk' hi hj e).1
section PXS
variable {D : va_G} {κ : Nat → ClassId} {A : Nat → Nat → Nat} {S : Nat → Mx} {H H1 : Heap}
theorem PX.c0 (h : PX D κ A S H) : va_P D classes (wCo κ (A 0) (S 0)) H := h 0 (by decide)
theorem PX.c1 (h : PX D κ A S H) : va_P D classes (wCo κ (A 1) (S 1)) H := h 1 (by decide)
theorem PX.c2 (h : PX D κ A S H) : va_P D classes (wCo κ (A 2) (S 2)) H := h 2 (by decide)
theorem PX.c3 (h : PX D κ A S H) : va_P D classes (wLy κ (A 3) (S 3)) H := h 3 (by decide)
theorem PX.c4 (h : PX D κ A S H) : va_P D classes (wTp κ (A 4) (S 4)) H := h 4 (by decide)
theorem PX.c5 (h : PX D κ A S H) : va_P D classes (wSf κ A (S 5)) H := h 5 (by decide)
theorem PX.cs (h : PX D κ A S H) {j : Nat} (hj : j < 4) : va_P D classes (wSh κ (A (j + 6)) (S (j + 6))) H := h (j + 6) (Nat.add_lt_add_right hj 6)
theorem PX.put {k : Nat} {u : Mx} (hk : k < 10) (hI : IX A) (hP : PX D κ A S H) (hB : va_P D classes (cw κ A k u) H1) (hf : ∀ q : Nat, q < H.size → ¬ cA (A k) (nc k) q → H1[q]? = H[q]?) : PX D κ A (va_up S k u) H1 := by
  intro k' hk'
  by_cases e : k' = k
  · subst e
    rw [va_up_self]
    exact hB
  · rw [va_up_ne S u e]
    exact kpF (cw_wl k') (hP k' hk') (hI.dj hk hk' (fun z => e z.symm)) hf
theorem PX.put2 {k k2 : Nat} {u u2 : Mx} (hk : k < 10) (hk2 : k2 < 10) (hn : k ≠ k2) (hI : IX A) (hP : PX D κ A S H) (hB : va_P D classes (cw κ A k u) H1) (hB2 : va_P D classes (cw κ A k2 u2) H1) (hf : ∀ q : Nat, q < H.size → ¬ (cA (A k) (nc k) q ∨ cA (A k2) (nc k2) q) → H1[q]? = H[q]?) : PX D κ A (va_up (va_up S k u) k2 u2) H1 := by
  intro k' hk'
  by_cases e2 : k' = k2
  · subst e2
    rw [va_up_self]
    exact hB2
  · rw [va_up_ne _ u2 e2]
    by_cases e : k' = k
    · subst e
      rw [va_up_self]
      exact hB
    · rw [va_up_ne S u e]
      exact (hP k' hk').kept fun i q hq => hf q.1 (hP k' hk' i q hq).lt (fun z => by
        have hw := cw_wl k' i q hq
        rcases z with ⟨j, hj, e9⟩ | ⟨j, hj, e9⟩
        · exact e (hI k' k i j hk' hk hw.1 hj (by rw [← e9]; exact hw.2.symm)).1
        · exact e2 (hI k' k2 i j hk' hk2 hw.1 hj (by rw [← e9]; exact hw.2.symm)).1)
end PXS
section GSf
variable {p : Program} {l : Launch} {e : Env} {R : Room} {s : State} {m : MethodId} {args : Array Value} {below : List Frame} {meth : Method} {c : Code} {H : Heap} {locs : List Loc} {cells slots : Nat} {Q : State → Prop} {pc : Nat} {ls : Array Slot} {rest : List Value} {cc : ByteArray} {D : va_G} {κ : Nat → ClassId} {own : String} {idx nL : Nat} {rt : Option FieldType} {a : Nat → Nat} {σ : Mx} {A0 : Nat → Prop} {H0 : Heap} {A : Nat → Nat → Nat}
theorem gSf_0 (Cc : Cx D κ own cc nL rt p s m args meth c) (hP : va_P D classes (wSf κ A σ) H) (hl : (Cond.fieldLink own idx "CountyJigsaw" "county" "LCountyJigsaw$County;").before args s = true) (hdg : decode cc pc = .ok (.getfield idx, 3)) (kk : W p l e R s m args below meth c H locs cells slots Q (F0 m (pc + 3) ls (.ref (A 0 0) :: rest))) : W p l e R s m args below meth c H locs cells slots Q (F0 m pc ls (.ref (A 5 0) :: rest)) :=
  va_get (D := D) (ci := 4) (v := .ref (A 0 0)) (C := RX4) (T := TX4) (N := 8) Cc.1 Cc.2.1 Cc.2.2.2.2.1 iX4 Cc.2.2.2.1 Cc.2.2.2.2.2.2.2.1 hP 0 rfl rfl 0 (by decide) hl (fun _ h9 => h9) rfl hdg kk
theorem gSf_1 (Cc : Cx D κ own cc nL rt p s m args meth c) (hP : va_P D classes (wSf κ A σ) H) (hl : (Cond.fieldLink own idx "CountyJigsaw" "kept" "LCountyJigsaw$County;").before args s = true) (hdg : decode cc pc = .ok (.getfield idx, 3)) (kk : W p l e R s m args below meth c H locs cells slots Q (F0 m (pc + 3) ls (.ref (A 1 0) :: rest))) : W p l e R s m args below meth c H locs cells slots Q (F0 m pc ls (.ref (A 5 0) :: rest)) :=
  va_get (D := D) (ci := 4) (v := .ref (A 1 0)) (C := RX4) (T := TX4) (N := 8) Cc.1 Cc.2.1 Cc.2.2.2.2.1 iX4 Cc.2.2.2.1 Cc.2.2.2.2.2.2.2.1 hP 0 rfl rfl 1 (by decide) hl (fun _ h9 => h9) rfl hdg kk
theorem gSf_2 (Cc : Cx D κ own cc nL rt p s m args meth c) (hP : va_P D classes (wSf κ A σ) H) (hl : (Cond.fieldLink own idx "CountyJigsaw" "trial" "LCountyJigsaw$County;").before args s = true) (hdg : decode cc pc = .ok (.getfield idx, 3)) (kk : W p l e R s m args below meth c H locs cells slots Q (F0 m (pc + 3) ls (.ref (A 2 0) :: rest))) : W p l e R s m args below meth c H locs cells slots Q (F0 m pc ls (.ref (A 5 0) :: rest)) :=
  va_get (D := D) (ci := 4) (v := .ref (A 2 0)) (C := RX4) (T := TX4) (N := 8) Cc.1 Cc.2.1 Cc.2.2.2.2.1 iX4 Cc.2.2.2.1 Cc.2.2.2.2.2.2.2.1 hP 0 rfl rfl 2 (by decide) hl (fun _ h9 => h9) rfl hdg kk
theorem gSf_3 (Cc : Cx D κ own cc nL rt p s m args meth c) (hP : va_P D classes (wSf κ A σ) H) (hl : (Cond.fieldLink own idx "CountyJigsaw" "laying" "LCountyJigsaw$BestLaying;").before args s = true) (hdg : decode cc pc = .ok (.getfield idx, 3)) (kk : W p l e R s m args below meth c H locs cells slots Q (F0 m (pc + 3) ls (.ref (A 3 0) :: rest))) : W p l e R s m args below meth c H locs cells slots Q (F0 m pc ls (.ref (A 5 0) :: rest)) :=
  va_get (D := D) (ci := 4) (v := .ref (A 3 0)) (C := RX4) (T := TX4) (N := 8) Cc.1 Cc.2.1 Cc.2.2.2.2.1 iX4 Cc.2.2.2.1 Cc.2.2.2.2.2.2.2.1 hP 0 rfl rfl 3 (by decide) hl (fun _ h9 => h9) rfl hdg kk
theorem gSf_4 (Cc : Cx D κ own cc nL rt p s m args meth c) (hP : va_P D classes (wSf κ A σ) H) (hl : (Cond.fieldLink own idx "CountyJigsaw" "tape" "LCountyJigsaw$Tape;").before args s = true) (hdg : decode cc pc = .ok (.getfield idx, 3)) (kk : W p l e R s m args below meth c H locs cells slots Q (F0 m (pc + 3) ls (.ref (A 4 0) :: rest))) : W p l e R s m args below meth c H locs cells slots Q (F0 m pc ls (.ref (A 5 0) :: rest)) :=
  va_get (D := D) (ci := 4) (v := .ref (A 4 0)) (C := RX4) (T := TX4) (N := 8) Cc.1 Cc.2.1 Cc.2.2.2.2.1 iX4 Cc.2.2.2.1 Cc.2.2.2.2.2.2.2.1 hP 0 rfl rfl 4 (by decide) hl (fun _ h9 => h9) rfl hdg kk
theorem gSf_5 (Cc : Cx D κ own cc nL rt p s m args meth c) (hP : va_P D classes (wSf κ A σ) H) (hl : (Cond.fieldLink own idx "CountyJigsaw" "sheets" "[LCountyJigsaw$Sheet;").before args s = true) (hdg : decode cc pc = .ok (.getfield idx, 3)) (kk : W p l e R s m args below meth c H locs cells slots Q (F0 m (pc + 3) ls (.ref (A 5 1) :: rest))) : W p l e R s m args below meth c H locs cells slots Q (F0 m pc ls (.ref (A 5 0) :: rest)) :=
  va_get (D := D) (ci := 4) (v := .ref (A 5 1)) (C := RX4) (T := TX4) (N := 8) Cc.1 Cc.2.1 Cc.2.2.2.2.1 iX4 Cc.2.2.2.1 Cc.2.2.2.2.2.2.2.1 hP 0 rfl rfl 5 (by decide) hl (fun _ h9 => h9) rfl hdg kk
theorem gSf_6 (Cc : Cx D κ own cc nL rt p s m args meth c) (hP : va_P D classes (wSf κ A σ) H) (hl : (Cond.fieldLink own idx "CountyJigsaw" "findings" "[I").before args s = true) (hdg : decode cc pc = .ok (.getfield idx, 3)) (kk : W p l e R s m args below meth c H locs cells slots Q (F0 m (pc + 3) ls (.ref (A 5 2) :: rest))) : W p l e R s m args below meth c H locs cells slots Q (F0 m pc ls (.ref (A 5 0) :: rest)) :=
  va_get (D := D) (ci := 4) (v := .ref (A 5 2)) (C := RX4) (T := TX4) (N := 8) Cc.1 Cc.2.1 Cc.2.2.2.2.1 iX4 Cc.2.2.2.1 Cc.2.2.2.2.2.2.2.1 hP 0 rfl rfl 6 (by decide) hl (fun _ h9 => h9) rfl hdg kk
theorem gSf_7 (Cc : Cx D κ own cc nL rt p s m args meth c) (hP : va_P D classes (wSf κ A σ) H) (hl : (Cond.fieldLink own idx "CountyJigsaw" "isKept" "Z").before args s = true) (hdg : decode cc pc = .ok (.getfield idx, 3)) (kk : W p l e R s m args below meth c H locs cells slots Q (F0 m (pc + 3) ls (.int (σ 1 0) :: rest))) : W p l e R s m args below meth c H locs cells slots Q (F0 m pc ls (.ref (A 5 0) :: rest)) :=
  va_get (D := D) (ci := 4) (v := .int (σ 1 0)) (C := RX4) (T := TX4) (N := 8) Cc.1 Cc.2.1 Cc.2.2.2.2.1 iX4 Cc.2.2.2.1 Cc.2.2.2.2.2.2.2.1 hP 0 rfl rfl 7 (by decide) hl (fun _ h9 => h9) rfl hdg kk
theorem lSf_s (Cc : Cx D κ own cc nL rt p s m args meth c) (hP : va_P D classes (wSf κ A σ) H) {i : Int32} (hin : vp_in i 4) (hdg : decode cc pc = .ok (.aaload, 1)) (kk : W p l e R s m args below meth c H locs cells slots Q (F0 m (pc + 1) ls (.ref (A (i.toNatClampNeg + 6) 0) :: rest))) : W p l e R s m args below meth c H locs cells slots Q (F0 m pc ls (.int i :: .ref (A 5 1) :: rest)) :=
  va_aldq Cc.1 Cc.2.1 Cc.2.2.2.2.2.2.2.1 hP 1 1 rfl rfl hin hdg kk
theorem lSf_0 (Cc : Cx D κ own cc nL rt p s m args meth c) (hP : va_P D classes (wSf κ A σ) H) {i : Int32} (hin : vp_in i 7) (hdg : decode cc pc = .ok (.iaload, 1)) (kk : W p l e R s m args below meth c H locs cells slots Q (F0 m (pc + 1) ls (.int (σ 0 i.toNatClampNeg) :: rest))) : W p l e R s m args below meth c H locs cells slots Q (F0 m pc ls (.int i :: .ref (A 5 2) :: rest)) :=
  va_iald Cc.1 Cc.2.1 Cc.2.2.2.2.2.2.2.1 hP 2 0 rfl rfl hin hdg kk
theorem wSf_s0 {κ : Nat → ClassId} {A : Nat → Nat → Nat} {σ : Mx} {i : Nat} {x : Int32} : (wSf κ A σ).set 2 (A 5 2, .inl (κ 0, 7, .inl (upd (σ 0) i x))) = wSf κ A (st σ 0 i x) := by simp [wSf, st_row, st_ne]
theorem sSf_0 (Cc : Cx D κ own cc nL rt p s m args meth c) (hP : va_P D classes (wSf κ A σ) H) (hI : Ij (A 5) (nc 5)) (hS : va_S A0 H0 H locs) (hAa : A0 (A 5 2)) {i x : Int32} (hin : vp_in i 7) (hdg : decode cc pc = .ok (.iastore, 1)) (kk : ∀ (H1 : Heap) (locs1 : List Loc), va_P D classes (wSf κ A (st σ 0 i.toNatClampNeg x)) H1 → va_S A0 H0 H1 locs1 → (∀ q : Nat, q ≠ A 5 2 → H1[q]? = H[q]?) → W p l e R s m args below meth c H1 locs1 cells slots Q (F0 m (pc + 1) ls rest)) : W p l e R s m args below meth c H locs cells slots Q (F0 m pc ls (.int x :: .int i :: .ref (A 5 2) :: rest)) :=
  xa_iast Cc.1 Cc.2.1 Cc.2.2.2.2.2.2.2.1 hP (wSf_wl.D hI) hS hAa 2 0 rfl rfl hin hdg (fun H1 locs1 h1 h2 h3 => kk H1 locs1 (by rw [← wSf_s0]; exact h1) h2 h3)
theorem wSf_p7 {κ : Nat → ClassId} {A : Nat → Nat → Nat} {σ : Mx} {x : Int32} : (wSf κ A σ).set 0 (A 5 0, .inr (4, [.ref (A 0 0), .ref (A 1 0), .ref (A 2 0), .ref (A 3 0), .ref (A 4 0), .ref (A 5 1), .ref (A 5 2), .int (σ 1 0)].set 7 (.int x))) = wSf κ A (st σ 1 0 x) := by simp [wSf, st_row, st_ne, upd]
theorem uSf_7 (Cc : Cx D κ own cc nL rt p s m args meth c) (hP : va_P D classes (wSf κ A σ) H) (hI : Ij (A 5) (nc 5)) (hS : va_S A0 H0 H locs) (hAa : A0 (A 5 0)) (hl : (Cond.fieldLink own idx "CountyJigsaw" "isKept" "Z").before args s = true) {x : Int32} (hz : narrow .boolean (.int x) = .int x ∧ fits .boolean (.int x) = true) (hdg : decode cc pc = .ok (.putfield idx, 3)) (kk : ∀ (H1 : Heap) (locs1 : List Loc), va_P D classes (wSf κ A (st σ 1 0 x)) H1 → va_S A0 H0 H1 locs1 → (∀ q : Nat, q ≠ A 5 0 → H1[q]? = H[q]?) → W p l e R s m args below meth c H1 locs1 cells slots Q (F0 m (pc + 3) ls rest)) : W p l e R s m args below meth c H locs cells slots Q (F0 m pc ls (.int x :: .ref (A 5 0) :: rest)) :=
  xa_put (D := D) (ci := 4) (v := .int x) (ty := .boolean) (C := RX4) (T := TX4) (N := 8) Cc.1 Cc.2.1 Cc.2.2.2.2.1 iX4 tyX4 tyX4_ok nmX4 Cc.2.2.2.1 Cc.2.2.2.2.2.2.2.1 hP (wSf_wl.D hI) hS hAa 0 rfl rfl 7 (by decide) hl (fun _ h9 => h9) rfl (by decide +kernel) hz.1 hz.2 (Nat.le_of_ble_eq_true rfl) hdg (fun H1 locs1 h1 h2 h3 => kk H1 locs1 (by rw [← wSf_p7]; exact h1) h2 h3)
end GSf
