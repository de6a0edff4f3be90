/-! texts: the words of a TEXT, by their places -/
def lenJ : List Nat := [5, 4, 3, 5, 4, 5, 5, 4, 3, 5, 6]
def bytJ : List (List Int32) := [[112, 105, 101, 99, 101], [102, 97, 114, 109], [115, 107, 121], [99, 108, 111, 117, 100], [104, 97, 110, 100], [103, 114, 97, 115, 115], [109, 97, 110, 111, 114], [115, 119, 97, 112], [108, 97, 121], [119, 97, 110, 116, 115], [116, 117, 114, 110, 101, 100]]
def txtJ : List String := ["piece", "farm", "sky", "cloud", "hand", "grass", "manor", "swap", "lay", "wants", "turned"]
def entT : List Nat := [105, 93, 95, 97, 99, 101, 103, 43, 52, 70, 75]
def entM : List Nat := [30, 32, 34, 36, 38, 40, 42, 295, 297, 281, 286]
def slen (w : Nat) : Nat := lenJ.getD w 0
def sbyt (w k : Nat) : Int32 := (bytJ.getD w []).getD k 0
def SE (ρ ν : Nat → Nat) (N : Nat → Prop) (U : State) (H : Heap) : Prop :=
  vk_S 11 lenJ bytJ ρ ν N U H ∧ va_Z "java/lang/String" "COMPACT_STRINGS" "Z" (.int 1) N U H ∧ va_Zq "jdk/internal/util/Preconditions" "SIOOBE_FORMATTER" "Ljava/util/function/BiFunction;" N U H ∧ (∀ i, i < 11 → vk_R RX3 (entT.getD i 0) (txtJ.getD i "") (ρ i) U) ∧ ∀ i, i < 11 → vk_R RX5 (entM.getD i 0) (txtJ.getD i "") (ρ i) U
theorem SE.warm {ρ ν : Nat → Nat} {N : Nat → Prop} {s U : State} {H : Heap} (hW : s.WarmedH U.vm) (h : SE ρ ν N s H) : SE ρ ν N U H :=
  ⟨vk_S.moved hW.alike h.1, va_Z.moved hW.alike h.2.1, va_Zq.moved hW.alike h.2.2.1, fun i hi => vk_R.warm hW (h.2.2.2.1 i hi), fun i hi => vk_R.warm hW (h.2.2.2.2 i hi)⟩
theorem SE.same {ρ ν : Nat → Nat} {N : Nat → Prop} {s U : State} {H : Heap} (hv : s.vm = U.vm) (h : SE ρ ν N s H) : SE ρ ν N U H :=
  ⟨vk_S.moved (hv ▸ Vm.Alike.refl s.vm) h.1, va_Z.moved (hv ▸ Vm.Alike.refl s.vm) h.2.1, va_Zq.moved (hv ▸ Vm.Alike.refl s.vm) h.2.2.1, fun i hi => vk_R.same hv.symm (h.2.2.2.1 i hi), fun i hi => vk_R.same hv.symm (h.2.2.2.2 i hi)⟩
theorem SE.kept {ρ ν : Nat → Nat} {N : Nat → Prop} {s : State} {H H1 : Heap} (h : SE ρ ν N s H) (hq : ∀ a : Nat, a < H.size → ¬ N a → H1[a]? = H[a]?) : SE ρ ν N s H1 :=
  ⟨h.1.kept hq, h.2.1.kept hq, h.2.2.1.kept hq, h.2.2.2⟩
theorem SE.k1 {ρ ν : Nat → Nat} {N : Nat → Prop} {s : State} {H H1 : Heap} {x : Nat} (h : SE ρ ν N s H) (hx : N x) (hk : ∀ q : Nat, q ≠ x → H1[q]? = H[q]?) : SE ρ ν N s H1 := h.kept (fun a _ hn => hk a (fun e => hn (e ▸ hx)))
theorem SE.kF {ρ ν : Nat → Nat} {N F : Nat → Prop} {s : State} {H H1 : Heap} (h : SE ρ ν N s H) (hF : ∀ q, F q → N q) (hk : ∀ q : Nat, q < H.size → ¬ F q → H1[q]? = H[q]?) : SE ρ ν N s H1 := h.kept (fun a ha hn => hk a ha (fun e => hn (hF a e)))
abbrev PS (D : va_G) (κ : Nat → ClassId) (ρ ν : Nat → Nat) (N : Nat → Prop) (PH : Heap → Prop) : State → Prop := fun U => EK D κ U ∧ SE ρ ν N U U.heap ∧ PH U.heap
theorem PS.blind {D : va_G} {κ : Nat → ClassId} {ρ ν : Nat → Nat} {N : Nat → Prop} {PH : Heap → Prop} {av : List Value} : FrameBlind (va_Pc av (PS D κ ρ ν N PH)) := fun a U g mk q => ⟨q.1, EK.same (s := U) (U := U.calling g mk a) rfl q.2.1, SE.same (s := U) (U := U.calling g mk a) rfl q.2.2.1, q.2.2.2⟩
theorem Met_ofS (l : Launch) {y : MethodName} {b : ByteArray} {n : Nat} {r : Option FieldType} {rm : Room} {D : va_G} {κ : Nat → ClassId} {ρ ν : Nat → Nat} {N : Nat → Prop} {av : List Value} {PH : Heap → Prop} {Qc : Array Value → State → Outcome → State → Prop} {free : Addr → Prop} {own : String}
    (hy : plainName y.cls = true) (hyc : y.cls = own) (hsl : (lg_sl av).length ≤ n)
    (body : ∀ (p : Program) (e : Env) (s : State) (m : MethodId) (below : List Frame) (meth : Method) (c : Code), Cx D κ own b n r p s m av.toArray meth c → SE ρ ν N s s.heap → PH s.heap → ∀ ls : Array Slot, lv_has ls n (lv_args 0 av) → W p l e rm s m av.toArray below meth c s.heap [] 0 0 (MQ below Qc av.toArray s 0 0 free) (F0 m 0 ls [])) : Met l y (wz y b n r) rm (va_Pc av (PS D κ ρ ν N PH)) Qc 0 0 free := by
  refine Met.ofW (cc := b) (maxL := n) (ret := r) hy rfl ?_
  intro p e s m args below meth c s₁ B hml hv
  obtain ⟨rfl, hE, hT, hP⟩ := hv
  have hts := atoms_spec (ws := wz y b n r) B.pre
  have hown : s.vm.findClass own = some m.cls := hyc ▸ findClass_of_methodNamed B.named
  rw [lg_entry_eq]
  exact body p e s m below meth c ⟨B.exec, B.bytes, hml, hown, fun w h => hts w (List.mem_cons_of_mem _ h), B.returns, B.notSynchronized, hE⟩ hT hP _ (lv_entry av (n := n) hsl)
def RQv (Q : Prop) : Array Value → State → Outcome → State → Prop := fun _ st o t => o = .returned none ∧ Q ∧ t.heap = st.heap
def RQs (ρ : Nat → Nat) (Q : Nat → Prop) : Array Value → State → Outcome → State → Prop := fun _ st o t => ∃ w : Nat, o = .returned (some (.ref (ρ w))) ∧ w < 11 ∧ Q w ∧ t.heap = st.heap
section GT
variable {p : Program} {l : Launch} {e : Env} {R : Room} {s : State} {m : MethodId} {args : Array Value} {below : List Frame} {meth : Method} {c : Code} {H : Heap} {locs : List Loc} {cells slots : Nat} {Q : State → Prop} {pc : Nat} {ls : Array Slot} {rest st0 : List Value} {cc : ByteArray} {D : va_G} {κ : Nat → ClassId} {ρ ν : Nat → Nat} {N : Nat → Prop}
variable {own C : String} {y : MethodName} {bytes : ByteArray} {maxL nL n index idx : Nat} {ret ret' rt : Option FieldType} {rm : Room} {As : List Value} {b w : Nat} {PH : Heap → Prop}
theorem RQv.mk {Qr : Prop} {t : State} (h : Qr) (ht : t.heap = s.heap) : RQv Qr args s (.returned none) t := ⟨rfl, h, ht⟩
theorem RQs.mk {Qr : Nat → Prop} {w : Nat} {t : State} (hw : w < 11) (h : Qr w) (ht : t.heap = s.heap) : RQs ρ Qr args s (.returned (some (.ref (ρ w)))) t := ⟨w, rfl, hw, h, ht⟩
theorem kRv {Qr : Prop} {a : Array Value} (hr : va_Run p l e R s m args below meth c H locs cells slots 0 0 (F0 m pc ls st0) rest (RQv Qr a) (fun _ => False))
    (kk : Qr → W p l e R s m args below meth c H locs cells slots Q (F0 m (pc + 3) ls rest)) : W p l e R s m args below meth c H locs cells slots Q (F0 m pc ls st0) := by
  intro T hT X
  obtain ⟨v, st₀, t, T', L, h0, X', hL, e1, -, ⟨hv, hq, hh⟩, st⟩ := hr T hT X
  cases hv
  obtain ⟨t2, a1, b1⟩ := kk hq T' (by rw [e1, hh, h0]) (Stand.forget X' (fun q h => (hL q h).elim))
  exact ⟨t2, st t2 a1, b1⟩
theorem kRs {Qr : Nat → Prop} {a : Array Value} (hr : va_Run p l e R s m args below meth c H locs cells slots 0 0 (F0 m pc ls st0) rest (RQs ρ Qr a) (fun _ => False))
    (kk : ∀ w : Nat, w < 11 → Qr w → W p l e R s m args below meth c H locs cells slots Q (F0 m (pc + 3) ls (.ref (ρ w) :: rest))) : W p l e R s m args below meth c H locs cells slots Q (F0 m pc ls st0) := by
  intro T hT X
  obtain ⟨v, st₀, t, T', L, h0, X', hL, e1, -, ⟨w, hv, hw, hq, hh⟩, st⟩ := hr T hT X
  cases hv
  obtain ⟨t2, a1, b1⟩ := kk w hw hq T' (by rw [e1, hh, h0]) (Stand.forget X' (fun q h => (hL q h).elim))
  exact ⟨t2, st t2 a1, b1⟩
theorem kVS {Qc : Array Value → State → Outcome → State → Prop} {free : Addr → Prop} (Cc : Cx D κ own cc nL ret' p s m args meth c) (hT : SE ρ ν N s H) (hM : Met l y (wz y bytes maxL ret) rm (va_Pc (.ref b :: As) (PS D κ ρ ν N PH)) Qc 0 0 free) (cw : CallW R s args own C index y bytes maxL ret (wz y bytes maxL ret) rm 0 0 n)
    (hrv : ∃ cell : Cell, H[b]? = some cell ∧ cell.vm.isStatics = false ∧ s.vm.findClass C = some cell.cls) (hPH : PH H) (hn : As.length = n) (hsz : ls.size = nL) (hst : st0 = As.reverse ++ .ref b :: rest) (hw : (rest.map fun v => v.category).sum ≤ 8) (hdg : decode cc pc = .ok (.invokevirtual index, 3)) (hc : cells ≤ R.cells ∧ slots ≤ R.slots) :
    va_Run p l e R s m args below meth c H locs cells slots 0 0 (F0 m pc ls st0) rest (Qc (Value.ref b :: As).toArray) free :=
  va_runV (Ts := gG) (C := C) ⟨Cc.1, Cc.2.1, Cc.2.2.1, Cc.2.2.2.1, Cc.2.2.2.2.1⟩ hM cw ⟨PS.blind, hrv, fun U hU hW => ⟨rfl, EK.warm hW Cc.2.2.2.2.2.2.2, by rw [hU]; exact hT.warm hW, by rw [hU]; exact hPH⟩⟩ rfl hn hsz hst (lv_room hw) hdg hc
theorem kSS {Qc : Array Value → State → Outcome → State → Prop} {free : Addr → Prop} (Cc : Cx D κ own cc nL ret' p s m args meth c) (hT : SE ρ ν N s H) (hM : Met l y (wz y bytes maxL ret) rm (va_Pc As (PS D κ ρ ν N PH)) Qc 0 0 free) (cw : CallB R s args own index y bytes maxL ret (wz y bytes maxL ret) rm 0 0 n ∧ (Cond.static y).before args s = true)
    (hPH : PH H) (hn : As.length = n) (hsz : ls.size = nL) (hst : st0 = As.reverse ++ rest) (hw : (rest.map fun v => v.category).sum ≤ 8) (hdg : decode cc pc = .ok (.invokestatic index, 3)) (hc : cells ≤ R.cells ∧ slots ≤ R.slots) :
    va_Run p l e R s m args below meth c H locs cells slots 0 0 (F0 m pc ls st0) rest (Qc As.toArray) free :=
  va_runS (Ts := gG) ⟨Cc.1, Cc.2.1, Cc.2.2.1, Cc.2.2.2.1, Cc.2.2.2.2.1⟩ hM cw ⟨PS.blind, fun U hU hW => ⟨rfl, EK.warm hW Cc.2.2.2.2.2.2.2, by rw [hU]; exact hT.warm hW, by rw [hU]; exact hPH⟩⟩ rfl hn hsz hst (lv_room hw) hdg hc
theorem SE.recv (hT : SE ρ ν N s s.heap) (hw : w < 11) : ∃ cell : Cell, s.heap[ρ w]? = some cell ∧ cell.vm.isStatics = false ∧ s.vm.findClass RJ0 = some cell.cls := vk_recv (locs := []) hT.1 hw va_S.rf
theorem gStr_v (Cc : Cx D κ own cc nL rt p s m args meth c) (hT : SE ρ ν N s s.heap) (hw : w < 11) (hl : (Cond.fieldLink own idx "java/lang/String" "value" "[B").before args s = true) (hdg : decode cc pc = .ok (.getfield idx, 3)) (kk : W p l e R s m args below meth c s.heap [] cells slots Q (F0 m (pc + 3) ls (.ref (ν w) :: rest))) : W p l e R s m args below meth c s.heap [] cells slots Q (F0 m pc ls (.ref (ρ w) :: rest)) :=
  vk_getf Cc.1 Cc.2.1 (hT.1.1 w hw).2.2.1 va_S.rf Cc.2.2.2.1 hl (fun _ h => h) hdg kk
theorem gStr_c (Cc : Cx D κ own cc nL rt p s m args meth c) (hT : SE ρ ν N s s.heap) (hw : w < 11) (hl : (Cond.fieldLink own idx "java/lang/String" "coder" "B").before args s = true) (hdg : decode cc pc = .ok (.getfield idx, 3)) (kk : W p l e R s m args below meth c s.heap [] cells slots Q (F0 m (pc + 3) ls (.int 0 :: rest))) : W p l e R s m args below meth c s.heap [] cells slots Q (F0 m pc ls (.ref (ρ w) :: rest)) :=
  vk_getf Cc.1 Cc.2.1 (hT.1.1 w hw).2.1 va_S.rf Cc.2.2.2.1 hl (fun _ h => h) hdg kk
theorem gsCompact (Cc : Cx D κ own cc nL rt p s m args meth c) (hT : SE ρ ν N s s.heap) (hl : (Cond.fieldLink own idx "java/lang/String" "COMPACT_STRINGS" "Z").before args s = true) (hdg : decode cc pc = .ok (.getstatic idx, 3)) (kk : W p l e R s m args below meth c s.heap [] cells slots Q (F0 m (pc + 3) ls (.int 1 :: rest))) : W p l e R s m args below meth c s.heap [] cells slots Q (F0 m pc ls rest) :=
  va_gets Cc.1 Cc.2.1 hT.2.1 va_S.rf Cc.2.2.2.1 hl (fun _ h => h) hdg kk
theorem bytLen (Cc : Cx D κ own cc nL rt p s m args meth c) (hT : SE ρ ν N s s.heap) (hw : w < 11) (hdg : decode cc pc = .ok (.arraylength, 1)) (kk : W p l e R s m args below meth c s.heap [] cells slots Q (F0 m (pc + 1) ls (.int (nI (slen w)) :: rest))) : W p l e R s m args below meth c s.heap [] cells slots Q (F0 m pc ls (.ref (ν w) :: rest)) :=
  va_tlen Cc.1 Cc.2.1 (hT.1.1 w hw).2.2.2 va_S.rf rfl hdg kk
theorem bytGet (Cc : Cx D κ own cc nL rt p s m args meth c) (hT : SE ρ ν N s s.heap) (hw : w < 11) {i : Int32} (hin : vp_in i (slen w)) (hdg : decode cc pc = .ok (.baload, 1)) (kk : W p l e R s m args below meth c s.heap [] cells slots Q (F0 m (pc + 1) ls (.int (sbyt w i.toNatClampNeg) :: rest))) : W p l e R s m args below meth c s.heap [] cells slots Q (F0 m pc ls (.int i :: .ref (ν w) :: rest)) :=
  va_tb Cc.1 Cc.2.1 (hT.1.1 w hw).2.2.2 va_S.rf hin rfl hdg kk
theorem ldT (Cc : Cx D κ RX3 cc nL rt p s m args meth c) (hT : SE ρ ν N s H) (w : Nat) (hw : w < 11) (hdg : decode cc pc = .ok (.ldc (entT.getD w 0), 2)) (kk : W p l e R s m args below meth c H locs cells slots Q (F0 m (pc + 2) ls (.ref (ρ w) :: rest))) : W p l e R s m args below meth c H locs cells slots Q (F0 m pc ls rest) :=
  va_ldcS Cc.1 Cc.2.1 Cc.2.2.2.1 (hT.2.2.2.1 w hw) hdg kk
theorem ldM (Cc : Cx D κ RX5 cc nL rt p s m args meth c) (hT : SE ρ ν N s H) (w : Nat) (hw : w < 11) (hdg : decode cc pc = .ok (.ldc (entM.getD w 0), 2)) (kk : W p l e R s m args below meth c H locs cells slots Q (F0 m (pc + 2) ls (.ref (ρ w) :: rest))) : W p l e R s m args below meth c H locs cells slots Q (F0 m pc ls rest) :=
  va_ldcS Cc.1 Cc.2.1 Cc.2.2.2.1 (hT.2.2.2.2 w hw) hdg kk
theorem lMo_13 {a : Nat → Nat} {σ : Mx} (Cc : Cx D κ own cc nL rt p s m args meth c) (hP : va_P D classes (wMo κ ρ a σ) H) {i : Int32} (hin : vp_in i 7) (hdg : decode cc pc = .ok (.aaload, 1)) (kk : W p l e R s m args below meth c H locs cells slots Q (F0 m (pc + 1) ls (.ref (ρ i.toNatClampNeg) :: rest))) : W p l e R s m args below meth c H locs cells slots Q (F0 m pc ls (.int i :: .ref (a 7) :: rest)) :=
  va_aldq Cc.1 Cc.2.1 Cc.2.2.2.2.2.2.2.1 hP 7 2 rfl rfl hin hdg kk
theorem nMo_13 {a : Nat → Nat} {σ : Mx} (Cc : Cx D κ own cc nL rt p s m args meth c) (hP : va_P D classes (wMo κ ρ a σ) H) (hdg : decode cc pc = .ok (.arraylength, 1)) (kk : W p l e R s m args below meth c H locs cells slots Q (F0 m (pc + 1) ls (.int 7 :: rest))) : W p l e R s m args below meth c H locs cells slots Q (F0 m pc ls (.ref (a 7) :: rest)) :=
  va_alen Cc.1 Cc.2.1 Cc.2.2.2.2.2.2.2.1 hP 7 2 rfl rfl rfl hdg kk
theorem xldcw {own tx : String} {ix q : Nat} (Cc : Cx D κ own cc nL rt p s m args meth c) (hZ : vk_R own ix tx q s) (hdg : decode cc pc = .ok (.ldc_w ix, 3)) (kk : W p l e R s m args below meth c H locs cells slots Q (F0 m (pc + 3) ls (.ref q :: rest))) : W p l e R s m args below meth c H locs cells slots Q (F0 m pc ls rest) := by
  intro T hTH X
  obtain ⟨t, a1, b1⟩ := kk T hTH X
  refine ⟨t, ?_, b1⟩
  obtain ⟨k, cf, i, a', hk, hcf, hcp, -, hr, hev'⟩ := Cond.stringRef_spec Cc.2.2.2.1 hZ.1
  cases hZ.2.symm.trans hev'
  obtain ⟨k', hk', he⟩ := X.warmed.alike.2.2 _ _ hk
  have hr' : k'.resolved[ix]? = some (some (.string q)) := by
    rcases X.warmed.entry hk hk' ix with h | ⟨h, -⟩
    · rw [h]; exact hr
    · rw [hr] at h; cases h
  have hdg' : decode c.code pc = .ok (.ldc_w ix, 3) := by rw [Cc.2.1]; exact hdg
  have hx := Cc.1
  jvm_step X.here [hx, hdg', ldc_w.wp_string (e := e) (s := T) (f := F0 m pc ls rest) X.here.top hk' (by rw [he]; exact hcf) hcp hr']
  exact a1
theorem ldMw (Cc : Cx D κ RX5 cc nL rt p s m args meth c) (hT : SE ρ ν N s H) (w : Nat) (hw : w < 11) (hdg : decode cc pc = .ok (.ldc_w (entM.getD w 0), 3)) (kk : W p l e R s m args below meth c H locs cells slots Q (F0 m (pc + 3) ls (.ref (ρ w) :: rest))) : W p l e R s m args below meth c H locs cells slots Q (F0 m pc ls rest) :=
  xldcw Cc (hT.2.2.2.2 w hw) hdg kk
end GT
