/-! worlds that never grow: a chunk of cells by its addresses and a table of numbers (field, place) -/
abbrev Mx : Type := Nat → Nat → Int32
def st (σ : Mx) (f i : Nat) (x : Int32) : Mx := fun g j => if g = f ∧ j = i then x else σ g j
theorem st_row (σ : Mx) (f i : Nat) (x : Int32) : st σ f i x f = upd (σ f) i x := by
  funext j
  simp [st, upd]
theorem st_ne (σ : Mx) {f g : Nat} (i : Nat) (x : Int32) (h : g ≠ f) : st σ f i x g = σ g := by
  funext j
  simp [st, h]
abbrev tyl (κ : Nat → ClassId) : List (ClassId × FieldType) := [(κ 0, .int), (κ 1, .object "CountyJigsaw$Sheet"), (κ 2, .object "java/lang/String")]
/-- what the tables say beside the words -/
def EK (D : va_G) (κ : Nat → ClassId) (U : State) : Prop := va_K D classes (tyl κ) U ∧ va_Nw (.methodLinkNest RX1 70 yX4_isOrUnder RX4) U
theorem EK.warm {D : va_G} {κ : Nat → ClassId} {s U : State} (hW : s.WarmedH U.vm) (h : EK D κ s) : EK D κ U := ⟨va_K.moved hW.alike h.1, va_Nw.warmM hW h.2⟩
theorem EK.same {D : va_G} {κ : Nat → ClassId} {s U : State} (hv : s.vm = U.vm) (h : EK D κ s) : EK D κ U := ⟨va_K.moved (hv ▸ Vm.Alike.refl s.vm) h.1, va_Nw.same rfl hv h.2⟩
/-- addresses of a chunk -/
def cA (a : Nat → Nat) (n : Nat) : Nat → Prop := fun q => ∃ i, i < n ∧ q = a i
def Ij (a : Nat → Nat) (n : Nat) : Prop := ∀ i j, i < n → j < n → a i = a j → i = j
/-- a list of cells at the addresses of a chunk -/
def wl (a : Nat → Nat) (n : Nat) (ws : va_W) : Prop := ∀ (i : Nat) (q : Nat × va_E), ws[i]? = some q → i < n ∧ q.1 = a i
theorem wl.D {a : Nat → Nat} {n : Nat} {ws : va_W} (h : wl a n ws) (hI : Ij a n) : va_D (cA a n) ws :=
  ⟨fun i j p q hp hq e => hI i j (h i p hp).1 (h j q hq).1 (by rw [← (h i p hp).2, ← (h j q hq).2]; exact e), fun k q hk => ⟨k, (h k q hk).1, (h k q hk).2⟩⟩
/-- what holds in a walk all the time -/
def Cx (D : va_G) (κ : Nat → ClassId) (own : String) (cc : ByteArray) (nL : Nat) (rt : Option FieldType) (p : Program) (s : State) (m : MethodId) (args : Array Value) (meth : Method) (c : Code) : Prop :=
  p.tables.exec = Jvm.exec ∧ c.code = cc ∧ c.maxLocals = nL ∧ s.vm.findClass own = some m.cls ∧ (∀ w ∈ gG, w.before args s = true) ∧ meth.sig.returnType = rt ∧ meth.locks = false ∧ EK D κ s
/-- a method that writes nothing -/
def RQ (Q : Int32 → Prop) : Array Value → State → Outcome → State → Prop := fun _ st o t => ∃ v : Int32, o = .returned (some (.int v)) ∧ Q v ∧ t.heap = st.heap
def RQl (Q : Int64 → Prop) : Array Value → State → Outcome → State → Prop := fun _ st o t => ∃ v : Int64, o = .returned (some (.long v)) ∧ Q v ∧ t.heap = st.heap
abbrev PE (D : va_G) (κ : Nat → ClassId) (PH : Heap → Prop) : State → Prop := fun U => EK D κ U ∧ PH U.heap
theorem PE.blind {D : va_G} {κ : Nat → ClassId} {PH : Heap → Prop} {av : List Value} : FrameBlind (va_Pc av (PE D κ PH)) := fun a U g mk q => ⟨q.1, EK.same (s := U) (U := U.calling g mk a) rfl q.2.1, q.2.2⟩
theorem Met_of (l : Launch) {y : MethodName} {b : ByteArray} {n : Nat} {r : Option FieldType} {rm : Room} {D : va_G} {κ : Nat → ClassId} {av : List Value} {PH : Heap → Prop} {Qc : Array Value → State → Outcome → State → Prop} {free : Addr → Prop} {own : String}
    (hy : plainName y.cls = true) (hyc : y.cls = own) (hsl : (lg_sl av).length ≤ n)
    (body : ∀ (p : Program) (e : Env) (s : State) (m : MethodId) (below : List Frame) (meth : Method) (c : Code), Cx D κ own b n r p s m av.toArray meth c → PH s.heap → ∀ ls : Array Slot, lv_has ls n (lv_args 0 av) → W p l e rm s m av.toArray below meth c s.heap [] 0 0 (MQ below Qc av.toArray s 0 0 free) (F0 m 0 ls [])) : Met l y (wz y b n r) rm (va_Pc av (PE D κ PH)) Qc 0 0 free := by
  refine Met.ofW (cc := b) (maxL := n) (ret := r) hy rfl ?_
  intro p e s m args below meth c s₁ B hml hv
  obtain ⟨rfl, hE, hP⟩ := hv
  have hts := atoms_spec (ws := wz y b n r) B.pre
  have hown : s.vm.findClass own = some m.cls := hyc ▸ findClass_of_methodNamed B.named
  rw [lg_entry_eq]
  exact body p e s m below meth c ⟨B.exec, B.bytes, hml, hown, fun w h => hts w (List.mem_cons_of_mem _ h), B.returns, B.notSynchronized, hE⟩ hP _ (lv_entry av (n := n) hsl)
section GR
variable {p : Program} {l : Launch} {e : Env} {R : Room} {s : State} {m : MethodId} {args : Array Value} {below : List Frame} {meth : Method} {c : Code} {H : Heap} {locs : List Loc} {cells slots : Nat} {Q : State → Prop} {pc : Nat} {ls : Array Slot} {rest st0 : List Value} {cc : ByteArray} {D : va_G} {κ : Nat → ClassId}
variable {own C : String} {y : MethodName} {bytes : ByteArray} {maxL nL n index : Nat} {ret : Option FieldType} {rm : Room} {As : List Value} {b : Nat} {PH : Heap → Prop} {ret' : Option FieldType}
theorem kw (n : Nat) (hts : ∀ w ∈ gG, w.before args s = true) (hc : Cond.code y bytes maxL ret ∈ gG) (h1 : rm.cells = 0) (h2 : rm.slots = 0) (hini : (Cond.initialized y.cls).before args s = true) (hl : (Cond.methodLink own index y).before args s = true)
    (hd : y.cls ≠ "java/lang/invoke/MethodHandle" ∧ y.cls ≠ "java/lang/invoke/VarHandle" ∧ (parseMethodDescriptor y.desc).map (fun d => d.parameters.length) = some n) (hR : rm.frames + 1 ≤ R.frames ∧ 8 + (maxL + 11) + rm.locals ≤ R.locals) :
    CallB R s args own index y bytes maxL ret (wz y bytes maxL ret) rm 0 0 n := callB_of n hts (good_wz hc) rfl h1 h2 hini hl hd hR
/-- a call that writes nothing -/
theorem kR {Qr : Int32 → Prop} {a : Array Value} (hr : va_Run p l e R s m args below meth c H locs cells slots 0 0 (F0 m pc ls st0) rest (RQ Qr a) (fun _ => False))
    (kk : ∀ v : Int32, Qr v → W p l e R s m args below meth c H locs cells slots Q (F0 m (pc + 3) ls (.int v :: rest))) : W p l e R s m args below meth c H locs cells slots Q (F0 m pc ls st0) := by
  intro T hT X
  obtain ⟨v, st₀, t, T', L, h0, X', hL, e1, -, ⟨z, hv, hq, hh⟩, st⟩ := hr T hT X
  cases hv
  obtain ⟨t2, a1, b1⟩ := kk z hq T' (by rw [e1, hh, h0]) (Stand.forget X' (fun q h => (hL q h).elim))
  exact ⟨t2, st t2 a1, b1⟩
theorem kRl {Qr : Int64 → Prop} {a : Array Value} (hr : va_Run p l e R s m args below meth c H locs cells slots 0 0 (F0 m pc ls st0) rest (RQl Qr a) (fun _ => False))
    (kk : ∀ v : Int64, Qr v → W p l e R s m args below meth c H locs cells slots Q (F0 m (pc + 3) ls (.long v :: rest))) : W p l e R s m args below meth c H locs cells slots Q (F0 m pc ls st0) := by
  intro T hT X
  obtain ⟨v, st₀, t, T', L, h0, X', hL, e1, -, ⟨z, hv, hq, hh⟩, st⟩ := hr T hT X
  cases hv
  obtain ⟨t2, a1, b1⟩ := kk z hq T' (by rw [e1, hh, h0]) (Stand.forget X' (fun q h => (hL q h).elim))
  exact ⟨t2, st t2 a1, b1⟩
/-- the run of a call: of an object's method, of a class's, of a nest mate's -/
theorem kV {Qc : Array Value → State → Outcome → State → Prop} {free : Addr → Prop} (Cc : Cx D κ own cc nL ret' p s m args meth c) (hM : Met l y (wz y bytes maxL ret) rm (va_Pc (.ref b :: As) (PE D κ PH)) Qc 0 0 free) (cw : CallW R s args own C index y bytes maxL ret (wz y bytes maxL ret) rm 0 0 n)
    (hrv : ∃ cell : Cell, H[b]? = some cell ∧ cell.vm.isStatics = false ∧ s.vm.findClass C = some cell.cls) (hPH : PH H) (hn : As.length = n) (hsz : ls.size = nL) (hst : st0 = As.reverse ++ .ref b :: rest) (hw : (rest.map fun v => v.category).sum ≤ 8) (hdg : decode cc pc = .ok (.invokevirtual index, 3)) (hc : cells ≤ R.cells ∧ slots ≤ R.slots) :
    va_Run p l e R s m args below meth c H locs cells slots 0 0 (F0 m pc ls st0) rest (Qc (Value.ref b :: As).toArray) free :=
  va_runV (Ts := gG) (C := C) ⟨Cc.1, Cc.2.1, Cc.2.2.1, Cc.2.2.2.1, Cc.2.2.2.2.1⟩ hM cw ⟨PE.blind, hrv, fun U hU hW => ⟨rfl, EK.warm hW Cc.2.2.2.2.2.2.2, by rw [hU]; exact hPH⟩⟩ rfl hn hsz hst (lv_room hw) hdg hc
theorem kS {Qc : Array Value → State → Outcome → State → Prop} {free : Addr → Prop} (Cc : Cx D κ own cc nL ret' p s m args meth c) (hM : Met l y (wz y bytes maxL ret) rm (va_Pc As (PE D κ PH)) Qc 0 0 free) (cw : CallB R s args own index y bytes maxL ret (wz y bytes maxL ret) rm 0 0 n ∧ (Cond.static y).before args s = true)
    (hPH : PH H) (hn : As.length = n) (hsz : ls.size = nL) (hst : st0 = As.reverse ++ rest) (hw : (rest.map fun v => v.category).sum ≤ 8) (hdg : decode cc pc = .ok (.invokestatic index, 3)) (hc : cells ≤ R.cells ∧ slots ≤ R.slots) :
    va_Run p l e R s m args below meth c H locs cells slots 0 0 (F0 m pc ls st0) rest (Qc As.toArray) free :=
  va_runS (Ts := gG) ⟨Cc.1, Cc.2.1, Cc.2.2.1, Cc.2.2.2.1, Cc.2.2.2.2.1⟩ hM cw ⟨PE.blind, fun U hU hW => ⟨rfl, EK.warm hW Cc.2.2.2.2.2.2.2, by rw [hU]; exact hPH⟩⟩ rfl hn hsz hst (lv_room hw) hdg hc
theorem kN {host : String} {Qc : Array Value → State → Outcome → State → Prop} {free : Addr → Prop} (Cc : Cx D κ own cc nL ret' p s m args meth c) (hM : Met l y (wz y bytes maxL ret) rm (va_Pc As (PE D κ PH)) Qc 0 0 free) (cw : va_CN R s args own index y host bytes maxL ret (wz y bytes maxL ret) rm 0 0 n ∧ (Cond.static y).before args s = true ∧ True)
    (hPH : PH H) (hn : As.length = n) (hsz : ls.size = nL) (hst : st0 = As.reverse ++ rest) (hw : (rest.map fun v => v.category).sum ≤ 8) (hdg : decode cc pc = .ok (.invokestatic index, 3)) (hc : cells ≤ R.cells ∧ slots ≤ R.slots) :
    va_Run p l e R s m args below meth c H locs cells slots 0 0 (F0 m pc ls st0) rest (Qc As.toArray) free :=
  va_runSN (Ts := gG) ⟨Cc.1, Cc.2.1, Cc.2.2.1, Cc.2.2.2.1, Cc.2.2.2.2.1⟩ hM cw ⟨PE.blind, fun U hU hW => ⟨rfl, EK.warm hW Cc.2.2.2.2.2.2.2, by rw [hU]; exact hPH⟩⟩ rfl hn hsz hst (lv_room hw) hdg hc
end GR
section GS
variable {p : Program} {l : Launch} {e : Env} {R : Room} {s : State} {m : MethodId} {args : Array Value} {below : List Frame} {meth : Method} {c : Code} {H : Heap} {locs : List Loc} {cells slots : Nat} {Q : State → Prop} {pc : Nat} {ls : Array Slot} {rest : List Value} {cc : ByteArray} {D : va_G} {cl : List vw_C} {tys : List (ClassId × FieldType)} {ws : va_W} {A A0 : Nat → Prop} {H0 : Heap} {a : Nat}
/-- a store into a row: the world, the frame, and what it leaves -/
theorem xa_iast (hexec : p.tables.exec = Jvm.exec) (hb : c.code = cc) (hK : va_K D cl tys s) (hP : va_P D cl ws H) (hD : va_D A ws) (hS : va_S A0 H0 H locs) (hAa : A0 a) (q0 t0 : Nat) {cY : ClassId} {n : Nat} {f : Nat → Int32} (ha : ws[q0]? = some (a, .inl (cY, n, .inl f))) (ht : tys[t0]? = some (cY, .int)) {i x : Int32} (hin : vp_in i n) (hdg : decode cc pc = .ok (.iastore, 1))
    (kk : ∀ (H1 : Heap) (locs1 : List Loc), va_P D cl (ws.set q0 (a, .inl (cY, n, .inl (upd f i.toNatClampNeg x)))) H1 → va_S A0 H0 H1 locs1 → (∀ q : Nat, q ≠ a → H1[q]? = H[q]?) → W p l e R s m args below meth c H1 locs1 cells slots Q (F0 m (pc + 1) ls rest)) : W p l e R s m args below meth c H locs cells slots Q (F0 m pc ls (.int x :: .int i :: .ref a :: rest)) := by
  refine W.iast hexec hb (hP q0 _ ha) ((hK.2 t0 _ ht).1 n (fun j => .int (f j))) (fun q => by cases q) (by show ¬ (i < 0 ∨ (arrV _ _ _).slots.size ≤ _); rw [arrV_size]; exact hin) rfl rfl hdg fun H1 e1 z oq => ?_
  refine kk H1 _ (hP.set hD ha ?_ oq) (hS.put z oq hAa) oq
  show H1[a]? = some (vp_cell _ _)
  rw [e1, vp_cell_i, vp_cell_i, arrV_store]
  refine congrArg (fun z => some (arrV cY n z)) ?_
  funext q
  by_cases hq : q = i.toNatClampNeg
  · subst hq
    simp [updV, upd]
  · simp [updV, upd, hq]
/-- a store into a field that is not final -/
theorem xa_put (hexec : p.tables.exec = Jvm.exec) (hb : c.code = cc) {own ref C : String} {T : u_T} {N ci index : Nat} {Ts : List Cond} (hts : ∀ w ∈ Ts, w.before args s = true) (hin : ∀ w ∈ u_ws C T N, w ∈ Ts) (ty0 : Nat → FieldType) (hty : ∀ k, k < N → parseFieldDescriptor (T k).2.2.1 = some (ty0 k)) (hnm : ∀ a, a < N → ∀ b, b < N → a ≠ b → (T a).2.1 ≠ (T b).2.1) (hown : s.vm.findClass own = some m.cls) (hK : va_K D cl tys s) (hP : va_P D cl ws H) (hD : va_D A ws) (hS0 : va_S A0 H0 H locs) (hAa : A0 a) (q0 : Nat) {fs : List Value} (he : ws[q0]? = some (a, .inr (ci, fs))) (hc : cl[ci]? = some (C, T, N)) (k : Nat) (hk : k < N) (hlink : (Cond.fieldLink own index ref (T k).2.1 (T k).2.2.1).before args s = true) (hsame : ∀ x, s.fieldFound? (T k).1 (T k).2.1 (T k).2.2.1 = some x → s.fieldFound? ref (T k).2.1 (T k).2.2.1 = some x) (hfin : (T k).2.2.2 = false) {ty : FieldType} {v : Value} (hd : parseFieldDescriptor (T k).2.2.1 = some ty) (hn : narrow ty v = v) (hfit : fits ty v = true) (hl : k < fs.length)
    (hdg : decode cc pc = .ok (.putfield index, 3)) (kk : ∀ (H1 : Heap) (locs1 : List Loc), va_P D cl (ws.set q0 (a, .inr (ci, fs.set k v))) H1 → va_S A0 H0 H1 locs1 → (∀ q : Nat, q ≠ a → H1[q]? = H[q]?) → W p l e R s m args below meth c H1 locs1 cells slots Q (F0 m (pc + 3) ls rest)) : W p l e R s m args below meth c H locs cells slots Q (F0 m pc ls (v :: .ref a :: rest)) := by
  have hap := va_apart (own := own) hts hin ty0 hty hnm hK hc
  obtain ⟨r, h1, cell, q1, q2, q3, q4⟩ := hP q0 _ he
  have hr : r = (C, T, N) := Option.some.inj (h1.symm.trans hc)
  subst hr
  obtain ⟨hS, hfc, kC, hkC, hkind⟩ := hK.1 ci _ hc
  obtain ⟨cf, kf, fi, f, hi, hsl⟩ := hS k hk
  have hlay := hts _ (hin _ (u_in_lay hk))
  unfold u_lay at hlay
  rw [if_neg (by rw [hfin]; decide)] at hlay
  have hst := (u_facts hfc hkC (u_lays hts hin hk) hi).1
  have h6 := u_store hfc hkC hkind hlay hi hd hn hfit
  refine W.putK hexec hb (f := f) ⟨hown, hlink, ⟨_, _, _, hsame _ hi⟩, hst⟩ (by rw [q2]; exact h6) q1 q3 (by rw [hsl]; exact k2_hasslot (q4 k hk)) rfl rfl hdg fun H' e1 e2 e3 => ?_
  rw [hsl] at e1 ⊢
  exact kk H' _ (hP.set hD he ⟨_, hc, t_OB.to (V := updV (vp_V fs) k v) ⟨_, e1, q2, q3, t_set q4 hap hk v⟩ (fun j _ => vp_updV_set hl v j)⟩ e3) (hS0.put e2 e3 hAa) e3
end GS
def QWi {S : Type} (Q : Int32 → S → Prop) (B : S → Heap → Prop) (F : Nat → Prop) : Array Value → State → Outcome → State → Prop := va_Qi Q (fun u t => B u t.heap) F
def QWl {S : Type} (Q : Int64 → S → Prop) (B : S → Heap → Prop) (F : Nat → Prop) : Array Value → State → Outcome → State → Prop := va_Ql Q (fun u t => B u t.heap) F
def QWv {S : Type} (Q : S → Prop) (B : S → Heap → Prop) (F : Nat → Prop) : Array Value → State → Outcome → State → Prop := va_Qv Q (fun u t => B u t.heap) F
section GW
variable {p : Program} {l : Launch} {e : Env} {R : Room} {s : State} {m : MethodId} {args : Array Value} {below : List Frame} {meth : Method} {c : Code} {H : Heap} {locs : List Loc} {cells slots : Nat} {Q : State → Prop} {pc : Nat} {ls : Array Slot} {rest st0 : List Value} {a : Array Value} {A0 F : Nat → Prop} {H0 : Heap} {S : Type} {B : S → Heap → Prop}
theorem RQ.mk {Qr : Int32 → Prop} {v : Int32} {t : State} (h : Qr v) (ht : t.heap = s.heap) : RQ Qr args s (.returned (some (.int v))) t := ⟨v, rfl, h, ht⟩
theorem RQl.mk {Qr : Int64 → Prop} {v : Int64} {t : State} (h : Qr v) (ht : t.heap = s.heap) : RQl Qr args s (.returned (some (.long v))) t := ⟨v, rfl, h, ht⟩
theorem QWi.mk {Qp : Int32 → S → Prop} {v : Int32} {u : S} {t : State} (h : Qp v u) (hB : B u H) (hS : va_S F s.heap H locs) (ht : t.heap = H) : QWi Qp B F args s (.returned (some (.int v))) t := by subst ht; exact ⟨⟨v, u, rfl, h, hB⟩, hS.F rfl⟩
theorem QWl.mk {Qp : Int64 → S → Prop} {v : Int64} {u : S} {t : State} (h : Qp v u) (hB : B u H) (hS : va_S F s.heap H locs) (ht : t.heap = H) : QWl Qp B F args s (.returned (some (.long v))) t := by subst ht; exact ⟨⟨v, u, rfl, h, hB⟩, hS.F rfl⟩
theorem QWv.mk {Qp : S → Prop} {u : S} {t : State} (h : Qp u) (hB : B u H) (hS : va_S F s.heap H locs) (ht : t.heap = H) : QWv Qp B F args s (.returned none) t := by subst ht; exact ⟨⟨u, rfl, h, hB⟩, hS.F rfl⟩
/-- a call that writes at F alone -/
theorem kWi {Qp : Int32 → S → Prop} (hr : va_Run p l e R s m args below meth c H locs cells slots 0 0 (F0 m pc ls st0) rest (QWi Qp B F a) F) (hS : va_S A0 H0 H locs) (hF : ∀ q, F q → A0 q)
    (kk : ∀ (r : Int32) (u : S) (H1 : Heap) (locs1 : List Loc), Qp r u → B u H1 → (∀ q : Nat, q < H.size → ¬ F q → H1[q]? = H[q]?) → va_S A0 H0 H1 locs1 → W p l e R s m args below meth c H1 locs1 cells slots Q (F0 m (pc + 3) ls (.int r :: rest))) : W p l e R s m args below meth c H locs cells slots Q (F0 m pc ls st0) :=
  va_calli hr hS (fun q _ h => hF q h) hF (fun r u t H1 locs1 ht _ hq hB _ hk hS1 => by subst ht; exact kk r u _ locs1 hq hB hk hS1)
theorem kWv {Qp : S → Prop} (hr : va_Run p l e R s m args below meth c H locs cells slots 0 0 (F0 m pc ls st0) rest (QWv Qp B F a) F) (hS : va_S A0 H0 H locs) (hF : ∀ q, F q → A0 q)
    (kk : ∀ (u : S) (H1 : Heap) (locs1 : List Loc), Qp u → B u H1 → (∀ q : Nat, q < H.size → ¬ F q → H1[q]? = H[q]?) → va_S A0 H0 H1 locs1 → W p l e R s m args below meth c H1 locs1 cells slots Q (F0 m (pc + 3) ls rest)) : W p l e R s m args below meth c H locs cells slots Q (F0 m pc ls st0) :=
  va_callv hr hS (fun q _ h => hF q h) hF (fun u t H1 locs1 ht _ hq hB _ hk hS1 => by subst ht; exact kk u _ locs1 hq hB hk hS1)
theorem kWl {Qp : Int64 → S → Prop} (hr : va_Run p l e R s m args below meth c H locs cells slots 0 0 (F0 m pc ls st0) rest (QWl Qp B F a) F) (hS : va_S A0 H0 H locs) (hF : ∀ q, F q → A0 q)
    (kk : ∀ (r : Int64) (u : S) (H1 : Heap) (locs1 : List Loc), Qp r u → B u H1 → (∀ q : Nat, q < H.size → ¬ F q → H1[q]? = H[q]?) → va_S A0 H0 H1 locs1 → W p l e R s m args below meth c H1 locs1 cells slots Q (F0 m (pc + 3) ls (.long r :: rest))) : W p l e R s m args below meth c H locs cells slots Q (F0 m pc ls st0) :=
  va_calll hr hS (fun q _ h => hF q h) hF (fun r u t H1 locs1 ht _ hq hB _ hk hS1 => by subst ht; exact kk r u _ locs1 hq hB hk hS1)
end GW
theorem ne_toInt {x k : Int32} {z : Int} (h : ¬ x = k) (hz : k.toInt = z) : x.toInt ≠ z := fun e => h (Int32.toInt_inj.mp (e.trans hz.symm))
theorem bool_nar {v : Int32} (h : v = 0 ∨ v = 1) : narrow .boolean (.int v) = .int v := by rcases h with rfl | rfl <;> rfl
theorem bool_fit {v : Int32} (h : v = 0 ∨ v = 1) : narrow .boolean (.int v) = .int v ∧ fits .boolean (.int v) = true := by rcases h with rfl | rfl <;> exact ⟨rfl, rfl⟩
/-- cells that a write leaves -/
def Dj (a : Nat → Nat) (n : Nat) (b : Nat → Nat) (k : Nat) : Prop := ∀ i j, i < n → j < k → a i ≠ b j
theorem kpF {D : va_G} {cl : List vw_C} {a b : Nat → Nat} {n k : Nat} {ws : va_W} {H H1 : Heap} (hw : wl b k ws) (h : va_P D cl ws H) (hd : Dj a n b k) (hk : ∀ q : Nat, q < H.size → ¬ cA a n q → H1[q]? = H[q]?) : va_P D cl ws H1 :=
  h.kept fun i q hq => hk q.1 (h i q hq).lt (fun ⟨j, hj, e⟩ => hd j i hj (hw i q hq).1 (by rw [← e]; exact (hw i q hq).2))
theorem kp1 {D : va_G} {cl : List vw_C} {a b : Nat → Nat} {n k i0 : Nat} {ws : va_W} {H H1 : Heap} (hw : wl b k ws) (h : va_P D cl ws H) (hd : Dj a n b k) (hi : i0 < n) (hk : ∀ q : Nat, q ≠ a i0 → H1[q]? = H[q]?) : va_P D cl ws H1 :=
  h.kept fun i q hq => hk q.1 (fun e => hd i0 i hi (hw i q hq).1 (by rw [← e]; exact (hw i q hq).2))
theorem vin_lt {i : Int32} {n : Nat} (h : vp_in i n) : i.toNatClampNeg < n := Nat.not_le.mp fun q => h (Or.inr q)
theorem Dj.symm {a b : Nat → Nat} {n k : Nat} (h : Dj a n b k) : Dj b k a n := fun i j hi hj e => h j i hj hi e.symm
section GC
variable {p : Program} {l : Launch} {e : Env} {R : Room} {s : State} {m : MethodId} {args : Array Value} {below : List Frame} {meth : Method} {c : Code} {H : Heap} {locs : List Loc} {cells slots : Nat} {Q : State → Prop} {pc : Nat} {ls : Array Slot} {rest : List Value} {cc : ByteArray} {D : va_G} {κ : Nat → ClassId} {own : String} {idx nL : Nat} {rt : Option FieldType} {a a0 : Nat}
theorem nn_i {z : Int32} (hz : ¬ z < 0) : z.toInt = (z.toNatClampNeg : Int) := by
  have hz0 : (0 : Int) ≤ z.toInt := by
    have h1 := Int32.not_lt.mp hz
    simpa using Int32.le_iff_toInt_le.mp h1
  show z.toInt = ((z.toInt.toNat : Nat) : Int)
  omega
/-- System.arraycopy between two rows of ints (or within one): what it writes, and that it writes nothing else -/
theorem xa_copyi (Cc : Cx D κ own cc nL rt p s m args meth c) (hsz : ls.size = nL) (hlink : (Cond.methodLink own idx arraycopyName).before args s = true) (hnat : (Cond.native arraycopyName).before args s = true) (hstat : (Cond.static arraycopyName).before args s = true) (hini : (Cond.initialized "java/lang/System").before args s = true)
    {n0 n1 : Nat} {f g : Nat → Int32} (hc0 : H[a0]? = some (vp_cell (κ 0) (n0, .inl f))) (hc1 : H[a]? = some (vp_cell (κ 0) (n1, .inl g)))
    {sp dp n : Int32} (h1 : ¬ sp < 0) (h2 : ¬ dp < 0) (h3 : ¬ n < 0) (h4 : sp.toNatClampNeg + n.toNatClampNeg ≤ n0) (h5 : dp.toNatClampNeg + n.toNatClampNeg ≤ n1)
    (hframes : 1 ≤ R.frames) (hlocals : (rest.map fun v => v.category).sum + (nativeFrameWords "java/lang/System" "arraycopy" 5 + 11) ≤ R.locals) (hdg : decode cc pc = .ok (.invokestatic idx, 3))
    (kk : ∀ (H1 : Heap) (locs1 : List Loc), H1[a]? = some (vp_cell (κ 0) (n1, .inl (va_cpy f g sp.toNatClampNeg dp.toNatClampNeg n.toNatClampNeg))) → (∀ q : Nat, q ≠ a → H1[q]? = H[q]?) → (∀ (A0 : Nat → Prop) (H0 : Heap), A0 a → va_S A0 H0 H locs → va_S A0 H0 H1 locs1) → W p l e R s m args below meth c H1 locs1 cells slots Q (F0 m (pc + 3) ls rest)) : W p l e R s m args below meth c H locs cells slots Q (F0 m pc ls (.int n :: .int dp :: .ref a :: .int sp :: .ref a0 :: rest)) := by
  obtain ⟨hexec, hb, hml, hown, hts, hr, hlk, hE⟩ := Cc
  have hty : (tyl κ)[0]? = some (κ 0, .int) := rfl
  intro T hT X
  obtain ⟨-, k0, hk0, cm0, hkk0⟩ := (hE.1.2 0 _ hty).1 n0 (fun j => .int (f j))
  obtain ⟨-, k1, hk1, cm1, hkk1⟩ := (hE.1.2 0 _ hty).1 n1 (fun j => .int (g j))
  obtain ⟨vm', X', step⟩ := X.arraycopy hexec hown hlink hnat hstat hini (src := a0) (dst := a) (cs := vp_cell (κ 0) (n0, .inl f)) (cd := vp_cell (κ 0) (n1, .inl g)) (srcPos := sp) (destPos := dp) (n := n) (by rw [hT]; exact hc0) (by rw [hT]; exact hc1)
    (fun _ h => by cases h) (fun _ h => by cases h) (fun h => by cases h) (fun h => by cases h) hk0 hk1 hkk0 hkk1 (by simp [refKind]) h1 h2 h3
    (by rw [nn_i h1, nn_i h3]; show ¬ _ > ((arrV (κ 0) n0 (fun j => .int (f j))).slots.size : Int); rw [arrV_size]; omega)
    (by rw [nn_i h2, nn_i h3]; show ¬ _ > ((arrV (κ 0) n1 (fun j => .int (g j))).slots.size : Int); rw [arrV_size]; omega)
    (fun vm₁ _ i hi => by
      have e9 : (vp_cell (κ 0) (n0, .inl f)).slots.getD (sp.toNatClampNeg + i) .null = .int (f (sp.toNatClampNeg + i)) := by
        show (arrV (κ 0) n0 (fun j => .int (f j))).slots.getD _ _ = _
        rw [Array.getD_eq_getD_getElem?, arrV_read _ _ (by omega)]
        rfl
      refine ⟨?_, ?_⟩
      · rw [e9]
        rfl
      · rw [e9]
        exact trivial)
    (g := F0 m pc ls (.int n :: .int dp :: .ref a :: .int sp :: .ref a0 :: rest)) rfl (by rw [hml, ← hsz]) (rest := rest) rfl (by rw [hb]; exact hdg) hframes (by show 2 * 0 + _ + _ ≤ _; omega)
  have e1 : copied (vp_cell (κ 0) (n0, .inl f)) (vp_cell (κ 0) (n1, .inl g)) sp dp n = vp_cell (κ 0) (n1, .inl (va_cpy f g sp.toNatClampNeg dp.toNatClampNeg n.toNatClampNeg)) := va_copied (fun z => .int z) (κ 0) (κ 0) f g h4
  rw [e1] at X' step
  have hlt : a < H.size := (Array.getElem?_eq_some_iff.mp hc1).1
  generalize hV : vp_cell (κ 0) (n1, .inl (va_cpy f g sp.toNatClampNeg dp.toNatClampNeg n.toNatClampNeg)) = V at X' step kk
  have hheap : ((T.setVm vm').setCell a V).heap = H.setIfInBounds a V := by rw [← hT]; rfl
  have oq : ∀ q : Nat, q ≠ a → (H.setIfInBounds a V)[q]? = H[q]? := fun q hq => by simp [Array.getElem?_setIfInBounds, Ne.symm hq]
  obtain ⟨t, a1, b1⟩ := kk _ _ (show (H.setIfInBounds a V)[a]? = some V by simp [Array.getElem?_setIfInBounds, hlt]) oq (fun A0 H0 hA hS => ⟨by simp; exact hS.1, fun q g1 g2 => by
      rw [oq q (fun e9 => g2 (by rw [e9]; exact hA))]
      exact hS.2.1 q g1 g2, fun q hq => by
      rcases List.mem_append.mp hq with h | h
      · exact hS.2.2 q h
      · obtain ⟨z, -, hz⟩ := List.mem_map.mp h
        rw [← hz]
        exact hA⟩) _ hheap X'
  exact ⟨t, step t a1, b1⟩
end GC
theorem cell_cong {cI : ClassId} {n : Nat} {f g : Nat → Int32} (h : ∀ j, j < n → f j = g j) : vp_cell cI (n, .inl f) = vp_cell cI (n, .inl g) := by
  rw [vp_cell_i, vp_cell_i]
  unfold arrV
  congr 1
  apply Array.ext
  · simp
  · intro i h1 h2
    simp at h1 ⊢
    exact h i h1
