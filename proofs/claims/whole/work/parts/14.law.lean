def R_law : String := "CountyJigsawLaw"
def lw_P (b : Addr) (xs : List Int32) (args : Array Value) (s : State) : Prop := args = #[.ref b] ∧ s.IntsAt b xs ∧ xs.length ≤ 3072 ∧ (Jvm.Cond.and given_1 narrow_1).before args s = true
def lw_Q (_ : Array Value) (s : State) (o : Outcome) (t : State) : Prop := o = .returned (some (.int 1)) ∧ Framed s o t [] 600000 7302250
def lw_Z (below : List Frame) (a : Array Value) (s : State) : State → Prop := fun t => ∃ o, t.status = .running ∧ Ended t below o ∧ lw_Q a s o t
/-- the law's own end, with 1 on the stack, nothing written that was there before, its room as the claim has it -/
theorem lw_ret {p : Program} {l : Launch} {e : Env} {s : State} {m : MethodId} {below : List Frame} {meth : Method} {c : Code} {b : Nat} (hx : p.tables.exec = Jvm.exec) (hb : c.code = code) (hr : meth.sig.returnType = ret) (hlocks : meth.locks = false) {pc : Nat} {H : Heap} {ls : Array Slot} (hdg : decode code pc = .ok (.ireturn, 1)) : W p l e room_1 s m #[Value.ref b] below meth c H [] 600000 7302250 (lw_Z below #[Value.ref b] s) (F0 m pc ls [.int 1]) := by
  intro T hT X
  obtain ⟨fs, hret, hrun, hended, hW, hframe⟩ := X.leave (v := some (.int 1)) (hlocks := hlocks) (fun h => by rw [hr] at h; cases h)
  have hmeth' : T.vm.method? m = some meth := X.method'
  refine ⟨T.setFrames fs, ?_, .returned (some (.int 1)), hrun, hended, rfl, ⟨_, rfl⟩, hW, hframe⟩
  jvm_step X.here [X.here.top, hx, hb, hdg, hmeth', hr, ret, narrow_b1]
  (try refine ⟨rfl, ?_⟩); (try refine ⟨rfl, ?_⟩)
  first | (intro acts; rw [hret _ acts rfl rfl rfl]) | rw [hret _ _ rfl rfl rfl]
  exact Steps.refl _
/-- what holds at the law's entry: the machine, the code, the tables' words (any of lw_tbl by 'hts w (by decide +kernel)'), the script of L ints xs at the cell b, what the Statement gives of the start (any of its parts by flat_of_before) -/
def lw_At (p : Program) (s : State) (m : MethodId) (meth : Method) (c : Code) (b L : Nat) (xs : Nat → Int32) : Prop :=
  p.tables.exec = Jvm.exec ∧ c.code = code ∧ meth.sig.returnType = ret ∧ c.maxLocals = 4 ∧ s.vm.findClass R_law = some m.cls ∧ (∀ w ∈ lw_tbl, w.before #[Value.ref b] s = true) ∧ va_X b L xs s s.heap ∧ b < s.heap.size ∧ meth.locks = false ∧ (Jvm.Cond.and given_1 narrow_1).before #[Value.ref b] s = true
/-- the law's world: the class's cells, the reference's, the texts; nothing old is written -/
def LW (D : va_G) (κ : Nat → ClassId) (ρ ν : Nat → Nat) (A : Nat → Nat → Nat) (a : Nat → Nat) (S : Nat → Mx) (μ : Mx) (s : State) (H : Heap) (locs : List Loc) : Prop :=
  PX D κ A S H ∧ va_P D classes (wMo κ ρ a μ) H ∧ SE ρ ν (fun q => s.heap.size ≤ q) s H ∧ va_S (fun q : Nat => s.heap.size ≤ q) s.heap H locs
def LC (D : va_G) (κ : Nat → ClassId) (A : Nat → Nat → Nat) (a : Nat → Nat) (b L : Nat) (xs : Nat → Int32) (p : Program) (s : State) (m : MethodId) (meth : Method) (c : Code) : Prop :=
  Cx D κ R_law code 4 ret p s m #[Value.ref b] meth c ∧ va_X b L xs s s.heap ∧ b < s.heap.size ∧ IX A ∧ Ij a 13 ∧ (∀ q, aX A q → s.heap.size ≤ q) ∧ (∀ i, i < 13 → s.heap.size ≤ a i) ∧ (∀ i, i < 13 → ¬ aX A (a i)) ∧ L ≤ 3072
section GL
variable {p : Program} {l : Launch} {e : Env} {R : Room} {s : State} {m : MethodId} {below : List Frame} {meth : Method} {c : Code} {H H1 : Heap} {locs locs1 : List Loc} {cells slots : Nat} {Q : State → Prop} {pc : Nat} {ls : Array Slot} {rest : List Value} {D : va_G} {κ : Nat → ClassId} {ρ ν a : Nat → Nat} {A : Nat → Nat → Nat} {b L i : Nat} {xs : Nat → Int32} {S : Nat → Mx} {μ : Mx}
theorem sldJ (C0 : LC D κ A a b L xs p s m meth c) (hW : LW D κ ρ ν A a S μ s H locs) {J : Int32} (j : Nat) (hJ : J = nI j) (hi : i + j < L) (hdg : decode code pc = .ok (.iaload, 1)) (kk : W p l e R s m #[Value.ref b] below meth c H locs cells slots Q (F0 m (pc + 1) ls (.int (xs (i + j)) :: rest))) : W p l e R s m #[Value.ref b] below meth c H locs cells slots Q (F0 m pc ls (.int (nI i + J) :: .ref b :: rest)) := by
  have hL := C0.2.2.2.2.2.2.2.2
  subst hJ
  rw [nI_add]
  refine va_sld C0.1.1 C0.1.2.1 C0.2.1 C0.2.2.1 (Nat.not_le.mpr C0.2.2.1) hW.2.2.2 (vp_in_nI hi (Nat.lt_of_le_of_lt hL (by decide))) hdg ?_
  rw [nI_clamp (Nat.lt_of_lt_of_le hi (Nat.le_trans hL (by decide)))]
  exact kk
theorem LW.toX {u : Nat → Mx} (C0 : LC D κ A a b L xs p s m meth c) (h : LW D κ ρ ν A a S μ s H locs) (hB : PX D κ A u H1) (hk : ∀ q : Nat, q < H.size → ¬ aX A q → H1[q]? = H[q]?) (hS : va_S (fun q : Nat => s.heap.size ≤ q) s.heap H1 locs1) : LW D κ ρ ν A a u μ s H1 locs1 :=
  ⟨hB, h.2.1.kept (fun i q hq => hk q.1 (h.2.1 i q hq).lt (by rw [(wMo_wl i q hq).2]; exact C0.2.2.2.2.2.2.2.1 i (wMo_wl i q hq).1)), h.2.2.1.kF C0.2.2.2.2.2.1 hk, hS⟩
theorem LW.toM {u : Mx} (C0 : LC D κ A a b L xs p s m meth c) (h : LW D κ ρ ν A a S μ s H locs) (hB : va_P D classes (wMo κ ρ a u) H1) (hk : ∀ q : Nat, q < H.size → ¬ cA a 13 q → H1[q]? = H[q]?) (hS : va_S (fun q : Nat => s.heap.size ≤ q) s.heap H1 locs1) : LW D κ ρ ν A a S u s H1 locs1 :=
  ⟨fun k hk9 => (h.1 k hk9).kept (fun i q hq => hk q.1 (h.1 k hk9 i q hq).lt (fun ⟨j, hj, e9⟩ => C0.2.2.2.2.2.2.2.1 j hj ⟨k, i, hk9, (cw_wl k i q hq).1, by rw [← e9]; exact (cw_wl k i q hq).2⟩)), hB, h.2.2.1.kF (fun q ⟨j, hj, e9⟩ => by rw [e9]; exact C0.2.2.2.2.2.2.1 j hj) hk, hS⟩
end GL
theorem lcmp_self (x : Int64) : lg_cmp x x = 0 := by simp [lg_cmp]
set_option maxHeartbeats 4000000 in
set_option maxRecDepth 100000 in
theorem caseL_0 {p : Program} {l : Launch} {e : Env} {s : State} {m : MethodId} {below : List Frame} {meth : Method} {c : Code} {D : va_G} {κ : Nat → ClassId} {ρ ν a : Nat → Nat} {A : Nat → Nat → Nat} {b L i : Nat} {xs : Nat → Int32} {Q : State → Prop} {S : Nat → Mx} {μ : Mx} {K : (Nat → Mx) → Mx → Prop} (C0 : LC D κ A a b L xs p s m meth c) (hi : i + 6 ≤ L) {H : Heap} {locs : List Loc} (hW : LW D κ ρ ν A a S μ s H locs) (ls : Array Slot) (hl : lv_has ls 4 [(0, .ref b), (1, .ref (A 5 0)), (2, .ref (a 0)), (3, .int (nI i))])
    (h : pX4_list S (xs (i + 1)) (xs (i + 2)) (xs (i + 3)) (fun r0 u0 => pX5_list μ (xs (i + 1)) (xs (i + 2)) (xs (i + 3)) (fun r1 u1 => r0 = r1 ∧ K u0 u1)))
    (kk : ∀ (u : Nat → Mx) (v : Mx) (H : Heap) (locs : List Loc), LW D κ ρ ν A a u v s H locs → ∀ (ls : Array Slot), lv_has ls 4 [(0, .ref b), (1, .ref (A 5 0)), (2, .ref (a 0)), (3, .int (nI i))] → K u v → W p l e room_1 s m #[Value.ref b] below meth c H locs 55 5862 Q (F0 m 1383 ls [])) : W p l e room_1 s m #[Value.ref b] below meth c H locs 55 5862 Q (F0 m 216 ls []) := by
  obtain ⟨hx, hb, hml, hown, hts, hr, hlk, hE⟩ := id C0.1
  refine lv_aload_n hx hb dL_law_216 rfl (lv_at hl 1 rfl) ?_
  refine lv_aload_n hx hb dL_law_217 rfl (lv_at hl 0 rfl) ?_
  refine lv_iload_n hx hb dL_law_218 rfl (lv_at hl 3 rfl) ?_
  refine lv_iconst (v := 1) hx hb dL_law_219 (by decide) ?_
  refine lv_iadd hx hb dL_law_220 ?_
  refine sldJ C0 hW 1 rfl (by omega) dL_law_221 ?_
  refine lv_aload_n hx hb dL_law_222 rfl (lv_at hl 0 rfl) ?_
  refine lv_iload_n hx hb dL_law_223 rfl (lv_at hl 3 rfl) ?_
  refine lv_iconst (v := 2) hx hb dL_law_224 (by decide) ?_
  refine lv_iadd hx hb dL_law_225 ?_
  refine sldJ C0 hW 2 rfl (by omega) dL_law_226 ?_
  refine lv_aload_n hx hb dL_law_227 rfl (lv_at hl 0 rfl) ?_
  refine lv_iload_n hx hb dL_law_228 rfl (lv_at hl 3 rfl) ?_
  refine lv_iconst (v := 3) hx hb dL_law_229 (by decide) ?_
  refine lv_iadd hx hb dL_law_230 ?_
  refine sldJ C0 hW 3 rfl (by omega) dL_law_231 ?_
  refine kWi (kV C0.1 (mX4_list l D κ A C0.2.2.2.1 h) (qX4_list hts (tw_234 hts) ⟨(Nat.le_of_ble_eq_true rfl), (Nat.le_of_ble_eq_true rfl)⟩) (va_recv hE.1 hW.1.c5 (ci := 4) (q0 := 0) rfl rfl) (rest := []) hW.1 rfl hl.1 rfl (Nat.le_of_ble_eq_true rfl) dL_law_232 ⟨(Nat.le_of_ble_eq_true rfl), (Nat.le_of_ble_eq_true rfl)⟩) hW.2.2.2 C0.2.2.2.2.2.1 (fun r0 u0 H1 locs1 h hB hk hS1 => ?_)
  have hW := LW.toX C0 hW hB hk hS1
  refine lv_aload_n hx hb dL_law_235 rfl (lv_at hl 2 rfl) ?_
  refine lv_aload_n hx hb dL_law_236 rfl (lv_at hl 0 rfl) ?_
  refine lv_iload_n hx hb dL_law_237 rfl (lv_at hl 3 rfl) ?_
  refine lv_iconst (v := 1) hx hb dL_law_238 (by decide) ?_
  refine lv_iadd hx hb dL_law_239 ?_
  refine sldJ C0 hW 1 rfl (by omega) dL_law_240 ?_
  refine lv_aload_n hx hb dL_law_241 rfl (lv_at hl 0 rfl) ?_
  refine lv_iload_n hx hb dL_law_242 rfl (lv_at hl 3 rfl) ?_
  refine lv_iconst (v := 2) hx hb dL_law_243 (by decide) ?_
  refine lv_iadd hx hb dL_law_244 ?_
  refine sldJ C0 hW 2 rfl (by omega) dL_law_245 ?_
  refine lv_aload_n hx hb dL_law_246 rfl (lv_at hl 0 rfl) ?_
  refine lv_iload_n hx hb dL_law_247 rfl (lv_at hl 3 rfl) ?_
  refine lv_iconst (v := 3) hx hb dL_law_248 (by decide) ?_
  refine lv_iadd hx hb dL_law_249 ?_
  refine sldJ C0 hW 3 rfl (by omega) dL_law_250 ?_
  refine kWi (kV C0.1 (mX5_list l D κ ρ a C0.2.2.2.2.1 h) (qX5_list hts (tw_825 hts) ⟨(Nat.le_of_ble_eq_true rfl), (Nat.le_of_ble_eq_true rfl)⟩) (va_recv hE.1 hW.2.1 (ci := 5) (q0 := 0) rfl rfl) (rest := [.int r0]) hW.2.1 rfl hl.1 rfl (Nat.le_of_ble_eq_true rfl) dL_law_251 ⟨(Nat.le_of_ble_eq_true rfl), (Nat.le_of_ble_eq_true rfl)⟩) hW.2.2.2 (fun q ⟨j, hj, e9⟩ => by rw [e9]; exact C0.2.2.2.2.2.2.1 j hj) (fun r1 u1 H1 locs1 h hB hk hS1 => ?_)
  have hW := LW.toM C0 hW hB hk hS1
  refine lv_icmp_eq (tgt := 1383) hx hb dL_law_254 (by decide) (fun _ => ?_) (fun c9 => absurd h.1 c9)
  exact kk _ _ _ _ hW ls hl h.2
set_option maxHeartbeats 4000000 in
set_option maxRecDepth 100000 in
theorem caseL_1 {p : Program} {l : Launch} {e : Env} {s : State} {m : MethodId} {below : List Frame} {meth : Method} {c : Code} {D : va_G} {κ : Nat → ClassId} {ρ ν a : Nat → Nat} {A : Nat → Nat → Nat} {b L i : Nat} {xs : Nat → Int32} {Q : State → Prop} {S : Nat → Mx} {μ : Mx} {K : (Nat → Mx) → Mx → Prop} (C0 : LC D κ A a b L xs p s m meth c) (hi : i + 6 ≤ L) {H : Heap} {locs : List Loc} (hW : LW D κ ρ ν A a S μ s H locs) (ls : Array Slot) (hl : lv_has ls 4 [(0, .ref b), (1, .ref (A 5 0)), (2, .ref (a 0)), (3, .int (nI i))])
    (h : pX4_listed S (xs (i + 1)) (fun r0 u0 => pX5_listed μ (xs (i + 1)) (fun r1 u1 => r0 = r1 ∧ K u0 u1)))
    (kk : ∀ (u : Nat → Mx) (v : Mx) (H : Heap) (locs : List Loc), LW D κ ρ ν A a u v s H locs → ∀ (ls : Array Slot), lv_has ls 4 [(0, .ref b), (1, .ref (A 5 0)), (2, .ref (a 0)), (3, .int (nI i))] → K u v → W p l e room_1 s m #[Value.ref b] below meth c H locs 55 5862 Q (F0 m 1383 ls [])) : W p l e room_1 s m #[Value.ref b] below meth c H locs 55 5862 Q (F0 m 259 ls []) := by
  obtain ⟨hx, hb, hml, hown, hts, hr, hlk, hE⟩ := id C0.1
  refine lv_aload_n hx hb dL_law_259 rfl (lv_at hl 1 rfl) ?_
  refine lv_aload_n hx hb dL_law_260 rfl (lv_at hl 0 rfl) ?_
  refine lv_iload_n hx hb dL_law_261 rfl (lv_at hl 3 rfl) ?_
  refine lv_iconst (v := 1) hx hb dL_law_262 (by decide) ?_
  refine lv_iadd hx hb dL_law_263 ?_
  refine sldJ C0 hW 1 rfl (by omega) dL_law_264 ?_
  refine kWi (kV C0.1 (mX4_listed l D κ A C0.2.2.2.1 h) (qX4_listed hts (tw_249 hts) ⟨(Nat.le_of_ble_eq_true rfl), (Nat.le_of_ble_eq_true rfl)⟩) (va_recv hE.1 hW.1.c5 (ci := 4) (q0 := 0) rfl rfl) (rest := []) hW.1 rfl hl.1 rfl (Nat.le_of_ble_eq_true rfl) dL_law_265 ⟨(Nat.le_of_ble_eq_true rfl), (Nat.le_of_ble_eq_true rfl)⟩) hW.2.2.2 C0.2.2.2.2.2.1 (fun r0 u0 H1 locs1 h hB hk hS1 => ?_)
  have hW := LW.toX C0 hW hB hk hS1
  refine lv_aload_n hx hb dL_law_268 rfl (lv_at hl 2 rfl) ?_
  refine lv_aload_n hx hb dL_law_269 rfl (lv_at hl 0 rfl) ?_
  refine lv_iload_n hx hb dL_law_270 rfl (lv_at hl 3 rfl) ?_
  refine lv_iconst (v := 1) hx hb dL_law_271 (by decide) ?_
  refine lv_iadd hx hb dL_law_272 ?_
  refine sldJ C0 hW 1 rfl (by omega) dL_law_273 ?_
  refine kWi (kV C0.1 (mX5_listed l D κ ρ a C0.2.2.2.2.1 h) (qX5_listed hts (tw_847 hts) ⟨(Nat.le_of_ble_eq_true rfl), (Nat.le_of_ble_eq_true rfl)⟩) (va_recv hE.1 hW.2.1 (ci := 5) (q0 := 0) rfl rfl) (rest := [.int r0]) hW.2.1 rfl hl.1 rfl (Nat.le_of_ble_eq_true rfl) dL_law_274 ⟨(Nat.le_of_ble_eq_true rfl), (Nat.le_of_ble_eq_true rfl)⟩) hW.2.2.2 (fun q ⟨j, hj, e9⟩ => by rw [e9]; exact C0.2.2.2.2.2.2.1 j hj) (fun r1 u1 H1 locs1 h hB hk hS1 => ?_)
  have hW := LW.toM C0 hW hB hk hS1
  refine lv_icmp_eq (tgt := 1383) hx hb dL_law_277 (by decide) (fun _ => ?_) (fun c9 => absurd h.1 c9)
  exact kk _ _ _ _ hW ls hl h.2
set_option maxHeartbeats 4000000 in
set_option maxRecDepth 100000 in
theorem caseL_2 {p : Program} {l : Launch} {e : Env} {s : State} {m : MethodId} {below : List Frame} {meth : Method} {c : Code} {D : va_G} {κ : Nat → ClassId} {ρ ν a : Nat → Nat} {A : Nat → Nat → Nat} {b L i : Nat} {xs : Nat → Int32} {Q : State → Prop} {S : Nat → Mx} {μ : Mx} {K : (Nat → Mx) → Mx → Prop} (C0 : LC D κ A a b L xs p s m meth c) (hi : i + 6 ≤ L) {H : Heap} {locs : List Loc} (hW : LW D κ ρ ν A a S μ s H locs) (ls : Array Slot) (hl : lv_has ls 4 [(0, .ref b), (1, .ref (A 5 0)), (2, .ref (a 0)), (3, .int (nI i))])
    (h : pX4_piece S (xs (i + 1)) (xs (i + 2)) (xs (i + 3)) (fun r0 u0 => pX5_piece μ (xs (i + 1)) (xs (i + 2)) (xs (i + 3)) (fun r1 u1 => r0 = r1 ∧ K u0 u1)))
    (kk : ∀ (u : Nat → Mx) (v : Mx) (H : Heap) (locs : List Loc), LW D κ ρ ν A a u v s H locs → ∀ (ls : Array Slot), lv_has ls 4 [(0, .ref b), (1, .ref (A 5 0)), (2, .ref (a 0)), (3, .int (nI i))] → K u v → W p l e room_1 s m #[Value.ref b] below meth c H locs 55 5862 Q (F0 m 1383 ls [])) : W p l e room_1 s m #[Value.ref b] below meth c H locs 55 5862 Q (F0 m 282 ls []) := by
  obtain ⟨hx, hb, hml, hown, hts, hr, hlk, hE⟩ := id C0.1
  refine lv_aload_n hx hb dL_law_282 rfl (lv_at hl 1 rfl) ?_
  refine lv_aload_n hx hb dL_law_283 rfl (lv_at hl 0 rfl) ?_
  refine lv_iload_n hx hb dL_law_284 rfl (lv_at hl 3 rfl) ?_
  refine lv_iconst (v := 1) hx hb dL_law_285 (by decide) ?_
  refine lv_iadd hx hb dL_law_286 ?_
  refine sldJ C0 hW 1 rfl (by omega) dL_law_287 ?_
  refine lv_aload_n hx hb dL_law_288 rfl (lv_at hl 0 rfl) ?_
  refine lv_iload_n hx hb dL_law_289 rfl (lv_at hl 3 rfl) ?_
  refine lv_iconst (v := 2) hx hb dL_law_290 (by decide) ?_
  refine lv_iadd hx hb dL_law_291 ?_
  refine sldJ C0 hW 2 rfl (by omega) dL_law_292 ?_
  refine lv_aload_n hx hb dL_law_293 rfl (lv_at hl 0 rfl) ?_
  refine lv_iload_n hx hb dL_law_294 rfl (lv_at hl 3 rfl) ?_
  refine lv_iconst (v := 3) hx hb dL_law_295 (by decide) ?_
  refine lv_iadd hx hb dL_law_296 ?_
  refine sldJ C0 hW 3 rfl (by omega) dL_law_297 ?_
  refine kWi (kV C0.1 (mX4_piece l D κ A C0.2.2.2.1 h) (qX4_piece hts (tw_253 hts) ⟨(Nat.le_of_ble_eq_true rfl), (Nat.le_of_ble_eq_true rfl)⟩) (va_recv hE.1 hW.1.c5 (ci := 4) (q0 := 0) rfl rfl) (rest := []) hW.1 rfl hl.1 rfl (Nat.le_of_ble_eq_true rfl) dL_law_298 ⟨(Nat.le_of_ble_eq_true rfl), (Nat.le_of_ble_eq_true rfl)⟩) hW.2.2.2 C0.2.2.2.2.2.1 (fun r0 u0 H1 locs1 h hB hk hS1 => ?_)
  have hW := LW.toX C0 hW hB hk hS1
  refine lv_aload_n hx hb dL_law_301 rfl (lv_at hl 2 rfl) ?_
  refine lv_aload_n hx hb dL_law_302 rfl (lv_at hl 0 rfl) ?_
  refine lv_iload_n hx hb dL_law_303 rfl (lv_at hl 3 rfl) ?_
  refine lv_iconst (v := 1) hx hb dL_law_304 (by decide) ?_
  refine lv_iadd hx hb dL_law_305 ?_
  refine sldJ C0 hW 1 rfl (by omega) dL_law_306 ?_
  refine lv_aload_n hx hb dL_law_307 rfl (lv_at hl 0 rfl) ?_
  refine lv_iload_n hx hb dL_law_308 rfl (lv_at hl 3 rfl) ?_
  refine lv_iconst (v := 2) hx hb dL_law_309 (by decide) ?_
  refine lv_iadd hx hb dL_law_310 ?_
  refine sldJ C0 hW 2 rfl (by omega) dL_law_311 ?_
  refine lv_aload_n hx hb dL_law_312 rfl (lv_at hl 0 rfl) ?_
  refine lv_iload_n hx hb dL_law_313 rfl (lv_at hl 3 rfl) ?_
  refine lv_iconst (v := 3) hx hb dL_law_314 (by decide) ?_
  refine lv_iadd hx hb dL_law_315 ?_
  refine sldJ C0 hW 3 rfl (by omega) dL_law_316 ?_
  refine kWi (kV C0.1 (mX5_piece l D κ ρ a C0.2.2.2.2.1 h) (qX5_piece hts (tw_851 hts) ⟨(Nat.le_of_ble_eq_true rfl), (Nat.le_of_ble_eq_true rfl)⟩) (va_recv hE.1 hW.2.1 (ci := 5) (q0 := 0) rfl rfl) (rest := [.int r0]) hW.2.1 rfl hl.1 rfl (Nat.le_of_ble_eq_true rfl) dL_law_317 ⟨(Nat.le_of_ble_eq_true rfl), (Nat.le_of_ble_eq_true rfl)⟩) hW.2.2.2 (fun q ⟨j, hj, e9⟩ => by rw [e9]; exact C0.2.2.2.2.2.2.1 j hj) (fun r1 u1 H1 locs1 h hB hk hS1 => ?_)
  have hW := LW.toM C0 hW hB hk hS1
  refine lv_icmp_eq (tgt := 1383) hx hb dL_law_320 (by decide) (fun _ => ?_) (fun c9 => absurd h.1 c9)
  exact kk _ _ _ _ hW ls hl h.2
set_option maxHeartbeats 4000000 in
set_option maxRecDepth 100000 in
theorem caseL_3 {p : Program} {l : Launch} {e : Env} {s : State} {m : MethodId} {below : List Frame} {meth : Method} {c : Code} {D : va_G} {κ : Nat → ClassId} {ρ ν a : Nat → Nat} {A : Nat → Nat → Nat} {b L i : Nat} {xs : Nat → Int32} {Q : State → Prop} {S : Nat → Mx} {μ : Mx} {K : (Nat → Mx) → Mx → Prop} (C0 : LC D κ A a b L xs p s m meth c) (hi : i + 6 ≤ L) {H : Heap} {locs : List Loc} (hW : LW D κ ρ ν A a S μ s H locs) (ls : Array Slot) (hl : lv_has ls 4 [(0, .ref b), (1, .ref (A 5 0)), (2, .ref (a 0)), (3, .int (nI i))])
    (h : pX4_of S (xs (i + 1)) (xs (i + 2)) (fun r0 u0 => pX5_of μ (xs (i + 1)) (xs (i + 2)) (fun r1 u1 => r0 = r1 ∧ K u0 u1)))
    (kk : ∀ (u : Nat → Mx) (v : Mx) (H : Heap) (locs : List Loc), LW D κ ρ ν A a u v s H locs → ∀ (ls : Array Slot), lv_has ls 4 [(0, .ref b), (1, .ref (A 5 0)), (2, .ref (a 0)), (3, .int (nI i))] → K u v → W p l e room_1 s m #[Value.ref b] below meth c H locs 55 5862 Q (F0 m 1383 ls [])) : W p l e room_1 s m #[Value.ref b] below meth c H locs 55 5862 Q (F0 m 325 ls []) := by
  obtain ⟨hx, hb, hml, hown, hts, hr, hlk, hE⟩ := id C0.1
  refine lv_aload_n hx hb dL_law_325 rfl (lv_at hl 1 rfl) ?_
  refine lv_aload_n hx hb dL_law_326 rfl (lv_at hl 0 rfl) ?_
  refine lv_iload_n hx hb dL_law_327 rfl (lv_at hl 3 rfl) ?_
  refine lv_iconst (v := 1) hx hb dL_law_328 (by decide) ?_
  refine lv_iadd hx hb dL_law_329 ?_
  refine sldJ C0 hW 1 rfl (by omega) dL_law_330 ?_
  refine lv_aload_n hx hb dL_law_331 rfl (lv_at hl 0 rfl) ?_
  refine lv_iload_n hx hb dL_law_332 rfl (lv_at hl 3 rfl) ?_
  refine lv_iconst (v := 2) hx hb dL_law_333 (by decide) ?_
  refine lv_iadd hx hb dL_law_334 ?_
  refine sldJ C0 hW 2 rfl (by omega) dL_law_335 ?_
  refine kWi (kV C0.1 (mX4_of l D κ A C0.2.2.2.1 h) (qX4_of hts (tw_267 hts) ⟨(Nat.le_of_ble_eq_true rfl), (Nat.le_of_ble_eq_true rfl)⟩) (va_recv hE.1 hW.1.c5 (ci := 4) (q0 := 0) rfl rfl) (rest := []) hW.1 rfl hl.1 rfl (Nat.le_of_ble_eq_true rfl) dL_law_336 ⟨(Nat.le_of_ble_eq_true rfl), (Nat.le_of_ble_eq_true rfl)⟩) hW.2.2.2 C0.2.2.2.2.2.1 (fun r0 u0 H1 locs1 h hB hk hS1 => ?_)
  have hW := LW.toX C0 hW hB hk hS1
  refine lv_aload_n hx hb dL_law_339 rfl (lv_at hl 2 rfl) ?_
  refine lv_aload_n hx hb dL_law_340 rfl (lv_at hl 0 rfl) ?_
  refine lv_iload_n hx hb dL_law_341 rfl (lv_at hl 3 rfl) ?_
  refine lv_iconst (v := 1) hx hb dL_law_342 (by decide) ?_
  refine lv_iadd hx hb dL_law_343 ?_
  refine sldJ C0 hW 1 rfl (by omega) dL_law_344 ?_
  refine lv_aload_n hx hb dL_law_345 rfl (lv_at hl 0 rfl) ?_
  refine lv_iload_n hx hb dL_law_346 rfl (lv_at hl 3 rfl) ?_
  refine lv_iconst (v := 2) hx hb dL_law_347 (by decide) ?_
  refine lv_iadd hx hb dL_law_348 ?_
  refine sldJ C0 hW 2 rfl (by omega) dL_law_349 ?_
  refine kWi (kV C0.1 (mX5_of l D κ ρ a C0.2.2.2.2.1 h) (qX5_of hts (tw_869 hts) ⟨(Nat.le_of_ble_eq_true rfl), (Nat.le_of_ble_eq_true rfl)⟩) (va_recv hE.1 hW.2.1 (ci := 5) (q0 := 0) rfl rfl) (rest := [.int r0]) hW.2.1 rfl hl.1 rfl (Nat.le_of_ble_eq_true rfl) dL_law_350 ⟨(Nat.le_of_ble_eq_true rfl), (Nat.le_of_ble_eq_true rfl)⟩) hW.2.2.2 (fun q ⟨j, hj, e9⟩ => by rw [e9]; exact C0.2.2.2.2.2.2.1 j hj) (fun r1 u1 H1 locs1 h hB hk hS1 => ?_)
  have hW := LW.toM C0 hW hB hk hS1
  refine lv_icmp_eq (tgt := 1383) hx hb dL_law_353 (by decide) (fun _ => ?_) (fun c9 => absurd h.1 c9)
  exact kk _ _ _ _ hW ls hl h.2
set_option maxHeartbeats 4000000 in
set_option maxRecDepth 100000 in
theorem caseL_4 {p : Program} {l : Launch} {e : Env} {s : State} {m : MethodId} {below : List Frame} {meth : Method} {c : Code} {D : va_G} {κ : Nat → ClassId} {ρ ν a : Nat → Nat} {A : Nat → Nat → Nat} {b L i : Nat} {xs : Nat → Int32} {Q : State → Prop} {S : Nat → Mx} {μ : Mx} {K : (Nat → Mx) → Mx → Prop} (C0 : LC D κ A a b L xs p s m meth c) (hi : i + 6 ≤ L) {H : Heap} {locs : List Loc} (hW : LW D κ ρ ν A a S μ s H locs) (ls : Array Slot) (hl : lv_has ls 4 [(0, .ref b), (1, .ref (A 5 0)), (2, .ref (a 0)), (3, .int (nI i))])
    (h : pX4_change S (xs (i + 1)) (xs (i + 2)) (xs (i + 3)) (fun r0 u0 => pX5_change μ (xs (i + 1)) (xs (i + 2)) (xs (i + 3)) (fun r1 u1 => r0 = r1 ∧ K u0 u1)))
    (kk : ∀ (u : Nat → Mx) (v : Mx) (H : Heap) (locs : List Loc), LW D κ ρ ν A a u v s H locs → ∀ (ls : Array Slot), lv_has ls 4 [(0, .ref b), (1, .ref (A 5 0)), (2, .ref (a 0)), (3, .int (nI i))] → K u v → W p l e room_1 s m #[Value.ref b] below meth c H locs 55 5862 Q (F0 m 1383 ls [])) : W p l e room_1 s m #[Value.ref b] below meth c H locs 55 5862 Q (F0 m 358 ls []) := by
  obtain ⟨hx, hb, hml, hown, hts, hr, hlk, hE⟩ := id C0.1
  refine lv_aload_n hx hb dL_law_358 rfl (lv_at hl 1 rfl) ?_
  refine lv_aload_n hx hb dL_law_359 rfl (lv_at hl 0 rfl) ?_
  refine lv_iload_n hx hb dL_law_360 rfl (lv_at hl 3 rfl) ?_
  refine lv_iconst (v := 1) hx hb dL_law_361 (by decide) ?_
  refine lv_iadd hx hb dL_law_362 ?_
  refine sldJ C0 hW 1 rfl (by omega) dL_law_363 ?_
  refine lv_aload_n hx hb dL_law_364 rfl (lv_at hl 0 rfl) ?_
  refine lv_iload_n hx hb dL_law_365 rfl (lv_at hl 3 rfl) ?_
  refine lv_iconst (v := 2) hx hb dL_law_366 (by decide) ?_
  refine lv_iadd hx hb dL_law_367 ?_
  refine sldJ C0 hW 2 rfl (by omega) dL_law_368 ?_
  refine lv_aload_n hx hb dL_law_369 rfl (lv_at hl 0 rfl) ?_
  refine lv_iload_n hx hb dL_law_370 rfl (lv_at hl 3 rfl) ?_
  refine lv_iconst (v := 3) hx hb dL_law_371 (by decide) ?_
  refine lv_iadd hx hb dL_law_372 ?_
  refine sldJ C0 hW 3 rfl (by omega) dL_law_373 ?_
  refine kWi (kV C0.1 (mX4_change l D κ A C0.2.2.2.1 h) (qX4_change hts (tw_287 hts) ⟨(Nat.le_of_ble_eq_true rfl), (Nat.le_of_ble_eq_true rfl)⟩) (va_recv hE.1 hW.1.c5 (ci := 4) (q0 := 0) rfl rfl) (rest := []) hW.1 rfl hl.1 rfl (Nat.le_of_ble_eq_true rfl) dL_law_374 ⟨(Nat.le_of_ble_eq_true rfl), (Nat.le_of_ble_eq_true rfl)⟩) hW.2.2.2 C0.2.2.2.2.2.1 (fun r0 u0 H1 locs1 h hB hk hS1 => ?_)
  have hW := LW.toX C0 hW hB hk hS1
  refine lv_aload_n hx hb dL_law_377 rfl (lv_at hl 2 rfl) ?_
  refine lv_aload_n hx hb dL_law_378 rfl (lv_at hl 0 rfl) ?_
  refine lv_iload_n hx hb dL_law_379 rfl (lv_at hl 3 rfl) ?_
  refine lv_iconst (v := 1) hx hb dL_law_380 (by decide) ?_
  refine lv_iadd hx hb dL_law_381 ?_
  refine sldJ C0 hW 1 rfl (by omega) dL_law_382 ?_
  refine lv_aload_n hx hb dL_law_383 rfl (lv_at hl 0 rfl) ?_
  refine lv_iload_n hx hb dL_law_384 rfl (lv_at hl 3 rfl) ?_
  refine lv_iconst (v := 2) hx hb dL_law_385 (by decide) ?_
  refine lv_iadd hx hb dL_law_386 ?_
  refine sldJ C0 hW 2 rfl (by omega) dL_law_387 ?_
  refine lv_aload_n hx hb dL_law_388 rfl (lv_at hl 0 rfl) ?_
  refine lv_iload_n hx hb dL_law_389 rfl (lv_at hl 3 rfl) ?_
  refine lv_iconst (v := 3) hx hb dL_law_390 (by decide) ?_
  refine lv_iadd hx hb dL_law_391 ?_
  refine sldJ C0 hW 3 rfl (by omega) dL_law_392 ?_
  refine kWi (kV C0.1 (mX5_change l D κ ρ a C0.2.2.2.2.1 h) (qX5_change hts (tw_893 hts) ⟨(Nat.le_of_ble_eq_true rfl), (Nat.le_of_ble_eq_true rfl)⟩) (va_recv hE.1 hW.2.1 (ci := 5) (q0 := 0) rfl rfl) (rest := [.int r0]) hW.2.1 rfl hl.1 rfl (Nat.le_of_ble_eq_true rfl) dL_law_393 ⟨(Nat.le_of_ble_eq_true rfl), (Nat.le_of_ble_eq_true rfl)⟩) hW.2.2.2 (fun q ⟨j, hj, e9⟩ => by rw [e9]; exact C0.2.2.2.2.2.2.1 j hj) (fun r1 u1 H1 locs1 h hB hk hS1 => ?_)
  have hW := LW.toM C0 hW hB hk hS1
  refine lv_icmp_eq (tgt := 1383) hx hb dL_law_396 (by decide) (fun _ => ?_) (fun c9 => absurd h.1 c9)
  exact kk _ _ _ _ hW ls hl h.2
set_option maxHeartbeats 4000000 in
set_option maxRecDepth 100000 in
theorem caseL_5 {p : Program} {l : Launch} {e : Env} {s : State} {m : MethodId} {below : List Frame} {meth : Method} {c : Code} {D : va_G} {κ : Nat → ClassId} {ρ ν a : Nat → Nat} {A : Nat → Nat → Nat} {b L i : Nat} {xs : Nat → Int32} {Q : State → Prop} {S : Nat → Mx} {μ : Mx} {K : (Nat → Mx) → Mx → Prop} (C0 : LC D κ A a b L xs p s m meth c) (hi : i + 6 ≤ L) {H : Heap} {locs : List Loc} (hW : LW D κ ρ ν A a S μ s H locs) (ls : Array Slot) (hl : lv_has ls 4 [(0, .ref b), (1, .ref (A 5 0)), (2, .ref (a 0)), (3, .int (nI i))])
    (h : pX4_lies S (xs (i + 1)) (fun r0 u0 => pX5_lies μ (xs (i + 1)) (fun r1 u1 => r0 = r1 ∧ K u0 u1)))
    (kk : ∀ (u : Nat → Mx) (v : Mx) (H : Heap) (locs : List Loc), LW D κ ρ ν A a u v s H locs → ∀ (ls : Array Slot), lv_has ls 4 [(0, .ref b), (1, .ref (A 5 0)), (2, .ref (a 0)), (3, .int (nI i))] → K u v → W p l e room_1 s m #[Value.ref b] below meth c H locs 55 5862 Q (F0 m 1383 ls [])) : W p l e room_1 s m #[Value.ref b] below meth c H locs 55 5862 Q (F0 m 401 ls []) := by
  obtain ⟨hx, hb, hml, hown, hts, hr, hlk, hE⟩ := id C0.1
  refine lv_aload_n hx hb dL_law_401 rfl (lv_at hl 1 rfl) ?_
  refine lv_aload_n hx hb dL_law_402 rfl (lv_at hl 0 rfl) ?_
  refine lv_iload_n hx hb dL_law_403 rfl (lv_at hl 3 rfl) ?_
  refine lv_iconst (v := 1) hx hb dL_law_404 (by decide) ?_
  refine lv_iadd hx hb dL_law_405 ?_
  refine sldJ C0 hW 1 rfl (by omega) dL_law_406 ?_
  refine kWi (kV C0.1 (mX4_lies l D κ A C0.2.2.2.1 h) (qX4_lies hts (tw_298 hts) ⟨(Nat.le_of_ble_eq_true rfl), (Nat.le_of_ble_eq_true rfl)⟩) (va_recv hE.1 hW.1.c5 (ci := 4) (q0 := 0) rfl rfl) (rest := []) hW.1 rfl hl.1 rfl (Nat.le_of_ble_eq_true rfl) dL_law_407 ⟨(Nat.le_of_ble_eq_true rfl), (Nat.le_of_ble_eq_true rfl)⟩) hW.2.2.2 C0.2.2.2.2.2.1 (fun r0 u0 H1 locs1 h hB hk hS1 => ?_)
  have hW := LW.toX C0 hW hB hk hS1
  refine lv_aload_n hx hb dL_law_410 rfl (lv_at hl 2 rfl) ?_
  refine lv_aload_n hx hb dL_law_411 rfl (lv_at hl 0 rfl) ?_
  refine lv_iload_n hx hb dL_law_412 rfl (lv_at hl 3 rfl) ?_
  refine lv_iconst (v := 1) hx hb dL_law_413 (by decide) ?_
  refine lv_iadd hx hb dL_law_414 ?_
  refine sldJ C0 hW 1 rfl (by omega) dL_law_415 ?_
  refine kWi (kV C0.1 (mX5_lies l D κ ρ a C0.2.2.2.2.1 h) (qX5_lies hts (tw_900 hts) ⟨(Nat.le_of_ble_eq_true rfl), (Nat.le_of_ble_eq_true rfl)⟩) (va_recv hE.1 hW.2.1 (ci := 5) (q0 := 0) rfl rfl) (rest := [.int r0]) hW.2.1 rfl hl.1 rfl (Nat.le_of_ble_eq_true rfl) dL_law_416 ⟨(Nat.le_of_ble_eq_true rfl), (Nat.le_of_ble_eq_true rfl)⟩) hW.2.2.2 (fun q ⟨j, hj, e9⟩ => by rw [e9]; exact C0.2.2.2.2.2.2.1 j hj) (fun r1 u1 H1 locs1 h hB hk hS1 => ?_)
  have hW := LW.toM C0 hW hB hk hS1
  refine lv_icmp_eq (tgt := 1383) hx hb dL_law_419 (by decide) (fun _ => ?_) (fun c9 => absurd h.1 c9)
  exact kk _ _ _ _ hW ls hl h.2
set_option maxHeartbeats 4000000 in
set_option maxRecDepth 100000 in
theorem caseL_6 {p : Program} {l : Launch} {e : Env} {s : State} {m : MethodId} {below : List Frame} {meth : Method} {c : Code} {D : va_G} {κ : Nat → ClassId} {ρ ν a : Nat → Nat} {A : Nat → Nat → Nat} {b L i : Nat} {xs : Nat → Int32} {Q : State → Prop} {S : Nat → Mx} {μ : Mx} {K : (Nat → Mx) → Mx → Prop} (C0 : LC D κ A a b L xs p s m meth c) (hi : i + 6 ≤ L) {H : Heap} {locs : List Loc} (hW : LW D κ ρ ν A a S μ s H locs) (ls : Array Slot) (hl : lv_has ls 4 [(0, .ref b), (1, .ref (A 5 0)), (2, .ref (a 0)), (3, .int (nI i))])
    (h : pX4_gap S (xs (i + 1)) (xs (i + 2)) (fun r0 u0 => pX5_gap μ (xs (i + 1)) (xs (i + 2)) (fun r1 u1 => r0 = r1 ∧ K u0 u1)))
    (kk : ∀ (u : Nat → Mx) (v : Mx) (H : Heap) (locs : List Loc), LW D κ ρ ν A a u v s H locs → ∀ (ls : Array Slot), lv_has ls 4 [(0, .ref b), (1, .ref (A 5 0)), (2, .ref (a 0)), (3, .int (nI i))] → K u v → W p l e room_1 s m #[Value.ref b] below meth c H locs 55 5862 Q (F0 m 1383 ls [])) : W p l e room_1 s m #[Value.ref b] below meth c H locs 55 5862 Q (F0 m 424 ls []) := by
  obtain ⟨hx, hb, hml, hown, hts, hr, hlk, hE⟩ := id C0.1
  refine lv_aload_n hx hb dL_law_424 rfl (lv_at hl 1 rfl) ?_
  refine lv_aload_n hx hb dL_law_425 rfl (lv_at hl 0 rfl) ?_
  refine lv_iload_n hx hb dL_law_426 rfl (lv_at hl 3 rfl) ?_
  refine lv_iconst (v := 1) hx hb dL_law_427 (by decide) ?_
  refine lv_iadd hx hb dL_law_428 ?_
  refine sldJ C0 hW 1 rfl (by omega) dL_law_429 ?_
  refine lv_aload_n hx hb dL_law_430 rfl (lv_at hl 0 rfl) ?_
  refine lv_iload_n hx hb dL_law_431 rfl (lv_at hl 3 rfl) ?_
  refine lv_iconst (v := 2) hx hb dL_law_432 (by decide) ?_
  refine lv_iadd hx hb dL_law_433 ?_
  refine sldJ C0 hW 2 rfl (by omega) dL_law_434 ?_
  refine kWi (kV C0.1 (mX4_gap l D κ A C0.2.2.2.1 h) (qX4_gap hts (tw_302 hts) ⟨(Nat.le_of_ble_eq_true rfl), (Nat.le_of_ble_eq_true rfl)⟩) (va_recv hE.1 hW.1.c5 (ci := 4) (q0 := 0) rfl rfl) (rest := []) hW.1 rfl hl.1 rfl (Nat.le_of_ble_eq_true rfl) dL_law_435 ⟨(Nat.le_of_ble_eq_true rfl), (Nat.le_of_ble_eq_true rfl)⟩) hW.2.2.2 C0.2.2.2.2.2.1 (fun r0 u0 H1 locs1 h hB hk hS1 => ?_)
  have hW := LW.toX C0 hW hB hk hS1
  refine lv_aload_n hx hb dL_law_438 rfl (lv_at hl 2 rfl) ?_
  refine lv_aload_n hx hb dL_law_439 rfl (lv_at hl 0 rfl) ?_
  refine lv_iload_n hx hb dL_law_440 rfl (lv_at hl 3 rfl) ?_
  refine lv_iconst (v := 1) hx hb dL_law_441 (by decide) ?_
  refine lv_iadd hx hb dL_law_442 ?_
  refine sldJ C0 hW 1 rfl (by omega) dL_law_443 ?_
  refine lv_aload_n hx hb dL_law_444 rfl (lv_at hl 0 rfl) ?_
  refine lv_iload_n hx hb dL_law_445 rfl (lv_at hl 3 rfl) ?_
  refine lv_iconst (v := 2) hx hb dL_law_446 (by decide) ?_
  refine lv_iadd hx hb dL_law_447 ?_
  refine sldJ C0 hW 2 rfl (by omega) dL_law_448 ?_
  refine kWi (kV C0.1 (mX5_gap l D κ ρ a C0.2.2.2.2.1 h) (qX5_gap hts (tw_904 hts) ⟨(Nat.le_of_ble_eq_true rfl), (Nat.le_of_ble_eq_true rfl)⟩) (va_recv hE.1 hW.2.1 (ci := 5) (q0 := 0) rfl rfl) (rest := [.int r0]) hW.2.1 rfl hl.1 rfl (Nat.le_of_ble_eq_true rfl) dL_law_449 ⟨(Nat.le_of_ble_eq_true rfl), (Nat.le_of_ble_eq_true rfl)⟩) hW.2.2.2 (fun q ⟨j, hj, e9⟩ => by rw [e9]; exact C0.2.2.2.2.2.2.1 j hj) (fun r1 u1 H1 locs1 h hB hk hS1 => ?_)
  have hW := LW.toM C0 hW hB hk hS1
  refine lv_icmp_eq (tgt := 1383) hx hb dL_law_452 (by decide) (fun _ => ?_) (fun c9 => absurd h.1 c9)
  exact kk _ _ _ _ hW ls hl h.2
set_option maxHeartbeats 4000000 in
set_option maxRecDepth 100000 in
theorem caseL_7 {p : Program} {l : Launch} {e : Env} {s : State} {m : MethodId} {below : List Frame} {meth : Method} {c : Code} {D : va_G} {κ : Nat → ClassId} {ρ ν a : Nat → Nat} {A : Nat → Nat → Nat} {b L i : Nat} {xs : Nat → Int32} {Q : State → Prop} {S : Nat → Mx} {μ : Mx} {K : (Nat → Mx) → Mx → Prop} (C0 : LC D κ A a b L xs p s m meth c) (hi : i + 6 ≤ L) {H : Heap} {locs : List Loc} (hW : LW D κ ρ ν A a S μ s H locs) (ls : Array Slot) (hl : lv_has ls 4 [(0, .ref b), (1, .ref (A 5 0)), (2, .ref (a 0)), (3, .int (nI i))])
    (h : pX4_edge S (xs (i + 1)) (xs (i + 2)) (fun r0 u0 => pX5_edge μ (xs (i + 1)) (xs (i + 2)) (fun r1 u1 => r0 = r1 ∧ K u0 u1)))
    (kk : ∀ (u : Nat → Mx) (v : Mx) (H : Heap) (locs : List Loc), LW D κ ρ ν A a u v s H locs → ∀ (ls : Array Slot), lv_has ls 4 [(0, .ref b), (1, .ref (A 5 0)), (2, .ref (a 0)), (3, .int (nI i))] → K u v → W p l e room_1 s m #[Value.ref b] below meth c H locs 55 5862 Q (F0 m 1383 ls [])) : W p l e room_1 s m #[Value.ref b] below meth c H locs 55 5862 Q (F0 m 457 ls []) := by
  obtain ⟨hx, hb, hml, hown, hts, hr, hlk, hE⟩ := id C0.1
  refine lv_aload_n hx hb dL_law_457 rfl (lv_at hl 1 rfl) ?_
  refine lv_aload_n hx hb dL_law_458 rfl (lv_at hl 0 rfl) ?_
  refine lv_iload_n hx hb dL_law_459 rfl (lv_at hl 3 rfl) ?_
  refine lv_iconst (v := 1) hx hb dL_law_460 (by decide) ?_
  refine lv_iadd hx hb dL_law_461 ?_
  refine sldJ C0 hW 1 rfl (by omega) dL_law_462 ?_
  refine lv_aload_n hx hb dL_law_463 rfl (lv_at hl 0 rfl) ?_
  refine lv_iload_n hx hb dL_law_464 rfl (lv_at hl 3 rfl) ?_
  refine lv_iconst (v := 2) hx hb dL_law_465 (by decide) ?_
  refine lv_iadd hx hb dL_law_466 ?_
  refine sldJ C0 hW 2 rfl (by omega) dL_law_467 ?_
  refine kWi (kV C0.1 (mX4_edge l D κ A C0.2.2.2.1 h) (qX4_edge hts (tw_324 hts) ⟨(Nat.le_of_ble_eq_true rfl), (Nat.le_of_ble_eq_true rfl)⟩) (va_recv hE.1 hW.1.c5 (ci := 4) (q0 := 0) rfl rfl) (rest := []) hW.1 rfl hl.1 rfl (Nat.le_of_ble_eq_true rfl) dL_law_468 ⟨(Nat.le_of_ble_eq_true rfl), (Nat.le_of_ble_eq_true rfl)⟩) hW.2.2.2 C0.2.2.2.2.2.1 (fun r0 u0 H1 locs1 h hB hk hS1 => ?_)
  have hW := LW.toX C0 hW hB hk hS1
  refine lv_aload_n hx hb dL_law_471 rfl (lv_at hl 2 rfl) ?_
  refine lv_aload_n hx hb dL_law_472 rfl (lv_at hl 0 rfl) ?_
  refine lv_iload_n hx hb dL_law_473 rfl (lv_at hl 3 rfl) ?_
  refine lv_iconst (v := 1) hx hb dL_law_474 (by decide) ?_
  refine lv_iadd hx hb dL_law_475 ?_
  refine sldJ C0 hW 1 rfl (by omega) dL_law_476 ?_
  refine lv_aload_n hx hb dL_law_477 rfl (lv_at hl 0 rfl) ?_
  refine lv_iload_n hx hb dL_law_478 rfl (lv_at hl 3 rfl) ?_
  refine lv_iconst (v := 2) hx hb dL_law_479 (by decide) ?_
  refine lv_iadd hx hb dL_law_480 ?_
  refine sldJ C0 hW 2 rfl (by omega) dL_law_481 ?_
  refine kWi (kV C0.1 (mX5_edge l D κ ρ a C0.2.2.2.2.1 h) (qX5_edge hts (tw_921 hts) ⟨(Nat.le_of_ble_eq_true rfl), (Nat.le_of_ble_eq_true rfl)⟩) (va_recv hE.1 hW.2.1 (ci := 5) (q0 := 0) rfl rfl) (rest := [.int r0]) hW.2.1 rfl hl.1 rfl (Nat.le_of_ble_eq_true rfl) dL_law_482 ⟨(Nat.le_of_ble_eq_true rfl), (Nat.le_of_ble_eq_true rfl)⟩) hW.2.2.2 (fun q ⟨j, hj, e9⟩ => by rw [e9]; exact C0.2.2.2.2.2.2.1 j hj) (fun r1 u1 H1 locs1 h hB hk hS1 => ?_)
  have hW := LW.toM C0 hW hB hk hS1
  refine lv_icmp_eq (tgt := 1383) hx hb dL_law_485 (by decide) (fun _ => ?_) (fun c9 => absurd h.1 c9)
  exact kk _ _ _ _ hW ls hl h.2
set_option maxHeartbeats 4000000 in
set_option maxRecDepth 100000 in
theorem caseL_8 {p : Program} {l : Launch} {e : Env} {s : State} {m : MethodId} {below : List Frame} {meth : Method} {c : Code} {D : va_G} {κ : Nat → ClassId} {ρ ν a : Nat → Nat} {A : Nat → Nat → Nat} {b L i : Nat} {xs : Nat → Int32} {Q : State → Prop} {S : Nat → Mx} {μ : Mx} {K : (Nat → Mx) → Mx → Prop} (C0 : LC D κ A a b L xs p s m meth c) (hi : i + 6 ≤ L) {H : Heap} {locs : List Loc} (hW : LW D κ ρ ν A a S μ s H locs) (ls : Array Slot) (hl : lv_has ls 4 [(0, .ref b), (1, .ref (A 5 0)), (2, .ref (a 0)), (3, .int (nI i))])
    (h : pX4_swap S (xs (i + 1)) (xs (i + 2)) (fun r0 u0 => pX5_swap μ (xs (i + 1)) (xs (i + 2)) (fun r1 u1 => r0 = r1 ∧ K u0 u1)))
    (kk : ∀ (u : Nat → Mx) (v : Mx) (H : Heap) (locs : List Loc), LW D κ ρ ν A a u v s H locs → ∀ (ls : Array Slot), lv_has ls 4 [(0, .ref b), (1, .ref (A 5 0)), (2, .ref (a 0)), (3, .int (nI i))] → K u v → W p l e room_1 s m #[Value.ref b] below meth c H locs 55 5862 Q (F0 m 1383 ls [])) : W p l e room_1 s m #[Value.ref b] below meth c H locs 55 5862 Q (F0 m 490 ls []) := by
  obtain ⟨hx, hb, hml, hown, hts, hr, hlk, hE⟩ := id C0.1
  refine lv_aload_n hx hb dL_law_490 rfl (lv_at hl 1 rfl) ?_
  refine lv_aload_n hx hb dL_law_491 rfl (lv_at hl 0 rfl) ?_
  refine lv_iload_n hx hb dL_law_492 rfl (lv_at hl 3 rfl) ?_
  refine lv_iconst (v := 1) hx hb dL_law_493 (by decide) ?_
  refine lv_iadd hx hb dL_law_494 ?_
  refine sldJ C0 hW 1 rfl (by omega) dL_law_495 ?_
  refine lv_aload_n hx hb dL_law_496 rfl (lv_at hl 0 rfl) ?_
  refine lv_iload_n hx hb dL_law_497 rfl (lv_at hl 3 rfl) ?_
  refine lv_iconst (v := 2) hx hb dL_law_498 (by decide) ?_
  refine lv_iadd hx hb dL_law_499 ?_
  refine sldJ C0 hW 2 rfl (by omega) dL_law_500 ?_
  refine kWi (kV C0.1 (mX4_swap l D κ A C0.2.2.2.1 h) (qX4_swap hts (tw_332 hts) ⟨(Nat.le_of_ble_eq_true rfl), (Nat.le_of_ble_eq_true rfl)⟩) (va_recv hE.1 hW.1.c5 (ci := 4) (q0 := 0) rfl rfl) (rest := []) hW.1 rfl hl.1 rfl (Nat.le_of_ble_eq_true rfl) dL_law_501 ⟨(Nat.le_of_ble_eq_true rfl), (Nat.le_of_ble_eq_true rfl)⟩) hW.2.2.2 C0.2.2.2.2.2.1 (fun r0 u0 H1 locs1 h hB hk hS1 => ?_)
  have hW := LW.toX C0 hW hB hk hS1
  refine lv_aload_n hx hb dL_law_504 rfl (lv_at hl 2 rfl) ?_
  refine lv_aload_n hx hb dL_law_505 rfl (lv_at hl 0 rfl) ?_
  refine lv_iload_n hx hb dL_law_506 rfl (lv_at hl 3 rfl) ?_
  refine lv_iconst (v := 1) hx hb dL_law_507 (by decide) ?_
  refine lv_iadd hx hb dL_law_508 ?_
  refine sldJ C0 hW 1 rfl (by omega) dL_law_509 ?_
  refine lv_aload_n hx hb dL_law_510 rfl (lv_at hl 0 rfl) ?_
  refine lv_iload_n hx hb dL_law_511 rfl (lv_at hl 3 rfl) ?_
  refine lv_iconst (v := 2) hx hb dL_law_512 (by decide) ?_
  refine lv_iadd hx hb dL_law_513 ?_
  refine sldJ C0 hW 2 rfl (by omega) dL_law_514 ?_
  refine kWi (kV C0.1 (mX5_swap l D κ ρ a C0.2.2.2.2.1 h) (qX5_swap hts (tw_929 hts) ⟨(Nat.le_of_ble_eq_true rfl), (Nat.le_of_ble_eq_true rfl)⟩) (va_recv hE.1 hW.2.1 (ci := 5) (q0 := 0) rfl rfl) (rest := [.int r0]) hW.2.1 rfl hl.1 rfl (Nat.le_of_ble_eq_true rfl) dL_law_515 ⟨(Nat.le_of_ble_eq_true rfl), (Nat.le_of_ble_eq_true rfl)⟩) hW.2.2.2 (fun q ⟨j, hj, e9⟩ => by rw [e9]; exact C0.2.2.2.2.2.2.1 j hj) (fun r1 u1 H1 locs1 h hB hk hS1 => ?_)
  have hW := LW.toM C0 hW hB hk hS1
  refine lv_icmp_eq (tgt := 1383) hx hb dL_law_518 (by decide) (fun _ => ?_) (fun c9 => absurd h.1 c9)
  exact kk _ _ _ _ hW ls hl h.2
set_option maxHeartbeats 4000000 in
set_option maxRecDepth 100000 in
theorem caseL_9 {p : Program} {l : Launch} {e : Env} {s : State} {m : MethodId} {below : List Frame} {meth : Method} {c : Code} {D : va_G} {κ : Nat → ClassId} {ρ ν a : Nat → Nat} {A : Nat → Nat → Nat} {b L i : Nat} {xs : Nat → Int32} {Q : State → Prop} {S : Nat → Mx} {μ : Mx} {K : (Nat → Mx) → Mx → Prop} (C0 : LC D κ A a b L xs p s m meth c) (hi : i + 6 ≤ L) {H : Heap} {locs : List Loc} (hW : LW D κ ρ ν A a S μ s H locs) (ls : Array Slot) (hl : lv_has ls 4 [(0, .ref b), (1, .ref (A 5 0)), (2, .ref (a 0)), (3, .int (nI i))])
    (h : pX4_go S (xs (i + 1)) (fun r0 u0 => pX5_go μ (xs (i + 1)) (fun r1 u1 => r0 = r1 ∧ K u0 u1)))
    (kk : ∀ (u : Nat → Mx) (v : Mx) (H : Heap) (locs : List Loc), LW D κ ρ ν A a u v s H locs → ∀ (ls : Array Slot), lv_has ls 4 [(0, .ref b), (1, .ref (A 5 0)), (2, .ref (a 0)), (3, .int (nI i))] → K u v → W p l e room_1 s m #[Value.ref b] below meth c H locs 55 5862 Q (F0 m 1383 ls [])) : W p l e room_1 s m #[Value.ref b] below meth c H locs 55 5862 Q (F0 m 523 ls []) := by
  obtain ⟨hx, hb, hml, hown, hts, hr, hlk, hE⟩ := id C0.1
  refine lv_aload_n hx hb dL_law_523 rfl (lv_at hl 1 rfl) ?_
  refine lv_aload_n hx hb dL_law_524 rfl (lv_at hl 0 rfl) ?_
  refine lv_iload_n hx hb dL_law_525 rfl (lv_at hl 3 rfl) ?_
  refine lv_iconst (v := 1) hx hb dL_law_526 (by decide) ?_
  refine lv_iadd hx hb dL_law_527 ?_
  refine sldJ C0 hW 1 rfl (by omega) dL_law_528 ?_
  refine kWi (kV C0.1 (mX4_go l D κ A C0.2.2.2.1 h) (qX4_go hts (tw_351 hts) ⟨(Nat.le_of_ble_eq_true rfl), (Nat.le_of_ble_eq_true rfl)⟩) (va_recv hE.1 hW.1.c5 (ci := 4) (q0 := 0) rfl rfl) (rest := []) hW.1 rfl hl.1 rfl (Nat.le_of_ble_eq_true rfl) dL_law_529 ⟨(Nat.le_of_ble_eq_true rfl), (Nat.le_of_ble_eq_true rfl)⟩) hW.2.2.2 C0.2.2.2.2.2.1 (fun r0 u0 H1 locs1 h hB hk hS1 => ?_)
  have hW := LW.toX C0 hW hB hk hS1
  refine lv_aload_n hx hb dL_law_532 rfl (lv_at hl 2 rfl) ?_
  refine lv_aload_n hx hb dL_law_533 rfl (lv_at hl 0 rfl) ?_
  refine lv_iload_n hx hb dL_law_534 rfl (lv_at hl 3 rfl) ?_
  refine lv_iconst (v := 1) hx hb dL_law_535 (by decide) ?_
  refine lv_iadd hx hb dL_law_536 ?_
  refine sldJ C0 hW 1 rfl (by omega) dL_law_537 ?_
  refine kWi (kV C0.1 (mX5_go l D κ ρ a C0.2.2.2.2.1 h) (qX5_go hts (tw_941 hts) ⟨(Nat.le_of_ble_eq_true rfl), (Nat.le_of_ble_eq_true rfl)⟩) (va_recv hE.1 hW.2.1 (ci := 5) (q0 := 0) rfl rfl) (rest := [.int r0]) hW.2.1 rfl hl.1 rfl (Nat.le_of_ble_eq_true rfl) dL_law_538 ⟨(Nat.le_of_ble_eq_true rfl), (Nat.le_of_ble_eq_true rfl)⟩) hW.2.2.2 (fun q ⟨j, hj, e9⟩ => by rw [e9]; exact C0.2.2.2.2.2.2.1 j hj) (fun r1 u1 H1 locs1 h hB hk hS1 => ?_)
  have hW := LW.toM C0 hW hB hk hS1
  refine lv_icmp_eq (tgt := 1383) hx hb dL_law_541 (by decide) (fun _ => ?_) (fun c9 => absurd h.1 c9)
  exact kk _ _ _ _ hW ls hl h.2
set_option maxHeartbeats 4000000 in
set_option maxRecDepth 100000 in
theorem caseL_10 {p : Program} {l : Launch} {e : Env} {s : State} {m : MethodId} {below : List Frame} {meth : Method} {c : Code} {D : va_G} {κ : Nat → ClassId} {ρ ν a : Nat → Nat} {A : Nat → Nat → Nat} {b L i : Nat} {xs : Nat → Int32} {Q : State → Prop} {S : Nat → Mx} {μ : Mx} {K : (Nat → Mx) → Mx → Prop} (C0 : LC D κ A a b L xs p s m meth c) (hi : i + 6 ≤ L) {H : Heap} {locs : List Loc} (hW : LW D κ ρ ν A a S μ s H locs) (ls : Array Slot) (hl : lv_has ls 4 [(0, .ref b), (1, .ref (A 5 0)), (2, .ref (a 0)), (3, .int (nI i))])
    (h : pX4_now S (xs (i + 1)) (fun r0 u0 => pX5_now μ (xs (i + 1)) (fun r1 u1 => r0 = r1 ∧ K u0 u1)))
    (kk : ∀ (u : Nat → Mx) (v : Mx) (H : Heap) (locs : List Loc), LW D κ ρ ν A a u v s H locs → ∀ (ls : Array Slot), lv_has ls 4 [(0, .ref b), (1, .ref (A 5 0)), (2, .ref (a 0)), (3, .int (nI i))] → K u v → W p l e room_1 s m #[Value.ref b] below meth c H locs 55 5862 Q (F0 m 1383 ls [])) : W p l e room_1 s m #[Value.ref b] below meth c H locs 55 5862 Q (F0 m 546 ls []) := by
  obtain ⟨hx, hb, hml, hown, hts, hr, hlk, hE⟩ := id C0.1
  refine lv_aload_n hx hb dL_law_546 rfl (lv_at hl 1 rfl) ?_
  refine lv_aload_n hx hb dL_law_547 rfl (lv_at hl 0 rfl) ?_
  refine lv_iload_n hx hb dL_law_548 rfl (lv_at hl 3 rfl) ?_
  refine lv_iconst (v := 1) hx hb dL_law_549 (by decide) ?_
  refine lv_iadd hx hb dL_law_550 ?_
  refine sldJ C0 hW 1 rfl (by omega) dL_law_551 ?_
  refine kWi (kV C0.1 (mX4_now l D κ A C0.2.2.2.1 h) (qX4_now hts (tw_370 hts) ⟨(Nat.le_of_ble_eq_true rfl), (Nat.le_of_ble_eq_true rfl)⟩) (va_recv hE.1 hW.1.c5 (ci := 4) (q0 := 0) rfl rfl) (rest := []) hW.1 rfl hl.1 rfl (Nat.le_of_ble_eq_true rfl) dL_law_552 ⟨(Nat.le_of_ble_eq_true rfl), (Nat.le_of_ble_eq_true rfl)⟩) hW.2.2.2 C0.2.2.2.2.2.1 (fun r0 u0 H1 locs1 h hB hk hS1 => ?_)
  have hW := LW.toX C0 hW hB hk hS1
  refine lv_aload_n hx hb dL_law_555 rfl (lv_at hl 2 rfl) ?_
  refine lv_aload_n hx hb dL_law_556 rfl (lv_at hl 0 rfl) ?_
  refine lv_iload_n hx hb dL_law_557 rfl (lv_at hl 3 rfl) ?_
  refine lv_iconst (v := 1) hx hb dL_law_558 (by decide) ?_
  refine lv_iadd hx hb dL_law_559 ?_
  refine sldJ C0 hW 1 rfl (by omega) dL_law_560 ?_
  refine kWi (kV C0.1 (mX5_now l D κ ρ a C0.2.2.2.2.1 h) (qX5_now hts (tw_960 hts) ⟨(Nat.le_of_ble_eq_true rfl), (Nat.le_of_ble_eq_true rfl)⟩) (va_recv hE.1 hW.2.1 (ci := 5) (q0 := 0) rfl rfl) (rest := [.int r0]) hW.2.1 rfl hl.1 rfl (Nat.le_of_ble_eq_true rfl) dL_law_561 ⟨(Nat.le_of_ble_eq_true rfl), (Nat.le_of_ble_eq_true rfl)⟩) hW.2.2.2 (fun q ⟨j, hj, e9⟩ => by rw [e9]; exact C0.2.2.2.2.2.2.1 j hj) (fun r1 u1 H1 locs1 h hB hk hS1 => ?_)
  have hW := LW.toM C0 hW hB hk hS1
  refine lv_icmp_eq (tgt := 1383) hx hb dL_law_564 (by decide) (fun _ => ?_) (fun c9 => absurd h.1 c9)
  exact kk _ _ _ _ hW ls hl h.2
set_option maxHeartbeats 4000000 in
set_option maxRecDepth 100000 in
theorem caseL_11 {p : Program} {l : Launch} {e : Env} {s : State} {m : MethodId} {below : List Frame} {meth : Method} {c : Code} {D : va_G} {κ : Nat → ClassId} {ρ ν a : Nat → Nat} {A : Nat → Nat → Nat} {b L i : Nat} {xs : Nat → Int32} {Q : State → Prop} {S : Nat → Mx} {μ : Mx} {K : (Nat → Mx) → Mx → Prop} (C0 : LC D κ A a b L xs p s m meth c) (hi : i + 6 ≤ L) {H : Heap} {locs : List Loc} (hW : LW D κ ρ ν A a S μ s H locs) (ls : Array Slot) (hl : lv_has ls 4 [(0, .ref b), (1, .ref (A 5 0)), (2, .ref (a 0)), (3, .int (nI i))])
    (h : pX4_ahead S (xs (i + 1)) (xs (i + 2)) (xs (i + 3)) (fun r0 u0 => pX5_ahead μ (xs (i + 1)) (xs (i + 2)) (xs (i + 3)) (fun r1 u1 => r0 = r1 ∧ K u0 u1)))
    (kk : ∀ (u : Nat → Mx) (v : Mx) (H : Heap) (locs : List Loc), LW D κ ρ ν A a u v s H locs → ∀ (ls : Array Slot), lv_has ls 4 [(0, .ref b), (1, .ref (A 5 0)), (2, .ref (a 0)), (3, .int (nI i))] → K u v → W p l e room_1 s m #[Value.ref b] below meth c H locs 55 5862 Q (F0 m 1383 ls [])) : W p l e room_1 s m #[Value.ref b] below meth c H locs 55 5862 Q (F0 m 569 ls []) := by
  obtain ⟨hx, hb, hml, hown, hts, hr, hlk, hE⟩ := id C0.1
  refine lv_aload_n hx hb dL_law_569 rfl (lv_at hl 1 rfl) ?_
  refine lv_aload_n hx hb dL_law_570 rfl (lv_at hl 0 rfl) ?_
  refine lv_iload_n hx hb dL_law_571 rfl (lv_at hl 3 rfl) ?_
  refine lv_iconst (v := 1) hx hb dL_law_572 (by decide) ?_
  refine lv_iadd hx hb dL_law_573 ?_
  refine sldJ C0 hW 1 rfl (by omega) dL_law_574 ?_
  refine lv_aload_n hx hb dL_law_575 rfl (lv_at hl 0 rfl) ?_
  refine lv_iload_n hx hb dL_law_576 rfl (lv_at hl 3 rfl) ?_
  refine lv_iconst (v := 2) hx hb dL_law_577 (by decide) ?_
  refine lv_iadd hx hb dL_law_578 ?_
  refine sldJ C0 hW 2 rfl (by omega) dL_law_579 ?_
  refine lv_aload_n hx hb dL_law_580 rfl (lv_at hl 0 rfl) ?_
  refine lv_iload_n hx hb dL_law_581 rfl (lv_at hl 3 rfl) ?_
  refine lv_iconst (v := 3) hx hb dL_law_582 (by decide) ?_
  refine lv_iadd hx hb dL_law_583 ?_
  refine sldJ C0 hW 3 rfl (by omega) dL_law_584 ?_
  refine kWi (kV C0.1 (mX4_ahead l D κ A C0.2.2.2.1 h) (qX4_ahead hts (tw_431 hts) ⟨(Nat.le_of_ble_eq_true rfl), (Nat.le_of_ble_eq_true rfl)⟩) (va_recv hE.1 hW.1.c5 (ci := 4) (q0 := 0) rfl rfl) (rest := []) hW.1 rfl hl.1 rfl (Nat.le_of_ble_eq_true rfl) dL_law_585 ⟨(Nat.le_of_ble_eq_true rfl), (Nat.le_of_ble_eq_true rfl)⟩) hW.2.2.2 C0.2.2.2.2.2.1 (fun r0 u0 H1 locs1 h hB hk hS1 => ?_)
  have hW := LW.toX C0 hW hB hk hS1
  refine lv_aload_n hx hb dL_law_588 rfl (lv_at hl 2 rfl) ?_
  refine lv_aload_n hx hb dL_law_589 rfl (lv_at hl 0 rfl) ?_
  refine lv_iload_n hx hb dL_law_590 rfl (lv_at hl 3 rfl) ?_
  refine lv_iconst (v := 1) hx hb dL_law_591 (by decide) ?_
  refine lv_iadd hx hb dL_law_592 ?_
  refine sldJ C0 hW 1 rfl (by omega) dL_law_593 ?_
  refine lv_aload_n hx hb dL_law_594 rfl (lv_at hl 0 rfl) ?_
  refine lv_iload_n hx hb dL_law_595 rfl (lv_at hl 3 rfl) ?_
  refine lv_iconst (v := 2) hx hb dL_law_596 (by decide) ?_
  refine lv_iadd hx hb dL_law_597 ?_
  refine sldJ C0 hW 2 rfl (by omega) dL_law_598 ?_
  refine lv_aload_n hx hb dL_law_599 rfl (lv_at hl 0 rfl) ?_
  refine lv_iload_n hx hb dL_law_600 rfl (lv_at hl 3 rfl) ?_
  refine lv_iconst (v := 3) hx hb dL_law_601 (by decide) ?_
  refine lv_iadd hx hb dL_law_602 ?_
  refine sldJ C0 hW 3 rfl (by omega) dL_law_603 ?_
  refine kWi (kV C0.1 (mX5_ahead l D κ ρ a C0.2.2.2.2.1 h) (qX5_ahead hts (tw_1010 hts) ⟨(Nat.le_of_ble_eq_true rfl), (Nat.le_of_ble_eq_true rfl)⟩) (va_recv hE.1 hW.2.1 (ci := 5) (q0 := 0) rfl rfl) (rest := [.int r0]) hW.2.1 rfl hl.1 rfl (Nat.le_of_ble_eq_true rfl) dL_law_604 ⟨(Nat.le_of_ble_eq_true rfl), (Nat.le_of_ble_eq_true rfl)⟩) hW.2.2.2 (fun q ⟨j, hj, e9⟩ => by rw [e9]; exact C0.2.2.2.2.2.2.1 j hj) (fun r1 u1 H1 locs1 h hB hk hS1 => ?_)
  have hW := LW.toM C0 hW hB hk hS1
  refine lv_icmp_eq (tgt := 1383) hx hb dL_law_607 (by decide) (fun _ => ?_) (fun c9 => absurd h.1 c9)
  exact kk _ _ _ _ hW ls hl h.2
set_option maxHeartbeats 4000000 in
set_option maxRecDepth 100000 in
theorem caseL_12 {p : Program} {l : Launch} {e : Env} {s : State} {m : MethodId} {below : List Frame} {meth : Method} {c : Code} {D : va_G} {κ : Nat → ClassId} {ρ ν a : Nat → Nat} {A : Nat → Nat → Nat} {b L i : Nat} {xs : Nat → Int32} {Q : State → Prop} {S : Nat → Mx} {μ : Mx} {K : (Nat → Mx) → Mx → Prop} (C0 : LC D κ A a b L xs p s m meth c) (hi : i + 6 ≤ L) {H : Heap} {locs : List Loc} (hW : LW D κ ρ ν A a S μ s H locs) (ls : Array Slot) (hl : lv_has ls 4 [(0, .ref b), (1, .ref (A 5 0)), (2, .ref (a 0)), (3, .int (nI i))])
    (h : pX4_sum S (xs (i + 1)) (fun r0 u0 => pX5_sum μ (xs (i + 1)) (fun r1 u1 => r0 = r1 ∧ K u0 u1)))
    (kk : ∀ (u : Nat → Mx) (v : Mx) (H : Heap) (locs : List Loc), LW D κ ρ ν A a u v s H locs → ∀ (ls : Array Slot), lv_has ls 4 [(0, .ref b), (1, .ref (A 5 0)), (2, .ref (a 0)), (3, .int (nI i))] → K u v → W p l e room_1 s m #[Value.ref b] below meth c H locs 55 5862 Q (F0 m 1383 ls [])) : W p l e room_1 s m #[Value.ref b] below meth c H locs 55 5862 Q (F0 m 612 ls []) := by
  obtain ⟨hx, hb, hml, hown, hts, hr, hlk, hE⟩ := id C0.1
  refine lv_aload_n hx hb dL_law_612 rfl (lv_at hl 1 rfl) ?_
  refine lv_aload_n hx hb dL_law_613 rfl (lv_at hl 0 rfl) ?_
  refine lv_iload_n hx hb dL_law_614 rfl (lv_at hl 3 rfl) ?_
  refine lv_iconst (v := 1) hx hb dL_law_615 (by decide) ?_
  refine lv_iadd hx hb dL_law_616 ?_
  refine sldJ C0 hW 1 rfl (by omega) dL_law_617 ?_
  refine kWi (kV C0.1 (mX4_sum l D κ A C0.2.2.2.1 h) (qX4_sum hts (tw_442 hts) ⟨(Nat.le_of_ble_eq_true rfl), (Nat.le_of_ble_eq_true rfl)⟩) (va_recv hE.1 hW.1.c5 (ci := 4) (q0 := 0) rfl rfl) (rest := []) hW.1 rfl hl.1 rfl (Nat.le_of_ble_eq_true rfl) dL_law_618 ⟨(Nat.le_of_ble_eq_true rfl), (Nat.le_of_ble_eq_true rfl)⟩) hW.2.2.2 C0.2.2.2.2.2.1 (fun r0 u0 H1 locs1 h hB hk hS1 => ?_)
  have hW := LW.toX C0 hW hB hk hS1
  refine lv_aload_n hx hb dL_law_621 rfl (lv_at hl 2 rfl) ?_
  refine lv_aload_n hx hb dL_law_622 rfl (lv_at hl 0 rfl) ?_
  refine lv_iload_n hx hb dL_law_623 rfl (lv_at hl 3 rfl) ?_
  refine lv_iconst (v := 1) hx hb dL_law_624 (by decide) ?_
  refine lv_iadd hx hb dL_law_625 ?_
  refine sldJ C0 hW 1 rfl (by omega) dL_law_626 ?_
  refine kWi (kV C0.1 (mX5_sum l D κ ρ a C0.2.2.2.2.1 h) (qX5_sum hts (tw_1021 hts) ⟨(Nat.le_of_ble_eq_true rfl), (Nat.le_of_ble_eq_true rfl)⟩) (va_recv hE.1 hW.2.1 (ci := 5) (q0 := 0) rfl rfl) (rest := [.int r0]) hW.2.1 rfl hl.1 rfl (Nat.le_of_ble_eq_true rfl) dL_law_627 ⟨(Nat.le_of_ble_eq_true rfl), (Nat.le_of_ble_eq_true rfl)⟩) hW.2.2.2 (fun q ⟨j, hj, e9⟩ => by rw [e9]; exact C0.2.2.2.2.2.2.1 j hj) (fun r1 u1 H1 locs1 h hB hk hS1 => ?_)
  have hW := LW.toM C0 hW hB hk hS1
  refine lv_icmp_eq (tgt := 1383) hx hb dL_law_630 (by decide) (fun _ => ?_) (fun c9 => absurd h.1 c9)
  exact kk _ _ _ _ hW ls hl h.2
set_option maxHeartbeats 4000000 in
set_option maxRecDepth 100000 in
theorem caseL_13 {p : Program} {l : Launch} {e : Env} {s : State} {m : MethodId} {below : List Frame} {meth : Method} {c : Code} {D : va_G} {κ : Nat → ClassId} {ρ ν a : Nat → Nat} {A : Nat → Nat → Nat} {b L i : Nat} {xs : Nat → Int32} {Q : State → Prop} {S : Nat → Mx} {μ : Mx} {K : (Nat → Mx) → Mx → Prop} (C0 : LC D κ A a b L xs p s m meth c) (hi : i + 6 ≤ L) {H : Heap} {locs : List Loc} (hW : LW D κ ρ ν A a S μ s H locs) (ls : Array Slot) (hl : lv_has ls 4 [(0, .ref b), (1, .ref (A 5 0)), (2, .ref (a 0)), (3, .int (nI i))])
    (h : pX4_when S (xs (i + 1)) (fun r0 u0 => pX5_when μ (xs (i + 1)) (fun r1 u1 => r0 = r1 ∧ K u0 u1)))
    (kk : ∀ (u : Nat → Mx) (v : Mx) (H : Heap) (locs : List Loc), LW D κ ρ ν A a u v s H locs → ∀ (ls : Array Slot), lv_has ls 4 [(0, .ref b), (1, .ref (A 5 0)), (2, .ref (a 0)), (3, .int (nI i))] → K u v → W p l e room_1 s m #[Value.ref b] below meth c H locs 55 5862 Q (F0 m 1383 ls [])) : W p l e room_1 s m #[Value.ref b] below meth c H locs 55 5862 Q (F0 m 635 ls []) := by
  obtain ⟨hx, hb, hml, hown, hts, hr, hlk, hE⟩ := id C0.1
  refine lv_aload_n hx hb dL_law_635 rfl (lv_at hl 1 rfl) ?_
  refine lv_aload_n hx hb dL_law_636 rfl (lv_at hl 0 rfl) ?_
  refine lv_iload_n hx hb dL_law_637 rfl (lv_at hl 3 rfl) ?_
  refine lv_iconst (v := 1) hx hb dL_law_638 (by decide) ?_
  refine lv_iadd hx hb dL_law_639 ?_
  refine sldJ C0 hW 1 rfl (by omega) dL_law_640 ?_
  refine kWi (kV C0.1 (mX4_when l D κ A C0.2.2.2.1 h) (qX4_when hts (tw_446 hts) ⟨(Nat.le_of_ble_eq_true rfl), (Nat.le_of_ble_eq_true rfl)⟩) (va_recv hE.1 hW.1.c5 (ci := 4) (q0 := 0) rfl rfl) (rest := []) hW.1 rfl hl.1 rfl (Nat.le_of_ble_eq_true rfl) dL_law_641 ⟨(Nat.le_of_ble_eq_true rfl), (Nat.le_of_ble_eq_true rfl)⟩) hW.2.2.2 C0.2.2.2.2.2.1 (fun r0 u0 H1 locs1 h hB hk hS1 => ?_)
  have hW := LW.toX C0 hW hB hk hS1
  refine lv_aload_n hx hb dL_law_644 rfl (lv_at hl 2 rfl) ?_
  refine lv_aload_n hx hb dL_law_645 rfl (lv_at hl 0 rfl) ?_
  refine lv_iload_n hx hb dL_law_646 rfl (lv_at hl 3 rfl) ?_
  refine lv_iconst (v := 1) hx hb dL_law_647 (by decide) ?_
  refine lv_iadd hx hb dL_law_648 ?_
  refine sldJ C0 hW 1 rfl (by omega) dL_law_649 ?_
  refine kWi (kV C0.1 (mX5_when l D κ ρ a C0.2.2.2.2.1 h) (qX5_when hts (tw_1025 hts) ⟨(Nat.le_of_ble_eq_true rfl), (Nat.le_of_ble_eq_true rfl)⟩) (va_recv hE.1 hW.2.1 (ci := 5) (q0 := 0) rfl rfl) (rest := [.int r0]) hW.2.1 rfl hl.1 rfl (Nat.le_of_ble_eq_true rfl) dL_law_650 ⟨(Nat.le_of_ble_eq_true rfl), (Nat.le_of_ble_eq_true rfl)⟩) hW.2.2.2 (fun q ⟨j, hj, e9⟩ => by rw [e9]; exact C0.2.2.2.2.2.2.1 j hj) (fun r1 u1 H1 locs1 h hB hk hS1 => ?_)
  have hW := LW.toM C0 hW hB hk hS1
  refine lv_icmp_eq (tgt := 1383) hx hb dL_law_653 (by decide) (fun _ => ?_) (fun c9 => absurd h.1 c9)
  exact kk _ _ _ _ hW ls hl h.2
set_option maxHeartbeats 4000000 in
set_option maxRecDepth 100000 in
theorem caseL_14 {p : Program} {l : Launch} {e : Env} {s : State} {m : MethodId} {below : List Frame} {meth : Method} {c : Code} {D : va_G} {κ : Nat → ClassId} {ρ ν a : Nat → Nat} {A : Nat → Nat → Nat} {b L i : Nat} {xs : Nat → Int32} {Q : State → Prop} {S : Nat → Mx} {μ : Mx} {K : (Nat → Mx) → Mx → Prop} (C0 : LC D κ A a b L xs p s m meth c) (hi : i + 6 ≤ L) {H : Heap} {locs : List Loc} (hW : LW D κ ρ ν A a S μ s H locs) (ls : Array Slot) (hl : lv_has ls 4 [(0, .ref b), (1, .ref (A 5 0)), (2, .ref (a 0)), (3, .int (nI i))])
    (h : pX4_comes S (xs (i + 1)) (xs (i + 2)) (fun r0 u0 => pX5_comes μ (xs (i + 1)) (xs (i + 2)) (fun r1 u1 => r0 = r1 ∧ K u0 u1)))
    (kk : ∀ (u : Nat → Mx) (v : Mx) (H : Heap) (locs : List Loc), LW D κ ρ ν A a u v s H locs → ∀ (ls : Array Slot), lv_has ls 4 [(0, .ref b), (1, .ref (A 5 0)), (2, .ref (a 0)), (3, .int (nI i))] → K u v → W p l e room_1 s m #[Value.ref b] below meth c H locs 55 5862 Q (F0 m 1383 ls [])) : W p l e room_1 s m #[Value.ref b] below meth c H locs 55 5862 Q (F0 m 658 ls []) := by
  obtain ⟨hx, hb, hml, hown, hts, hr, hlk, hE⟩ := id C0.1
  refine lv_aload_n hx hb dL_law_658 rfl (lv_at hl 1 rfl) ?_
  refine lv_aload_n hx hb dL_law_659 rfl (lv_at hl 0 rfl) ?_
  refine lv_iload_n hx hb dL_law_660 rfl (lv_at hl 3 rfl) ?_
  refine lv_iconst (v := 1) hx hb dL_law_661 (by decide) ?_
  refine lv_iadd hx hb dL_law_662 ?_
  refine sldJ C0 hW 1 rfl (by omega) dL_law_663 ?_
  refine lv_aload_n hx hb dL_law_664 rfl (lv_at hl 0 rfl) ?_
  refine lv_iload_n hx hb dL_law_665 rfl (lv_at hl 3 rfl) ?_
  refine lv_iconst (v := 2) hx hb dL_law_666 (by decide) ?_
  refine lv_iadd hx hb dL_law_667 ?_
  refine sldJ C0 hW 2 rfl (by omega) dL_law_668 ?_
  refine kWi (kV C0.1 (mX4_comes l D κ A C0.2.2.2.1 h) (qX4_comes hts (tw_454 hts) ⟨(Nat.le_of_ble_eq_true rfl), (Nat.le_of_ble_eq_true rfl)⟩) (va_recv hE.1 hW.1.c5 (ci := 4) (q0 := 0) rfl rfl) (rest := []) hW.1 rfl hl.1 rfl (Nat.le_of_ble_eq_true rfl) dL_law_669 ⟨(Nat.le_of_ble_eq_true rfl), (Nat.le_of_ble_eq_true rfl)⟩) hW.2.2.2 C0.2.2.2.2.2.1 (fun r0 u0 H1 locs1 h hB hk hS1 => ?_)
  have hW := LW.toX C0 hW hB hk hS1
  refine lv_aload_n hx hb dL_law_672 rfl (lv_at hl 2 rfl) ?_
  refine lv_aload_n hx hb dL_law_673 rfl (lv_at hl 0 rfl) ?_
  refine lv_iload_n hx hb dL_law_674 rfl (lv_at hl 3 rfl) ?_
  refine lv_iconst (v := 1) hx hb dL_law_675 (by decide) ?_
  refine lv_iadd hx hb dL_law_676 ?_
  refine sldJ C0 hW 1 rfl (by omega) dL_law_677 ?_
  refine lv_aload_n hx hb dL_law_678 rfl (lv_at hl 0 rfl) ?_
  refine lv_iload_n hx hb dL_law_679 rfl (lv_at hl 3 rfl) ?_
  refine lv_iconst (v := 2) hx hb dL_law_680 (by decide) ?_
  refine lv_iadd hx hb dL_law_681 ?_
  refine sldJ C0 hW 2 rfl (by omega) dL_law_682 ?_
  refine kWi (kV C0.1 (mX5_comes l D κ ρ a C0.2.2.2.2.1 h) (qX5_comes hts (tw_1034 hts) ⟨(Nat.le_of_ble_eq_true rfl), (Nat.le_of_ble_eq_true rfl)⟩) (va_recv hE.1 hW.2.1 (ci := 5) (q0 := 0) rfl rfl) (rest := [.int r0]) hW.2.1 rfl hl.1 rfl (Nat.le_of_ble_eq_true rfl) dL_law_683 ⟨(Nat.le_of_ble_eq_true rfl), (Nat.le_of_ble_eq_true rfl)⟩) hW.2.2.2 (fun q ⟨j, hj, e9⟩ => by rw [e9]; exact C0.2.2.2.2.2.2.1 j hj) (fun r1 u1 H1 locs1 h hB hk hS1 => ?_)
  have hW := LW.toM C0 hW hB hk hS1
  refine lv_icmp_eq (tgt := 1383) hx hb dL_law_686 (by decide) (fun _ => ?_) (fun c9 => absurd h.1 c9)
  exact kk _ _ _ _ hW ls hl h.2
set_option maxHeartbeats 4000000 in
set_option maxRecDepth 100000 in
theorem caseL_15 {p : Program} {l : Launch} {e : Env} {s : State} {m : MethodId} {below : List Frame} {meth : Method} {c : Code} {D : va_G} {κ : Nat → ClassId} {ρ ν a : Nat → Nat} {A : Nat → Nat → Nat} {b L i : Nat} {xs : Nat → Int32} {Q : State → Prop} {S : Nat → Mx} {μ : Mx} {K : (Nat → Mx) → Mx → Prop} (C0 : LC D κ A a b L xs p s m meth c) (hi : i + 6 ≤ L) {H : Heap} {locs : List Loc} (hW : LW D κ ρ ν A a S μ s H locs) (ls : Array Slot) (hl : lv_has ls 4 [(0, .ref b), (1, .ref (A 5 0)), (2, .ref (a 0)), (3, .int (nI i))])
    (h : pX4_granted S (xs (i + 1)) (fun r0 u0 => pX5_granted μ (xs (i + 1)) (fun r1 u1 => r0 = r1 ∧ K u0 u1)))
    (kk : ∀ (u : Nat → Mx) (v : Mx) (H : Heap) (locs : List Loc), LW D κ ρ ν A a u v s H locs → ∀ (ls : Array Slot), lv_has ls 4 [(0, .ref b), (1, .ref (A 5 0)), (2, .ref (a 0)), (3, .int (nI i))] → K u v → W p l e room_1 s m #[Value.ref b] below meth c H locs 55 5862 Q (F0 m 1383 ls [])) : W p l e room_1 s m #[Value.ref b] below meth c H locs 55 5862 Q (F0 m 691 ls []) := by
  obtain ⟨hx, hb, hml, hown, hts, hr, hlk, hE⟩ := id C0.1
  refine lv_aload_n hx hb dL_law_691 rfl (lv_at hl 1 rfl) ?_
  refine lv_aload_n hx hb dL_law_692 rfl (lv_at hl 0 rfl) ?_
  refine lv_iload_n hx hb dL_law_693 rfl (lv_at hl 3 rfl) ?_
  refine lv_iconst (v := 1) hx hb dL_law_694 (by decide) ?_
  refine lv_iadd hx hb dL_law_695 ?_
  refine sldJ C0 hW 1 rfl (by omega) dL_law_696 ?_
  refine kWi (kV C0.1 (mX4_granted l D κ A C0.2.2.2.1 h) (qX4_granted hts (tw_459 hts) ⟨(Nat.le_of_ble_eq_true rfl), (Nat.le_of_ble_eq_true rfl)⟩) (va_recv hE.1 hW.1.c5 (ci := 4) (q0 := 0) rfl rfl) (rest := []) hW.1 rfl hl.1 rfl (Nat.le_of_ble_eq_true rfl) dL_law_697 ⟨(Nat.le_of_ble_eq_true rfl), (Nat.le_of_ble_eq_true rfl)⟩) hW.2.2.2 C0.2.2.2.2.2.1 (fun r0 u0 H1 locs1 h hB hk hS1 => ?_)
  have hW := LW.toX C0 hW hB hk hS1
  refine lv_aload_n hx hb dL_law_700 rfl (lv_at hl 2 rfl) ?_
  refine lv_aload_n hx hb dL_law_701 rfl (lv_at hl 0 rfl) ?_
  refine lv_iload_n hx hb dL_law_702 rfl (lv_at hl 3 rfl) ?_
  refine lv_iconst (v := 1) hx hb dL_law_703 (by decide) ?_
  refine lv_iadd hx hb dL_law_704 ?_
  refine sldJ C0 hW 1 rfl (by omega) dL_law_705 ?_
  refine kWi (kV C0.1 (mX5_granted l D κ ρ a C0.2.2.2.2.1 h) (qX5_granted hts (tw_1038 hts) ⟨(Nat.le_of_ble_eq_true rfl), (Nat.le_of_ble_eq_true rfl)⟩) (va_recv hE.1 hW.2.1 (ci := 5) (q0 := 0) rfl rfl) (rest := [.int r0]) hW.2.1 rfl hl.1 rfl (Nat.le_of_ble_eq_true rfl) dL_law_706 ⟨(Nat.le_of_ble_eq_true rfl), (Nat.le_of_ble_eq_true rfl)⟩) hW.2.2.2 (fun q ⟨j, hj, e9⟩ => by rw [e9]; exact C0.2.2.2.2.2.2.1 j hj) (fun r1 u1 H1 locs1 h hB hk hS1 => ?_)
  have hW := LW.toM C0 hW hB hk hS1
  refine lv_icmp_eq (tgt := 1383) hx hb dL_law_709 (by decide) (fun _ => ?_) (fun c9 => absurd h.1 c9)
  exact kk _ _ _ _ hW ls hl h.2
set_option maxHeartbeats 4000000 in
set_option maxRecDepth 100000 in
theorem caseL_16 {p : Program} {l : Launch} {e : Env} {s : State} {m : MethodId} {below : List Frame} {meth : Method} {c : Code} {D : va_G} {κ : Nat → ClassId} {ρ ν a : Nat → Nat} {A : Nat → Nat → Nat} {b L i : Nat} {xs : Nat → Int32} {Q : State → Prop} {S : Nat → Mx} {μ : Mx} {K : (Nat → Mx) → Mx → Prop} (C0 : LC D κ A a b L xs p s m meth c) (hi : i + 6 ≤ L) {H : Heap} {locs : List Loc} (hW : LW D κ ρ ν A a S μ s H locs) (ls : Array Slot) (hl : lv_has ls 4 [(0, .ref b), (1, .ref (A 5 0)), (2, .ref (a 0)), (3, .int (nI i))])
    (h : pX4_best S  (fun r0 u0 => pX5_best μ  (fun r1 u1 => r0 = r1 ∧ K u0 u1)))
    (kk : ∀ (u : Nat → Mx) (v : Mx) (H : Heap) (locs : List Loc), LW D κ ρ ν A a u v s H locs → ∀ (ls : Array Slot), lv_has ls 4 [(0, .ref b), (1, .ref (A 5 0)), (2, .ref (a 0)), (3, .int (nI i))] → K u v → W p l e room_1 s m #[Value.ref b] below meth c H locs 55 5862 Q (F0 m 1383 ls [])) : W p l e room_1 s m #[Value.ref b] below meth c H locs 55 5862 Q (F0 m 714 ls []) := by
  obtain ⟨hx, hb, hml, hown, hts, hr, hlk, hE⟩ := id C0.1
  refine lv_aload_n hx hb dL_law_714 rfl (lv_at hl 1 rfl) ?_
  refine kWi (kV C0.1 (mX4_best l D κ A C0.2.2.2.1 h) (qX4_best hts (tw_464 hts) ⟨(Nat.le_of_ble_eq_true rfl), (Nat.le_of_ble_eq_true rfl)⟩) (va_recv hE.1 hW.1.c5 (ci := 4) (q0 := 0) rfl rfl) (rest := []) hW.1 rfl hl.1 rfl (Nat.le_of_ble_eq_true rfl) dL_law_715 ⟨(Nat.le_of_ble_eq_true rfl), (Nat.le_of_ble_eq_true rfl)⟩) hW.2.2.2 C0.2.2.2.2.2.1 (fun r0 u0 H1 locs1 h hB hk hS1 => ?_)
  have hW := LW.toX C0 hW hB hk hS1
  refine lv_aload_n hx hb dL_law_718 rfl (lv_at hl 2 rfl) ?_
  refine kWi (kV C0.1 (mX5_best l D κ ρ a C0.2.2.2.2.1 h) (qX5_best hts (tw_1042 hts) ⟨(Nat.le_of_ble_eq_true rfl), (Nat.le_of_ble_eq_true rfl)⟩) (va_recv hE.1 hW.2.1 (ci := 5) (q0 := 0) rfl rfl) (rest := [.int r0]) hW.2.1 rfl hl.1 rfl (Nat.le_of_ble_eq_true rfl) dL_law_719 ⟨(Nat.le_of_ble_eq_true rfl), (Nat.le_of_ble_eq_true rfl)⟩) hW.2.2.2 (fun q ⟨j, hj, e9⟩ => by rw [e9]; exact C0.2.2.2.2.2.2.1 j hj) (fun r1 u1 H1 locs1 h hB hk hS1 => ?_)
  have hW := LW.toM C0 hW hB hk hS1
  refine lv_icmp_eq (tgt := 1383) hx hb dL_law_722 (by decide) (fun _ => ?_) (fun c9 => absurd h.1 c9)
  exact kk _ _ _ _ hW ls hl h.2
set_option maxHeartbeats 4000000 in
set_option maxRecDepth 100000 in
theorem caseL_17 {p : Program} {l : Launch} {e : Env} {s : State} {m : MethodId} {below : List Frame} {meth : Method} {c : Code} {D : va_G} {κ : Nat → ClassId} {ρ ν a : Nat → Nat} {A : Nat → Nat → Nat} {b L i : Nat} {xs : Nat → Int32} {Q : State → Prop} {S : Nat → Mx} {μ : Mx} {K : (Nat → Mx) → Mx → Prop} (C0 : LC D κ A a b L xs p s m meth c) (hi : i + 6 ≤ L) {H : Heap} {locs : List Loc} (hW : LW D κ ρ ν A a S μ s H locs) (ls : Array Slot) (hl : lv_has ls 4 [(0, .ref b), (1, .ref (A 5 0)), (2, .ref (a 0)), (3, .int (nI i))])
    (h : pX4_bestAt S (xs (i + 1)) (fun r0 u0 => pX5_bestAt μ (xs (i + 1)) (fun r1 u1 => r0 = r1 ∧ K u0 u1)))
    (kk : ∀ (u : Nat → Mx) (v : Mx) (H : Heap) (locs : List Loc), LW D κ ρ ν A a u v s H locs → ∀ (ls : Array Slot), lv_has ls 4 [(0, .ref b), (1, .ref (A 5 0)), (2, .ref (a 0)), (3, .int (nI i))] → K u v → W p l e room_1 s m #[Value.ref b] below meth c H locs 55 5862 Q (F0 m 1383 ls [])) : W p l e room_1 s m #[Value.ref b] below meth c H locs 55 5862 Q (F0 m 727 ls []) := by
  obtain ⟨hx, hb, hml, hown, hts, hr, hlk, hE⟩ := id C0.1
  refine lv_aload_n hx hb dL_law_727 rfl (lv_at hl 1 rfl) ?_
  refine lv_aload_n hx hb dL_law_728 rfl (lv_at hl 0 rfl) ?_
  refine lv_iload_n hx hb dL_law_729 rfl (lv_at hl 3 rfl) ?_
  refine lv_iconst (v := 1) hx hb dL_law_730 (by decide) ?_
  refine lv_iadd hx hb dL_law_731 ?_
  refine sldJ C0 hW 1 rfl (by omega) dL_law_732 ?_
  refine kWi (kV C0.1 (mX4_bestAt l D κ A C0.2.2.2.1 h) (qX4_bestAt hts (tw_468 hts) ⟨(Nat.le_of_ble_eq_true rfl), (Nat.le_of_ble_eq_true rfl)⟩) (va_recv hE.1 hW.1.c5 (ci := 4) (q0 := 0) rfl rfl) (rest := []) hW.1 rfl hl.1 rfl (Nat.le_of_ble_eq_true rfl) dL_law_733 ⟨(Nat.le_of_ble_eq_true rfl), (Nat.le_of_ble_eq_true rfl)⟩) hW.2.2.2 C0.2.2.2.2.2.1 (fun r0 u0 H1 locs1 h hB hk hS1 => ?_)
  have hW := LW.toX C0 hW hB hk hS1
  refine lv_aload_n hx hb dL_law_736 rfl (lv_at hl 2 rfl) ?_
  refine lv_aload_n hx hb dL_law_737 rfl (lv_at hl 0 rfl) ?_
  refine lv_iload_n hx hb dL_law_738 rfl (lv_at hl 3 rfl) ?_
  refine lv_iconst (v := 1) hx hb dL_law_739 (by decide) ?_
  refine lv_iadd hx hb dL_law_740 ?_
  refine sldJ C0 hW 1 rfl (by omega) dL_law_741 ?_
  refine kWi (kV C0.1 (mX5_bestAt l D κ ρ a C0.2.2.2.2.1 h) (qX5_bestAt hts (tw_1046 hts) ⟨(Nat.le_of_ble_eq_true rfl), (Nat.le_of_ble_eq_true rfl)⟩) (va_recv hE.1 hW.2.1 (ci := 5) (q0 := 0) rfl rfl) (rest := [.int r0]) hW.2.1 rfl hl.1 rfl (Nat.le_of_ble_eq_true rfl) dL_law_742 ⟨(Nat.le_of_ble_eq_true rfl), (Nat.le_of_ble_eq_true rfl)⟩) hW.2.2.2 (fun q ⟨j, hj, e9⟩ => by rw [e9]; exact C0.2.2.2.2.2.2.1 j hj) (fun r1 u1 H1 locs1 h hB hk hS1 => ?_)
  have hW := LW.toM C0 hW hB hk hS1
  refine lv_icmp_eq (tgt := 1383) hx hb dL_law_745 (by decide) (fun _ => ?_) (fun c9 => absurd h.1 c9)
  exact kk _ _ _ _ hW ls hl h.2
set_option maxHeartbeats 4000000 in
set_option maxRecDepth 100000 in
theorem caseL_18 {p : Program} {l : Launch} {e : Env} {s : State} {m : MethodId} {below : List Frame} {meth : Method} {c : Code} {D : va_G} {κ : Nat → ClassId} {ρ ν a : Nat → Nat} {A : Nat → Nat → Nat} {b L i : Nat} {xs : Nat → Int32} {Q : State → Prop} {S : Nat → Mx} {μ : Mx} {K : (Nat → Mx) → Mx → Prop} (C0 : LC D κ A a b L xs p s m meth c) (hi : i + 6 ≤ L) {H : Heap} {locs : List Loc} (hW : LW D κ ρ ν A a S μ s H locs) (ls : Array Slot) (hl : lv_has ls 4 [(0, .ref b), (1, .ref (A 5 0)), (2, .ref (a 0)), (3, .int (nI i))])
    (h : pX4_settle S  (fun r0 u0 => pX5_settle μ  (fun r1 u1 => r0 = r1 ∧ K u0 u1)))
    (kk : ∀ (u : Nat → Mx) (v : Mx) (H : Heap) (locs : List Loc), LW D κ ρ ν A a u v s H locs → ∀ (ls : Array Slot), lv_has ls 4 [(0, .ref b), (1, .ref (A 5 0)), (2, .ref (a 0)), (3, .int (nI i))] → K u v → W p l e room_1 s m #[Value.ref b] below meth c H locs 55 5862 Q (F0 m 1383 ls [])) : W p l e room_1 s m #[Value.ref b] below meth c H locs 55 5862 Q (F0 m 750 ls []) := by
  obtain ⟨hx, hb, hml, hown, hts, hr, hlk, hE⟩ := id C0.1
  refine lv_aload_n hx hb dL_law_750 rfl (lv_at hl 1 rfl) ?_
  refine kWi (kV C0.1 (mX4_settle l D κ A C0.2.2.2.1 h) (qX4_settle hts (tw_476 hts) ⟨(Nat.le_of_ble_eq_true rfl), (Nat.le_of_ble_eq_true rfl)⟩) (va_recv hE.1 hW.1.c5 (ci := 4) (q0 := 0) rfl rfl) (rest := []) hW.1 rfl hl.1 rfl (Nat.le_of_ble_eq_true rfl) dL_law_751 ⟨(Nat.le_of_ble_eq_true rfl), (Nat.le_of_ble_eq_true rfl)⟩) hW.2.2.2 C0.2.2.2.2.2.1 (fun r0 u0 H1 locs1 h hB hk hS1 => ?_)
  have hW := LW.toX C0 hW hB hk hS1
  refine lv_aload_n hx hb dL_law_754 rfl (lv_at hl 2 rfl) ?_
  refine kWi (kV C0.1 (mX5_settle l D κ ρ a C0.2.2.2.2.1 h) (qX5_settle hts (tw_1050 hts) ⟨(Nat.le_of_ble_eq_true rfl), (Nat.le_of_ble_eq_true rfl)⟩) (va_recv hE.1 hW.2.1 (ci := 5) (q0 := 0) rfl rfl) (rest := [.int r0]) hW.2.1 rfl hl.1 rfl (Nat.le_of_ble_eq_true rfl) dL_law_755 ⟨(Nat.le_of_ble_eq_true rfl), (Nat.le_of_ble_eq_true rfl)⟩) hW.2.2.2 (fun q ⟨j, hj, e9⟩ => by rw [e9]; exact C0.2.2.2.2.2.2.1 j hj) (fun r1 u1 H1 locs1 h hB hk hS1 => ?_)
  have hW := LW.toM C0 hW hB hk hS1
  refine lv_icmp_eq (tgt := 1383) hx hb dL_law_758 (by decide) (fun _ => ?_) (fun c9 => absurd h.1 c9)
  exact kk _ _ _ _ hW ls hl h.2
set_option maxHeartbeats 4000000 in
set_option maxRecDepth 100000 in
theorem caseL_19 {p : Program} {l : Launch} {e : Env} {s : State} {m : MethodId} {below : List Frame} {meth : Method} {c : Code} {D : va_G} {κ : Nat → ClassId} {ρ ν a : Nat → Nat} {A : Nat → Nat → Nat} {b L i : Nat} {xs : Nat → Int32} {Q : State → Prop} {S : Nat → Mx} {μ : Mx} {K : (Nat → Mx) → Mx → Prop} (C0 : LC D κ A a b L xs p s m meth c) (hi : i + 6 ≤ L) {H : Heap} {locs : List Loc} (hW : LW D κ ρ ν A a S μ s H locs) (ls : Array Slot) (hl : lv_has ls 4 [(0, .ref b), (1, .ref (A 5 0)), (2, .ref (a 0)), (3, .int (nI i))])
    (h : pX4_edgeFor S (xs (i + 1)) (fun r0 u0 => pX5_edgeFor μ (xs (i + 1)) (fun r1 u1 => r0 = r1 ∧ K u0 u1)))
    (kk : ∀ (u : Nat → Mx) (v : Mx) (H : Heap) (locs : List Loc), LW D κ ρ ν A a u v s H locs → ∀ (ls : Array Slot), lv_has ls 4 [(0, .ref b), (1, .ref (A 5 0)), (2, .ref (a 0)), (3, .int (nI i))] → K u v → W p l e room_1 s m #[Value.ref b] below meth c H locs 55 5862 Q (F0 m 1383 ls [])) : W p l e room_1 s m #[Value.ref b] below meth c H locs 55 5862 Q (F0 m 763 ls []) := by
  obtain ⟨hx, hb, hml, hown, hts, hr, hlk, hE⟩ := id C0.1
  refine lv_aload_n hx hb dL_law_763 rfl (lv_at hl 1 rfl) ?_
  refine lv_aload_n hx hb dL_law_764 rfl (lv_at hl 0 rfl) ?_
  refine lv_iload_n hx hb dL_law_765 rfl (lv_at hl 3 rfl) ?_
  refine lv_iconst (v := 1) hx hb dL_law_766 (by decide) ?_
  refine lv_iadd hx hb dL_law_767 ?_
  refine sldJ C0 hW 1 rfl (by omega) dL_law_768 ?_
  refine kWi (kV C0.1 (mX4_edgeFor l D κ A C0.2.2.2.1 h) (qX4_edgeFor hts (tw_481 hts) ⟨(Nat.le_of_ble_eq_true rfl), (Nat.le_of_ble_eq_true rfl)⟩) (va_recv hE.1 hW.1.c5 (ci := 4) (q0 := 0) rfl rfl) (rest := []) hW.1 rfl hl.1 rfl (Nat.le_of_ble_eq_true rfl) dL_law_769 ⟨(Nat.le_of_ble_eq_true rfl), (Nat.le_of_ble_eq_true rfl)⟩) hW.2.2.2 C0.2.2.2.2.2.1 (fun r0 u0 H1 locs1 h hB hk hS1 => ?_)
  have hW := LW.toX C0 hW hB hk hS1
  refine lv_aload_n hx hb dL_law_772 rfl (lv_at hl 2 rfl) ?_
  refine lv_aload_n hx hb dL_law_773 rfl (lv_at hl 0 rfl) ?_
  refine lv_iload_n hx hb dL_law_774 rfl (lv_at hl 3 rfl) ?_
  refine lv_iconst (v := 1) hx hb dL_law_775 (by decide) ?_
  refine lv_iadd hx hb dL_law_776 ?_
  refine sldJ C0 hW 1 rfl (by omega) dL_law_777 ?_
  refine kWi (kV C0.1 (mX5_edgeFor l D κ ρ a C0.2.2.2.2.1 h) (qX5_edgeFor hts (tw_1054 hts) ⟨(Nat.le_of_ble_eq_true rfl), (Nat.le_of_ble_eq_true rfl)⟩) (va_recv hE.1 hW.2.1 (ci := 5) (q0 := 0) rfl rfl) (rest := [.int r0]) hW.2.1 rfl hl.1 rfl (Nat.le_of_ble_eq_true rfl) dL_law_778 ⟨(Nat.le_of_ble_eq_true rfl), (Nat.le_of_ble_eq_true rfl)⟩) hW.2.2.2 (fun q ⟨j, hj, e9⟩ => by rw [e9]; exact C0.2.2.2.2.2.2.1 j hj) (fun r1 u1 H1 locs1 h hB hk hS1 => ?_)
  have hW := LW.toM C0 hW hB hk hS1
  refine lv_icmp_eq (tgt := 1383) hx hb dL_law_781 (by decide) (fun _ => ?_) (fun c9 => absurd h.1 c9)
  exact kk _ _ _ _ hW ls hl h.2
set_option maxHeartbeats 4000000 in
set_option maxRecDepth 100000 in
theorem caseL_20 {p : Program} {l : Launch} {e : Env} {s : State} {m : MethodId} {below : List Frame} {meth : Method} {c : Code} {D : va_G} {κ : Nat → ClassId} {ρ ν a : Nat → Nat} {A : Nat → Nat → Nat} {b L i : Nat} {xs : Nat → Int32} {Q : State → Prop} {S : Nat → Mx} {μ : Mx} {K : (Nat → Mx) → Mx → Prop} (C0 : LC D κ A a b L xs p s m meth c) (hi : i + 6 ≤ L) {H : Heap} {locs : List Loc} (hW : LW D κ ρ ν A a S μ s H locs) (ls : Array Slot) (hl : lv_has ls 4 [(0, .ref b), (1, .ref (A 5 0)), (2, .ref (a 0)), (3, .int (nI i))])
    (h : pX4_kindFor S (xs (i + 1)) (fun r0 u0 => pX5_kindFor μ (xs (i + 1)) (fun r1 u1 => r0 = r1 ∧ K u0 u1)))
    (kk : ∀ (u : Nat → Mx) (v : Mx) (H : Heap) (locs : List Loc), LW D κ ρ ν A a u v s H locs → ∀ (ls : Array Slot), lv_has ls 4 [(0, .ref b), (1, .ref (A 5 0)), (2, .ref (a 0)), (3, .int (nI i))] → K u v → W p l e room_1 s m #[Value.ref b] below meth c H locs 55 5862 Q (F0 m 1383 ls [])) : W p l e room_1 s m #[Value.ref b] below meth c H locs 55 5862 Q (F0 m 786 ls []) := by
  obtain ⟨hx, hb, hml, hown, hts, hr, hlk, hE⟩ := id C0.1
  refine lv_aload_n hx hb dL_law_786 rfl (lv_at hl 1 rfl) ?_
  refine lv_aload_n hx hb dL_law_787 rfl (lv_at hl 0 rfl) ?_
  refine lv_iload_n hx hb dL_law_788 rfl (lv_at hl 3 rfl) ?_
  refine lv_iconst (v := 1) hx hb dL_law_789 (by decide) ?_
  refine lv_iadd hx hb dL_law_790 ?_
  refine sldJ C0 hW 1 rfl (by omega) dL_law_791 ?_
  refine kWi (kV C0.1 (mX4_kindFor l D κ A C0.2.2.2.1 h) (qX4_kindFor hts (tw_489 hts) ⟨(Nat.le_of_ble_eq_true rfl), (Nat.le_of_ble_eq_true rfl)⟩) (va_recv hE.1 hW.1.c5 (ci := 4) (q0 := 0) rfl rfl) (rest := []) hW.1 rfl hl.1 rfl (Nat.le_of_ble_eq_true rfl) dL_law_792 ⟨(Nat.le_of_ble_eq_true rfl), (Nat.le_of_ble_eq_true rfl)⟩) hW.2.2.2 C0.2.2.2.2.2.1 (fun r0 u0 H1 locs1 h hB hk hS1 => ?_)
  have hW := LW.toX C0 hW hB hk hS1
  refine lv_aload_n hx hb dL_law_795 rfl (lv_at hl 2 rfl) ?_
  refine lv_aload_n hx hb dL_law_796 rfl (lv_at hl 0 rfl) ?_
  refine lv_iload_n hx hb dL_law_797 rfl (lv_at hl 3 rfl) ?_
  refine lv_iconst (v := 1) hx hb dL_law_798 (by decide) ?_
  refine lv_iadd hx hb dL_law_799 ?_
  refine sldJ C0 hW 1 rfl (by omega) dL_law_800 ?_
  refine kWi (kV C0.1 (mX5_kindFor l D κ ρ a C0.2.2.2.2.1 h) (qX5_kindFor hts (tw_1062 hts) ⟨(Nat.le_of_ble_eq_true rfl), (Nat.le_of_ble_eq_true rfl)⟩) (va_recv hE.1 hW.2.1 (ci := 5) (q0 := 0) rfl rfl) (rest := [.int r0]) hW.2.1 rfl hl.1 rfl (Nat.le_of_ble_eq_true rfl) dL_law_801 ⟨(Nat.le_of_ble_eq_true rfl), (Nat.le_of_ble_eq_true rfl)⟩) hW.2.2.2 (fun q ⟨j, hj, e9⟩ => by rw [e9]; exact C0.2.2.2.2.2.2.1 j hj) (fun r1 u1 H1 locs1 h hB hk hS1 => ?_)
  have hW := LW.toM C0 hW hB hk hS1
  refine lv_icmp_eq (tgt := 1383) hx hb dL_law_804 (by decide) (fun _ => ?_) (fun c9 => absurd h.1 c9)
  exact kk _ _ _ _ hW ls hl h.2
set_option maxHeartbeats 4000000 in
set_option maxRecDepth 100000 in
theorem caseL_21 {p : Program} {l : Launch} {e : Env} {s : State} {m : MethodId} {below : List Frame} {meth : Method} {c : Code} {D : va_G} {κ : Nat → ClassId} {ρ ν a : Nat → Nat} {A : Nat → Nat → Nat} {b L i : Nat} {xs : Nat → Int32} {Q : State → Prop} {S : Nat → Mx} {μ : Mx} {K : (Nat → Mx) → Mx → Prop} (C0 : LC D κ A a b L xs p s m meth c) (hi : i + 6 ≤ L) {H : Heap} {locs : List Loc} (hW : LW D κ ρ ν A a S μ s H locs) (ls : Array Slot) (hl : lv_has ls 4 [(0, .ref b), (1, .ref (A 5 0)), (2, .ref (a 0)), (3, .int (nI i))])
    (h : pX4_turn S (xs (i + 1)) (fun r0 u0 => pX5_turn μ (xs (i + 1)) (fun r1 u1 => r0 = r1 ∧ K u0 u1)))
    (kk : ∀ (u : Nat → Mx) (v : Mx) (H : Heap) (locs : List Loc), LW D κ ρ ν A a u v s H locs → ∀ (ls : Array Slot), lv_has ls 4 [(0, .ref b), (1, .ref (A 5 0)), (2, .ref (a 0)), (3, .int (nI i))] → K u v → W p l e room_1 s m #[Value.ref b] below meth c H locs 55 5862 Q (F0 m 1383 ls [])) : W p l e room_1 s m #[Value.ref b] below meth c H locs 55 5862 Q (F0 m 809 ls []) := by
  obtain ⟨hx, hb, hml, hown, hts, hr, hlk, hE⟩ := id C0.1
  refine lv_aload_n hx hb dL_law_809 rfl (lv_at hl 1 rfl) ?_
  refine lv_aload_n hx hb dL_law_810 rfl (lv_at hl 0 rfl) ?_
  refine lv_iload_n hx hb dL_law_811 rfl (lv_at hl 3 rfl) ?_
  refine lv_iconst (v := 1) hx hb dL_law_812 (by decide) ?_
  refine lv_iadd hx hb dL_law_813 ?_
  refine sldJ C0 hW 1 rfl (by omega) dL_law_814 ?_
  refine kWi (kV C0.1 (mX4_turn l D κ A C0.2.2.2.1 h) (qX4_turn hts (tw_493 hts) ⟨(Nat.le_of_ble_eq_true rfl), (Nat.le_of_ble_eq_true rfl)⟩) (va_recv hE.1 hW.1.c5 (ci := 4) (q0 := 0) rfl rfl) (rest := []) hW.1 rfl hl.1 rfl (Nat.le_of_ble_eq_true rfl) dL_law_815 ⟨(Nat.le_of_ble_eq_true rfl), (Nat.le_of_ble_eq_true rfl)⟩) hW.2.2.2 C0.2.2.2.2.2.1 (fun r0 u0 H1 locs1 h hB hk hS1 => ?_)
  have hW := LW.toX C0 hW hB hk hS1
  refine lv_aload_n hx hb dL_law_818 rfl (lv_at hl 2 rfl) ?_
  refine lv_aload_n hx hb dL_law_819 rfl (lv_at hl 0 rfl) ?_
  refine lv_iload_n hx hb dL_law_820 rfl (lv_at hl 3 rfl) ?_
  refine lv_iconst (v := 1) hx hb dL_law_821 (by decide) ?_
  refine lv_iadd hx hb dL_law_822 ?_
  refine sldJ C0 hW 1 rfl (by omega) dL_law_823 ?_
  refine kWi (kV C0.1 (mX5_turn l D κ ρ a C0.2.2.2.2.1 h) (qX5_turn hts (tw_1066 hts) ⟨(Nat.le_of_ble_eq_true rfl), (Nat.le_of_ble_eq_true rfl)⟩) (va_recv hE.1 hW.2.1 (ci := 5) (q0 := 0) rfl rfl) (rest := [.int r0]) hW.2.1 rfl hl.1 rfl (Nat.le_of_ble_eq_true rfl) dL_law_824 ⟨(Nat.le_of_ble_eq_true rfl), (Nat.le_of_ble_eq_true rfl)⟩) hW.2.2.2 (fun q ⟨j, hj, e9⟩ => by rw [e9]; exact C0.2.2.2.2.2.2.1 j hj) (fun r1 u1 H1 locs1 h hB hk hS1 => ?_)
  have hW := LW.toM C0 hW hB hk hS1
  refine lv_icmp_eq (tgt := 1383) hx hb dL_law_827 (by decide) (fun _ => ?_) (fun c9 => absurd h.1 c9)
  exact kk _ _ _ _ hW ls hl h.2
set_option maxHeartbeats 4000000 in
set_option maxRecDepth 100000 in
theorem caseL_22 {p : Program} {l : Launch} {e : Env} {s : State} {m : MethodId} {below : List Frame} {meth : Method} {c : Code} {D : va_G} {κ : Nat → ClassId} {ρ ν a : Nat → Nat} {A : Nat → Nat → Nat} {b L i : Nat} {xs : Nat → Int32} {Q : State → Prop} {S : Nat → Mx} {μ : Mx} {K : (Nat → Mx) → Mx → Prop} (C0 : LC D κ A a b L xs p s m meth c) (hi : i + 6 ≤ L) {H : Heap} {locs : List Loc} (hW : LW D κ ρ ν A a S μ s H locs) (ls : Array Slot) (hl : lv_has ls 4 [(0, .ref b), (1, .ref (A 5 0)), (2, .ref (a 0)), (3, .int (nI i))])
    (h : pX4_fits S (xs (i + 1)) (xs (i + 2)) (fun r0 u0 => pX5_fits μ (xs (i + 1)) (xs (i + 2)) (fun r1 u1 => r0 = r1 ∧ K u0 u1)))
    (kk : ∀ (u : Nat → Mx) (v : Mx) (H : Heap) (locs : List Loc), LW D κ ρ ν A a u v s H locs → ∀ (ls : Array Slot), lv_has ls 4 [(0, .ref b), (1, .ref (A 5 0)), (2, .ref (a 0)), (3, .int (nI i))] → K u v → W p l e room_1 s m #[Value.ref b] below meth c H locs 55 5862 Q (F0 m 1383 ls [])) : W p l e room_1 s m #[Value.ref b] below meth c H locs 55 5862 Q (F0 m 832 ls []) := by
  obtain ⟨hx, hb, hml, hown, hts, hr, hlk, hE⟩ := id C0.1
  refine lv_aload_n hx hb dL_law_832 rfl (lv_at hl 1 rfl) ?_
  refine lv_aload_n hx hb dL_law_833 rfl (lv_at hl 0 rfl) ?_
  refine lv_iload_n hx hb dL_law_834 rfl (lv_at hl 3 rfl) ?_
  refine lv_iconst (v := 1) hx hb dL_law_835 (by decide) ?_
  refine lv_iadd hx hb dL_law_836 ?_
  refine sldJ C0 hW 1 rfl (by omega) dL_law_837 ?_
  refine lv_aload_n hx hb dL_law_838 rfl (lv_at hl 0 rfl) ?_
  refine lv_iload_n hx hb dL_law_839 rfl (lv_at hl 3 rfl) ?_
  refine lv_iconst (v := 2) hx hb dL_law_840 (by decide) ?_
  refine lv_iadd hx hb dL_law_841 ?_
  refine sldJ C0 hW 2 rfl (by omega) dL_law_842 ?_
  refine kWi (kV C0.1 (mX4_fits l D κ A C0.2.2.2.1 h) (qX4_fits hts (tw_503 hts) ⟨(Nat.le_of_ble_eq_true rfl), (Nat.le_of_ble_eq_true rfl)⟩) (va_recv hE.1 hW.1.c5 (ci := 4) (q0 := 0) rfl rfl) (rest := []) hW.1 rfl hl.1 rfl (Nat.le_of_ble_eq_true rfl) dL_law_843 ⟨(Nat.le_of_ble_eq_true rfl), (Nat.le_of_ble_eq_true rfl)⟩) hW.2.2.2 C0.2.2.2.2.2.1 (fun r0 u0 H1 locs1 h hB hk hS1 => ?_)
  have hW := LW.toX C0 hW hB hk hS1
  refine lv_aload_n hx hb dL_law_846 rfl (lv_at hl 2 rfl) ?_
  refine lv_aload_n hx hb dL_law_847 rfl (lv_at hl 0 rfl) ?_
  refine lv_iload_n hx hb dL_law_848 rfl (lv_at hl 3 rfl) ?_
  refine lv_iconst (v := 1) hx hb dL_law_849 (by decide) ?_
  refine lv_iadd hx hb dL_law_850 ?_
  refine sldJ C0 hW 1 rfl (by omega) dL_law_851 ?_
  refine lv_aload_n hx hb dL_law_852 rfl (lv_at hl 0 rfl) ?_
  refine lv_iload_n hx hb dL_law_853 rfl (lv_at hl 3 rfl) ?_
  refine lv_iconst (v := 2) hx hb dL_law_854 (by decide) ?_
  refine lv_iadd hx hb dL_law_855 ?_
  refine sldJ C0 hW 2 rfl (by omega) dL_law_856 ?_
  refine kWi (kV C0.1 (mX5_fits l D κ ρ a C0.2.2.2.2.1 h) (qX5_fits hts (tw_1077 hts) ⟨(Nat.le_of_ble_eq_true rfl), (Nat.le_of_ble_eq_true rfl)⟩) (va_recv hE.1 hW.2.1 (ci := 5) (q0 := 0) rfl rfl) (rest := [.int r0]) hW.2.1 rfl hl.1 rfl (Nat.le_of_ble_eq_true rfl) dL_law_857 ⟨(Nat.le_of_ble_eq_true rfl), (Nat.le_of_ble_eq_true rfl)⟩) hW.2.2.2 (fun q ⟨j, hj, e9⟩ => by rw [e9]; exact C0.2.2.2.2.2.2.1 j hj) (fun r1 u1 H1 locs1 h hB hk hS1 => ?_)
  have hW := LW.toM C0 hW hB hk hS1
  refine lv_icmp_eq (tgt := 1383) hx hb dL_law_860 (by decide) (fun _ => ?_) (fun c9 => absurd h.1 c9)
  exact kk _ _ _ _ hW ls hl h.2
set_option maxHeartbeats 4000000 in
set_option maxRecDepth 100000 in
theorem caseL_23 {p : Program} {l : Launch} {e : Env} {s : State} {m : MethodId} {below : List Frame} {meth : Method} {c : Code} {D : va_G} {κ : Nat → ClassId} {ρ ν a : Nat → Nat} {A : Nat → Nat → Nat} {b L i : Nat} {xs : Nat → Int32} {Q : State → Prop} {S : Nat → Mx} {μ : Mx} {K : (Nat → Mx) → Mx → Prop} (C0 : LC D κ A a b L xs p s m meth c) (hi : i + 6 ≤ L) {H : Heap} {locs : List Loc} (hW : LW D κ ρ ν A a S μ s H locs) (ls : Array Slot) (hl : lv_has ls 4 [(0, .ref b), (1, .ref (A 5 0)), (2, .ref (a 0)), (3, .int (nI i))])
    (h : pX4_kinds S (xs (i + 1)) (xs (i + 2)) (fun r0 u0 => pX5_kinds μ (xs (i + 1)) (xs (i + 2)) (fun r1 u1 => r0 = r1 ∧ K u0 u1)))
    (kk : ∀ (u : Nat → Mx) (v : Mx) (H : Heap) (locs : List Loc), LW D κ ρ ν A a u v s H locs → ∀ (ls : Array Slot), lv_has ls 4 [(0, .ref b), (1, .ref (A 5 0)), (2, .ref (a 0)), (3, .int (nI i))] → K u v → W p l e room_1 s m #[Value.ref b] below meth c H locs 55 5862 Q (F0 m 1383 ls [])) : W p l e room_1 s m #[Value.ref b] below meth c H locs 55 5862 Q (F0 m 865 ls []) := by
  obtain ⟨hx, hb, hml, hown, hts, hr, hlk, hE⟩ := id C0.1
  refine lv_aload_n hx hb dL_law_865 rfl (lv_at hl 1 rfl) ?_
  refine lv_aload_n hx hb dL_law_866 rfl (lv_at hl 0 rfl) ?_
  refine lv_iload_n hx hb dL_law_867 rfl (lv_at hl 3 rfl) ?_
  refine lv_iconst (v := 1) hx hb dL_law_868 (by decide) ?_
  refine lv_iadd hx hb dL_law_869 ?_
  refine sldJ C0 hW 1 rfl (by omega) dL_law_870 ?_
  refine lv_aload_n hx hb dL_law_871 rfl (lv_at hl 0 rfl) ?_
  refine lv_iload_n hx hb dL_law_872 rfl (lv_at hl 3 rfl) ?_
  refine lv_iconst (v := 2) hx hb dL_law_873 (by decide) ?_
  refine lv_iadd hx hb dL_law_874 ?_
  refine sldJ C0 hW 2 rfl (by omega) dL_law_875 ?_
  refine kWi (kV C0.1 (mX4_kinds l D κ A C0.2.2.2.1 h) (qX4_kinds hts (tw_519 hts) ⟨(Nat.le_of_ble_eq_true rfl), (Nat.le_of_ble_eq_true rfl)⟩) (va_recv hE.1 hW.1.c5 (ci := 4) (q0 := 0) rfl rfl) (rest := []) hW.1 rfl hl.1 rfl (Nat.le_of_ble_eq_true rfl) dL_law_876 ⟨(Nat.le_of_ble_eq_true rfl), (Nat.le_of_ble_eq_true rfl)⟩) hW.2.2.2 C0.2.2.2.2.2.1 (fun r0 u0 H1 locs1 h hB hk hS1 => ?_)
  have hW := LW.toX C0 hW hB hk hS1
  refine lv_aload_n hx hb dL_law_879 rfl (lv_at hl 2 rfl) ?_
  refine lv_aload_n hx hb dL_law_880 rfl (lv_at hl 0 rfl) ?_
  refine lv_iload_n hx hb dL_law_881 rfl (lv_at hl 3 rfl) ?_
  refine lv_iconst (v := 1) hx hb dL_law_882 (by decide) ?_
  refine lv_iadd hx hb dL_law_883 ?_
  refine sldJ C0 hW 1 rfl (by omega) dL_law_884 ?_
  refine lv_aload_n hx hb dL_law_885 rfl (lv_at hl 0 rfl) ?_
  refine lv_iload_n hx hb dL_law_886 rfl (lv_at hl 3 rfl) ?_
  refine lv_iconst (v := 2) hx hb dL_law_887 (by decide) ?_
  refine lv_iadd hx hb dL_law_888 ?_
  refine sldJ C0 hW 2 rfl (by omega) dL_law_889 ?_
  refine kWi (kV C0.1 (mX5_kinds l D κ ρ a C0.2.2.2.2.1 h) (qX5_kinds hts (tw_1093 hts) ⟨(Nat.le_of_ble_eq_true rfl), (Nat.le_of_ble_eq_true rfl)⟩) (va_recv hE.1 hW.2.1 (ci := 5) (q0 := 0) rfl rfl) (rest := [.int r0]) hW.2.1 rfl hl.1 rfl (Nat.le_of_ble_eq_true rfl) dL_law_890 ⟨(Nat.le_of_ble_eq_true rfl), (Nat.le_of_ble_eq_true rfl)⟩) hW.2.2.2 (fun q ⟨j, hj, e9⟩ => by rw [e9]; exact C0.2.2.2.2.2.2.1 j hj) (fun r1 u1 H1 locs1 h hB hk hS1 => ?_)
  have hW := LW.toM C0 hW hB hk hS1
  refine lv_icmp_eq (tgt := 1383) hx hb dL_law_893 (by decide) (fun _ => ?_) (fun c9 => absurd h.1 c9)
  exact kk _ _ _ _ hW ls hl h.2
set_option maxHeartbeats 4000000 in
set_option maxRecDepth 100000 in
theorem caseL_24 {p : Program} {l : Launch} {e : Env} {s : State} {m : MethodId} {below : List Frame} {meth : Method} {c : Code} {D : va_G} {κ : Nat → ClassId} {ρ ν a : Nat → Nat} {A : Nat → Nat → Nat} {b L i : Nat} {xs : Nat → Int32} {Q : State → Prop} {S : Nat → Mx} {μ : Mx} {K : (Nat → Mx) → Mx → Prop} (C0 : LC D κ A a b L xs p s m meth c) (hi : i + 6 ≤ L) {H : Heap} {locs : List Loc} (hW : LW D κ ρ ν A a S μ s H locs) (ls : Array Slot) (hl : lv_has ls 4 [(0, .ref b), (1, .ref (A 5 0)), (2, .ref (a 0)), (3, .int (nI i))])
    (h : pX4_tip S (xs (i + 1)) (fun r0 u0 => pX5_tip μ (xs (i + 1)) (fun r1 u1 => r0 = r1 ∧ K u0 u1)))
    (kk : ∀ (u : Nat → Mx) (v : Mx) (H : Heap) (locs : List Loc), LW D κ ρ ν A a u v s H locs → ∀ (ls : Array Slot), lv_has ls 4 [(0, .ref b), (1, .ref (A 5 0)), (2, .ref (a 0)), (3, .int (nI i))] → K u v → W p l e room_1 s m #[Value.ref b] below meth c H locs 55 5862 Q (F0 m 1383 ls [])) : W p l e room_1 s m #[Value.ref b] below meth c H locs 55 5862 Q (F0 m 898 ls []) := by
  obtain ⟨hx, hb, hml, hown, hts, hr, hlk, hE⟩ := id C0.1
  refine lv_aload_n hx hb dL_law_898 rfl (lv_at hl 1 rfl) ?_
  refine lv_aload_n hx hb dL_law_899 rfl (lv_at hl 0 rfl) ?_
  refine lv_iload_n hx hb dL_law_900 rfl (lv_at hl 3 rfl) ?_
  refine lv_iconst (v := 1) hx hb dL_law_901 (by decide) ?_
  refine lv_iadd hx hb dL_law_902 ?_
  refine sldJ C0 hW 1 rfl (by omega) dL_law_903 ?_
  refine kWi (kV C0.1 (mX4_tip l D κ A C0.2.2.2.1 h) (qX4_tip hts (tw_523 hts) ⟨(Nat.le_of_ble_eq_true rfl), (Nat.le_of_ble_eq_true rfl)⟩) (va_recv hE.1 hW.1.c5 (ci := 4) (q0 := 0) rfl rfl) (rest := []) hW.1 rfl hl.1 rfl (Nat.le_of_ble_eq_true rfl) dL_law_904 ⟨(Nat.le_of_ble_eq_true rfl), (Nat.le_of_ble_eq_true rfl)⟩) hW.2.2.2 C0.2.2.2.2.2.1 (fun r0 u0 H1 locs1 h hB hk hS1 => ?_)
  have hW := LW.toX C0 hW hB hk hS1
  refine lv_aload_n hx hb dL_law_907 rfl (lv_at hl 2 rfl) ?_
  refine lv_aload_n hx hb dL_law_908 rfl (lv_at hl 0 rfl) ?_
  refine lv_iload_n hx hb dL_law_909 rfl (lv_at hl 3 rfl) ?_
  refine lv_iconst (v := 1) hx hb dL_law_910 (by decide) ?_
  refine lv_iadd hx hb dL_law_911 ?_
  refine sldJ C0 hW 1 rfl (by omega) dL_law_912 ?_
  refine kWi (kV C0.1 (mX5_tip l D κ ρ a C0.2.2.2.2.1 h) (qX5_tip hts (tw_1097 hts) ⟨(Nat.le_of_ble_eq_true rfl), (Nat.le_of_ble_eq_true rfl)⟩) (va_recv hE.1 hW.2.1 (ci := 5) (q0 := 0) rfl rfl) (rest := [.int r0]) hW.2.1 rfl hl.1 rfl (Nat.le_of_ble_eq_true rfl) dL_law_913 ⟨(Nat.le_of_ble_eq_true rfl), (Nat.le_of_ble_eq_true rfl)⟩) hW.2.2.2 (fun q ⟨j, hj, e9⟩ => by rw [e9]; exact C0.2.2.2.2.2.2.1 j hj) (fun r1 u1 H1 locs1 h hB hk hS1 => ?_)
  have hW := LW.toM C0 hW hB hk hS1
  refine lv_icmp_eq (tgt := 1383) hx hb dL_law_916 (by decide) (fun _ => ?_) (fun c9 => absurd h.1 c9)
  exact kk _ _ _ _ hW ls hl h.2
set_option maxHeartbeats 4000000 in
set_option maxRecDepth 100000 in
theorem caseL_25 {p : Program} {l : Launch} {e : Env} {s : State} {m : MethodId} {below : List Frame} {meth : Method} {c : Code} {D : va_G} {κ : Nat → ClassId} {ρ ν a : Nat → Nat} {A : Nat → Nat → Nat} {b L i : Nat} {xs : Nat → Int32} {Q : State → Prop} {S : Nat → Mx} {μ : Mx} {K : (Nat → Mx) → Mx → Prop} (C0 : LC D κ A a b L xs p s m meth c) (hi : i + 6 ≤ L) {H : Heap} {locs : List Loc} (hW : LW D κ ρ ν A a S μ s H locs) (ls : Array Slot) (hl : lv_has ls 4 [(0, .ref b), (1, .ref (A 5 0)), (2, .ref (a 0)), (3, .int (nI i))])
    (h : pX4_odds S (xs (i + 1)) (xs (i + 2)) (fun r0 u0 => pX5_odds μ (xs (i + 1)) (xs (i + 2)) (fun r1 u1 => r0 = r1 ∧ K u0 u1)))
    (kk : ∀ (u : Nat → Mx) (v : Mx) (H : Heap) (locs : List Loc), LW D κ ρ ν A a u v s H locs → ∀ (ls : Array Slot), lv_has ls 4 [(0, .ref b), (1, .ref (A 5 0)), (2, .ref (a 0)), (3, .int (nI i))] → K u v → W p l e room_1 s m #[Value.ref b] below meth c H locs 55 5862 Q (F0 m 1383 ls [])) : W p l e room_1 s m #[Value.ref b] below meth c H locs 55 5862 Q (F0 m 921 ls []) := by
  obtain ⟨hx, hb, hml, hown, hts, hr, hlk, hE⟩ := id C0.1
  refine lv_aload_n hx hb dL_law_921 rfl (lv_at hl 1 rfl) ?_
  refine lv_aload_n hx hb dL_law_922 rfl (lv_at hl 0 rfl) ?_
  refine lv_iload_n hx hb dL_law_923 rfl (lv_at hl 3 rfl) ?_
  refine lv_iconst (v := 1) hx hb dL_law_924 (by decide) ?_
  refine lv_iadd hx hb dL_law_925 ?_
  refine sldJ C0 hW 1 rfl (by omega) dL_law_926 ?_
  refine lv_aload_n hx hb dL_law_927 rfl (lv_at hl 0 rfl) ?_
  refine lv_iload_n hx hb dL_law_928 rfl (lv_at hl 3 rfl) ?_
  refine lv_iconst (v := 2) hx hb dL_law_929 (by decide) ?_
  refine lv_iadd hx hb dL_law_930 ?_
  refine sldJ C0 hW 2 rfl (by omega) dL_law_931 ?_
  refine kWl (kV C0.1 (mX4_odds l D κ A C0.2.2.2.1 h) (qX4_odds hts (tw_532 hts) ⟨(Nat.le_of_ble_eq_true rfl), (Nat.le_of_ble_eq_true rfl)⟩) (va_recv hE.1 hW.1.c5 (ci := 4) (q0 := 0) rfl rfl) (rest := []) hW.1 rfl hl.1 rfl (Nat.le_of_ble_eq_true rfl) dL_law_932 ⟨(Nat.le_of_ble_eq_true rfl), (Nat.le_of_ble_eq_true rfl)⟩) hW.2.2.2 C0.2.2.2.2.2.1 (fun r0 u0 H1 locs1 h hB hk hS1 => ?_)
  have hW := LW.toX C0 hW hB hk hS1
  refine lv_aload_n hx hb dL_law_935 rfl (lv_at hl 2 rfl) ?_
  refine lv_aload_n hx hb dL_law_936 rfl (lv_at hl 0 rfl) ?_
  refine lv_iload_n hx hb dL_law_937 rfl (lv_at hl 3 rfl) ?_
  refine lv_iconst (v := 1) hx hb dL_law_938 (by decide) ?_
  refine lv_iadd hx hb dL_law_939 ?_
  refine sldJ C0 hW 1 rfl (by omega) dL_law_940 ?_
  refine lv_aload_n hx hb dL_law_941 rfl (lv_at hl 0 rfl) ?_
  refine lv_iload_n hx hb dL_law_942 rfl (lv_at hl 3 rfl) ?_
  refine lv_iconst (v := 2) hx hb dL_law_943 (by decide) ?_
  refine lv_iadd hx hb dL_law_944 ?_
  refine sldJ C0 hW 2 rfl (by omega) dL_law_945 ?_
  refine kWl (kV C0.1 (mX5_odds l D κ ρ a C0.2.2.2.2.1 h) (qX5_odds hts (tw_1106 hts) ⟨(Nat.le_of_ble_eq_true rfl), (Nat.le_of_ble_eq_true rfl)⟩) (va_recv hE.1 hW.2.1 (ci := 5) (q0 := 0) rfl rfl) (rest := [.long r0]) hW.2.1 rfl hl.1 rfl (Nat.le_of_ble_eq_true rfl) dL_law_946 ⟨(Nat.le_of_ble_eq_true rfl), (Nat.le_of_ble_eq_true rfl)⟩) hW.2.2.2 (fun q ⟨j, hj, e9⟩ => by rw [e9]; exact C0.2.2.2.2.2.2.1 j hj) (fun r1 u1 H1 locs1 h hB hk hS1 => ?_)
  have hW := LW.toM C0 hW hB hk hS1
  refine W.lcmp hx hb dL_law_949 ?_
  refine lv_if_eq (tgt := 1383) hx hb dL_law_950 (by decide) (fun _ => ?_) (fun c9 => absurd (by rw [h.1]; exact lcmp_self _) c9)
  exact kk _ _ _ _ hW ls hl h.2
set_option maxHeartbeats 4000000 in
set_option maxRecDepth 100000 in
theorem caseL_26 {p : Program} {l : Launch} {e : Env} {s : State} {m : MethodId} {below : List Frame} {meth : Method} {c : Code} {D : va_G} {κ : Nat → ClassId} {ρ ν a : Nat → Nat} {A : Nat → Nat → Nat} {b L i : Nat} {xs : Nat → Int32} {Q : State → Prop} {S : Nat → Mx} {μ : Mx} {K : (Nat → Mx) → Mx → Prop} (C0 : LC D κ A a b L xs p s m meth c) (hi : i + 6 ≤ L) {H : Heap} {locs : List Loc} (hW : LW D κ ρ ν A a S μ s H locs) (ls : Array Slot) (hl : lv_has ls 4 [(0, .ref b), (1, .ref (A 5 0)), (2, .ref (a 0)), (3, .int (nI i))])
    (h : pX4_seed S (xs (i + 1)) (fun r0 u0 => pX5_seed μ (xs (i + 1)) (fun r1 u1 => r0 = r1 ∧ K u0 u1)))
    (kk : ∀ (u : Nat → Mx) (v : Mx) (H : Heap) (locs : List Loc), LW D κ ρ ν A a u v s H locs → ∀ (ls : Array Slot), lv_has ls 4 [(0, .ref b), (1, .ref (A 5 0)), (2, .ref (a 0)), (3, .int (nI i))] → K u v → W p l e room_1 s m #[Value.ref b] below meth c H locs 55 5862 Q (F0 m 1383 ls [])) : W p l e room_1 s m #[Value.ref b] below meth c H locs 55 5862 Q (F0 m 955 ls []) := by
  obtain ⟨hx, hb, hml, hown, hts, hr, hlk, hE⟩ := id C0.1
  refine lv_aload_n hx hb dL_law_955 rfl (lv_at hl 1 rfl) ?_
  refine lv_aload_n hx hb dL_law_956 rfl (lv_at hl 0 rfl) ?_
  refine lv_iload_n hx hb dL_law_957 rfl (lv_at hl 3 rfl) ?_
  refine lv_iconst (v := 1) hx hb dL_law_958 (by decide) ?_
  refine lv_iadd hx hb dL_law_959 ?_
  refine sldJ C0 hW 1 rfl (by omega) dL_law_960 ?_
  refine kWi (kV C0.1 (mX4_seed l D κ A C0.2.2.2.1 h) (qX4_seed hts (tw_543 hts) ⟨(Nat.le_of_ble_eq_true rfl), (Nat.le_of_ble_eq_true rfl)⟩) (va_recv hE.1 hW.1.c5 (ci := 4) (q0 := 0) rfl rfl) (rest := []) hW.1 rfl hl.1 rfl (Nat.le_of_ble_eq_true rfl) dL_law_961 ⟨(Nat.le_of_ble_eq_true rfl), (Nat.le_of_ble_eq_true rfl)⟩) hW.2.2.2 C0.2.2.2.2.2.1 (fun r0 u0 H1 locs1 h hB hk hS1 => ?_)
  have hW := LW.toX C0 hW hB hk hS1
  refine lv_aload_n hx hb dL_law_964 rfl (lv_at hl 2 rfl) ?_
  refine lv_aload_n hx hb dL_law_965 rfl (lv_at hl 0 rfl) ?_
  refine lv_iload_n hx hb dL_law_966 rfl (lv_at hl 3 rfl) ?_
  refine lv_iconst (v := 1) hx hb dL_law_967 (by decide) ?_
  refine lv_iadd hx hb dL_law_968 ?_
  refine sldJ C0 hW 1 rfl (by omega) dL_law_969 ?_
  refine kWi (kV C0.1 (mX5_seed l D κ ρ a C0.2.2.2.2.1 h) (qX5_seed hts (tw_1114 hts) ⟨(Nat.le_of_ble_eq_true rfl), (Nat.le_of_ble_eq_true rfl)⟩) (va_recv hE.1 hW.2.1 (ci := 5) (q0 := 0) rfl rfl) (rest := [.int r0]) hW.2.1 rfl hl.1 rfl (Nat.le_of_ble_eq_true rfl) dL_law_970 ⟨(Nat.le_of_ble_eq_true rfl), (Nat.le_of_ble_eq_true rfl)⟩) hW.2.2.2 (fun q ⟨j, hj, e9⟩ => by rw [e9]; exact C0.2.2.2.2.2.2.1 j hj) (fun r1 u1 H1 locs1 h hB hk hS1 => ?_)
  have hW := LW.toM C0 hW hB hk hS1
  refine lv_icmp_eq (tgt := 1383) hx hb dL_law_973 (by decide) (fun _ => ?_) (fun c9 => absurd h.1 c9)
  exact kk _ _ _ _ hW ls hl h.2
set_option maxHeartbeats 4000000 in
set_option maxRecDepth 100000 in
theorem caseL_27 {p : Program} {l : Launch} {e : Env} {s : State} {m : MethodId} {below : List Frame} {meth : Method} {c : Code} {D : va_G} {κ : Nat → ClassId} {ρ ν a : Nat → Nat} {A : Nat → Nat → Nat} {b L i : Nat} {xs : Nat → Int32} {Q : State → Prop} {S : Nat → Mx} {μ : Mx} {K : (Nat → Mx) → Mx → Prop} (C0 : LC D κ A a b L xs p s m meth c) (hi : i + 6 ≤ L) {H : Heap} {locs : List Loc} (hW : LW D κ ρ ν A a S μ s H locs) (ls : Array Slot) (hl : lv_has ls 4 [(0, .ref b), (1, .ref (A 5 0)), (2, .ref (a 0)), (3, .int (nI i))])
    (h : pX4_feed S (xs (i + 1)) (xs (i + 2)) (fun r0 u0 => pX5_feed μ (xs (i + 1)) (xs (i + 2)) (fun r1 u1 => r0 = r1 ∧ K u0 u1)))
    (kk : ∀ (u : Nat → Mx) (v : Mx) (H : Heap) (locs : List Loc), LW D κ ρ ν A a u v s H locs → ∀ (ls : Array Slot), lv_has ls 4 [(0, .ref b), (1, .ref (A 5 0)), (2, .ref (a 0)), (3, .int (nI i))] → K u v → W p l e room_1 s m #[Value.ref b] below meth c H locs 55 5862 Q (F0 m 1383 ls [])) : W p l e room_1 s m #[Value.ref b] below meth c H locs 55 5862 Q (F0 m 978 ls []) := by
  obtain ⟨hx, hb, hml, hown, hts, hr, hlk, hE⟩ := id C0.1
  refine lv_aload_n hx hb dL_law_978 rfl (lv_at hl 1 rfl) ?_
  refine lv_aload_n hx hb dL_law_979 rfl (lv_at hl 0 rfl) ?_
  refine lv_iload_n hx hb dL_law_980 rfl (lv_at hl 3 rfl) ?_
  refine lv_iconst (v := 1) hx hb dL_law_981 (by decide) ?_
  refine lv_iadd hx hb dL_law_982 ?_
  refine sldJ C0 hW 1 rfl (by omega) dL_law_983 ?_
  refine lv_aload_n hx hb dL_law_984 rfl (lv_at hl 0 rfl) ?_
  refine lv_iload_n hx hb dL_law_985 rfl (lv_at hl 3 rfl) ?_
  refine lv_iconst (v := 2) hx hb dL_law_986 (by decide) ?_
  refine lv_iadd hx hb dL_law_987 ?_
  refine sldJ C0 hW 2 rfl (by omega) dL_law_988 ?_
  refine kWi (kV C0.1 (mX4_feed l D κ A C0.2.2.2.1 h) (qX4_feed hts (tw_547 hts) ⟨(Nat.le_of_ble_eq_true rfl), (Nat.le_of_ble_eq_true rfl)⟩) (va_recv hE.1 hW.1.c5 (ci := 4) (q0 := 0) rfl rfl) (rest := []) hW.1 rfl hl.1 rfl (Nat.le_of_ble_eq_true rfl) dL_law_989 ⟨(Nat.le_of_ble_eq_true rfl), (Nat.le_of_ble_eq_true rfl)⟩) hW.2.2.2 C0.2.2.2.2.2.1 (fun r0 u0 H1 locs1 h hB hk hS1 => ?_)
  have hW := LW.toX C0 hW hB hk hS1
  refine lv_aload_n hx hb dL_law_992 rfl (lv_at hl 2 rfl) ?_
  refine lv_aload_n hx hb dL_law_993 rfl (lv_at hl 0 rfl) ?_
  refine lv_iload_n hx hb dL_law_994 rfl (lv_at hl 3 rfl) ?_
  refine lv_iconst (v := 1) hx hb dL_law_995 (by decide) ?_
  refine lv_iadd hx hb dL_law_996 ?_
  refine sldJ C0 hW 1 rfl (by omega) dL_law_997 ?_
  refine lv_aload_n hx hb dL_law_998 rfl (lv_at hl 0 rfl) ?_
  refine lv_iload_n hx hb dL_law_999 rfl (lv_at hl 3 rfl) ?_
  refine lv_iconst (v := 2) hx hb dL_law_1000 (by decide) ?_
  refine lv_iadd hx hb dL_law_1001 ?_
  refine sldJ C0 hW 2 rfl (by omega) dL_law_1002 ?_
  refine kWi (kV C0.1 (mX5_feed l D κ ρ a C0.2.2.2.2.1 h) (qX5_feed hts (tw_1118 hts) ⟨(Nat.le_of_ble_eq_true rfl), (Nat.le_of_ble_eq_true rfl)⟩) (va_recv hE.1 hW.2.1 (ci := 5) (q0 := 0) rfl rfl) (rest := [.int r0]) hW.2.1 rfl hl.1 rfl (Nat.le_of_ble_eq_true rfl) dL_law_1003 ⟨(Nat.le_of_ble_eq_true rfl), (Nat.le_of_ble_eq_true rfl)⟩) hW.2.2.2 (fun q ⟨j, hj, e9⟩ => by rw [e9]; exact C0.2.2.2.2.2.2.1 j hj) (fun r1 u1 H1 locs1 h hB hk hS1 => ?_)
  have hW := LW.toM C0 hW hB hk hS1
  refine lv_icmp_eq (tgt := 1383) hx hb dL_law_1006 (by decide) (fun _ => ?_) (fun c9 => absurd h.1 c9)
  exact kk _ _ _ _ hW ls hl h.2
set_option maxHeartbeats 4000000 in
set_option maxRecDepth 100000 in
theorem caseL_28 {p : Program} {l : Launch} {e : Env} {s : State} {m : MethodId} {below : List Frame} {meth : Method} {c : Code} {D : va_G} {κ : Nat → ClassId} {ρ ν a : Nat → Nat} {A : Nat → Nat → Nat} {b L i : Nat} {xs : Nat → Int32} {Q : State → Prop} {S : Nat → Mx} {μ : Mx} {K : (Nat → Mx) → Mx → Prop} (C0 : LC D κ A a b L xs p s m meth c) (hi : i + 6 ≤ L) {H : Heap} {locs : List Loc} (hW : LW D κ ρ ν A a S μ s H locs) (ls : Array Slot) (hl : lv_has ls 4 [(0, .ref b), (1, .ref (A 5 0)), (2, .ref (a 0)), (3, .int (nI i))])
    (h : pX4_wipe S  (fun r0 u0 => pX5_wipe μ  (fun r1 u1 => r0 = r1 ∧ K u0 u1)))
    (kk : ∀ (u : Nat → Mx) (v : Mx) (H : Heap) (locs : List Loc), LW D κ ρ ν A a u v s H locs → ∀ (ls : Array Slot), lv_has ls 4 [(0, .ref b), (1, .ref (A 5 0)), (2, .ref (a 0)), (3, .int (nI i))] → K u v → W p l e room_1 s m #[Value.ref b] below meth c H locs 55 5862 Q (F0 m 1383 ls [])) : W p l e room_1 s m #[Value.ref b] below meth c H locs 55 5862 Q (F0 m 1011 ls []) := by
  obtain ⟨hx, hb, hml, hown, hts, hr, hlk, hE⟩ := id C0.1
  refine lv_aload_n hx hb dL_law_1011 rfl (lv_at hl 1 rfl) ?_
  refine kWi (kV C0.1 (mX4_wipe l D κ A C0.2.2.2.1 h) (qX4_wipe hts (tw_555 hts) ⟨(Nat.le_of_ble_eq_true rfl), (Nat.le_of_ble_eq_true rfl)⟩) (va_recv hE.1 hW.1.c5 (ci := 4) (q0 := 0) rfl rfl) (rest := []) hW.1 rfl hl.1 rfl (Nat.le_of_ble_eq_true rfl) dL_law_1012 ⟨(Nat.le_of_ble_eq_true rfl), (Nat.le_of_ble_eq_true rfl)⟩) hW.2.2.2 C0.2.2.2.2.2.1 (fun r0 u0 H1 locs1 h hB hk hS1 => ?_)
  have hW := LW.toX C0 hW hB hk hS1
  refine lv_aload_n hx hb dL_law_1015 rfl (lv_at hl 2 rfl) ?_
  refine kWi (kV C0.1 (mX5_wipe l D κ ρ a C0.2.2.2.2.1 h) (qX5_wipe hts (tw_1122 hts) ⟨(Nat.le_of_ble_eq_true rfl), (Nat.le_of_ble_eq_true rfl)⟩) (va_recv hE.1 hW.2.1 (ci := 5) (q0 := 0) rfl rfl) (rest := [.int r0]) hW.2.1 rfl hl.1 rfl (Nat.le_of_ble_eq_true rfl) dL_law_1016 ⟨(Nat.le_of_ble_eq_true rfl), (Nat.le_of_ble_eq_true rfl)⟩) hW.2.2.2 (fun q ⟨j, hj, e9⟩ => by rw [e9]; exact C0.2.2.2.2.2.2.1 j hj) (fun r1 u1 H1 locs1 h hB hk hS1 => ?_)
  have hW := LW.toM C0 hW hB hk hS1
  refine lv_icmp_eq (tgt := 1383) hx hb dL_law_1019 (by decide) (fun _ => ?_) (fun c9 => absurd h.1 c9)
  exact kk _ _ _ _ hW ls hl h.2
set_option maxHeartbeats 4000000 in
set_option maxRecDepth 100000 in
theorem caseL_29 {p : Program} {l : Launch} {e : Env} {s : State} {m : MethodId} {below : List Frame} {meth : Method} {c : Code} {D : va_G} {κ : Nat → ClassId} {ρ ν a : Nat → Nat} {A : Nat → Nat → Nat} {b L i : Nat} {xs : Nat → Int32} {Q : State → Prop} {S : Nat → Mx} {μ : Mx} {K : (Nat → Mx) → Mx → Prop} (C0 : LC D κ A a b L xs p s m meth c) (hi : i + 6 ≤ L) {H : Heap} {locs : List Loc} (hW : LW D κ ρ ν A a S μ s H locs) (ls : Array Slot) (hl : lv_has ls 4 [(0, .ref b), (1, .ref (A 5 0)), (2, .ref (a 0)), (3, .int (nI i))])
    (h : pX4_text S  (fun r0 u0 => pX5_text μ  (fun r1 u1 => r0 = r1 ∧ K u0 u1)))
    (kk : ∀ (u : Nat → Mx) (v : Mx) (H : Heap) (locs : List Loc), LW D κ ρ ν A a u v s H locs → ∀ (ls : Array Slot), lv_has ls 4 [(0, .ref b), (1, .ref (A 5 0)), (2, .ref (a 0)), (3, .int (nI i))] → K u v → W p l e room_1 s m #[Value.ref b] below meth c H locs 55 5862 Q (F0 m 1383 ls [])) : W p l e room_1 s m #[Value.ref b] below meth c H locs 55 5862 Q (F0 m 1024 ls []) := by
  obtain ⟨hx, hb, hml, hown, hts, hr, hlk, hE⟩ := id C0.1
  refine lv_aload_n hx hb dL_law_1024 rfl (lv_at hl 1 rfl) ?_
  refine kWi (kVS C0.1 hW.2.2.1 (mX4_text l D κ ρ ν _ A C0.2.2.2.2.2.1 C0.2.2.2.1 h) (qX4_text hts (tw_559 hts) ⟨(Nat.le_of_ble_eq_true rfl), (Nat.le_of_ble_eq_true rfl)⟩) (va_recv hE.1 hW.1.c5 (ci := 4) (q0 := 0) rfl rfl) (rest := []) hW.1 rfl hl.1 rfl (Nat.le_of_ble_eq_true rfl) dL_law_1025 ⟨(Nat.le_of_ble_eq_true rfl), (Nat.le_of_ble_eq_true rfl)⟩) hW.2.2.2 C0.2.2.2.2.2.1 (fun r0 u0 H1 locs1 h hB hk hS1 => ?_)
  have hW := LW.toX C0 hW hB hk hS1
  refine lv_aload_n hx hb dL_law_1028 rfl (lv_at hl 2 rfl) ?_
  refine kWi (kVS C0.1 hW.2.2.1 (mX5_text l D κ ρ ν _ a (fun q ⟨j, hj, e9⟩ => by rw [e9]; exact C0.2.2.2.2.2.2.1 j hj) C0.2.2.2.2.1 h) (qX5_text hts (tw_1126 hts) ⟨(Nat.le_of_ble_eq_true rfl), (Nat.le_of_ble_eq_true rfl)⟩) (va_recv hE.1 hW.2.1 (ci := 5) (q0 := 0) rfl rfl) (rest := [.int r0]) hW.2.1 rfl hl.1 rfl (Nat.le_of_ble_eq_true rfl) dL_law_1029 ⟨(Nat.le_of_ble_eq_true rfl), (Nat.le_of_ble_eq_true rfl)⟩) hW.2.2.2 (fun q ⟨j, hj, e9⟩ => by rw [e9]; exact C0.2.2.2.2.2.2.1 j hj) (fun r1 u1 H1 locs1 h hB hk hS1 => ?_)
  have hW := LW.toM C0 hW hB hk hS1
  refine lv_icmp_eq (tgt := 1383) hx hb dL_law_1032 (by decide) (fun _ => ?_) (fun c9 => absurd h.1 c9)
  exact kk _ _ _ _ hW ls hl h.2
set_option maxHeartbeats 4000000 in
set_option maxRecDepth 100000 in
theorem caseL_30 {p : Program} {l : Launch} {e : Env} {s : State} {m : MethodId} {below : List Frame} {meth : Method} {c : Code} {D : va_G} {κ : Nat → ClassId} {ρ ν a : Nat → Nat} {A : Nat → Nat → Nat} {b L i : Nat} {xs : Nat → Int32} {Q : State → Prop} {S : Nat → Mx} {μ : Mx} {K : (Nat → Mx) → Mx → Prop} (C0 : LC D κ A a b L xs p s m meth c) (hi : i + 6 ≤ L) {H : Heap} {locs : List Loc} (hW : LW D κ ρ ν A a S μ s H locs) (ls : Array Slot) (hl : lv_has ls 4 [(0, .ref b), (1, .ref (A 5 0)), (2, .ref (a 0)), (3, .int (nI i))])
    (h : pX4_hold S (xs (i + 1)) (xs (i + 2)) (fun r0 u0 => pX5_hold μ (xs (i + 1)) (xs (i + 2)) (fun r1 u1 => r0 = r1 ∧ K u0 u1)))
    (kk : ∀ (u : Nat → Mx) (v : Mx) (H : Heap) (locs : List Loc), LW D κ ρ ν A a u v s H locs → ∀ (ls : Array Slot), lv_has ls 4 [(0, .ref b), (1, .ref (A 5 0)), (2, .ref (a 0)), (3, .int (nI i))] → K u v → W p l e room_1 s m #[Value.ref b] below meth c H locs 55 5862 Q (F0 m 1383 ls [])) : W p l e room_1 s m #[Value.ref b] below meth c H locs 55 5862 Q (F0 m 1037 ls []) := by
  obtain ⟨hx, hb, hml, hown, hts, hr, hlk, hE⟩ := id C0.1
  refine lv_aload_n hx hb dL_law_1037 rfl (lv_at hl 1 rfl) ?_
  refine lv_aload_n hx hb dL_law_1038 rfl (lv_at hl 0 rfl) ?_
  refine lv_iload_n hx hb dL_law_1039 rfl (lv_at hl 3 rfl) ?_
  refine lv_iconst (v := 1) hx hb dL_law_1040 (by decide) ?_
  refine lv_iadd hx hb dL_law_1041 ?_
  refine sldJ C0 hW 1 rfl (by omega) dL_law_1042 ?_
  refine lv_aload_n hx hb dL_law_1043 rfl (lv_at hl 0 rfl) ?_
  refine lv_iload_n hx hb dL_law_1044 rfl (lv_at hl 3 rfl) ?_
  refine lv_iconst (v := 2) hx hb dL_law_1045 (by decide) ?_
  refine lv_iadd hx hb dL_law_1046 ?_
  refine sldJ C0 hW 2 rfl (by omega) dL_law_1047 ?_
  refine kWi (kV C0.1 (mX4_hold l D κ A C0.2.2.2.1 h) (qX4_hold hts (tw_673 hts) ⟨(Nat.le_of_ble_eq_true rfl), (Nat.le_of_ble_eq_true rfl)⟩) (va_recv hE.1 hW.1.c5 (ci := 4) (q0 := 0) rfl rfl) (rest := []) hW.1 rfl hl.1 rfl (Nat.le_of_ble_eq_true rfl) dL_law_1048 ⟨(Nat.le_of_ble_eq_true rfl), (Nat.le_of_ble_eq_true rfl)⟩) hW.2.2.2 C0.2.2.2.2.2.1 (fun r0 u0 H1 locs1 h hB hk hS1 => ?_)
  have hW := LW.toX C0 hW hB hk hS1
  refine lv_aload_n hx hb dL_law_1051 rfl (lv_at hl 2 rfl) ?_
  refine lv_aload_n hx hb dL_law_1052 rfl (lv_at hl 0 rfl) ?_
  refine lv_iload_n hx hb dL_law_1053 rfl (lv_at hl 3 rfl) ?_
  refine lv_iconst (v := 1) hx hb dL_law_1054 (by decide) ?_
  refine lv_iadd hx hb dL_law_1055 ?_
  refine sldJ C0 hW 1 rfl (by omega) dL_law_1056 ?_
  refine lv_aload_n hx hb dL_law_1057 rfl (lv_at hl 0 rfl) ?_
  refine lv_iload_n hx hb dL_law_1058 rfl (lv_at hl 3 rfl) ?_
  refine lv_iconst (v := 2) hx hb dL_law_1059 (by decide) ?_
  refine lv_iadd hx hb dL_law_1060 ?_
  refine sldJ C0 hW 2 rfl (by omega) dL_law_1061 ?_
  refine kWi (kV C0.1 (mX5_hold l D κ ρ a C0.2.2.2.2.1 h) (qX5_hold hts (tw_1176 hts) ⟨(Nat.le_of_ble_eq_true rfl), (Nat.le_of_ble_eq_true rfl)⟩) (va_recv hE.1 hW.2.1 (ci := 5) (q0 := 0) rfl rfl) (rest := [.int r0]) hW.2.1 rfl hl.1 rfl (Nat.le_of_ble_eq_true rfl) dL_law_1062 ⟨(Nat.le_of_ble_eq_true rfl), (Nat.le_of_ble_eq_true rfl)⟩) hW.2.2.2 (fun q ⟨j, hj, e9⟩ => by rw [e9]; exact C0.2.2.2.2.2.2.1 j hj) (fun r1 u1 H1 locs1 h hB hk hS1 => ?_)
  have hW := LW.toM C0 hW hB hk hS1
  refine lv_icmp_eq (tgt := 1383) hx hb dL_law_1065 (by decide) (fun _ => ?_) (fun c9 => absurd h.1 c9)
  exact kk _ _ _ _ hW ls hl h.2
set_option maxHeartbeats 4000000 in
set_option maxRecDepth 100000 in
theorem caseL_31 {p : Program} {l : Launch} {e : Env} {s : State} {m : MethodId} {below : List Frame} {meth : Method} {c : Code} {D : va_G} {κ : Nat → ClassId} {ρ ν a : Nat → Nat} {A : Nat → Nat → Nat} {b L i : Nat} {xs : Nat → Int32} {Q : State → Prop} {S : Nat → Mx} {μ : Mx} {K : (Nat → Mx) → Mx → Prop} (C0 : LC D κ A a b L xs p s m meth c) (hi : i + 6 ≤ L) {H : Heap} {locs : List Loc} (hW : LW D κ ρ ν A a S μ s H locs) (ls : Array Slot) (hl : lv_has ls 4 [(0, .ref b), (1, .ref (A 5 0)), (2, .ref (a 0)), (3, .int (nI i))])
    (h : pX4_as S (xs (i + 1)) (xs (i + 2)) (fun r0 u0 => pX5_as μ (xs (i + 1)) (xs (i + 2)) (fun r1 u1 => r0 = r1 ∧ K u0 u1)))
    (kk : ∀ (u : Nat → Mx) (v : Mx) (H : Heap) (locs : List Loc), LW D κ ρ ν A a u v s H locs → ∀ (ls : Array Slot), lv_has ls 4 [(0, .ref b), (1, .ref (A 5 0)), (2, .ref (a 0)), (3, .int (nI i))] → K u v → W p l e room_1 s m #[Value.ref b] below meth c H locs 55 5862 Q (F0 m 1383 ls [])) : W p l e room_1 s m #[Value.ref b] below meth c H locs 55 5862 Q (F0 m 1070 ls []) := by
  obtain ⟨hx, hb, hml, hown, hts, hr, hlk, hE⟩ := id C0.1
  refine lv_aload_n hx hb dL_law_1070 rfl (lv_at hl 1 rfl) ?_
  refine lv_aload_n hx hb dL_law_1071 rfl (lv_at hl 0 rfl) ?_
  refine lv_iload_n hx hb dL_law_1072 rfl (lv_at hl 3 rfl) ?_
  refine lv_iconst (v := 1) hx hb dL_law_1073 (by decide) ?_
  refine lv_iadd hx hb dL_law_1074 ?_
  refine sldJ C0 hW 1 rfl (by omega) dL_law_1075 ?_
  refine lv_aload_n hx hb dL_law_1076 rfl (lv_at hl 0 rfl) ?_
  refine lv_iload_n hx hb dL_law_1077 rfl (lv_at hl 3 rfl) ?_
  refine lv_iconst (v := 2) hx hb dL_law_1078 (by decide) ?_
  refine lv_iadd hx hb dL_law_1079 ?_
  refine sldJ C0 hW 2 rfl (by omega) dL_law_1080 ?_
  refine kWi (kV C0.1 (mX4_as l D κ A C0.2.2.2.1 h) (qX4_as hts (tw_680 hts) ⟨(Nat.le_of_ble_eq_true rfl), (Nat.le_of_ble_eq_true rfl)⟩) (va_recv hE.1 hW.1.c5 (ci := 4) (q0 := 0) rfl rfl) (rest := []) hW.1 rfl hl.1 rfl (Nat.le_of_ble_eq_true rfl) dL_law_1081 ⟨(Nat.le_of_ble_eq_true rfl), (Nat.le_of_ble_eq_true rfl)⟩) hW.2.2.2 C0.2.2.2.2.2.1 (fun r0 u0 H1 locs1 h hB hk hS1 => ?_)
  have hW := LW.toX C0 hW hB hk hS1
  refine lv_aload_n hx hb dL_law_1084 rfl (lv_at hl 2 rfl) ?_
  refine lv_aload_n hx hb dL_law_1085 rfl (lv_at hl 0 rfl) ?_
  refine lv_iload_n hx hb dL_law_1086 rfl (lv_at hl 3 rfl) ?_
  refine lv_iconst (v := 1) hx hb dL_law_1087 (by decide) ?_
  refine lv_iadd hx hb dL_law_1088 ?_
  refine sldJ C0 hW 1 rfl (by omega) dL_law_1089 ?_
  refine lv_aload_n hx hb dL_law_1090 rfl (lv_at hl 0 rfl) ?_
  refine lv_iload_n hx hb dL_law_1091 rfl (lv_at hl 3 rfl) ?_
  refine lv_iconst (v := 2) hx hb dL_law_1092 (by decide) ?_
  refine lv_iadd hx hb dL_law_1093 ?_
  refine sldJ C0 hW 2 rfl (by omega) dL_law_1094 ?_
  refine kWi (kV C0.1 (mX5_as l D κ ρ a C0.2.2.2.2.1 h) (qX5_as hts (tw_1183 hts) ⟨(Nat.le_of_ble_eq_true rfl), (Nat.le_of_ble_eq_true rfl)⟩) (va_recv hE.1 hW.2.1 (ci := 5) (q0 := 0) rfl rfl) (rest := [.int r0]) hW.2.1 rfl hl.1 rfl (Nat.le_of_ble_eq_true rfl) dL_law_1095 ⟨(Nat.le_of_ble_eq_true rfl), (Nat.le_of_ble_eq_true rfl)⟩) hW.2.2.2 (fun q ⟨j, hj, e9⟩ => by rw [e9]; exact C0.2.2.2.2.2.2.1 j hj) (fun r1 u1 H1 locs1 h hB hk hS1 => ?_)
  have hW := LW.toM C0 hW hB hk hS1
  refine lv_icmp_eq (tgt := 1383) hx hb dL_law_1098 (by decide) (fun _ => ?_) (fun c9 => absurd h.1 c9)
  exact kk _ _ _ _ hW ls hl h.2
set_option maxHeartbeats 4000000 in
set_option maxRecDepth 100000 in
theorem caseL_32 {p : Program} {l : Launch} {e : Env} {s : State} {m : MethodId} {below : List Frame} {meth : Method} {c : Code} {D : va_G} {κ : Nat → ClassId} {ρ ν a : Nat → Nat} {A : Nat → Nat → Nat} {b L i : Nat} {xs : Nat → Int32} {Q : State → Prop} {S : Nat → Mx} {μ : Mx} {K : (Nat → Mx) → Mx → Prop} (C0 : LC D κ A a b L xs p s m meth c) (hi : i + 6 ≤ L) {H : Heap} {locs : List Loc} (hW : LW D κ ρ ν A a S μ s H locs) (ls : Array Slot) (hl : lv_has ls 4 [(0, .ref b), (1, .ref (A 5 0)), (2, .ref (a 0)), (3, .int (nI i))])
    (h : pX4_sheet S (xs (i + 1)) (xs (i + 2)) (xs (i + 3)) (fun r0 u0 => pX5_sheet μ (xs (i + 1)) (xs (i + 2)) (xs (i + 3)) (fun r1 u1 => r0 = r1 ∧ K u0 u1)))
    (kk : ∀ (u : Nat → Mx) (v : Mx) (H : Heap) (locs : List Loc), LW D κ ρ ν A a u v s H locs → ∀ (ls : Array Slot), lv_has ls 4 [(0, .ref b), (1, .ref (A 5 0)), (2, .ref (a 0)), (3, .int (nI i))] → K u v → W p l e room_1 s m #[Value.ref b] below meth c H locs 55 5862 Q (F0 m 1383 ls [])) : W p l e room_1 s m #[Value.ref b] below meth c H locs 55 5862 Q (F0 m 1103 ls []) := by
  obtain ⟨hx, hb, hml, hown, hts, hr, hlk, hE⟩ := id C0.1
  refine lv_aload_n hx hb dL_law_1103 rfl (lv_at hl 1 rfl) ?_
  refine lv_aload_n hx hb dL_law_1104 rfl (lv_at hl 0 rfl) ?_
  refine lv_iload_n hx hb dL_law_1105 rfl (lv_at hl 3 rfl) ?_
  refine lv_iconst (v := 1) hx hb dL_law_1106 (by decide) ?_
  refine lv_iadd hx hb dL_law_1107 ?_
  refine sldJ C0 hW 1 rfl (by omega) dL_law_1108 ?_
  refine lv_aload_n hx hb dL_law_1109 rfl (lv_at hl 0 rfl) ?_
  refine lv_iload_n hx hb dL_law_1110 rfl (lv_at hl 3 rfl) ?_
  refine lv_iconst (v := 2) hx hb dL_law_1111 (by decide) ?_
  refine lv_iadd hx hb dL_law_1112 ?_
  refine sldJ C0 hW 2 rfl (by omega) dL_law_1113 ?_
  refine lv_aload_n hx hb dL_law_1114 rfl (lv_at hl 0 rfl) ?_
  refine lv_iload_n hx hb dL_law_1115 rfl (lv_at hl 3 rfl) ?_
  refine lv_iconst (v := 3) hx hb dL_law_1116 (by decide) ?_
  refine lv_iadd hx hb dL_law_1117 ?_
  refine sldJ C0 hW 3 rfl (by omega) dL_law_1118 ?_
  refine kWi (kV C0.1 (mX4_sheet l D κ A C0.2.2.2.1 h) (qX4_sheet hts (tw_685 hts) ⟨(Nat.le_of_ble_eq_true rfl), (Nat.le_of_ble_eq_true rfl)⟩) (va_recv hE.1 hW.1.c5 (ci := 4) (q0 := 0) rfl rfl) (rest := []) hW.1 rfl hl.1 rfl (Nat.le_of_ble_eq_true rfl) dL_law_1119 ⟨(Nat.le_of_ble_eq_true rfl), (Nat.le_of_ble_eq_true rfl)⟩) hW.2.2.2 C0.2.2.2.2.2.1 (fun r0 u0 H1 locs1 h hB hk hS1 => ?_)
  have hW := LW.toX C0 hW hB hk hS1
  refine lv_aload_n hx hb dL_law_1122 rfl (lv_at hl 2 rfl) ?_
  refine lv_aload_n hx hb dL_law_1123 rfl (lv_at hl 0 rfl) ?_
  refine lv_iload_n hx hb dL_law_1124 rfl (lv_at hl 3 rfl) ?_
  refine lv_iconst (v := 1) hx hb dL_law_1125 (by decide) ?_
  refine lv_iadd hx hb dL_law_1126 ?_
  refine sldJ C0 hW 1 rfl (by omega) dL_law_1127 ?_
  refine lv_aload_n hx hb dL_law_1128 rfl (lv_at hl 0 rfl) ?_
  refine lv_iload_n hx hb dL_law_1129 rfl (lv_at hl 3 rfl) ?_
  refine lv_iconst (v := 2) hx hb dL_law_1130 (by decide) ?_
  refine lv_iadd hx hb dL_law_1131 ?_
  refine sldJ C0 hW 2 rfl (by omega) dL_law_1132 ?_
  refine lv_aload_n hx hb dL_law_1133 rfl (lv_at hl 0 rfl) ?_
  refine lv_iload_n hx hb dL_law_1134 rfl (lv_at hl 3 rfl) ?_
  refine lv_iconst (v := 3) hx hb dL_law_1135 (by decide) ?_
  refine lv_iadd hx hb dL_law_1136 ?_
  refine sldJ C0 hW 3 rfl (by omega) dL_law_1137 ?_
  refine kWi (kV C0.1 (mX5_sheet l D κ ρ a C0.2.2.2.2.1 h) (qX5_sheet hts (tw_1194 hts) ⟨(Nat.le_of_ble_eq_true rfl), (Nat.le_of_ble_eq_true rfl)⟩) (va_recv hE.1 hW.2.1 (ci := 5) (q0 := 0) rfl rfl) (rest := [.int r0]) hW.2.1 rfl hl.1 rfl (Nat.le_of_ble_eq_true rfl) dL_law_1138 ⟨(Nat.le_of_ble_eq_true rfl), (Nat.le_of_ble_eq_true rfl)⟩) hW.2.2.2 (fun q ⟨j, hj, e9⟩ => by rw [e9]; exact C0.2.2.2.2.2.2.1 j hj) (fun r1 u1 H1 locs1 h hB hk hS1 => ?_)
  have hW := LW.toM C0 hW hB hk hS1
  refine lv_icmp_eq (tgt := 1383) hx hb dL_law_1141 (by decide) (fun _ => ?_) (fun c9 => absurd h.1 c9)
  exact kk _ _ _ _ hW ls hl h.2
set_option maxHeartbeats 4000000 in
set_option maxRecDepth 100000 in
theorem caseL_33 {p : Program} {l : Launch} {e : Env} {s : State} {m : MethodId} {below : List Frame} {meth : Method} {c : Code} {D : va_G} {κ : Nat → ClassId} {ρ ν a : Nat → Nat} {A : Nat → Nat → Nat} {b L i : Nat} {xs : Nat → Int32} {Q : State → Prop} {S : Nat → Mx} {μ : Mx} {K : (Nat → Mx) → Mx → Prop} (C0 : LC D κ A a b L xs p s m meth c) (hi : i + 6 ≤ L) {H : Heap} {locs : List Loc} (hW : LW D κ ρ ν A a S μ s H locs) (ls : Array Slot) (hl : lv_has ls 4 [(0, .ref b), (1, .ref (A 5 0)), (2, .ref (a 0)), (3, .int (nI i))])
    (h : pX4_write S (xs (i + 1)) (xs (i + 2)) (xs (i + 3)) (fun r0 u0 => pX5_write μ (xs (i + 1)) (xs (i + 2)) (xs (i + 3)) (fun r1 u1 => r0 = r1 ∧ K u0 u1)))
    (kk : ∀ (u : Nat → Mx) (v : Mx) (H : Heap) (locs : List Loc), LW D κ ρ ν A a u v s H locs → ∀ (ls : Array Slot), lv_has ls 4 [(0, .ref b), (1, .ref (A 5 0)), (2, .ref (a 0)), (3, .int (nI i))] → K u v → W p l e room_1 s m #[Value.ref b] below meth c H locs 55 5862 Q (F0 m 1383 ls [])) : W p l e room_1 s m #[Value.ref b] below meth c H locs 55 5862 Q (F0 m 1146 ls []) := by
  obtain ⟨hx, hb, hml, hown, hts, hr, hlk, hE⟩ := id C0.1
  refine lv_aload_n hx hb dL_law_1146 rfl (lv_at hl 1 rfl) ?_
  refine lv_aload_n hx hb dL_law_1147 rfl (lv_at hl 0 rfl) ?_
  refine lv_iload_n hx hb dL_law_1148 rfl (lv_at hl 3 rfl) ?_
  refine lv_iconst (v := 1) hx hb dL_law_1149 (by decide) ?_
  refine lv_iadd hx hb dL_law_1150 ?_
  refine sldJ C0 hW 1 rfl (by omega) dL_law_1151 ?_
  refine lv_aload_n hx hb dL_law_1152 rfl (lv_at hl 0 rfl) ?_
  refine lv_iload_n hx hb dL_law_1153 rfl (lv_at hl 3 rfl) ?_
  refine lv_iconst (v := 2) hx hb dL_law_1154 (by decide) ?_
  refine lv_iadd hx hb dL_law_1155 ?_
  refine sldJ C0 hW 2 rfl (by omega) dL_law_1156 ?_
  refine lv_aload_n hx hb dL_law_1157 rfl (lv_at hl 0 rfl) ?_
  refine lv_iload_n hx hb dL_law_1158 rfl (lv_at hl 3 rfl) ?_
  refine lv_iconst (v := 3) hx hb dL_law_1159 (by decide) ?_
  refine lv_iadd hx hb dL_law_1160 ?_
  refine sldJ C0 hW 3 rfl (by omega) dL_law_1161 ?_
  refine kWi (kV C0.1 (mX4_write l D κ A C0.2.2.2.1 h) (qX4_write hts (tw_693 hts) ⟨(Nat.le_of_ble_eq_true rfl), (Nat.le_of_ble_eq_true rfl)⟩) (va_recv hE.1 hW.1.c5 (ci := 4) (q0 := 0) rfl rfl) (rest := []) hW.1 rfl hl.1 rfl (Nat.le_of_ble_eq_true rfl) dL_law_1162 ⟨(Nat.le_of_ble_eq_true rfl), (Nat.le_of_ble_eq_true rfl)⟩) hW.2.2.2 C0.2.2.2.2.2.1 (fun r0 u0 H1 locs1 h hB hk hS1 => ?_)
  have hW := LW.toX C0 hW hB hk hS1
  refine lv_aload_n hx hb dL_law_1165 rfl (lv_at hl 2 rfl) ?_
  refine lv_aload_n hx hb dL_law_1166 rfl (lv_at hl 0 rfl) ?_
  refine lv_iload_n hx hb dL_law_1167 rfl (lv_at hl 3 rfl) ?_
  refine lv_iconst (v := 1) hx hb dL_law_1168 (by decide) ?_
  refine lv_iadd hx hb dL_law_1169 ?_
  refine sldJ C0 hW 1 rfl (by omega) dL_law_1170 ?_
  refine lv_aload_n hx hb dL_law_1171 rfl (lv_at hl 0 rfl) ?_
  refine lv_iload_n hx hb dL_law_1172 rfl (lv_at hl 3 rfl) ?_
  refine lv_iconst (v := 2) hx hb dL_law_1173 (by decide) ?_
  refine lv_iadd hx hb dL_law_1174 ?_
  refine sldJ C0 hW 2 rfl (by omega) dL_law_1175 ?_
  refine lv_aload_n hx hb dL_law_1176 rfl (lv_at hl 0 rfl) ?_
  refine lv_iload_n hx hb dL_law_1177 rfl (lv_at hl 3 rfl) ?_
  refine lv_iconst (v := 3) hx hb dL_law_1178 (by decide) ?_
  refine lv_iadd hx hb dL_law_1179 ?_
  refine sldJ C0 hW 3 rfl (by omega) dL_law_1180 ?_
  refine kWi (kV C0.1 (mX5_write l D κ ρ a C0.2.2.2.2.1 h) (qX5_write hts (tw_1199 hts) ⟨(Nat.le_of_ble_eq_true rfl), (Nat.le_of_ble_eq_true rfl)⟩) (va_recv hE.1 hW.2.1 (ci := 5) (q0 := 0) rfl rfl) (rest := [.int r0]) hW.2.1 rfl hl.1 rfl (Nat.le_of_ble_eq_true rfl) dL_law_1181 ⟨(Nat.le_of_ble_eq_true rfl), (Nat.le_of_ble_eq_true rfl)⟩) hW.2.2.2 (fun q ⟨j, hj, e9⟩ => by rw [e9]; exact C0.2.2.2.2.2.2.1 j hj) (fun r1 u1 H1 locs1 h hB hk hS1 => ?_)
  have hW := LW.toM C0 hW hB hk hS1
  refine lv_icmp_eq (tgt := 1383) hx hb dL_law_1184 (by decide) (fun _ => ?_) (fun c9 => absurd h.1 c9)
  exact kk _ _ _ _ hW ls hl h.2
set_option maxHeartbeats 4000000 in
set_option maxRecDepth 100000 in
theorem caseL_34 {p : Program} {l : Launch} {e : Env} {s : State} {m : MethodId} {below : List Frame} {meth : Method} {c : Code} {D : va_G} {κ : Nat → ClassId} {ρ ν a : Nat → Nat} {A : Nat → Nat → Nat} {b L i : Nat} {xs : Nat → Int32} {Q : State → Prop} {S : Nat → Mx} {μ : Mx} {K : (Nat → Mx) → Mx → Prop} (C0 : LC D κ A a b L xs p s m meth c) (hi : i + 6 ≤ L) {H : Heap} {locs : List Loc} (hW : LW D κ ρ ν A a S μ s H locs) (ls : Array Slot) (hl : lv_has ls 4 [(0, .ref b), (1, .ref (A 5 0)), (2, .ref (a 0)), (3, .int (nI i))])
    (h : pX4_copy S (xs (i + 1)) (xs (i + 2)) (xs (i + 3)) (xs (i + 4)) (xs (i + 5)) (fun r0 u0 => pX5_copy μ (xs (i + 1)) (xs (i + 2)) (xs (i + 3)) (xs (i + 4)) (xs (i + 5)) (fun r1 u1 => r0 = r1 ∧ K u0 u1)))
    (kk : ∀ (u : Nat → Mx) (v : Mx) (H : Heap) (locs : List Loc), LW D κ ρ ν A a u v s H locs → ∀ (ls : Array Slot), lv_has ls 4 [(0, .ref b), (1, .ref (A 5 0)), (2, .ref (a 0)), (3, .int (nI i))] → K u v → W p l e room_1 s m #[Value.ref b] below meth c H locs 55 5862 Q (F0 m 1383 ls [])) : W p l e room_1 s m #[Value.ref b] below meth c H locs 55 5862 Q (F0 m 1189 ls []) := by
  obtain ⟨hx, hb, hml, hown, hts, hr, hlk, hE⟩ := id C0.1
  refine lv_aload_n hx hb dL_law_1189 rfl (lv_at hl 1 rfl) ?_
  refine lv_aload_n hx hb dL_law_1190 rfl (lv_at hl 0 rfl) ?_
  refine lv_iload_n hx hb dL_law_1191 rfl (lv_at hl 3 rfl) ?_
  refine lv_iconst (v := 1) hx hb dL_law_1192 (by decide) ?_
  refine lv_iadd hx hb dL_law_1193 ?_
  refine sldJ C0 hW 1 rfl (by omega) dL_law_1194 ?_
  refine lv_aload_n hx hb dL_law_1195 rfl (lv_at hl 0 rfl) ?_
  refine lv_iload_n hx hb dL_law_1196 rfl (lv_at hl 3 rfl) ?_
  refine lv_iconst (v := 2) hx hb dL_law_1197 (by decide) ?_
  refine lv_iadd hx hb dL_law_1198 ?_
  refine sldJ C0 hW 2 rfl (by omega) dL_law_1199 ?_
  refine lv_aload_n hx hb dL_law_1200 rfl (lv_at hl 0 rfl) ?_
  refine lv_iload_n hx hb dL_law_1201 rfl (lv_at hl 3 rfl) ?_
  refine lv_iconst (v := 3) hx hb dL_law_1202 (by decide) ?_
  refine lv_iadd hx hb dL_law_1203 ?_
  refine sldJ C0 hW 3 rfl (by omega) dL_law_1204 ?_
  refine lv_aload_n hx hb dL_law_1205 rfl (lv_at hl 0 rfl) ?_
  refine lv_iload_n hx hb dL_law_1206 rfl (lv_at hl 3 rfl) ?_
  refine lv_iconst (v := 4) hx hb dL_law_1207 (by decide) ?_
  refine lv_iadd hx hb dL_law_1208 ?_
  refine sldJ C0 hW 4 rfl (by omega) dL_law_1209 ?_
  refine lv_aload_n hx hb dL_law_1210 rfl (lv_at hl 0 rfl) ?_
  refine lv_iload_n hx hb dL_law_1211 rfl (lv_at hl 3 rfl) ?_
  refine lv_iconst (v := 5) hx hb dL_law_1212 (by decide) ?_
  refine lv_iadd hx hb dL_law_1213 ?_
  refine sldJ C0 hW 5 rfl (by omega) dL_law_1214 ?_
  refine kWi (kV C0.1 (mX4_copy l D κ A C0.2.2.2.1 h) (qX4_copy hts (tw_701 hts) ⟨(Nat.le_of_ble_eq_true rfl), (Nat.le_of_ble_eq_true rfl)⟩) (va_recv hE.1 hW.1.c5 (ci := 4) (q0 := 0) rfl rfl) (rest := []) hW.1 rfl hl.1 rfl (Nat.le_of_ble_eq_true rfl) dL_law_1215 ⟨(Nat.le_of_ble_eq_true rfl), (Nat.le_of_ble_eq_true rfl)⟩) hW.2.2.2 C0.2.2.2.2.2.1 (fun r0 u0 H1 locs1 h hB hk hS1 => ?_)
  have hW := LW.toX C0 hW hB hk hS1
  refine lv_aload_n hx hb dL_law_1218 rfl (lv_at hl 2 rfl) ?_
  refine lv_aload_n hx hb dL_law_1219 rfl (lv_at hl 0 rfl) ?_
  refine lv_iload_n hx hb dL_law_1220 rfl (lv_at hl 3 rfl) ?_
  refine lv_iconst (v := 1) hx hb dL_law_1221 (by decide) ?_
  refine lv_iadd hx hb dL_law_1222 ?_
  refine sldJ C0 hW 1 rfl (by omega) dL_law_1223 ?_
  refine lv_aload_n hx hb dL_law_1224 rfl (lv_at hl 0 rfl) ?_
  refine lv_iload_n hx hb dL_law_1225 rfl (lv_at hl 3 rfl) ?_
  refine lv_iconst (v := 2) hx hb dL_law_1226 (by decide) ?_
  refine lv_iadd hx hb dL_law_1227 ?_
  refine sldJ C0 hW 2 rfl (by omega) dL_law_1228 ?_
  refine lv_aload_n hx hb dL_law_1229 rfl (lv_at hl 0 rfl) ?_
  refine lv_iload_n hx hb dL_law_1230 rfl (lv_at hl 3 rfl) ?_
  refine lv_iconst (v := 3) hx hb dL_law_1231 (by decide) ?_
  refine lv_iadd hx hb dL_law_1232 ?_
  refine sldJ C0 hW 3 rfl (by omega) dL_law_1233 ?_
  refine lv_aload_n hx hb dL_law_1234 rfl (lv_at hl 0 rfl) ?_
  refine lv_iload_n hx hb dL_law_1235 rfl (lv_at hl 3 rfl) ?_
  refine lv_iconst (v := 4) hx hb dL_law_1236 (by decide) ?_
  refine lv_iadd hx hb dL_law_1237 ?_
  refine sldJ C0 hW 4 rfl (by omega) dL_law_1238 ?_
  refine lv_aload_n hx hb dL_law_1239 rfl (lv_at hl 0 rfl) ?_
  refine lv_iload_n hx hb dL_law_1240 rfl (lv_at hl 3 rfl) ?_
  refine lv_iconst (v := 5) hx hb dL_law_1241 (by decide) ?_
  refine lv_iadd hx hb dL_law_1242 ?_
  refine sldJ C0 hW 5 rfl (by omega) dL_law_1243 ?_
  refine kWi (kV C0.1 (mX5_copy l D κ ρ a C0.2.2.2.2.1 h) (qX5_copy hts (tw_1206 hts) ⟨(Nat.le_of_ble_eq_true rfl), (Nat.le_of_ble_eq_true rfl)⟩) (va_recv hE.1 hW.2.1 (ci := 5) (q0 := 0) rfl rfl) (rest := [.int r0]) hW.2.1 rfl hl.1 rfl (Nat.le_of_ble_eq_true rfl) dL_law_1244 ⟨(Nat.le_of_ble_eq_true rfl), (Nat.le_of_ble_eq_true rfl)⟩) hW.2.2.2 (fun q ⟨j, hj, e9⟩ => by rw [e9]; exact C0.2.2.2.2.2.2.1 j hj) (fun r1 u1 H1 locs1 h hB hk hS1 => ?_)
  have hW := LW.toM C0 hW hB hk hS1
  refine lv_icmp_eq (tgt := 1383) hx hb dL_law_1247 (by decide) (fun _ => ?_) (fun c9 => absurd h.1 c9)
  exact kk _ _ _ _ hW ls hl h.2
set_option maxHeartbeats 4000000 in
set_option maxRecDepth 100000 in
theorem caseL_35 {p : Program} {l : Launch} {e : Env} {s : State} {m : MethodId} {below : List Frame} {meth : Method} {c : Code} {D : va_G} {κ : Nat → ClassId} {ρ ν a : Nat → Nat} {A : Nat → Nat → Nat} {b L i : Nat} {xs : Nat → Int32} {Q : State → Prop} {S : Nat → Mx} {μ : Mx} {K : (Nat → Mx) → Mx → Prop} (C0 : LC D κ A a b L xs p s m meth c) (hi : i + 6 ≤ L) {H : Heap} {locs : List Loc} (hW : LW D κ ρ ν A a S μ s H locs) (ls : Array Slot) (hl : lv_has ls 4 [(0, .ref b), (1, .ref (A 5 0)), (2, .ref (a 0)), (3, .int (nI i))])
    (h : pX4_load S (xs (i + 1)) (fun r0 u0 => pX5_load μ (xs (i + 1)) (fun r1 u1 => r0 = r1 ∧ K u0 u1)))
    (kk : ∀ (u : Nat → Mx) (v : Mx) (H : Heap) (locs : List Loc), LW D κ ρ ν A a u v s H locs → ∀ (ls : Array Slot), lv_has ls 4 [(0, .ref b), (1, .ref (A 5 0)), (2, .ref (a 0)), (3, .int (nI i))] → K u v → W p l e room_1 s m #[Value.ref b] below meth c H locs 55 5862 Q (F0 m 1383 ls [])) : W p l e room_1 s m #[Value.ref b] below meth c H locs 55 5862 Q (F0 m 1252 ls []) := by
  obtain ⟨hx, hb, hml, hown, hts, hr, hlk, hE⟩ := id C0.1
  refine lv_aload_n hx hb dL_law_1252 rfl (lv_at hl 1 rfl) ?_
  refine lv_aload_n hx hb dL_law_1253 rfl (lv_at hl 0 rfl) ?_
  refine lv_iload_n hx hb dL_law_1254 rfl (lv_at hl 3 rfl) ?_
  refine lv_iconst (v := 1) hx hb dL_law_1255 (by decide) ?_
  refine lv_iadd hx hb dL_law_1256 ?_
  refine sldJ C0 hW 1 rfl (by omega) dL_law_1257 ?_
  refine kWi (kV C0.1 (mX4_load l D κ A C0.2.2.2.1 h) (qX4_load hts (tw_710 hts) ⟨(Nat.le_of_ble_eq_true rfl), (Nat.le_of_ble_eq_true rfl)⟩) (va_recv hE.1 hW.1.c5 (ci := 4) (q0 := 0) rfl rfl) (rest := []) hW.1 rfl hl.1 rfl (Nat.le_of_ble_eq_true rfl) dL_law_1258 ⟨(Nat.le_of_ble_eq_true rfl), (Nat.le_of_ble_eq_true rfl)⟩) hW.2.2.2 C0.2.2.2.2.2.1 (fun r0 u0 H1 locs1 h hB hk hS1 => ?_)
  have hW := LW.toX C0 hW hB hk hS1
  refine lv_aload_n hx hb dL_law_1261 rfl (lv_at hl 2 rfl) ?_
  refine lv_aload_n hx hb dL_law_1262 rfl (lv_at hl 0 rfl) ?_
  refine lv_iload_n hx hb dL_law_1263 rfl (lv_at hl 3 rfl) ?_
  refine lv_iconst (v := 1) hx hb dL_law_1264 (by decide) ?_
  refine lv_iadd hx hb dL_law_1265 ?_
  refine sldJ C0 hW 1 rfl (by omega) dL_law_1266 ?_
  refine kWi (kV C0.1 (mX5_load l D κ ρ a C0.2.2.2.2.1 h) (qX5_load hts (tw_1210 hts) ⟨(Nat.le_of_ble_eq_true rfl), (Nat.le_of_ble_eq_true rfl)⟩) (va_recv hE.1 hW.2.1 (ci := 5) (q0 := 0) rfl rfl) (rest := [.int r0]) hW.2.1 rfl hl.1 rfl (Nat.le_of_ble_eq_true rfl) dL_law_1267 ⟨(Nat.le_of_ble_eq_true rfl), (Nat.le_of_ble_eq_true rfl)⟩) hW.2.2.2 (fun q ⟨j, hj, e9⟩ => by rw [e9]; exact C0.2.2.2.2.2.2.1 j hj) (fun r1 u1 H1 locs1 h hB hk hS1 => ?_)
  have hW := LW.toM C0 hW hB hk hS1
  refine lv_icmp_eq (tgt := 1383) hx hb dL_law_1270 (by decide) (fun _ => ?_) (fun c9 => absurd h.1 c9)
  exact kk _ _ _ _ hW ls hl h.2
set_option maxHeartbeats 4000000 in
set_option maxRecDepth 100000 in
theorem caseL_36 {p : Program} {l : Launch} {e : Env} {s : State} {m : MethodId} {below : List Frame} {meth : Method} {c : Code} {D : va_G} {κ : Nat → ClassId} {ρ ν a : Nat → Nat} {A : Nat → Nat → Nat} {b L i : Nat} {xs : Nat → Int32} {Q : State → Prop} {S : Nat → Mx} {μ : Mx} {K : (Nat → Mx) → Mx → Prop} (C0 : LC D κ A a b L xs p s m meth c) (hi : i + 6 ≤ L) {H : Heap} {locs : List Loc} (hW : LW D κ ρ ν A a S μ s H locs) (ls : Array Slot) (hl : lv_has ls 4 [(0, .ref b), (1, .ref (A 5 0)), (2, .ref (a 0)), (3, .int (nI i))])
    (h : pX4_judge S (xs (i + 1)) (fun r0 u0 => pX5_judge μ (xs (i + 1)) (fun r1 u1 => r0 = r1 ∧ K u0 u1)))
    (kk : ∀ (u : Nat → Mx) (v : Mx) (H : Heap) (locs : List Loc), LW D κ ρ ν A a u v s H locs → ∀ (ls : Array Slot), lv_has ls 4 [(0, .ref b), (1, .ref (A 5 0)), (2, .ref (a 0)), (3, .int (nI i))] → K u v → W p l e room_1 s m #[Value.ref b] below meth c H locs 55 5862 Q (F0 m 1383 ls [])) : W p l e room_1 s m #[Value.ref b] below meth c H locs 55 5862 Q (F0 m 1275 ls []) := by
  obtain ⟨hx, hb, hml, hown, hts, hr, hlk, hE⟩ := id C0.1
  refine lv_aload_n hx hb dL_law_1275 rfl (lv_at hl 1 rfl) ?_
  refine lv_aload_n hx hb dL_law_1276 rfl (lv_at hl 0 rfl) ?_
  refine lv_iload_n hx hb dL_law_1277 rfl (lv_at hl 3 rfl) ?_
  refine lv_iconst (v := 1) hx hb dL_law_1278 (by decide) ?_
  refine lv_iadd hx hb dL_law_1279 ?_
  refine sldJ C0 hW 1 rfl (by omega) dL_law_1280 ?_
  refine kWi (kV C0.1 (mX4_judge l D κ A C0.2.2.2.1 h) (qX4_judge hts (tw_714 hts) ⟨(Nat.le_of_ble_eq_true rfl), (Nat.le_of_ble_eq_true rfl)⟩) (va_recv hE.1 hW.1.c5 (ci := 4) (q0 := 0) rfl rfl) (rest := []) hW.1 rfl hl.1 rfl (Nat.le_of_ble_eq_true rfl) dL_law_1281 ⟨(Nat.le_of_ble_eq_true rfl), (Nat.le_of_ble_eq_true rfl)⟩) hW.2.2.2 C0.2.2.2.2.2.1 (fun r0 u0 H1 locs1 h hB hk hS1 => ?_)
  have hW := LW.toX C0 hW hB hk hS1
  refine lv_aload_n hx hb dL_law_1284 rfl (lv_at hl 2 rfl) ?_
  refine lv_aload_n hx hb dL_law_1285 rfl (lv_at hl 0 rfl) ?_
  refine lv_iload_n hx hb dL_law_1286 rfl (lv_at hl 3 rfl) ?_
  refine lv_iconst (v := 1) hx hb dL_law_1287 (by decide) ?_
  refine lv_iadd hx hb dL_law_1288 ?_
  refine sldJ C0 hW 1 rfl (by omega) dL_law_1289 ?_
  refine kWi (kV C0.1 (mX5_judge l D κ ρ a C0.2.2.2.2.1 h) (qX5_judge hts (tw_1214 hts) ⟨(Nat.le_of_ble_eq_true rfl), (Nat.le_of_ble_eq_true rfl)⟩) (va_recv hE.1 hW.2.1 (ci := 5) (q0 := 0) rfl rfl) (rest := [.int r0]) hW.2.1 rfl hl.1 rfl (Nat.le_of_ble_eq_true rfl) dL_law_1290 ⟨(Nat.le_of_ble_eq_true rfl), (Nat.le_of_ble_eq_true rfl)⟩) hW.2.2.2 (fun q ⟨j, hj, e9⟩ => by rw [e9]; exact C0.2.2.2.2.2.2.1 j hj) (fun r1 u1 H1 locs1 h hB hk hS1 => ?_)
  have hW := LW.toM C0 hW hB hk hS1
  refine lv_icmp_eq (tgt := 1383) hx hb dL_law_1293 (by decide) (fun _ => ?_) (fun c9 => absurd h.1 c9)
  exact kk _ _ _ _ hW ls hl h.2
set_option maxHeartbeats 4000000 in
set_option maxRecDepth 100000 in
theorem caseL_37 {p : Program} {l : Launch} {e : Env} {s : State} {m : MethodId} {below : List Frame} {meth : Method} {c : Code} {D : va_G} {κ : Nat → ClassId} {ρ ν a : Nat → Nat} {A : Nat → Nat → Nat} {b L i : Nat} {xs : Nat → Int32} {Q : State → Prop} {S : Nat → Mx} {μ : Mx} {K : (Nat → Mx) → Mx → Prop} (C0 : LC D κ A a b L xs p s m meth c) (hi : i + 6 ≤ L) {H : Heap} {locs : List Loc} (hW : LW D κ ρ ν A a S μ s H locs) (ls : Array Slot) (hl : lv_has ls 4 [(0, .ref b), (1, .ref (A 5 0)), (2, .ref (a 0)), (3, .int (nI i))])
    (h : pX4_image S  (fun r0 u0 => pX5_image μ  (fun r1 u1 => r0 = r1 ∧ K u0 u1)))
    (kk : ∀ (u : Nat → Mx) (v : Mx) (H : Heap) (locs : List Loc), LW D κ ρ ν A a u v s H locs → ∀ (ls : Array Slot), lv_has ls 4 [(0, .ref b), (1, .ref (A 5 0)), (2, .ref (a 0)), (3, .int (nI i))] → K u v → W p l e room_1 s m #[Value.ref b] below meth c H locs 55 5862 Q (F0 m 1383 ls [])) : W p l e room_1 s m #[Value.ref b] below meth c H locs 55 5862 Q (F0 m 1298 ls []) := by
  obtain ⟨hx, hb, hml, hown, hts, hr, hlk, hE⟩ := id C0.1
  refine lv_aload_n hx hb dL_law_1298 rfl (lv_at hl 1 rfl) ?_
  refine kWi (kV C0.1 (mX4_image l D κ A C0.2.2.2.1 h) (qX4_image hts (tw_718 hts) ⟨(Nat.le_of_ble_eq_true rfl), (Nat.le_of_ble_eq_true rfl)⟩) (va_recv hE.1 hW.1.c5 (ci := 4) (q0 := 0) rfl rfl) (rest := []) hW.1 rfl hl.1 rfl (Nat.le_of_ble_eq_true rfl) dL_law_1299 ⟨(Nat.le_of_ble_eq_true rfl), (Nat.le_of_ble_eq_true rfl)⟩) hW.2.2.2 C0.2.2.2.2.2.1 (fun r0 u0 H1 locs1 h hB hk hS1 => ?_)
  have hW := LW.toX C0 hW hB hk hS1
  refine lv_aload_n hx hb dL_law_1302 rfl (lv_at hl 2 rfl) ?_
  refine kWi (kV C0.1 (mX5_image l D κ ρ a C0.2.2.2.2.1 h) (qX5_image hts (tw_1218 hts) ⟨(Nat.le_of_ble_eq_true rfl), (Nat.le_of_ble_eq_true rfl)⟩) (va_recv hE.1 hW.2.1 (ci := 5) (q0 := 0) rfl rfl) (rest := [.int r0]) hW.2.1 rfl hl.1 rfl (Nat.le_of_ble_eq_true rfl) dL_law_1303 ⟨(Nat.le_of_ble_eq_true rfl), (Nat.le_of_ble_eq_true rfl)⟩) hW.2.2.2 (fun q ⟨j, hj, e9⟩ => by rw [e9]; exact C0.2.2.2.2.2.2.1 j hj) (fun r1 u1 H1 locs1 h hB hk hS1 => ?_)
  have hW := LW.toM C0 hW hB hk hS1
  refine lv_icmp_eq (tgt := 1383) hx hb dL_law_1306 (by decide) (fun _ => ?_) (fun c9 => absurd h.1 c9)
  exact kk _ _ _ _ hW ls hl h.2
set_option maxHeartbeats 4000000 in
set_option maxRecDepth 100000 in
theorem caseL_38 {p : Program} {l : Launch} {e : Env} {s : State} {m : MethodId} {below : List Frame} {meth : Method} {c : Code} {D : va_G} {κ : Nat → ClassId} {ρ ν a : Nat → Nat} {A : Nat → Nat → Nat} {b L i : Nat} {xs : Nat → Int32} {Q : State → Prop} {S : Nat → Mx} {μ : Mx} {K : (Nat → Mx) → Mx → Prop} (C0 : LC D κ A a b L xs p s m meth c) (hi : i + 6 ≤ L) {H : Heap} {locs : List Loc} (hW : LW D κ ρ ν A a S μ s H locs) (ls : Array Slot) (hl : lv_has ls 4 [(0, .ref b), (1, .ref (A 5 0)), (2, .ref (a 0)), (3, .int (nI i))])
    (h : pX4_undo S  (fun r0 u0 => pX5_undo μ  (fun r1 u1 => r0 = r1 ∧ K u0 u1)))
    (kk : ∀ (u : Nat → Mx) (v : Mx) (H : Heap) (locs : List Loc), LW D κ ρ ν A a u v s H locs → ∀ (ls : Array Slot), lv_has ls 4 [(0, .ref b), (1, .ref (A 5 0)), (2, .ref (a 0)), (3, .int (nI i))] → K u v → W p l e room_1 s m #[Value.ref b] below meth c H locs 55 5862 Q (F0 m 1383 ls [])) : W p l e room_1 s m #[Value.ref b] below meth c H locs 55 5862 Q (F0 m 1311 ls []) := by
  obtain ⟨hx, hb, hml, hown, hts, hr, hlk, hE⟩ := id C0.1
  refine lv_aload_n hx hb dL_law_1311 rfl (lv_at hl 1 rfl) ?_
  refine kWi (kV C0.1 (mX4_undo l D κ A C0.2.2.2.1 h) (qX4_undo hts (tw_722 hts) ⟨(Nat.le_of_ble_eq_true rfl), (Nat.le_of_ble_eq_true rfl)⟩) (va_recv hE.1 hW.1.c5 (ci := 4) (q0 := 0) rfl rfl) (rest := []) hW.1 rfl hl.1 rfl (Nat.le_of_ble_eq_true rfl) dL_law_1312 ⟨(Nat.le_of_ble_eq_true rfl), (Nat.le_of_ble_eq_true rfl)⟩) hW.2.2.2 C0.2.2.2.2.2.1 (fun r0 u0 H1 locs1 h hB hk hS1 => ?_)
  have hW := LW.toX C0 hW hB hk hS1
  refine lv_aload_n hx hb dL_law_1315 rfl (lv_at hl 2 rfl) ?_
  refine kWi (kV C0.1 (mX5_undo l D κ ρ a C0.2.2.2.2.1 h) (qX5_undo hts (tw_1222 hts) ⟨(Nat.le_of_ble_eq_true rfl), (Nat.le_of_ble_eq_true rfl)⟩) (va_recv hE.1 hW.2.1 (ci := 5) (q0 := 0) rfl rfl) (rest := [.int r0]) hW.2.1 rfl hl.1 rfl (Nat.le_of_ble_eq_true rfl) dL_law_1316 ⟨(Nat.le_of_ble_eq_true rfl), (Nat.le_of_ble_eq_true rfl)⟩) hW.2.2.2 (fun q ⟨j, hj, e9⟩ => by rw [e9]; exact C0.2.2.2.2.2.2.1 j hj) (fun r1 u1 H1 locs1 h hB hk hS1 => ?_)
  have hW := LW.toM C0 hW hB hk hS1
  refine lv_icmp_eq (tgt := 1383) hx hb dL_law_1319 (by decide) (fun _ => ?_) (fun c9 => absurd h.1 c9)
  exact kk _ _ _ _ hW ls hl h.2
set_option maxHeartbeats 4000000 in
set_option maxRecDepth 100000 in
theorem caseL_39 {p : Program} {l : Launch} {e : Env} {s : State} {m : MethodId} {below : List Frame} {meth : Method} {c : Code} {D : va_G} {κ : Nat → ClassId} {ρ ν a : Nat → Nat} {A : Nat → Nat → Nat} {b L i : Nat} {xs : Nat → Int32} {Q : State → Prop} {S : Nat → Mx} {μ : Mx} {K : (Nat → Mx) → Mx → Prop} (C0 : LC D κ A a b L xs p s m meth c) (hi : i + 6 ≤ L) {H : Heap} {locs : List Loc} (hW : LW D κ ρ ν A a S μ s H locs) (ls : Array Slot) (hl : lv_has ls 4 [(0, .ref b), (1, .ref (A 5 0)), (2, .ref (a 0)), (3, .int (nI i))])
    (h : pX4_tear S  (fun r0 u0 => pX5_tear μ  (fun r1 u1 => r0 = r1 ∧ K u0 u1)))
    (kk : ∀ (u : Nat → Mx) (v : Mx) (H : Heap) (locs : List Loc), LW D κ ρ ν A a u v s H locs → ∀ (ls : Array Slot), lv_has ls 4 [(0, .ref b), (1, .ref (A 5 0)), (2, .ref (a 0)), (3, .int (nI i))] → K u v → W p l e room_1 s m #[Value.ref b] below meth c H locs 55 5862 Q (F0 m 1383 ls [])) : W p l e room_1 s m #[Value.ref b] below meth c H locs 55 5862 Q (F0 m 1324 ls []) := by
  obtain ⟨hx, hb, hml, hown, hts, hr, hlk, hE⟩ := id C0.1
  refine lv_aload_n hx hb dL_law_1324 rfl (lv_at hl 1 rfl) ?_
  refine kWi (kV C0.1 (mX4_tear l D κ A C0.2.2.2.1 h) (qX4_tear hts (tw_726 hts) ⟨(Nat.le_of_ble_eq_true rfl), (Nat.le_of_ble_eq_true rfl)⟩) (va_recv hE.1 hW.1.c5 (ci := 4) (q0 := 0) rfl rfl) (rest := []) hW.1 rfl hl.1 rfl (Nat.le_of_ble_eq_true rfl) dL_law_1325 ⟨(Nat.le_of_ble_eq_true rfl), (Nat.le_of_ble_eq_true rfl)⟩) hW.2.2.2 C0.2.2.2.2.2.1 (fun r0 u0 H1 locs1 h hB hk hS1 => ?_)
  have hW := LW.toX C0 hW hB hk hS1
  refine lv_aload_n hx hb dL_law_1328 rfl (lv_at hl 2 rfl) ?_
  refine kWi (kV C0.1 (mX5_tear l D κ ρ a C0.2.2.2.2.1 h) (qX5_tear hts (tw_1226 hts) ⟨(Nat.le_of_ble_eq_true rfl), (Nat.le_of_ble_eq_true rfl)⟩) (va_recv hE.1 hW.2.1 (ci := 5) (q0 := 0) rfl rfl) (rest := [.int r0]) hW.2.1 rfl hl.1 rfl (Nat.le_of_ble_eq_true rfl) dL_law_1329 ⟨(Nat.le_of_ble_eq_true rfl), (Nat.le_of_ble_eq_true rfl)⟩) hW.2.2.2 (fun q ⟨j, hj, e9⟩ => by rw [e9]; exact C0.2.2.2.2.2.2.1 j hj) (fun r1 u1 H1 locs1 h hB hk hS1 => ?_)
  have hW := LW.toM C0 hW hB hk hS1
  refine lv_icmp_eq (tgt := 1383) hx hb dL_law_1332 (by decide) (fun _ => ?_) (fun c9 => absurd h.1 c9)
  exact kk _ _ _ _ hW ls hl h.2
set_option maxHeartbeats 4000000 in
set_option maxRecDepth 100000 in
theorem caseL_40 {p : Program} {l : Launch} {e : Env} {s : State} {m : MethodId} {below : List Frame} {meth : Method} {c : Code} {D : va_G} {κ : Nat → ClassId} {ρ ν a : Nat → Nat} {A : Nat → Nat → Nat} {b L i : Nat} {xs : Nat → Int32} {Q : State → Prop} {S : Nat → Mx} {μ : Mx} {K : (Nat → Mx) → Mx → Prop} (C0 : LC D κ A a b L xs p s m meth c) (hi : i + 6 ≤ L) {H : Heap} {locs : List Loc} (hW : LW D κ ρ ν A a S μ s H locs) (ls : Array Slot) (hl : lv_has ls 4 [(0, .ref b), (1, .ref (A 5 0)), (2, .ref (a 0)), (3, .int (nI i))])
    (h : pX4_count S (xs (i + 1)) (fun r0 u0 => pX5_count μ (xs (i + 1)) (fun r1 u1 => r0 = r1 ∧ K u0 u1)))
    (kk : ∀ (u : Nat → Mx) (v : Mx) (H : Heap) (locs : List Loc), LW D κ ρ ν A a u v s H locs → ∀ (ls : Array Slot), lv_has ls 4 [(0, .ref b), (1, .ref (A 5 0)), (2, .ref (a 0)), (3, .int (nI i))] → K u v → W p l e room_1 s m #[Value.ref b] below meth c H locs 55 5862 Q (F0 m 1383 ls [])) : W p l e room_1 s m #[Value.ref b] below meth c H locs 55 5862 Q (F0 m 1337 ls []) := by
  obtain ⟨hx, hb, hml, hown, hts, hr, hlk, hE⟩ := id C0.1
  refine lv_aload_n hx hb dL_law_1337 rfl (lv_at hl 1 rfl) ?_
  refine lv_aload_n hx hb dL_law_1338 rfl (lv_at hl 0 rfl) ?_
  refine lv_iload_n hx hb dL_law_1339 rfl (lv_at hl 3 rfl) ?_
  refine lv_iconst (v := 1) hx hb dL_law_1340 (by decide) ?_
  refine lv_iadd hx hb dL_law_1341 ?_
  refine sldJ C0 hW 1 rfl (by omega) dL_law_1342 ?_
  refine kWi (kV C0.1 (mX4_count l D κ A C0.2.2.2.1 h) (qX4_count hts (tw_730 hts) ⟨(Nat.le_of_ble_eq_true rfl), (Nat.le_of_ble_eq_true rfl)⟩) (va_recv hE.1 hW.1.c5 (ci := 4) (q0 := 0) rfl rfl) (rest := []) hW.1 rfl hl.1 rfl (Nat.le_of_ble_eq_true rfl) dL_law_1343 ⟨(Nat.le_of_ble_eq_true rfl), (Nat.le_of_ble_eq_true rfl)⟩) hW.2.2.2 C0.2.2.2.2.2.1 (fun r0 u0 H1 locs1 h hB hk hS1 => ?_)
  have hW := LW.toX C0 hW hB hk hS1
  refine lv_aload_n hx hb dL_law_1346 rfl (lv_at hl 2 rfl) ?_
  refine lv_aload_n hx hb dL_law_1347 rfl (lv_at hl 0 rfl) ?_
  refine lv_iload_n hx hb dL_law_1348 rfl (lv_at hl 3 rfl) ?_
  refine lv_iconst (v := 1) hx hb dL_law_1349 (by decide) ?_
  refine lv_iadd hx hb dL_law_1350 ?_
  refine sldJ C0 hW 1 rfl (by omega) dL_law_1351 ?_
  refine kWi (kV C0.1 (mX5_count l D κ ρ a C0.2.2.2.2.1 h) (qX5_count hts (tw_1230 hts) ⟨(Nat.le_of_ble_eq_true rfl), (Nat.le_of_ble_eq_true rfl)⟩) (va_recv hE.1 hW.2.1 (ci := 5) (q0 := 0) rfl rfl) (rest := [.int r0]) hW.2.1 rfl hl.1 rfl (Nat.le_of_ble_eq_true rfl) dL_law_1352 ⟨(Nat.le_of_ble_eq_true rfl), (Nat.le_of_ble_eq_true rfl)⟩) hW.2.2.2 (fun q ⟨j, hj, e9⟩ => by rw [e9]; exact C0.2.2.2.2.2.2.1 j hj) (fun r1 u1 H1 locs1 h hB hk hS1 => ?_)
  have hW := LW.toM C0 hW hB hk hS1
  refine lv_icmp_eq (tgt := 1383) hx hb dL_law_1355 (by decide) (fun _ => ?_) (fun c9 => absurd h.1 c9)
  exact kk _ _ _ _ hW ls hl h.2
set_option maxHeartbeats 4000000 in
set_option maxRecDepth 100000 in
theorem caseL_41 {p : Program} {l : Launch} {e : Env} {s : State} {m : MethodId} {below : List Frame} {meth : Method} {c : Code} {D : va_G} {κ : Nat → ClassId} {ρ ν a : Nat → Nat} {A : Nat → Nat → Nat} {b L i : Nat} {xs : Nat → Int32} {Q : State → Prop} {S : Nat → Mx} {μ : Mx} {K : (Nat → Mx) → Mx → Prop} (C0 : LC D κ A a b L xs p s m meth c) (hi : i + 6 ≤ L) {H : Heap} {locs : List Loc} (hW : LW D κ ρ ν A a S μ s H locs) (ls : Array Slot) (hl : lv_has ls 4 [(0, .ref b), (1, .ref (A 5 0)), (2, .ref (a 0)), (3, .int (nI i))])
    (h : pX4_status S (xs (i + 1)) (fun r0 u0 => pX5_status μ (xs (i + 1)) (fun r1 u1 => r0 = r1 ∧ K u0 u1)))
    (kk : ∀ (u : Nat → Mx) (v : Mx) (H : Heap) (locs : List Loc), LW D κ ρ ν A a u v s H locs → ∀ (ls : Array Slot), lv_has ls 4 [(0, .ref b), (1, .ref (A 5 0)), (2, .ref (a 0)), (3, .int (nI i))] → K u v → W p l e room_1 s m #[Value.ref b] below meth c H locs 55 5862 Q (F0 m 1383 ls [])) : W p l e room_1 s m #[Value.ref b] below meth c H locs 55 5862 Q (F0 m 1360 ls []) := by
  obtain ⟨hx, hb, hml, hown, hts, hr, hlk, hE⟩ := id C0.1
  refine lv_aload_n hx hb dL_law_1360 rfl (lv_at hl 1 rfl) ?_
  refine lv_aload_n hx hb dL_law_1361 rfl (lv_at hl 0 rfl) ?_
  refine lv_iload_n hx hb dL_law_1362 rfl (lv_at hl 3 rfl) ?_
  refine lv_iconst (v := 1) hx hb dL_law_1363 (by decide) ?_
  refine lv_iadd hx hb dL_law_1364 ?_
  refine sldJ C0 hW 1 rfl (by omega) dL_law_1365 ?_
  refine kWi (kV C0.1 (mX4_status l D κ A C0.2.2.2.1 h) (qX4_status hts (tw_738 hts) ⟨(Nat.le_of_ble_eq_true rfl), (Nat.le_of_ble_eq_true rfl)⟩) (va_recv hE.1 hW.1.c5 (ci := 4) (q0 := 0) rfl rfl) (rest := []) hW.1 rfl hl.1 rfl (Nat.le_of_ble_eq_true rfl) dL_law_1366 ⟨(Nat.le_of_ble_eq_true rfl), (Nat.le_of_ble_eq_true rfl)⟩) hW.2.2.2 C0.2.2.2.2.2.1 (fun r0 u0 H1 locs1 h hB hk hS1 => ?_)
  have hW := LW.toX C0 hW hB hk hS1
  refine lv_aload_n hx hb dL_law_1369 rfl (lv_at hl 2 rfl) ?_
  refine lv_aload_n hx hb dL_law_1370 rfl (lv_at hl 0 rfl) ?_
  refine lv_iload_n hx hb dL_law_1371 rfl (lv_at hl 3 rfl) ?_
  refine lv_iconst (v := 1) hx hb dL_law_1372 (by decide) ?_
  refine lv_iadd hx hb dL_law_1373 ?_
  refine sldJ C0 hW 1 rfl (by omega) dL_law_1374 ?_
  refine kWi (kV C0.1 (mX5_status l D κ ρ a C0.2.2.2.2.1 h) (qX5_status hts (tw_1234 hts) ⟨(Nat.le_of_ble_eq_true rfl), (Nat.le_of_ble_eq_true rfl)⟩) (va_recv hE.1 hW.2.1 (ci := 5) (q0 := 0) rfl rfl) (rest := [.int r0]) hW.2.1 rfl hl.1 rfl (Nat.le_of_ble_eq_true rfl) dL_law_1375 ⟨(Nat.le_of_ble_eq_true rfl), (Nat.le_of_ble_eq_true rfl)⟩) hW.2.2.2 (fun q ⟨j, hj, e9⟩ => by rw [e9]; exact C0.2.2.2.2.2.2.1 j hj) (fun r1 u1 H1 locs1 h hB hk hS1 => ?_)
  have hW := LW.toM C0 hW hB hk hS1
  refine lv_icmp_eq (tgt := 1383) hx hb dL_law_1378 (by decide) (fun _ => ?_) (fun c9 => absurd h.1 c9)
  exact kk _ _ _ _ hW ls hl h.2
def OK_0 (I : (Nat → Mx) → Mx → Prop) : Prop := ∀ (S : Nat → Mx) (μ : Mx) (x1 x2 x3 : Int32), I S μ → pX4_list S x1 x2 x3 (fun r0 u0 => pX5_list μ x1 x2 x3 (fun r1 u1 => r0 = r1 ∧ I u0 u1))
def OK_1 (I : (Nat → Mx) → Mx → Prop) : Prop := ∀ (S : Nat → Mx) (μ : Mx) (x1 : Int32), I S μ → pX4_listed S x1 (fun r0 u0 => pX5_listed μ x1 (fun r1 u1 => r0 = r1 ∧ I u0 u1))
def OK_2 (I : (Nat → Mx) → Mx → Prop) : Prop := ∀ (S : Nat → Mx) (μ : Mx) (x1 x2 x3 : Int32), I S μ → pX4_piece S x1 x2 x3 (fun r0 u0 => pX5_piece μ x1 x2 x3 (fun r1 u1 => r0 = r1 ∧ I u0 u1))
def OK_3 (I : (Nat → Mx) → Mx → Prop) : Prop := ∀ (S : Nat → Mx) (μ : Mx) (x1 x2 : Int32), I S μ → pX4_of S x1 x2 (fun r0 u0 => pX5_of μ x1 x2 (fun r1 u1 => r0 = r1 ∧ I u0 u1))
def OK_4 (I : (Nat → Mx) → Mx → Prop) : Prop := ∀ (S : Nat → Mx) (μ : Mx) (x1 x2 x3 : Int32), I S μ → pX4_change S x1 x2 x3 (fun r0 u0 => pX5_change μ x1 x2 x3 (fun r1 u1 => r0 = r1 ∧ I u0 u1))
def OK_5 (I : (Nat → Mx) → Mx → Prop) : Prop := ∀ (S : Nat → Mx) (μ : Mx) (x1 : Int32), I S μ → pX4_lies S x1 (fun r0 u0 => pX5_lies μ x1 (fun r1 u1 => r0 = r1 ∧ I u0 u1))
def OK_6 (I : (Nat → Mx) → Mx → Prop) : Prop := ∀ (S : Nat → Mx) (μ : Mx) (x1 x2 : Int32), I S μ → pX4_gap S x1 x2 (fun r0 u0 => pX5_gap μ x1 x2 (fun r1 u1 => r0 = r1 ∧ I u0 u1))
def OK_7 (I : (Nat → Mx) → Mx → Prop) : Prop := ∀ (S : Nat → Mx) (μ : Mx) (x1 x2 : Int32), I S μ → pX4_edge S x1 x2 (fun r0 u0 => pX5_edge μ x1 x2 (fun r1 u1 => r0 = r1 ∧ I u0 u1))
def OK_8 (I : (Nat → Mx) → Mx → Prop) : Prop := ∀ (S : Nat → Mx) (μ : Mx) (x1 x2 : Int32), I S μ → pX4_swap S x1 x2 (fun r0 u0 => pX5_swap μ x1 x2 (fun r1 u1 => r0 = r1 ∧ I u0 u1))
def OK_9 (I : (Nat → Mx) → Mx → Prop) : Prop := ∀ (S : Nat → Mx) (μ : Mx) (x1 : Int32), I S μ → pX4_go S x1 (fun r0 u0 => pX5_go μ x1 (fun r1 u1 => r0 = r1 ∧ I u0 u1))
def OK_10 (I : (Nat → Mx) → Mx → Prop) : Prop := ∀ (S : Nat → Mx) (μ : Mx) (x1 : Int32), I S μ → pX4_now S x1 (fun r0 u0 => pX5_now μ x1 (fun r1 u1 => r0 = r1 ∧ I u0 u1))
def OK_11 (I : (Nat → Mx) → Mx → Prop) : Prop := ∀ (S : Nat → Mx) (μ : Mx) (x1 x2 x3 : Int32), I S μ → pX4_ahead S x1 x2 x3 (fun r0 u0 => pX5_ahead μ x1 x2 x3 (fun r1 u1 => r0 = r1 ∧ I u0 u1))
def OK_12 (I : (Nat → Mx) → Mx → Prop) : Prop := ∀ (S : Nat → Mx) (μ : Mx) (x1 : Int32), I S μ → pX4_sum S x1 (fun r0 u0 => pX5_sum μ x1 (fun r1 u1 => r0 = r1 ∧ I u0 u1))
def OK_13 (I : (Nat → Mx) → Mx → Prop) : Prop := ∀ (S : Nat → Mx) (μ : Mx) (x1 : Int32), I S μ → pX4_when S x1 (fun r0 u0 => pX5_when μ x1 (fun r1 u1 => r0 = r1 ∧ I u0 u1))
def OK_14 (I : (Nat → Mx) → Mx → Prop) : Prop := ∀ (S : Nat → Mx) (μ : Mx) (x1 x2 : Int32), I S μ → pX4_comes S x1 x2 (fun r0 u0 => pX5_comes μ x1 x2 (fun r1 u1 => r0 = r1 ∧ I u0 u1))
def OK_15 (I : (Nat → Mx) → Mx → Prop) : Prop := ∀ (S : Nat → Mx) (μ : Mx) (x1 : Int32), I S μ → pX4_granted S x1 (fun r0 u0 => pX5_granted μ x1 (fun r1 u1 => r0 = r1 ∧ I u0 u1))
def OK_16 (I : (Nat → Mx) → Mx → Prop) : Prop := ∀ (S : Nat → Mx) (μ : Mx), I S μ → pX4_best S  (fun r0 u0 => pX5_best μ  (fun r1 u1 => r0 = r1 ∧ I u0 u1))
def OK_17 (I : (Nat → Mx) → Mx → Prop) : Prop := ∀ (S : Nat → Mx) (μ : Mx) (x1 : Int32), I S μ → pX4_bestAt S x1 (fun r0 u0 => pX5_bestAt μ x1 (fun r1 u1 => r0 = r1 ∧ I u0 u1))
def OK_18 (I : (Nat → Mx) → Mx → Prop) : Prop := ∀ (S : Nat → Mx) (μ : Mx), I S μ → pX4_settle S  (fun r0 u0 => pX5_settle μ  (fun r1 u1 => r0 = r1 ∧ I u0 u1))
def OK_19 (I : (Nat → Mx) → Mx → Prop) : Prop := ∀ (S : Nat → Mx) (μ : Mx) (x1 : Int32), I S μ → pX4_edgeFor S x1 (fun r0 u0 => pX5_edgeFor μ x1 (fun r1 u1 => r0 = r1 ∧ I u0 u1))
def OK_20 (I : (Nat → Mx) → Mx → Prop) : Prop := ∀ (S : Nat → Mx) (μ : Mx) (x1 : Int32), I S μ → pX4_kindFor S x1 (fun r0 u0 => pX5_kindFor μ x1 (fun r1 u1 => r0 = r1 ∧ I u0 u1))
def OK_21 (I : (Nat → Mx) → Mx → Prop) : Prop := ∀ (S : Nat → Mx) (μ : Mx) (x1 : Int32), I S μ → pX4_turn S x1 (fun r0 u0 => pX5_turn μ x1 (fun r1 u1 => r0 = r1 ∧ I u0 u1))
def OK_22 (I : (Nat → Mx) → Mx → Prop) : Prop := ∀ (S : Nat → Mx) (μ : Mx) (x1 x2 : Int32), I S μ → pX4_fits S x1 x2 (fun r0 u0 => pX5_fits μ x1 x2 (fun r1 u1 => r0 = r1 ∧ I u0 u1))
def OK_23 (I : (Nat → Mx) → Mx → Prop) : Prop := ∀ (S : Nat → Mx) (μ : Mx) (x1 x2 : Int32), I S μ → pX4_kinds S x1 x2 (fun r0 u0 => pX5_kinds μ x1 x2 (fun r1 u1 => r0 = r1 ∧ I u0 u1))
def OK_24 (I : (Nat → Mx) → Mx → Prop) : Prop := ∀ (S : Nat → Mx) (μ : Mx) (x1 : Int32), I S μ → pX4_tip S x1 (fun r0 u0 => pX5_tip μ x1 (fun r1 u1 => r0 = r1 ∧ I u0 u1))
def OK_25 (I : (Nat → Mx) → Mx → Prop) : Prop := ∀ (S : Nat → Mx) (μ : Mx) (x1 x2 : Int32), I S μ → pX4_odds S x1 x2 (fun r0 u0 => pX5_odds μ x1 x2 (fun r1 u1 => r0 = r1 ∧ I u0 u1))
def OK_26 (I : (Nat → Mx) → Mx → Prop) : Prop := ∀ (S : Nat → Mx) (μ : Mx) (x1 : Int32), I S μ → pX4_seed S x1 (fun r0 u0 => pX5_seed μ x1 (fun r1 u1 => r0 = r1 ∧ I u0 u1))
def OK_27 (I : (Nat → Mx) → Mx → Prop) : Prop := ∀ (S : Nat → Mx) (μ : Mx) (x1 x2 : Int32), I S μ → pX4_feed S x1 x2 (fun r0 u0 => pX5_feed μ x1 x2 (fun r1 u1 => r0 = r1 ∧ I u0 u1))
def OK_28 (I : (Nat → Mx) → Mx → Prop) : Prop := ∀ (S : Nat → Mx) (μ : Mx), I S μ → pX4_wipe S  (fun r0 u0 => pX5_wipe μ  (fun r1 u1 => r0 = r1 ∧ I u0 u1))
def OK_29 (I : (Nat → Mx) → Mx → Prop) : Prop := ∀ (S : Nat → Mx) (μ : Mx), I S μ → pX4_text S  (fun r0 u0 => pX5_text μ  (fun r1 u1 => r0 = r1 ∧ I u0 u1))
def OK_30 (I : (Nat → Mx) → Mx → Prop) : Prop := ∀ (S : Nat → Mx) (μ : Mx) (x1 x2 : Int32), I S μ → pX4_hold S x1 x2 (fun r0 u0 => pX5_hold μ x1 x2 (fun r1 u1 => r0 = r1 ∧ I u0 u1))
def OK_31 (I : (Nat → Mx) → Mx → Prop) : Prop := ∀ (S : Nat → Mx) (μ : Mx) (x1 x2 : Int32), I S μ → pX4_as S x1 x2 (fun r0 u0 => pX5_as μ x1 x2 (fun r1 u1 => r0 = r1 ∧ I u0 u1))
def OK_32 (I : (Nat → Mx) → Mx → Prop) : Prop := ∀ (S : Nat → Mx) (μ : Mx) (x1 x2 x3 : Int32), I S μ → pX4_sheet S x1 x2 x3 (fun r0 u0 => pX5_sheet μ x1 x2 x3 (fun r1 u1 => r0 = r1 ∧ I u0 u1))
def OK_33 (I : (Nat → Mx) → Mx → Prop) : Prop := ∀ (S : Nat → Mx) (μ : Mx) (x1 x2 x3 : Int32), I S μ → pX4_write S x1 x2 x3 (fun r0 u0 => pX5_write μ x1 x2 x3 (fun r1 u1 => r0 = r1 ∧ I u0 u1))
def OK_34 (I : (Nat → Mx) → Mx → Prop) : Prop := ∀ (S : Nat → Mx) (μ : Mx) (x1 x2 x3 x4 x5 : Int32), I S μ → pX4_copy S x1 x2 x3 x4 x5 (fun r0 u0 => pX5_copy μ x1 x2 x3 x4 x5 (fun r1 u1 => r0 = r1 ∧ I u0 u1))
def OK_35 (I : (Nat → Mx) → Mx → Prop) : Prop := ∀ (S : Nat → Mx) (μ : Mx) (x1 : Int32), I S μ → pX4_load S x1 (fun r0 u0 => pX5_load μ x1 (fun r1 u1 => r0 = r1 ∧ I u0 u1))
def OK_36 (I : (Nat → Mx) → Mx → Prop) : Prop := ∀ (S : Nat → Mx) (μ : Mx) (x1 : Int32), I S μ → pX4_judge S x1 (fun r0 u0 => pX5_judge μ x1 (fun r1 u1 => r0 = r1 ∧ I u0 u1))
def OK_37 (I : (Nat → Mx) → Mx → Prop) : Prop := ∀ (S : Nat → Mx) (μ : Mx), I S μ → pX4_image S  (fun r0 u0 => pX5_image μ  (fun r1 u1 => r0 = r1 ∧ I u0 u1))
def OK_38 (I : (Nat → Mx) → Mx → Prop) : Prop := ∀ (S : Nat → Mx) (μ : Mx), I S μ → pX4_undo S  (fun r0 u0 => pX5_undo μ  (fun r1 u1 => r0 = r1 ∧ I u0 u1))
def OK_39 (I : (Nat → Mx) → Mx → Prop) : Prop := ∀ (S : Nat → Mx) (μ : Mx), I S μ → pX4_tear S  (fun r0 u0 => pX5_tear μ  (fun r1 u1 => r0 = r1 ∧ I u0 u1))
def OK_40 (I : (Nat → Mx) → Mx → Prop) : Prop := ∀ (S : Nat → Mx) (μ : Mx) (x1 : Int32), I S μ → pX4_count S x1 (fun r0 u0 => pX5_count μ x1 (fun r1 u1 => r0 = r1 ∧ I u0 u1))
def OK_41 (I : (Nat → Mx) → Mx → Prop) : Prop := ∀ (S : Nat → Mx) (μ : Mx) (x1 : Int32), I S μ → pX4_status S x1 (fun r0 u0 => pX5_status μ x1 (fun r1 u1 => r0 = r1 ∧ I u0 u1))
def LOK (I : (Nat → Mx) → Mx → Prop) : Prop := OK_0 I ∧ OK_1 I ∧ OK_2 I ∧ OK_3 I ∧ OK_4 I ∧ OK_5 I ∧ OK_6 I ∧ OK_7 I ∧ OK_8 I ∧ OK_9 I ∧ OK_10 I ∧ OK_11 I ∧ OK_12 I ∧ OK_13 I ∧ OK_14 I ∧ OK_15 I ∧ OK_16 I ∧ OK_17 I ∧ OK_18 I ∧ OK_19 I ∧ OK_20 I ∧ OK_21 I ∧ OK_22 I ∧ OK_23 I ∧ OK_24 I ∧ OK_25 I ∧ OK_26 I ∧ OK_27 I ∧ OK_28 I ∧ OK_29 I ∧ OK_30 I ∧ OK_31 I ∧ OK_32 I ∧ OK_33 I ∧ OK_34 I ∧ OK_35 I ∧ OK_36 I ∧ OK_37 I ∧ OK_38 I ∧ OK_39 I ∧ OK_40 I ∧ OK_41 I
set_option maxHeartbeats 8000000 in
set_option maxRecDepth 100000 in
/-- THE LAW'S LOOP -/
theorem law_loop {p : Program} {l : Launch} {e : Env} {s : State} {m : MethodId} {below : List Frame} {meth : Method} {c : Code} {D : va_G} {κ : Nat → ClassId} {ρ ν a : Nat → Nat} {A : Nat → Nat → Nat} {b L : Nat} {xs : Nat → Int32} {I : (Nat → Mx) → Mx → Prop} (hI : LOK I) (C0 : LC D κ A a b L xs p s m meth c) : ∀ (n i : Nat), i ≤ L + 6 → L + 7 ≤ i + n → ∀ (S : Nat → Mx) (μ : Mx), I S μ → ∀ (H : Heap) (locs : List Loc), LW D κ ρ ν A a S μ s H locs → ∀ (ls : Array Slot), lv_has ls 4 [(0, .ref b), (1, .ref (A 5 0)), (2, .ref (a 0)), (3, .int (nI i))] → W p l e room_1 s m #[Value.ref b] below meth c H locs 55 5862 (lw_Z below #[Value.ref b] s) (F0 m 18 ls []) := by
  obtain ⟨hx, hb, hml, hown, hts, hr, hlk, hE⟩ := id C0.1
  have hL : L ≤ 3072 := C0.2.2.2.2.2.2.2.2
  intro n
  induction n with
  | zero =>
    intro i h1 h2
    exact absurd h2 (by omega)
  | succ n ih =>
    intro i hi hin S μ hSM H locs hW ls hl
    refine lv_iload_n hx hb dL_law_18 rfl (lv_at hl 3 rfl) ?_
    refine lv_aload_n hx hb dL_law_19 rfl (lv_at hl 0 rfl) ?_
    refine va_slen hx hb C0.2.1 C0.2.2.1 (Nat.not_le.mpr C0.2.2.1) hW.2.2.2 dL_law_20 ?_
    refine lv_bipush (v := 6) hx hb dL_law_21 (by decide) ?_
    refine lv_isub hx hb dL_law_23 ?_
    refine lv_icmp_gt (tgt := 1389) hx hb dL_law_24 (by decide) (fun c_10 => ?_) (fun c_10 => ?_)
    · refine lv_iconst (v := 1) hx hb dL_law_1389 (by decide) ?_
      refine va_forget (fun q hq => hW.2.2.2.2.2 q hq) ?_
      refine W.widen (k := 600000) (n := 7302250) (Nat.le_of_ble_eq_true rfl) (Nat.le_of_ble_eq_true rfl) ?_
      exact lw_ret hx hb hr hlk dL_law_1390
    have hi6 : i + 6 ≤ L := by
      rcases Nat.lt_or_ge L (i + 6) with q | q
      · refine absurd ?_ c_10
        rw [Int32.lt_iff_toInt_lt, nI_toInt (by omega)]
        have e9 : (Int32.ofNat L - 6).toInt = (L : Int) - 6 := pk_sub_toInt (a := L) (b := 6) (by omega) (by decide)
        rw [e9]
        omega
      · exact q
    have kk : ∀ (u : Nat → Mx) (v : Mx) (H : Heap) (locs : List Loc), LW D κ ρ ν A a u v s H locs → ∀ (ls : Array Slot), lv_has ls 4 [(0, .ref b), (1, .ref (A 5 0)), (2, .ref (a 0)), (3, .int (nI i))] → I u v → W p l e room_1 s m #[Value.ref b] below meth c H locs 55 5862 (lw_Z below #[Value.ref b] s) (F0 m 1383 ls []) := by
      intro u v H locs hW ls hl hSM
      refine lv_iinc (v := nI (i + 6)) (lv' := [(3, .int (nI (i + 6))), (0, .ref b), (1, .ref (A 5 0)), (2, .ref (a 0))]) hx hb dL_law_1383 hl (k := 3) rfl (nI_add i 6) (by decide) rfl (fun ls hl => ?_)
      refine lv_goto (tgt := 18) hx hb dL_law_1386 (by decide) ?_
      exact ih (i + 6) (by omega) (by omega) u v hSM H locs hW ls (lv_sub hl [1, 2, 3, 0] rfl)
    refine lv_aload_n hx hb dL_law_27 rfl (lv_at hl 0 rfl) ?_
    refine lv_iload_n hx hb dL_law_28 rfl (lv_at hl 3 rfl) ?_
    refine va_sld hx hb C0.2.1 C0.2.2.1 (Nat.not_le.mpr C0.2.2.1) hW.2.2.2 (vp_in_nI (show i < L by omega) (by omega)) dL_law_29 ?_
    refine lv_bipush (v := 63) hx hb dL_law_30 (by decide) ?_
    refine lv_iand hx hb dL_law_32 ?_
    refine lv_topi (fun v9 _ => ?_)
    by_cases c_0 : v9 = 0
    · refine lv_tableIn (tgt := 216) hx hb dL_law_33 (by rw [c_0]; decide) (by rw [c_0]; decide) (by rw [c_0]; rfl) (by decide) ?_
      exact caseL_0 (K := I) C0 hi6 hW ls hl (hI.1 _ _ (xs (i + 1)) (xs (i + 2)) (xs (i + 3)) hSM) kk
    · by_cases c_1 : v9 = 1
      · refine lv_tableIn (tgt := 259) hx hb dL_law_33 (by rw [c_1]; decide) (by rw [c_1]; decide) (by rw [c_1]; rfl) (by decide) ?_
        exact caseL_1 (K := I) C0 hi6 hW ls hl (hI.2.1 _ _ (xs (i + 1)) hSM) kk
      · by_cases c_2 : v9 = 2
        · refine lv_tableIn (tgt := 282) hx hb dL_law_33 (by rw [c_2]; decide) (by rw [c_2]; decide) (by rw [c_2]; rfl) (by decide) ?_
          exact caseL_2 (K := I) C0 hi6 hW ls hl (hI.2.2.1 _ _ (xs (i + 1)) (xs (i + 2)) (xs (i + 3)) hSM) kk
        · by_cases c_3 : v9 = 3
          · refine lv_tableIn (tgt := 325) hx hb dL_law_33 (by rw [c_3]; decide) (by rw [c_3]; decide) (by rw [c_3]; rfl) (by decide) ?_
            exact caseL_3 (K := I) C0 hi6 hW ls hl (hI.2.2.2.1 _ _ (xs (i + 1)) (xs (i + 2)) hSM) kk
          · by_cases c_4 : v9 = 4
            · refine lv_tableIn (tgt := 358) hx hb dL_law_33 (by rw [c_4]; decide) (by rw [c_4]; decide) (by rw [c_4]; rfl) (by decide) ?_
              exact caseL_4 (K := I) C0 hi6 hW ls hl (hI.2.2.2.2.1 _ _ (xs (i + 1)) (xs (i + 2)) (xs (i + 3)) hSM) kk
            · by_cases c_5 : v9 = 5
              · refine lv_tableIn (tgt := 401) hx hb dL_law_33 (by rw [c_5]; decide) (by rw [c_5]; decide) (by rw [c_5]; rfl) (by decide) ?_
                exact caseL_5 (K := I) C0 hi6 hW ls hl (hI.2.2.2.2.2.1 _ _ (xs (i + 1)) hSM) kk
              · by_cases c_6 : v9 = 6
                · refine lv_tableIn (tgt := 424) hx hb dL_law_33 (by rw [c_6]; decide) (by rw [c_6]; decide) (by rw [c_6]; rfl) (by decide) ?_
                  exact caseL_6 (K := I) C0 hi6 hW ls hl (hI.2.2.2.2.2.2.1 _ _ (xs (i + 1)) (xs (i + 2)) hSM) kk
                · by_cases c_7 : v9 = 7
                  · refine lv_tableIn (tgt := 457) hx hb dL_law_33 (by rw [c_7]; decide) (by rw [c_7]; decide) (by rw [c_7]; rfl) (by decide) ?_
                    exact caseL_7 (K := I) C0 hi6 hW ls hl (hI.2.2.2.2.2.2.2.1 _ _ (xs (i + 1)) (xs (i + 2)) hSM) kk
                  · by_cases c_8 : v9 = 8
                    · refine lv_tableIn (tgt := 490) hx hb dL_law_33 (by rw [c_8]; decide) (by rw [c_8]; decide) (by rw [c_8]; rfl) (by decide) ?_
                      exact caseL_8 (K := I) C0 hi6 hW ls hl (hI.2.2.2.2.2.2.2.2.1 _ _ (xs (i + 1)) (xs (i + 2)) hSM) kk
                    · by_cases c_9 : v9 = 9
                      · refine lv_tableIn (tgt := 523) hx hb dL_law_33 (by rw [c_9]; decide) (by rw [c_9]; decide) (by rw [c_9]; rfl) (by decide) ?_
                        exact caseL_9 (K := I) C0 hi6 hW ls hl (hI.2.2.2.2.2.2.2.2.2.1 _ _ (xs (i + 1)) hSM) kk
                      · by_cases c_10 : v9 = 10
                        · refine lv_tableIn (tgt := 546) hx hb dL_law_33 (by rw [c_10]; decide) (by rw [c_10]; decide) (by rw [c_10]; rfl) (by decide) ?_
                          exact caseL_10 (K := I) C0 hi6 hW ls hl (hI.2.2.2.2.2.2.2.2.2.2.1 _ _ (xs (i + 1)) hSM) kk
                        · by_cases c_11 : v9 = 11
                          · refine lv_tableIn (tgt := 569) hx hb dL_law_33 (by rw [c_11]; decide) (by rw [c_11]; decide) (by rw [c_11]; rfl) (by decide) ?_
                            exact caseL_11 (K := I) C0 hi6 hW ls hl (hI.2.2.2.2.2.2.2.2.2.2.2.1 _ _ (xs (i + 1)) (xs (i + 2)) (xs (i + 3)) hSM) kk
                          · by_cases c_12 : v9 = 12
                            · refine lv_tableIn (tgt := 612) hx hb dL_law_33 (by rw [c_12]; decide) (by rw [c_12]; decide) (by rw [c_12]; rfl) (by decide) ?_
                              exact caseL_12 (K := I) C0 hi6 hW ls hl (hI.2.2.2.2.2.2.2.2.2.2.2.2.1 _ _ (xs (i + 1)) hSM) kk
                            · by_cases c_13 : v9 = 13
                              · refine lv_tableIn (tgt := 635) hx hb dL_law_33 (by rw [c_13]; decide) (by rw [c_13]; decide) (by rw [c_13]; rfl) (by decide) ?_
                                exact caseL_13 (K := I) C0 hi6 hW ls hl (hI.2.2.2.2.2.2.2.2.2.2.2.2.2.1 _ _ (xs (i + 1)) hSM) kk
                              · by_cases c_14 : v9 = 14
                                · refine lv_tableIn (tgt := 658) hx hb dL_law_33 (by rw [c_14]; decide) (by rw [c_14]; decide) (by rw [c_14]; rfl) (by decide) ?_
                                  exact caseL_14 (K := I) C0 hi6 hW ls hl (hI.2.2.2.2.2.2.2.2.2.2.2.2.2.2.1 _ _ (xs (i + 1)) (xs (i + 2)) hSM) kk
                                · by_cases c_15 : v9 = 15
                                  · refine lv_tableIn (tgt := 691) hx hb dL_law_33 (by rw [c_15]; decide) (by rw [c_15]; decide) (by rw [c_15]; rfl) (by decide) ?_
                                    exact caseL_15 (K := I) C0 hi6 hW ls hl (hI.2.2.2.2.2.2.2.2.2.2.2.2.2.2.2.1 _ _ (xs (i + 1)) hSM) kk
                                  · by_cases c_16 : v9 = 16
                                    · refine lv_tableIn (tgt := 714) hx hb dL_law_33 (by rw [c_16]; decide) (by rw [c_16]; decide) (by rw [c_16]; rfl) (by decide) ?_
                                      exact caseL_16 (K := I) C0 hi6 hW ls hl (hI.2.2.2.2.2.2.2.2.2.2.2.2.2.2.2.2.1 _ _ hSM) kk
                                    · by_cases c_17 : v9 = 17
                                      · refine lv_tableIn (tgt := 727) hx hb dL_law_33 (by rw [c_17]; decide) (by rw [c_17]; decide) (by rw [c_17]; rfl) (by decide) ?_
                                        exact caseL_17 (K := I) C0 hi6 hW ls hl (hI.2.2.2.2.2.2.2.2.2.2.2.2.2.2.2.2.2.1 _ _ (xs (i + 1)) hSM) kk
                                      · by_cases c_18 : v9 = 18
                                        · refine lv_tableIn (tgt := 750) hx hb dL_law_33 (by rw [c_18]; decide) (by rw [c_18]; decide) (by rw [c_18]; rfl) (by decide) ?_
                                          exact caseL_18 (K := I) C0 hi6 hW ls hl (hI.2.2.2.2.2.2.2.2.2.2.2.2.2.2.2.2.2.2.1 _ _ hSM) kk
                                        · by_cases c_19 : v9 = 19
                                          · refine lv_tableIn (tgt := 763) hx hb dL_law_33 (by rw [c_19]; decide) (by rw [c_19]; decide) (by rw [c_19]; rfl) (by decide) ?_
                                            exact caseL_19 (K := I) C0 hi6 hW ls hl (hI.2.2.2.2.2.2.2.2.2.2.2.2.2.2.2.2.2.2.2.1 _ _ (xs (i + 1)) hSM) kk
                                          · by_cases c_20 : v9 = 20
                                            · refine lv_tableIn (tgt := 786) hx hb dL_law_33 (by rw [c_20]; decide) (by rw [c_20]; decide) (by rw [c_20]; rfl) (by decide) ?_
                                              exact caseL_20 (K := I) C0 hi6 hW ls hl (hI.2.2.2.2.2.2.2.2.2.2.2.2.2.2.2.2.2.2.2.2.1 _ _ (xs (i + 1)) hSM) kk
                                            · by_cases c_21 : v9 = 21
                                              · refine lv_tableIn (tgt := 809) hx hb dL_law_33 (by rw [c_21]; decide) (by rw [c_21]; decide) (by rw [c_21]; rfl) (by decide) ?_
                                                exact caseL_21 (K := I) C0 hi6 hW ls hl (hI.2.2.2.2.2.2.2.2.2.2.2.2.2.2.2.2.2.2.2.2.2.1 _ _ (xs (i + 1)) hSM) kk
                                              · by_cases c_22 : v9 = 22
                                                · refine lv_tableIn (tgt := 832) hx hb dL_law_33 (by rw [c_22]; decide) (by rw [c_22]; decide) (by rw [c_22]; rfl) (by decide) ?_
                                                  exact caseL_22 (K := I) C0 hi6 hW ls hl (hI.2.2.2.2.2.2.2.2.2.2.2.2.2.2.2.2.2.2.2.2.2.2.1 _ _ (xs (i + 1)) (xs (i + 2)) hSM) kk
                                                · by_cases c_23 : v9 = 23
                                                  · refine lv_tableIn (tgt := 865) hx hb dL_law_33 (by rw [c_23]; decide) (by rw [c_23]; decide) (by rw [c_23]; rfl) (by decide) ?_
                                                    exact caseL_23 (K := I) C0 hi6 hW ls hl (hI.2.2.2.2.2.2.2.2.2.2.2.2.2.2.2.2.2.2.2.2.2.2.2.1 _ _ (xs (i + 1)) (xs (i + 2)) hSM) kk
                                                  · by_cases c_24 : v9 = 24
                                                    · refine lv_tableIn (tgt := 898) hx hb dL_law_33 (by rw [c_24]; decide) (by rw [c_24]; decide) (by rw [c_24]; rfl) (by decide) ?_
                                                      exact caseL_24 (K := I) C0 hi6 hW ls hl (hI.2.2.2.2.2.2.2.2.2.2.2.2.2.2.2.2.2.2.2.2.2.2.2.2.1 _ _ (xs (i + 1)) hSM) kk
                                                    · by_cases c_25 : v9 = 25
                                                      · refine lv_tableIn (tgt := 921) hx hb dL_law_33 (by rw [c_25]; decide) (by rw [c_25]; decide) (by rw [c_25]; rfl) (by decide) ?_
                                                        exact caseL_25 (K := I) C0 hi6 hW ls hl (hI.2.2.2.2.2.2.2.2.2.2.2.2.2.2.2.2.2.2.2.2.2.2.2.2.2.1 _ _ (xs (i + 1)) (xs (i + 2)) hSM) kk
                                                      · by_cases c_26 : v9 = 26
                                                        · refine lv_tableIn (tgt := 955) hx hb dL_law_33 (by rw [c_26]; decide) (by rw [c_26]; decide) (by rw [c_26]; rfl) (by decide) ?_
                                                          exact caseL_26 (K := I) C0 hi6 hW ls hl (hI.2.2.2.2.2.2.2.2.2.2.2.2.2.2.2.2.2.2.2.2.2.2.2.2.2.2.1 _ _ (xs (i + 1)) hSM) kk
                                                        · by_cases c_27 : v9 = 27
                                                          · refine lv_tableIn (tgt := 978) hx hb dL_law_33 (by rw [c_27]; decide) (by rw [c_27]; decide) (by rw [c_27]; rfl) (by decide) ?_
                                                            exact caseL_27 (K := I) C0 hi6 hW ls hl (hI.2.2.2.2.2.2.2.2.2.2.2.2.2.2.2.2.2.2.2.2.2.2.2.2.2.2.2.1 _ _ (xs (i + 1)) (xs (i + 2)) hSM) kk
                                                          · by_cases c_28 : v9 = 28
                                                            · refine lv_tableIn (tgt := 1011) hx hb dL_law_33 (by rw [c_28]; decide) (by rw [c_28]; decide) (by rw [c_28]; rfl) (by decide) ?_
                                                              exact caseL_28 (K := I) C0 hi6 hW ls hl (hI.2.2.2.2.2.2.2.2.2.2.2.2.2.2.2.2.2.2.2.2.2.2.2.2.2.2.2.2.1 _ _ hSM) kk
                                                            · by_cases c_29 : v9 = 29
                                                              · refine lv_tableIn (tgt := 1024) hx hb dL_law_33 (by rw [c_29]; decide) (by rw [c_29]; decide) (by rw [c_29]; rfl) (by decide) ?_
                                                                exact caseL_29 (K := I) C0 hi6 hW ls hl (hI.2.2.2.2.2.2.2.2.2.2.2.2.2.2.2.2.2.2.2.2.2.2.2.2.2.2.2.2.2.1 _ _ hSM) kk
                                                              · by_cases c_30 : v9 = 30
                                                                · refine lv_tableIn (tgt := 1037) hx hb dL_law_33 (by rw [c_30]; decide) (by rw [c_30]; decide) (by rw [c_30]; rfl) (by decide) ?_
                                                                  exact caseL_30 (K := I) C0 hi6 hW ls hl (hI.2.2.2.2.2.2.2.2.2.2.2.2.2.2.2.2.2.2.2.2.2.2.2.2.2.2.2.2.2.2.1 _ _ (xs (i + 1)) (xs (i + 2)) hSM) kk
                                                                · by_cases c_31 : v9 = 31
                                                                  · refine lv_tableIn (tgt := 1070) hx hb dL_law_33 (by rw [c_31]; decide) (by rw [c_31]; decide) (by rw [c_31]; rfl) (by decide) ?_
                                                                    exact caseL_31 (K := I) C0 hi6 hW ls hl (hI.2.2.2.2.2.2.2.2.2.2.2.2.2.2.2.2.2.2.2.2.2.2.2.2.2.2.2.2.2.2.2.1 _ _ (xs (i + 1)) (xs (i + 2)) hSM) kk
                                                                  · by_cases c_32 : v9 = 32
                                                                    · refine lv_tableIn (tgt := 1103) hx hb dL_law_33 (by rw [c_32]; decide) (by rw [c_32]; decide) (by rw [c_32]; rfl) (by decide) ?_
                                                                      exact caseL_32 (K := I) C0 hi6 hW ls hl (hI.2.2.2.2.2.2.2.2.2.2.2.2.2.2.2.2.2.2.2.2.2.2.2.2.2.2.2.2.2.2.2.2.1 _ _ (xs (i + 1)) (xs (i + 2)) (xs (i + 3)) hSM) kk
                                                                    · by_cases c_33 : v9 = 33
                                                                      · refine lv_tableIn (tgt := 1146) hx hb dL_law_33 (by rw [c_33]; decide) (by rw [c_33]; decide) (by rw [c_33]; rfl) (by decide) ?_
                                                                        exact caseL_33 (K := I) C0 hi6 hW ls hl (hI.2.2.2.2.2.2.2.2.2.2.2.2.2.2.2.2.2.2.2.2.2.2.2.2.2.2.2.2.2.2.2.2.2.1 _ _ (xs (i + 1)) (xs (i + 2)) (xs (i + 3)) hSM) kk
                                                                      · by_cases c_34 : v9 = 34
                                                                        · refine lv_tableIn (tgt := 1189) hx hb dL_law_33 (by rw [c_34]; decide) (by rw [c_34]; decide) (by rw [c_34]; rfl) (by decide) ?_
                                                                          exact caseL_34 (K := I) C0 hi6 hW ls hl (hI.2.2.2.2.2.2.2.2.2.2.2.2.2.2.2.2.2.2.2.2.2.2.2.2.2.2.2.2.2.2.2.2.2.2.1 _ _ (xs (i + 1)) (xs (i + 2)) (xs (i + 3)) (xs (i + 4)) (xs (i + 5)) hSM) kk
                                                                        · by_cases c_35 : v9 = 35
                                                                          · refine lv_tableIn (tgt := 1252) hx hb dL_law_33 (by rw [c_35]; decide) (by rw [c_35]; decide) (by rw [c_35]; rfl) (by decide) ?_
                                                                            exact caseL_35 (K := I) C0 hi6 hW ls hl (hI.2.2.2.2.2.2.2.2.2.2.2.2.2.2.2.2.2.2.2.2.2.2.2.2.2.2.2.2.2.2.2.2.2.2.2.1 _ _ (xs (i + 1)) hSM) kk
                                                                          · by_cases c_36 : v9 = 36
                                                                            · refine lv_tableIn (tgt := 1275) hx hb dL_law_33 (by rw [c_36]; decide) (by rw [c_36]; decide) (by rw [c_36]; rfl) (by decide) ?_
                                                                              exact caseL_36 (K := I) C0 hi6 hW ls hl (hI.2.2.2.2.2.2.2.2.2.2.2.2.2.2.2.2.2.2.2.2.2.2.2.2.2.2.2.2.2.2.2.2.2.2.2.2.1 _ _ (xs (i + 1)) hSM) kk
                                                                            · by_cases c_37 : v9 = 37
                                                                              · refine lv_tableIn (tgt := 1298) hx hb dL_law_33 (by rw [c_37]; decide) (by rw [c_37]; decide) (by rw [c_37]; rfl) (by decide) ?_
                                                                                exact caseL_37 (K := I) C0 hi6 hW ls hl (hI.2.2.2.2.2.2.2.2.2.2.2.2.2.2.2.2.2.2.2.2.2.2.2.2.2.2.2.2.2.2.2.2.2.2.2.2.2.1 _ _ hSM) kk
                                                                              · by_cases c_38 : v9 = 38
                                                                                · refine lv_tableIn (tgt := 1311) hx hb dL_law_33 (by rw [c_38]; decide) (by rw [c_38]; decide) (by rw [c_38]; rfl) (by decide) ?_
                                                                                  exact caseL_38 (K := I) C0 hi6 hW ls hl (hI.2.2.2.2.2.2.2.2.2.2.2.2.2.2.2.2.2.2.2.2.2.2.2.2.2.2.2.2.2.2.2.2.2.2.2.2.2.2.1 _ _ hSM) kk
                                                                                · by_cases c_39 : v9 = 39
                                                                                  · refine lv_tableIn (tgt := 1324) hx hb dL_law_33 (by rw [c_39]; decide) (by rw [c_39]; decide) (by rw [c_39]; rfl) (by decide) ?_
                                                                                    exact caseL_39 (K := I) C0 hi6 hW ls hl (hI.2.2.2.2.2.2.2.2.2.2.2.2.2.2.2.2.2.2.2.2.2.2.2.2.2.2.2.2.2.2.2.2.2.2.2.2.2.2.2.1 _ _ hSM) kk
                                                                                  · by_cases c_40 : v9 = 40
                                                                                    · refine lv_tableIn (tgt := 1337) hx hb dL_law_33 (by rw [c_40]; decide) (by rw [c_40]; decide) (by rw [c_40]; rfl) (by decide) ?_
                                                                                      exact caseL_40 (K := I) C0 hi6 hW ls hl (hI.2.2.2.2.2.2.2.2.2.2.2.2.2.2.2.2.2.2.2.2.2.2.2.2.2.2.2.2.2.2.2.2.2.2.2.2.2.2.2.2.1 _ _ (xs (i + 1)) hSM) kk
                                                                                    · by_cases c_41 : v9 = 41
                                                                                      · refine lv_tableIn (tgt := 1360) hx hb dL_law_33 (by rw [c_41]; decide) (by rw [c_41]; decide) (by rw [c_41]; rfl) (by decide) ?_
                                                                                        exact caseL_41 (K := I) C0 hi6 hW ls hl (hI.2.2.2.2.2.2.2.2.2.2.2.2.2.2.2.2.2.2.2.2.2.2.2.2.2.2.2.2.2.2.2.2.2.2.2.2.2.2.2.2.2 _ _ (xs (i + 1)) hSM) kk
                                                                                      · refine lv_tableOut (tgt := 1383) hx hb dL_law_33 (by have h0 := ne_toInt c_0 (z := 0) (by decide); have h1 := ne_toInt c_1 (z := 1) (by decide); have h2 := ne_toInt c_2 (z := 2) (by decide); have h3 := ne_toInt c_3 (z := 3) (by decide); have h4 := ne_toInt c_4 (z := 4) (by decide); have h5 := ne_toInt c_5 (z := 5) (by decide); have h6 := ne_toInt c_6 (z := 6) (by decide); have h7 := ne_toInt c_7 (z := 7) (by decide); have h8 := ne_toInt c_8 (z := 8) (by decide); have h9 := ne_toInt c_9 (z := 9) (by decide); have h10 := ne_toInt c_10 (z := 10) (by decide); have h11 := ne_toInt c_11 (z := 11) (by decide); have h12 := ne_toInt c_12 (z := 12) (by decide); have h13 := ne_toInt c_13 (z := 13) (by decide); have h14 := ne_toInt c_14 (z := 14) (by decide); have h15 := ne_toInt c_15 (z := 15) (by decide); have h16 := ne_toInt c_16 (z := 16) (by decide); have h17 := ne_toInt c_17 (z := 17) (by decide); have h18 := ne_toInt c_18 (z := 18) (by decide); have h19 := ne_toInt c_19 (z := 19) (by decide); have h20 := ne_toInt c_20 (z := 20) (by decide); have h21 := ne_toInt c_21 (z := 21) (by decide); have h22 := ne_toInt c_22 (z := 22) (by decide); have h23 := ne_toInt c_23 (z := 23) (by decide); have h24 := ne_toInt c_24 (z := 24) (by decide); have h25 := ne_toInt c_25 (z := 25) (by decide); have h26 := ne_toInt c_26 (z := 26) (by decide); have h27 := ne_toInt c_27 (z := 27) (by decide); have h28 := ne_toInt c_28 (z := 28) (by decide); have h29 := ne_toInt c_29 (z := 29) (by decide); have h30 := ne_toInt c_30 (z := 30) (by decide); have h31 := ne_toInt c_31 (z := 31) (by decide); have h32 := ne_toInt c_32 (z := 32) (by decide); have h33 := ne_toInt c_33 (z := 33) (by decide); have h34 := ne_toInt c_34 (z := 34) (by decide); have h35 := ne_toInt c_35 (z := 35) (by decide); have h36 := ne_toInt c_36 (z := 36) (by decide); have h37 := ne_toInt c_37 (z := 37) (by decide); have h38 := ne_toInt c_38 (z := 38) (by decide); have h39 := ne_toInt c_39 (z := 39) (by decide); have h40 := ne_toInt c_40 (z := 40) (by decide); have h41 := ne_toInt c_41 (z := 41) (by decide); omega) (by decide) ?_
                                                                                        exact kk _ _ _ _ hW ls hl hSM
