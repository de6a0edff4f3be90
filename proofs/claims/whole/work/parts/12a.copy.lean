theorem wSh_c0 {κ : Nat → ClassId} {a : Nat → Nat} {σ : Mx} {g : Nat → Int32} : (wSh κ a σ).set 1 (a 1, .inl (κ 0, 40, .inl g)) = wSh κ a (va_up σ 0 g) := by simp [wSh, va_up]
section GX
variable {p : Program} {l : Launch} {e : Env} {R : Room} {s : State} {m : MethodId} {args : Array Value} {below : List Frame} {meth : Method} {c : Code} {H : Heap} {locs : List Loc} {cells slots : Nat} {Q : State → Prop} {pc : Nat} {ls : Array Slot} {rest : List Value} {cc : ByteArray} {D : va_G} {κ : Nat → ClassId} {own : String} {idx nL : Nat} {rt : Option FieldType} {a : Nat → Nat} {σ : Mx} {A0 : Nat → Prop} {H0 : Heap} {A : Nat → Nat → Nat} {S : Nat → Mx}
theorem cpX (Cc : Cx D κ own cc nL rt p s m args meth c) (hsz : ls.size = nL) (hP : PX D κ A S H) (hI : IX A) (hS : va_S (aX A) H0 H locs) {js jt : Nat} (hjs : js < 4) (hjt : jt < 4) (hlink : (Cond.methodLink own idx arraycopyName).before args s = true) (hnat : (Cond.native arraycopyName).before args s = true) (hstat : (Cond.static arraycopyName).before args s = true) (hini : (Cond.initialized "java/lang/System").before args s = true)
    {sp dp n : Int32} (h1 : ¬ sp < 0) (h2 : ¬ dp < 0) (h3 : ¬ n < 0) (h4 : sp.toNatClampNeg + n.toNatClampNeg ≤ 40) (h5 : dp.toNatClampNeg + n.toNatClampNeg ≤ 40) (hframes : 1 ≤ R.frames) (hlocals : (rest.map fun v => v.category).sum + (nativeFrameWords "java/lang/System" "arraycopy" 5 + 11) ≤ R.locals) (hdg : decode cc pc = .ok (.invokestatic idx, 3))
    (kk : ∀ (H1 : Heap) (locs1 : List Loc), PX D κ A (va_up S (jt + 6) (va_up (S (jt + 6)) 0 (va_cpy (S (js + 6) 0) (S (jt + 6) 0) sp.toNatClampNeg dp.toNatClampNeg n.toNatClampNeg))) H1 → va_S (aX A) H0 H1 locs1 → W p l e R s m args below meth c H1 locs1 cells slots Q (F0 m (pc + 3) ls rest)) : W p l e R s m args below meth c H locs cells slots Q (F0 m pc ls (.int n :: .int dp :: .ref (A (jt + 6) 1) :: .int sp :: .ref (A (js + 6) 1) :: rest)) := by
  refine xa_copyi Cc hsz hlink hnat hstat hini (f := S (js + 6) 0) (g := S (jt + 6) 0) (n0 := 40) (n1 := 40) (hP.cs hjs 1 _ rfl) (hP.cs hjt 1 _ rfl) h1 h2 h3 h4 h5 hframes hlocals hdg (fun H1 locs1 g1 g2 g3 => ?_)
  have hk : jt + 6 < 10 := Nat.add_lt_add_right hjt 6
  refine kk H1 locs1 (PX.put hk hI hP ?_ (fun q _ hq => g2 q (fun e9 => hq ⟨1, by show 1 < 2; decide, e9⟩))) (g3 _ _ (aX_of hk ⟨1, by show 1 < 2; decide, rfl⟩) hS)
  show va_P D classes (wSh κ (A (jt + 6)) _) H1
  rw [← wSh_c0]
  exact (hP.cs hjt).set (wSh_wl.D (hI.ij hk)) (p := 1) rfl g1 g2
end GX
