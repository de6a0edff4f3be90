section Pure
variable {M : Nx} {σ μ : Mx}
def sn (M : Nx) (f i v : Nat) : Nx := fun g j => if g = f ∧ j = i then v else M g j
theorem sn_ne {f g i v : Nat} (h : g ≠ f) : sn M f i v g = M g := by
  funext j
  unfold sn
  exact if_neg (fun z => h z.1)
theorem sn_at {f i v : Nat} : sn M f i v f i = v := by
  unfold sn
  exact if_pos ⟨rfl, rfl⟩
theorem sn_off {f i j v : Nat} (h : j ≠ i) : sn M f i v f j = M f j := by
  unfold sn
  exact if_neg (fun z => h z.2)
theorem st_at {f i : Nat} {x : Int32} : st σ f i x f i = x := by
  unfold st
  exact if_pos ⟨rfl, rfl⟩
theorem st_off {f i j : Nat} {x : Int32} (h : j ≠ i) : st σ f i x f j = σ f j := by
  unfold st
  exact if_neg (fun z => h z.2)
theorem st_nf {f g i : Nat} {x : Int32} (h : g ≠ f) : st σ f i x g = σ g := by
  funext j
  unfold st
  exact if_neg (fun z => h z.1)
theorem tb_cg {M' : Nx} : ∀ k, (∀ j, j < k → M' 7 j = M 7 j) → tb M' k = tb M k
  | 0, _ => rfl
  | k + 1, h => by
    rw [tb, tb, tb_cg k (fun j hj => h j (by omega)), h k (by omega)]
theorem tb_sn {f i v k : Nat} (h : f ≠ 7) : tb (sn M f i v) k = tb M k := tb_cg k (fun j _ => by rw [sn_ne (fun z => h z.symm)])
theorem Rm_s0 (hr : Rm M (μ 0)) {p v : Nat} (hp : p < 8) : Rm (sn M 0 p v) (st μ 0 (19 + 5 * p) (nI v) 0) := by
  obtain ⟨a1, a2, a3, a4, a5, a6, a7⟩ := hr
  refine ⟨?_, ?_, ?_, fun i hi => ?_, fun i hi => ?_, fun q hq => ?_, fun i hi => ?_⟩
  · rw [st_off (by omega), sn_ne (by decide)]; exact a1
  · rw [st_off (by omega), sn_ne (by decide)]; exact a2
  · rw [st_off (by omega), sn_ne (by decide)]; exact a3
  · rw [st_off (by omega), sn_ne (by decide)]; exact a4 i hi
  · rw [st_off (by omega), sn_ne (by decide)]; exact a5 i hi
  · rw [sn_ne (by decide)] at hq
    have h8 := a6 q hq
    refine ⟨?_, ?_, ?_, ?_, ?_⟩
    · by_cases e : q = p
      · subst e
        rw [st_at, sn_at]
      · rw [st_off (by omega), sn_off e]; exact h8.1
    · rw [st_off (by omega), sn_ne (by decide)]; exact h8.2.1
    · rw [st_off (by omega), sn_ne (by decide)]; exact h8.2.2.1
    · rw [st_off (by omega), sn_ne (by decide)]; exact h8.2.2.2.1
    · rw [st_off (by omega), sn_ne (by decide)]; exact h8.2.2.2.2
  · rw [sn_ne (by decide)] at hi
    rw [st_off (by omega), sn_ne (by decide)]; exact a7 i hi
theorem Rc_s0 (hr : Rc M σ) {p v : Nat} : Rc (sn M 0 p v) (st σ 0 p (nI v)) := by
  obtain ⟨a1, a2, a3, a4, a5, a6, a7⟩ := hr
  refine ⟨?_, ?_, ?_, fun q hq => ?_, fun i hi => ?_, fun i hi => ?_, ?_⟩
  · rw [st_nf (by decide), sn_ne (by decide)]; exact a1
  · rw [st_nf (by decide), sn_ne (by decide)]; exact a2
  · rw [st_nf (by decide), sn_ne (by decide)]; exact a3
  · rw [sn_ne (by decide)] at hq
    have h8 := a4 q hq
    refine ⟨?_, ?_, ?_, ?_, ?_⟩
    · by_cases e : q = p
      · subst e
        rw [st_at, sn_at]
      · rw [st_off e, sn_off e]; exact h8.1
    · rw [st_nf (by decide), sn_ne (by decide)]; exact h8.2.1
    · rw [st_nf (by decide), sn_ne (by decide)]; exact h8.2.2.1
    · rw [st_nf (by decide), sn_ne (by decide)]; exact h8.2.2.2.1
    · rw [st_nf (by decide), sn_ne (by decide)]; exact h8.2.2.2.2
  · rw [st_nf (by decide), sn_ne (by decide)]; exact a5 i hi
  · rw [st_nf (by decide), sn_ne (by decide)]; exact a6 i hi
  · rw [st_nf (by decide), sn_ne (by decide), tb_sn (by decide)]; exact a7
theorem Wf_s0 (hw : Wf M) {p v : Nat} (hv : v < 7) : Wf (sn M 0 p v) := by
  obtain ⟨a1, a2, a3, a4, a5, a6, a7⟩ := hw
  refine ⟨?_, ?_, ?_, fun q hq => ?_, fun q hq => ?_, fun i hi => ?_, fun i hi => ?_⟩
  · rw [sn_ne (by decide)]; exact a1
  · rw [sn_ne (by decide)]; exact a2
  · rw [sn_ne (by decide)]; exact a3
  · rw [sn_ne (by decide)] at hq
    have h8 := a4 q hq
    refine ⟨?_, ?_, ?_, ?_, ?_, ?_⟩
    · by_cases e : q = p
      · subst e
        rw [sn_at]; exact hv
      · rw [sn_off e]; exact h8.1
    · rw [sn_ne (by decide)]; exact h8.2.1
    · rw [sn_ne (by decide)]; exact h8.2.2.1
    · rw [sn_ne (by decide)]; exact h8.2.2.2.1
    · rw [sn_ne (by decide)]; exact h8.2.2.2.2.1
    · rw [sn_ne (by decide), sn_ne (f := 0) (g := 8) (by decide)]; exact h8.2.2.2.2.2
  · rw [sn_ne (by decide)] at hq
    rw [sn_ne (f := 0) (g := 8) (by decide), sn_ne (f := 0) (g := 4) (by decide)]
    exact a5 q hq
  · rw [sn_ne (by decide)]; exact a6 i hi
  · rw [sn_ne (by decide), sn_ne (f := 0) (g := 8) (by decide)]; exact a7 i hi
theorem Rm_s1 (hr : Rm M (μ 0)) {p v : Nat} (hp : p < 8) : Rm (sn M 1 p v) (st μ 0 (19 + 5 * p + 1) (nI v) 0) := by
  obtain ⟨a1, a2, a3, a4, a5, a6, a7⟩ := hr
  refine ⟨?_, ?_, ?_, fun i hi => ?_, fun i hi => ?_, fun q hq => ?_, fun i hi => ?_⟩
  · rw [st_off (by omega), sn_ne (by decide)]; exact a1
  · rw [st_off (by omega), sn_ne (by decide)]; exact a2
  · rw [st_off (by omega), sn_ne (by decide)]; exact a3
  · rw [st_off (by omega), sn_ne (by decide)]; exact a4 i hi
  · rw [st_off (by omega), sn_ne (by decide)]; exact a5 i hi
  · rw [sn_ne (by decide)] at hq
    have h8 := a6 q hq
    refine ⟨?_, ?_, ?_, ?_, ?_⟩
    · rw [st_off (by omega), sn_ne (by decide)]; exact h8.1
    · by_cases e : q = p
      · subst e
        rw [st_at, sn_at]
      · rw [st_off (by omega), sn_off e]; exact h8.2.1
    · rw [st_off (by omega), sn_ne (by decide)]; exact h8.2.2.1
    · rw [st_off (by omega), sn_ne (by decide)]; exact h8.2.2.2.1
    · rw [st_off (by omega), sn_ne (by decide)]; exact h8.2.2.2.2
  · rw [sn_ne (by decide)] at hi
    rw [st_off (by omega), sn_ne (by decide)]; exact a7 i hi
theorem Rc_s1 (hr : Rc M σ) {p v : Nat} : Rc (sn M 1 p v) (st σ 1 p (nI v)) := by
  obtain ⟨a1, a2, a3, a4, a5, a6, a7⟩ := hr
  refine ⟨?_, ?_, ?_, fun q hq => ?_, fun i hi => ?_, fun i hi => ?_, ?_⟩
  · rw [st_nf (by decide), sn_ne (by decide)]; exact a1
  · rw [st_nf (by decide), sn_ne (by decide)]; exact a2
  · rw [st_nf (by decide), sn_ne (by decide)]; exact a3
  · rw [sn_ne (by decide)] at hq
    have h8 := a4 q hq
    refine ⟨?_, ?_, ?_, ?_, ?_⟩
    · rw [st_nf (by decide), sn_ne (by decide)]; exact h8.1
    · by_cases e : q = p
      · subst e
        rw [st_at, sn_at]
      · rw [st_off e, sn_off e]; exact h8.2.1
    · rw [st_nf (by decide), sn_ne (by decide)]; exact h8.2.2.1
    · rw [st_nf (by decide), sn_ne (by decide)]; exact h8.2.2.2.1
    · rw [st_nf (by decide), sn_ne (by decide)]; exact h8.2.2.2.2
  · rw [st_nf (by decide), sn_ne (by decide)]; exact a5 i hi
  · rw [st_nf (by decide), sn_ne (by decide)]; exact a6 i hi
  · rw [st_nf (by decide), sn_ne (by decide), tb_sn (by decide)]; exact a7
theorem Wf_s1 (hw : Wf M) {p v : Nat} (hv : v < 10) : Wf (sn M 1 p v) := by
  obtain ⟨a1, a2, a3, a4, a5, a6, a7⟩ := hw
  refine ⟨?_, ?_, ?_, fun q hq => ?_, fun q hq => ?_, fun i hi => ?_, fun i hi => ?_⟩
  · rw [sn_ne (by decide)]; exact a1
  · rw [sn_ne (by decide)]; exact a2
  · rw [sn_ne (by decide)]; exact a3
  · rw [sn_ne (by decide)] at hq
    have h8 := a4 q hq
    refine ⟨?_, ?_, ?_, ?_, ?_, ?_⟩
    · rw [sn_ne (by decide)]; exact h8.1
    · by_cases e : q = p
      · subst e
        rw [sn_at]; exact hv
      · rw [sn_off e]; exact h8.2.1
    · rw [sn_ne (by decide)]; exact h8.2.2.1
    · rw [sn_ne (by decide)]; exact h8.2.2.2.1
    · rw [sn_ne (by decide)]; exact h8.2.2.2.2.1
    · rw [sn_ne (by decide), sn_ne (f := 1) (g := 8) (by decide)]; exact h8.2.2.2.2.2
  · rw [sn_ne (by decide)] at hq
    rw [sn_ne (f := 1) (g := 8) (by decide), sn_ne (f := 1) (g := 4) (by decide)]
    exact a5 q hq
  · rw [sn_ne (by decide)]; exact a6 i hi
  · rw [sn_ne (by decide), sn_ne (f := 1) (g := 8) (by decide)]; exact a7 i hi
theorem Rm_s2 (hr : Rm M (μ 0)) {p v : Nat} (hp : p < 8) : Rm (sn M 2 p v) (st μ 0 (19 + 5 * p + 2) (nI v) 0) := by
  obtain ⟨a1, a2, a3, a4, a5, a6, a7⟩ := hr
  refine ⟨?_, ?_, ?_, fun i hi => ?_, fun i hi => ?_, fun q hq => ?_, fun i hi => ?_⟩
  · rw [st_off (by omega), sn_ne (by decide)]; exact a1
  · rw [st_off (by omega), sn_ne (by decide)]; exact a2
  · rw [st_off (by omega), sn_ne (by decide)]; exact a3
  · rw [st_off (by omega), sn_ne (by decide)]; exact a4 i hi
  · rw [st_off (by omega), sn_ne (by decide)]; exact a5 i hi
  · rw [sn_ne (by decide)] at hq
    have h8 := a6 q hq
    refine ⟨?_, ?_, ?_, ?_, ?_⟩
    · rw [st_off (by omega), sn_ne (by decide)]; exact h8.1
    · rw [st_off (by omega), sn_ne (by decide)]; exact h8.2.1
    · by_cases e : q = p
      · subst e
        rw [st_at, sn_at]
      · rw [st_off (by omega), sn_off e]; exact h8.2.2.1
    · rw [st_off (by omega), sn_ne (by decide)]; exact h8.2.2.2.1
    · rw [st_off (by omega), sn_ne (by decide)]; exact h8.2.2.2.2
  · rw [sn_ne (by decide)] at hi
    rw [st_off (by omega), sn_ne (by decide)]; exact a7 i hi
theorem Rc_s2 (hr : Rc M σ) {p v : Nat} : Rc (sn M 2 p v) (st σ 2 p (nI v)) := by
  obtain ⟨a1, a2, a3, a4, a5, a6, a7⟩ := hr
  refine ⟨?_, ?_, ?_, fun q hq => ?_, fun i hi => ?_, fun i hi => ?_, ?_⟩
  · rw [st_nf (by decide), sn_ne (by decide)]; exact a1
  · rw [st_nf (by decide), sn_ne (by decide)]; exact a2
  · rw [st_nf (by decide), sn_ne (by decide)]; exact a3
  · rw [sn_ne (by decide)] at hq
    have h8 := a4 q hq
    refine ⟨?_, ?_, ?_, ?_, ?_⟩
    · rw [st_nf (by decide), sn_ne (by decide)]; exact h8.1
    · rw [st_nf (by decide), sn_ne (by decide)]; exact h8.2.1
    · by_cases e : q = p
      · subst e
        rw [st_at, sn_at]
      · rw [st_off e, sn_off e]; exact h8.2.2.1
    · rw [st_nf (by decide), sn_ne (by decide)]; exact h8.2.2.2.1
    · rw [st_nf (by decide), sn_ne (by decide)]; exact h8.2.2.2.2
  · rw [st_nf (by decide), sn_ne (by decide)]; exact a5 i hi
  · rw [st_nf (by decide), sn_ne (by decide)]; exact a6 i hi
  · rw [st_nf (by decide), sn_ne (by decide), tb_sn (by decide)]; exact a7
theorem Wf_s2 (hw : Wf M) {p v : Nat} (hv : v < 10) : Wf (sn M 2 p v) := by
  obtain ⟨a1, a2, a3, a4, a5, a6, a7⟩ := hw
  refine ⟨?_, ?_, ?_, fun q hq => ?_, fun q hq => ?_, fun i hi => ?_, fun i hi => ?_⟩
  · rw [sn_ne (by decide)]; exact a1
  · rw [sn_ne (by decide)]; exact a2
  · rw [sn_ne (by decide)]; exact a3
  · rw [sn_ne (by decide)] at hq
    have h8 := a4 q hq
    refine ⟨?_, ?_, ?_, ?_, ?_, ?_⟩
    · rw [sn_ne (by decide)]; exact h8.1
    · rw [sn_ne (by decide)]; exact h8.2.1
    · by_cases e : q = p
      · subst e
        rw [sn_at]; exact hv
      · rw [sn_off e]; exact h8.2.2.1
    · rw [sn_ne (by decide)]; exact h8.2.2.2.1
    · rw [sn_ne (by decide)]; exact h8.2.2.2.2.1
    · rw [sn_ne (by decide), sn_ne (f := 2) (g := 8) (by decide)]; exact h8.2.2.2.2.2
  · rw [sn_ne (by decide)] at hq
    rw [sn_ne (f := 2) (g := 8) (by decide), sn_ne (f := 2) (g := 4) (by decide)]
    exact a5 q hq
  · rw [sn_ne (by decide)]; exact a6 i hi
  · rw [sn_ne (by decide), sn_ne (f := 2) (g := 8) (by decide)]; exact a7 i hi
theorem Rm_s3 (hr : Rm M (μ 0)) {p v : Nat} (hp : p < 8) : Rm (sn M 3 p v) (st μ 0 (19 + 5 * p + 3) (nI v - 1) 0) := by
  obtain ⟨a1, a2, a3, a4, a5, a6, a7⟩ := hr
  refine ⟨?_, ?_, ?_, fun i hi => ?_, fun i hi => ?_, fun q hq => ?_, fun i hi => ?_⟩
  · rw [st_off (by omega), sn_ne (by decide)]; exact a1
  · rw [st_off (by omega), sn_ne (by decide)]; exact a2
  · rw [st_off (by omega), sn_ne (by decide)]; exact a3
  · rw [st_off (by omega), sn_ne (by decide)]; exact a4 i hi
  · rw [st_off (by omega), sn_ne (by decide)]; exact a5 i hi
  · rw [sn_ne (by decide)] at hq
    have h8 := a6 q hq
    refine ⟨?_, ?_, ?_, ?_, ?_⟩
    · rw [st_off (by omega), sn_ne (by decide)]; exact h8.1
    · rw [st_off (by omega), sn_ne (by decide)]; exact h8.2.1
    · rw [st_off (by omega), sn_ne (by decide)]; exact h8.2.2.1
    · by_cases e : q = p
      · subst e
        rw [st_at, sn_at]
      · rw [st_off (by omega), sn_off e]; exact h8.2.2.2.1
    · rw [st_off (by omega), sn_ne (by decide)]; exact h8.2.2.2.2
  · rw [sn_ne (by decide)] at hi
    rw [st_off (by omega), sn_ne (by decide)]; exact a7 i hi
theorem Rc_s3 (hr : Rc M σ) {p v : Nat} : Rc (sn M 3 p v) (st σ 3 p (nI v - 1)) := by
  obtain ⟨a1, a2, a3, a4, a5, a6, a7⟩ := hr
  refine ⟨?_, ?_, ?_, fun q hq => ?_, fun i hi => ?_, fun i hi => ?_, ?_⟩
  · rw [st_nf (by decide), sn_ne (by decide)]; exact a1
  · rw [st_nf (by decide), sn_ne (by decide)]; exact a2
  · rw [st_nf (by decide), sn_ne (by decide)]; exact a3
  · rw [sn_ne (by decide)] at hq
    have h8 := a4 q hq
    refine ⟨?_, ?_, ?_, ?_, ?_⟩
    · rw [st_nf (by decide), sn_ne (by decide)]; exact h8.1
    · rw [st_nf (by decide), sn_ne (by decide)]; exact h8.2.1
    · rw [st_nf (by decide), sn_ne (by decide)]; exact h8.2.2.1
    · by_cases e : q = p
      · subst e
        rw [st_at, sn_at]
      · rw [st_off e, sn_off e]; exact h8.2.2.2.1
    · rw [st_nf (by decide), sn_ne (by decide)]; exact h8.2.2.2.2
  · rw [st_nf (by decide), sn_ne (by decide)]; exact a5 i hi
  · rw [st_nf (by decide), sn_ne (by decide)]; exact a6 i hi
  · rw [st_nf (by decide), sn_ne (by decide), tb_sn (by decide)]; exact a7
theorem Wf_s3 (hw : Wf M) {p v : Nat} (hv : v ≤ 8) : Wf (sn M 3 p v) := by
  obtain ⟨a1, a2, a3, a4, a5, a6, a7⟩ := hw
  refine ⟨?_, ?_, ?_, fun q hq => ?_, fun q hq => ?_, fun i hi => ?_, fun i hi => ?_⟩
  · rw [sn_ne (by decide)]; exact a1
  · rw [sn_ne (by decide)]; exact a2
  · rw [sn_ne (by decide)]; exact a3
  · rw [sn_ne (by decide)] at hq
    have h8 := a4 q hq
    refine ⟨?_, ?_, ?_, ?_, ?_, ?_⟩
    · rw [sn_ne (by decide)]; exact h8.1
    · rw [sn_ne (by decide)]; exact h8.2.1
    · rw [sn_ne (by decide)]; exact h8.2.2.1
    · by_cases e : q = p
      · subst e
        rw [sn_at]; exact hv
      · rw [sn_off e]; exact h8.2.2.2.1
    · rw [sn_ne (by decide)]; exact h8.2.2.2.2.1
    · rw [sn_ne (by decide), sn_ne (f := 3) (g := 8) (by decide)]; exact h8.2.2.2.2.2
  · rw [sn_ne (by decide)] at hq
    rw [sn_ne (f := 3) (g := 8) (by decide), sn_ne (f := 3) (g := 4) (by decide)]
    exact a5 q hq
  · rw [sn_ne (by decide)]; exact a6 i hi
  · rw [sn_ne (by decide), sn_ne (f := 3) (g := 8) (by decide)]; exact a7 i hi
theorem Rm_s4 (hr : Rm M (μ 0)) (hn : M 8 0 ≤ 8) {p v : Nat} (hp : p < 8) : Rm (sn M 4 p v) (st μ 0 (59 + p) (nI v) 0) := by
  obtain ⟨a1, a2, a3, a4, a5, a6, a7⟩ := hr
  refine ⟨?_, ?_, ?_, fun i hi => ?_, fun i hi => ?_, fun q hq => ?_, fun i hi => ?_⟩
  · rw [st_off (by omega), sn_ne (by decide)]; exact a1
  · rw [st_off (by omega), sn_ne (by decide)]; exact a2
  · rw [st_off (by omega), sn_ne (by decide)]; exact a3
  · rw [st_off (by omega), sn_ne (by decide)]; exact a4 i hi
  · rw [st_off (by omega), sn_ne (by decide)]; exact a5 i hi
  · rw [sn_ne (by decide)] at hq
    have h8 := a6 q hq
    refine ⟨?_, ?_, ?_, ?_, ?_⟩
    · rw [st_off (by omega), sn_ne (by decide)]; exact h8.1
    · rw [st_off (by omega), sn_ne (by decide)]; exact h8.2.1
    · rw [st_off (by omega), sn_ne (by decide)]; exact h8.2.2.1
    · rw [st_off (by omega), sn_ne (by decide)]; exact h8.2.2.2.1
    · rw [st_off (by omega), sn_ne (by decide)]; exact h8.2.2.2.2
  · rw [sn_ne (by decide)] at hi
    by_cases e : i = p
    · subst e
      rw [st_at, sn_at]
    · rw [st_off (by omega), sn_off e]; exact a7 i hi
theorem Rc_s4 (hr : Rc M σ) {p v : Nat} : Rc (sn M 4 p v) (st σ 4 p (nI v)) := by
  obtain ⟨a1, a2, a3, a4, a5, a6, a7⟩ := hr
  refine ⟨?_, ?_, ?_, fun q hq => ?_, fun i hi => ?_, fun i hi => ?_, ?_⟩
  · rw [st_nf (by decide), sn_ne (by decide)]; exact a1
  · rw [st_nf (by decide), sn_ne (by decide)]; exact a2
  · rw [st_nf (by decide), sn_ne (by decide)]; exact a3
  · rw [sn_ne (by decide)] at hq
    have h8 := a4 q hq
    refine ⟨?_, ?_, ?_, ?_, ?_⟩
    · rw [st_nf (by decide), sn_ne (by decide)]; exact h8.1
    · rw [st_nf (by decide), sn_ne (by decide)]; exact h8.2.1
    · rw [st_nf (by decide), sn_ne (by decide)]; exact h8.2.2.1
    · rw [st_nf (by decide), sn_ne (by decide)]; exact h8.2.2.2.1
    · by_cases e : q = p
      · subst e
        rw [st_at, sn_at]
      · rw [st_off e, sn_off e]; exact h8.2.2.2.2
  · rw [st_nf (by decide), sn_ne (by decide)]; exact a5 i hi
  · rw [st_nf (by decide), sn_ne (by decide)]; exact a6 i hi
  · rw [st_nf (by decide), sn_ne (by decide), tb_sn (by decide)]; exact a7
theorem Rm_s5 (hr : Rm M (μ 0)) {p v : Nat} (hp : p < 6) : Rm (sn M 5 p v) (st μ 0 (3 + p) (nI v) 0) := by
  obtain ⟨a1, a2, a3, a4, a5, a6, a7⟩ := hr
  refine ⟨?_, ?_, ?_, fun i hi => ?_, fun i hi => ?_, fun q hq => ?_, fun i hi => ?_⟩
  · rw [st_off (by omega), sn_ne (by decide)]; exact a1
  · rw [st_off (by omega), sn_ne (by decide)]; exact a2
  · rw [st_off (by omega), sn_ne (by decide)]; exact a3
  · by_cases e : i = p
    · subst e
      rw [st_at, sn_at]
    · rw [st_off (by omega), sn_off e]; exact a4 i hi
  · rw [st_off (by omega), sn_ne (by decide)]; exact a5 i hi
  · rw [sn_ne (by decide)] at hq
    have h8 := a6 q hq
    refine ⟨?_, ?_, ?_, ?_, ?_⟩
    · rw [st_off (by omega), sn_ne (by decide)]; exact h8.1
    · rw [st_off (by omega), sn_ne (by decide)]; exact h8.2.1
    · rw [st_off (by omega), sn_ne (by decide)]; exact h8.2.2.1
    · rw [st_off (by omega), sn_ne (by decide)]; exact h8.2.2.2.1
    · rw [st_off (by omega), sn_ne (by decide)]; exact h8.2.2.2.2
  · rw [sn_ne (by decide)] at hi
    rw [st_off (by omega), sn_ne (by decide)]; exact a7 i hi
theorem Rc_s5 (hr : Rc M σ) {p v : Nat} : Rc (sn M 5 p v) (st σ 5 p (nI v)) := by
  obtain ⟨a1, a2, a3, a4, a5, a6, a7⟩ := hr
  refine ⟨?_, ?_, ?_, fun q hq => ?_, fun i hi => ?_, fun i hi => ?_, ?_⟩
  · rw [st_nf (by decide), sn_ne (by decide)]; exact a1
  · rw [st_nf (by decide), sn_ne (by decide)]; exact a2
  · rw [st_nf (by decide), sn_ne (by decide)]; exact a3
  · rw [sn_ne (by decide)] at hq
    have h8 := a4 q hq
    refine ⟨?_, ?_, ?_, ?_, ?_⟩
    · rw [st_nf (by decide), sn_ne (by decide)]; exact h8.1
    · rw [st_nf (by decide), sn_ne (by decide)]; exact h8.2.1
    · rw [st_nf (by decide), sn_ne (by decide)]; exact h8.2.2.1
    · rw [st_nf (by decide), sn_ne (by decide)]; exact h8.2.2.2.1
    · rw [st_nf (by decide), sn_ne (by decide)]; exact h8.2.2.2.2
  · by_cases e : i = p
    · subst e
      rw [st_at, sn_at]
    · rw [st_off e, sn_off e]; exact a5 i hi
  · rw [st_nf (by decide), sn_ne (by decide)]; exact a6 i hi
  · rw [st_nf (by decide), sn_ne (by decide), tb_sn (by decide)]; exact a7
theorem Wf_s5 (hw : Wf M) {p v : Nat} (hv : ∃ a b, a < 8 ∧ b < 8 ∧ v = 10 * a + b) : Wf (sn M 5 p v) := by
  obtain ⟨a1, a2, a3, a4, a5, a6, a7⟩ := hw
  refine ⟨?_, ?_, ?_, fun q hq => ?_, fun q hq => ?_, fun i hi => ?_, fun i hi => ?_⟩
  · rw [sn_ne (by decide)]; exact a1
  · rw [sn_ne (by decide)]; exact a2
  · rw [sn_ne (by decide)]; exact a3
  · rw [sn_ne (by decide)] at hq
    have h8 := a4 q hq
    refine ⟨?_, ?_, ?_, ?_, ?_, ?_⟩
    · rw [sn_ne (by decide)]; exact h8.1
    · rw [sn_ne (by decide)]; exact h8.2.1
    · rw [sn_ne (by decide)]; exact h8.2.2.1
    · rw [sn_ne (by decide)]; exact h8.2.2.2.1
    · rw [sn_ne (by decide)]; exact h8.2.2.2.2.1
    · rw [sn_ne (by decide), sn_ne (f := 5) (g := 8) (by decide)]; exact h8.2.2.2.2.2
  · rw [sn_ne (by decide)] at hq
    rw [sn_ne (f := 5) (g := 8) (by decide), sn_ne (f := 5) (g := 4) (by decide)]
    exact a5 q hq
  · by_cases e : i = p
    · subst e
      rw [sn_at]; exact hv
    · rw [sn_off e]; exact a6 i hi
  · rw [sn_ne (by decide), sn_ne (f := 5) (g := 8) (by decide)]; exact a7 i hi
theorem Rm_s6 (hr : Rm M (μ 0)) {p v : Nat} (hp : p < 10) : Rm (sn M 6 p v) (st μ 0 (9 + p) (nI v - 1) 0) := by
  obtain ⟨a1, a2, a3, a4, a5, a6, a7⟩ := hr
  refine ⟨?_, ?_, ?_, fun i hi => ?_, fun i hi => ?_, fun q hq => ?_, fun i hi => ?_⟩
  · rw [st_off (by omega), sn_ne (by decide)]; exact a1
  · rw [st_off (by omega), sn_ne (by decide)]; exact a2
  · rw [st_off (by omega), sn_ne (by decide)]; exact a3
  · rw [st_off (by omega), sn_ne (by decide)]; exact a4 i hi
  · by_cases e : i = p
    · subst e
      rw [st_at, sn_at]
    · rw [st_off (by omega), sn_off e]; exact a5 i hi
  · rw [sn_ne (by decide)] at hq
    have h8 := a6 q hq
    refine ⟨?_, ?_, ?_, ?_, ?_⟩
    · rw [st_off (by omega), sn_ne (by decide)]; exact h8.1
    · rw [st_off (by omega), sn_ne (by decide)]; exact h8.2.1
    · rw [st_off (by omega), sn_ne (by decide)]; exact h8.2.2.1
    · rw [st_off (by omega), sn_ne (by decide)]; exact h8.2.2.2.1
    · rw [st_off (by omega), sn_ne (by decide)]; exact h8.2.2.2.2
  · rw [sn_ne (by decide)] at hi
    rw [st_off (by omega), sn_ne (by decide)]; exact a7 i hi
theorem Rc_s6 (hr : Rc M σ) {p v : Nat} : Rc (sn M 6 p v) (st σ 6 p (nI v - 1)) := by
  obtain ⟨a1, a2, a3, a4, a5, a6, a7⟩ := hr
  refine ⟨?_, ?_, ?_, fun q hq => ?_, fun i hi => ?_, fun i hi => ?_, ?_⟩
  · rw [st_nf (by decide), sn_ne (by decide)]; exact a1
  · rw [st_nf (by decide), sn_ne (by decide)]; exact a2
  · rw [st_nf (by decide), sn_ne (by decide)]; exact a3
  · rw [sn_ne (by decide)] at hq
    have h8 := a4 q hq
    refine ⟨?_, ?_, ?_, ?_, ?_⟩
    · rw [st_nf (by decide), sn_ne (by decide)]; exact h8.1
    · rw [st_nf (by decide), sn_ne (by decide)]; exact h8.2.1
    · rw [st_nf (by decide), sn_ne (by decide)]; exact h8.2.2.1
    · rw [st_nf (by decide), sn_ne (by decide)]; exact h8.2.2.2.1
    · rw [st_nf (by decide), sn_ne (by decide)]; exact h8.2.2.2.2
  · rw [st_nf (by decide), sn_ne (by decide)]; exact a5 i hi
  · by_cases e : i = p
    · subst e
      rw [st_at, sn_at]
    · rw [st_off e, sn_off e]; exact a6 i hi
  · rw [st_nf (by decide), sn_ne (by decide), tb_sn (by decide)]; exact a7
theorem Wf_s6 (hw : Wf M) {p v : Nat} (hv : v ≤ M 8 0) : Wf (sn M 6 p v) := by
  obtain ⟨a1, a2, a3, a4, a5, a6, a7⟩ := hw
  refine ⟨?_, ?_, ?_, fun q hq => ?_, fun q hq => ?_, fun i hi => ?_, fun i hi => ?_⟩
  · rw [sn_ne (by decide)]; exact a1
  · rw [sn_ne (by decide)]; exact a2
  · rw [sn_ne (by decide)]; exact a3
  · rw [sn_ne (by decide)] at hq
    have h8 := a4 q hq
    refine ⟨?_, ?_, ?_, ?_, ?_, ?_⟩
    · rw [sn_ne (by decide)]; exact h8.1
    · rw [sn_ne (by decide)]; exact h8.2.1
    · rw [sn_ne (by decide)]; exact h8.2.2.1
    · rw [sn_ne (by decide)]; exact h8.2.2.2.1
    · rw [sn_ne (by decide)]; exact h8.2.2.2.2.1
    · rw [sn_ne (by decide), sn_ne (f := 6) (g := 8) (by decide)]; exact h8.2.2.2.2.2
  · rw [sn_ne (by decide)] at hq
    rw [sn_ne (f := 6) (g := 8) (by decide), sn_ne (f := 6) (g := 4) (by decide)]
    exact a5 q hq
  · rw [sn_ne (by decide)]; exact a6 i hi
  · rw [sn_ne (f := 6) (g := 8) (by decide)]
    by_cases e : i = p
    · subst e
      rw [sn_at]; exact hv
    · rw [sn_off e]; exact a7 i hi
theorem Rm_s7 (hr : Rm M (μ 0)) {p v : Nat} (hp : p < 8) : Rm (sn M 7 p v) (st μ 0 (19 + 5 * p + 4) (nI v) 0) := by
  obtain ⟨a1, a2, a3, a4, a5, a6, a7⟩ := hr
  refine ⟨?_, ?_, ?_, fun i hi => ?_, fun i hi => ?_, fun q hq => ?_, fun i hi => ?_⟩
  · rw [st_off (by omega), sn_ne (by decide)]; exact a1
  · rw [st_off (by omega), sn_ne (by decide)]; exact a2
  · rw [st_off (by omega), sn_ne (by decide)]; exact a3
  · rw [st_off (by omega), sn_ne (by decide)]; exact a4 i hi
  · rw [st_off (by omega), sn_ne (by decide)]; exact a5 i hi
  · rw [sn_ne (by decide)] at hq
    have h8 := a6 q hq
    refine ⟨?_, ?_, ?_, ?_, ?_⟩
    · rw [st_off (by omega), sn_ne (by decide)]; exact h8.1
    · rw [st_off (by omega), sn_ne (by decide)]; exact h8.2.1
    · rw [st_off (by omega), sn_ne (by decide)]; exact h8.2.2.1
    · rw [st_off (by omega), sn_ne (by decide)]; exact h8.2.2.2.1
    · by_cases e : q = p
      · subst e
        rw [st_at, sn_at]
      · rw [st_off (by omega), sn_off e]; exact h8.2.2.2.2
  · rw [sn_ne (by decide)] at hi
    rw [st_off (by omega), sn_ne (by decide)]; exact a7 i hi
theorem Rc_s7 (hr : Rc M σ) {p v : Nat} : Rc (sn M 7 p v) (st σ 7 0 (nI (tb (sn M 7 p v) (M 8 0)))) := by
  obtain ⟨a1, a2, a3, a4, a5, a6, a7⟩ := hr
  refine ⟨?_, ?_, ?_, fun q hq => ?_, fun i hi => ?_, fun i hi => ?_, ?_⟩
  · rw [st_nf (by decide), sn_ne (by decide)]; exact a1
  · rw [st_nf (by decide), sn_ne (by decide)]; exact a2
  · rw [st_nf (by decide), sn_ne (by decide)]; exact a3
  · rw [sn_ne (by decide)] at hq
    have h8 := a4 q hq
    refine ⟨?_, ?_, ?_, ?_, ?_⟩
    · rw [st_nf (by decide), sn_ne (by decide)]; exact h8.1
    · rw [st_nf (by decide), sn_ne (by decide)]; exact h8.2.1
    · rw [st_nf (by decide), sn_ne (by decide)]; exact h8.2.2.1
    · rw [st_nf (by decide), sn_ne (by decide)]; exact h8.2.2.2.1
    · rw [st_nf (by decide), sn_ne (by decide)]; exact h8.2.2.2.2
  · rw [st_nf (by decide), sn_ne (by decide)]; exact a5 i hi
  · rw [st_nf (by decide), sn_ne (by decide)]; exact a6 i hi
  · rw [st_at, sn_ne (f := 7) (g := 8) (by decide)]
theorem Wf_s7 (hw : Wf M) {p v : Nat} (hv : v ≤ 1) : Wf (sn M 7 p v) := by
  obtain ⟨a1, a2, a3, a4, a5, a6, a7⟩ := hw
  refine ⟨?_, ?_, ?_, fun q hq => ?_, fun q hq => ?_, fun i hi => ?_, fun i hi => ?_⟩
  · rw [sn_ne (by decide)]; exact a1
  · rw [sn_ne (by decide)]; exact a2
  · rw [sn_ne (by decide)]; exact a3
  · rw [sn_ne (by decide)] at hq
    have h8 := a4 q hq
    refine ⟨?_, ?_, ?_, ?_, ?_, ?_⟩
    · rw [sn_ne (by decide)]; exact h8.1
    · rw [sn_ne (by decide)]; exact h8.2.1
    · rw [sn_ne (by decide)]; exact h8.2.2.1
    · rw [sn_ne (by decide)]; exact h8.2.2.2.1
    · by_cases e : q = p
      · subst e
        rw [sn_at]; exact hv
      · rw [sn_off e]; exact h8.2.2.2.2.1
    · rw [sn_ne (by decide), sn_ne (f := 7) (g := 8) (by decide)]; exact h8.2.2.2.2.2
  · rw [sn_ne (by decide)] at hq
    rw [sn_ne (f := 7) (g := 8) (by decide), sn_ne (f := 7) (g := 4) (by decide)]
    exact a5 q hq
  · rw [sn_ne (by decide)]; exact a6 i hi
  · rw [sn_ne (by decide), sn_ne (f := 7) (g := 8) (by decide)]; exact a7 i hi
theorem Rm_s9 (hr : Rm M (μ 0)) {v : Nat} : Rm (sn M 9 0 v) (st μ 0 (0) (nI v) 0) := by
  obtain ⟨a1, a2, a3, a4, a5, a6, a7⟩ := hr
  refine ⟨?_, ?_, ?_, fun i hi => ?_, fun i hi => ?_, fun q hq => ?_, fun i hi => ?_⟩
  · rw [st_at, sn_at]
  · rw [st_off (by omega), sn_ne (by decide)]; exact a2
  · rw [st_off (by omega), sn_ne (by decide)]; exact a3
  · rw [st_off (by omega), sn_ne (by decide)]; exact a4 i hi
  · rw [st_off (by omega), sn_ne (by decide)]; exact a5 i hi
  · rw [sn_ne (by decide)] at hq
    have h8 := a6 q hq
    refine ⟨?_, ?_, ?_, ?_, ?_⟩
    · rw [st_off (by omega), sn_ne (by decide)]; exact h8.1
    · rw [st_off (by omega), sn_ne (by decide)]; exact h8.2.1
    · rw [st_off (by omega), sn_ne (by decide)]; exact h8.2.2.1
    · rw [st_off (by omega), sn_ne (by decide)]; exact h8.2.2.2.1
    · rw [st_off (by omega), sn_ne (by decide)]; exact h8.2.2.2.2
  · rw [sn_ne (by decide)] at hi
    rw [st_off (by omega), sn_ne (by decide)]; exact a7 i hi
theorem Rc_s9 (hr : Rc M σ) {v : Nat} : Rc (sn M 9 0 v) (st σ 9 0 (nI v)) := by
  obtain ⟨a1, a2, a3, a4, a5, a6, a7⟩ := hr
  refine ⟨?_, ?_, ?_, fun q hq => ?_, fun i hi => ?_, fun i hi => ?_, ?_⟩
  · rw [st_nf (by decide), sn_ne (by decide)]; exact a1
  · rw [st_at, sn_at]
  · rw [st_nf (by decide), sn_ne (by decide)]; exact a3
  · rw [sn_ne (by decide)] at hq
    have h8 := a4 q hq
    refine ⟨?_, ?_, ?_, ?_, ?_⟩
    · rw [st_nf (by decide), sn_ne (by decide)]; exact h8.1
    · rw [st_nf (by decide), sn_ne (by decide)]; exact h8.2.1
    · rw [st_nf (by decide), sn_ne (by decide)]; exact h8.2.2.1
    · rw [st_nf (by decide), sn_ne (by decide)]; exact h8.2.2.2.1
    · rw [st_nf (by decide), sn_ne (by decide)]; exact h8.2.2.2.2
  · rw [st_nf (by decide), sn_ne (by decide)]; exact a5 i hi
  · rw [st_nf (by decide), sn_ne (by decide)]; exact a6 i hi
  · rw [st_nf (by decide), sn_ne (by decide), tb_sn (by decide)]; exact a7
theorem Wf_s9 (hw : Wf M) {v : Nat} (hv : v ≤ 99999) : Wf (sn M 9 0 v) := by
  obtain ⟨a1, a2, a3, a4, a5, a6, a7⟩ := hw
  refine ⟨?_, ?_, ?_, fun q hq => ?_, fun q hq => ?_, fun i hi => ?_, fun i hi => ?_⟩
  · rw [sn_ne (by decide)]; exact a1
  · rw [sn_at]; exact hv
  · rw [sn_ne (by decide)]; exact a3
  · rw [sn_ne (by decide)] at hq
    have h8 := a4 q hq
    refine ⟨?_, ?_, ?_, ?_, ?_, ?_⟩
    · rw [sn_ne (by decide)]; exact h8.1
    · rw [sn_ne (by decide)]; exact h8.2.1
    · rw [sn_ne (by decide)]; exact h8.2.2.1
    · rw [sn_ne (by decide)]; exact h8.2.2.2.1
    · rw [sn_ne (by decide)]; exact h8.2.2.2.2.1
    · rw [sn_ne (by decide), sn_ne (f := 9) (g := 8) (by decide)]; exact h8.2.2.2.2.2
  · rw [sn_ne (by decide)] at hq
    rw [sn_ne (f := 9) (g := 8) (by decide), sn_ne (f := 9) (g := 4) (by decide)]
    exact a5 q hq
  · rw [sn_ne (by decide)]; exact a6 i hi
  · rw [sn_ne (by decide), sn_ne (f := 9) (g := 8) (by decide)]; exact a7 i hi
theorem Rm_s10 (hr : Rm M (μ 0)) {v : Nat} : Rm (sn M 10 0 v) (st μ 0 (2) (nI v) 0) := by
  obtain ⟨a1, a2, a3, a4, a5, a6, a7⟩ := hr
  refine ⟨?_, ?_, ?_, fun i hi => ?_, fun i hi => ?_, fun q hq => ?_, fun i hi => ?_⟩
  · rw [st_off (by omega), sn_ne (by decide)]; exact a1
  · rw [st_off (by omega), sn_ne (by decide)]; exact a2
  · rw [st_at, sn_at]
  · rw [st_off (by omega), sn_ne (by decide)]; exact a4 i hi
  · rw [st_off (by omega), sn_ne (by decide)]; exact a5 i hi
  · rw [sn_ne (by decide)] at hq
    have h8 := a6 q hq
    refine ⟨?_, ?_, ?_, ?_, ?_⟩
    · rw [st_off (by omega), sn_ne (by decide)]; exact h8.1
    · rw [st_off (by omega), sn_ne (by decide)]; exact h8.2.1
    · rw [st_off (by omega), sn_ne (by decide)]; exact h8.2.2.1
    · rw [st_off (by omega), sn_ne (by decide)]; exact h8.2.2.2.1
    · rw [st_off (by omega), sn_ne (by decide)]; exact h8.2.2.2.2
  · rw [sn_ne (by decide)] at hi
    rw [st_off (by omega), sn_ne (by decide)]; exact a7 i hi
theorem Rc_s10 (hr : Rc M σ) {v : Nat} : Rc (sn M 10 0 v) (st σ 10 0 (nI v)) := by
  obtain ⟨a1, a2, a3, a4, a5, a6, a7⟩ := hr
  refine ⟨?_, ?_, ?_, fun q hq => ?_, fun i hi => ?_, fun i hi => ?_, ?_⟩
  · rw [st_nf (by decide), sn_ne (by decide)]; exact a1
  · rw [st_nf (by decide), sn_ne (by decide)]; exact a2
  · rw [st_at, sn_at]
  · rw [sn_ne (by decide)] at hq
    have h8 := a4 q hq
    refine ⟨?_, ?_, ?_, ?_, ?_⟩
    · rw [st_nf (by decide), sn_ne (by decide)]; exact h8.1
    · rw [st_nf (by decide), sn_ne (by decide)]; exact h8.2.1
    · rw [st_nf (by decide), sn_ne (by decide)]; exact h8.2.2.1
    · rw [st_nf (by decide), sn_ne (by decide)]; exact h8.2.2.2.1
    · rw [st_nf (by decide), sn_ne (by decide)]; exact h8.2.2.2.2
  · rw [st_nf (by decide), sn_ne (by decide)]; exact a5 i hi
  · rw [st_nf (by decide), sn_ne (by decide)]; exact a6 i hi
  · rw [st_nf (by decide), sn_ne (by decide), tb_sn (by decide)]; exact a7
theorem Wf_s10 (hw : Wf M) {v : Nat} (hv : v < 2 ^ 32) : Wf (sn M 10 0 v) := by
  obtain ⟨a1, a2, a3, a4, a5, a6, a7⟩ := hw
  refine ⟨?_, ?_, ?_, fun q hq => ?_, fun q hq => ?_, fun i hi => ?_, fun i hi => ?_⟩
  · rw [sn_ne (by decide)]; exact a1
  · rw [sn_ne (by decide)]; exact a2
  · rw [sn_at]; exact hv
  · rw [sn_ne (by decide)] at hq
    have h8 := a4 q hq
    refine ⟨?_, ?_, ?_, ?_, ?_, ?_⟩
    · rw [sn_ne (by decide)]; exact h8.1
    · rw [sn_ne (by decide)]; exact h8.2.1
    · rw [sn_ne (by decide)]; exact h8.2.2.1
    · rw [sn_ne (by decide)]; exact h8.2.2.2.1
    · rw [sn_ne (by decide)]; exact h8.2.2.2.2.1
    · rw [sn_ne (by decide), sn_ne (f := 10) (g := 8) (by decide)]; exact h8.2.2.2.2.2
  · rw [sn_ne (by decide)] at hq
    rw [sn_ne (f := 10) (g := 8) (by decide), sn_ne (f := 10) (g := 4) (by decide)]
    exact a5 q hq
  · rw [sn_ne (by decide)]; exact a6 i hi
  · rw [sn_ne (by decide), sn_ne (f := 10) (g := 8) (by decide)]; exact a7 i hi
end Pure
