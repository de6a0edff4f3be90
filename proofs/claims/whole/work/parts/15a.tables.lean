def tmJ (i : Nat) : Term := .string RX3 (entT.getD i 0)
theorem st_a {s : State} {b : Nat} (hts : ∀ w ∈ lw_tbl, w.before #[Value.ref b] s = true) (hgv : (Jvm.Cond.and given_1 narrow_1).before #[Value.ref b] s = true) : ∀ i : Nat, i < 11 → (Cond.exactly (tmJ i) "java/lang/String").before #[Value.ref b] s = true := by
  have hs := flat_of_before _ hgv
  intro i hi
  match i, hi with
  | 0, _ => exact hs _ (List.mem_of_getElem? (i := 74) (by decide +kernel))
  | 1, _ => exact hs _ (List.mem_of_getElem? (i := 9) (by decide +kernel))
  | 2, _ => exact hs _ (List.mem_of_getElem? (i := 17) (by decide +kernel))
  | 3, _ => exact hs _ (List.mem_of_getElem? (i := 25) (by decide +kernel))
  | 4, _ => exact hs _ (List.mem_of_getElem? (i := 36) (by decide +kernel))
  | 5, _ => exact hs _ (List.mem_of_getElem? (i := 47) (by decide +kernel))
  | 6, _ => exact hs _ (List.mem_of_getElem? (i := 60) (by decide +kernel))
  | 7, _ => exact hs _ (List.mem_of_getElem? (i := 123) (by decide +kernel))
  | 8, _ => exact hs _ (List.mem_of_getElem? (i := 140) (by decide +kernel))
  | 9, _ => exact hs _ (List.mem_of_getElem? (i := 89) (by decide +kernel))
  | 10, _ => exact hs _ (List.mem_of_getElem? (i := 105) (by decide +kernel))
  | i + 11, h9 => exact absurd h9 (by omega)
theorem st_b {s : State} {b : Nat} (hts : ∀ w ∈ lw_tbl, w.before #[Value.ref b] s = true) (hgv : (Jvm.Cond.and given_1 narrow_1).before #[Value.ref b] s = true) : ∀ i : Nat, i < 11 → (Cond.eq (.field (tmJ i) "java/lang/String" "coder" "B") (.int 0)).before #[Value.ref b] s = true := by
  have hs := flat_of_before _ hgv
  intro i hi
  match i, hi with
  | 0, _ => exact hs _ (List.mem_of_getElem? (i := 75) (by decide +kernel))
  | 1, _ => exact hs _ (List.mem_of_getElem? (i := 10) (by decide +kernel))
  | 2, _ => exact hs _ (List.mem_of_getElem? (i := 18) (by decide +kernel))
  | 3, _ => exact hs _ (List.mem_of_getElem? (i := 26) (by decide +kernel))
  | 4, _ => exact hs _ (List.mem_of_getElem? (i := 37) (by decide +kernel))
  | 5, _ => exact hs _ (List.mem_of_getElem? (i := 48) (by decide +kernel))
  | 6, _ => exact hs _ (List.mem_of_getElem? (i := 61) (by decide +kernel))
  | 7, _ => exact hs _ (List.mem_of_getElem? (i := 124) (by decide +kernel))
  | 8, _ => exact hs _ (List.mem_of_getElem? (i := 141) (by decide +kernel))
  | 9, _ => exact hs _ (List.mem_of_getElem? (i := 90) (by decide +kernel))
  | 10, _ => exact hs _ (List.mem_of_getElem? (i := 106) (by decide +kernel))
  | i + 11, h9 => exact absurd h9 (by omega)
theorem st_c {s : State} {b : Nat} (hts : ∀ w ∈ lw_tbl, w.before #[Value.ref b] s = true) (hgv : (Jvm.Cond.and given_1 narrow_1).before #[Value.ref b] s = true) : ∀ i : Nat, i < 11 → (Cond.arrayOf (.field (tmJ i) "java/lang/String" "value" "[B") .byte).before #[Value.ref b] s = true := by
  have hs := flat_of_before _ hgv
  intro i hi
  match i, hi with
  | 0, _ => exact hs _ (List.mem_of_getElem? (i := 76) (by decide +kernel))
  | 1, _ => exact hs _ (List.mem_of_getElem? (i := 11) (by decide +kernel))
  | 2, _ => exact hs _ (List.mem_of_getElem? (i := 19) (by decide +kernel))
  | 3, _ => exact hs _ (List.mem_of_getElem? (i := 27) (by decide +kernel))
  | 4, _ => exact hs _ (List.mem_of_getElem? (i := 38) (by decide +kernel))
  | 5, _ => exact hs _ (List.mem_of_getElem? (i := 49) (by decide +kernel))
  | 6, _ => exact hs _ (List.mem_of_getElem? (i := 62) (by decide +kernel))
  | 7, _ => exact hs _ (List.mem_of_getElem? (i := 125) (by decide +kernel))
  | 8, _ => exact hs _ (List.mem_of_getElem? (i := 142) (by decide +kernel))
  | 9, _ => exact hs _ (List.mem_of_getElem? (i := 91) (by decide +kernel))
  | 10, _ => exact hs _ (List.mem_of_getElem? (i := 107) (by decide +kernel))
  | i + 11, h9 => exact absurd h9 (by omega)
theorem st_d {s : State} {b : Nat} (hts : ∀ w ∈ lw_tbl, w.before #[Value.ref b] s = true) (hgv : (Jvm.Cond.and given_1 narrow_1).before #[Value.ref b] s = true) : ∀ i : Nat, i < 11 → (Cond.eq (.length (.field (tmJ i) "java/lang/String" "value" "[B")) (.int (Int32.ofNat (lenJ.getD i 0)))).before #[Value.ref b] s = true := by
  have hs := flat_of_before _ hgv
  intro i hi
  match i, hi with
  | 0, _ => exact hs _ (List.mem_of_getElem? (i := 77) (by decide +kernel))
  | 1, _ => exact hs _ (List.mem_of_getElem? (i := 12) (by decide +kernel))
  | 2, _ => exact hs _ (List.mem_of_getElem? (i := 20) (by decide +kernel))
  | 3, _ => exact hs _ (List.mem_of_getElem? (i := 28) (by decide +kernel))
  | 4, _ => exact hs _ (List.mem_of_getElem? (i := 39) (by decide +kernel))
  | 5, _ => exact hs _ (List.mem_of_getElem? (i := 50) (by decide +kernel))
  | 6, _ => exact hs _ (List.mem_of_getElem? (i := 63) (by decide +kernel))
  | 7, _ => exact hs _ (List.mem_of_getElem? (i := 126) (by decide +kernel))
  | 8, _ => exact hs _ (List.mem_of_getElem? (i := 143) (by decide +kernel))
  | 9, _ => exact hs _ (List.mem_of_getElem? (i := 92) (by decide +kernel))
  | 10, _ => exact hs _ (List.mem_of_getElem? (i := 108) (by decide +kernel))
  | i + 11, h9 => exact absurd h9 (by omega)
theorem st_e {s : State} {b : Nat} (hts : ∀ w ∈ lw_tbl, w.before #[Value.ref b] s = true) (hgv : (Jvm.Cond.and given_1 narrow_1).before #[Value.ref b] s = true) : ∀ i : Nat, i < 11 → ∀ j : Nat, j < lenJ.getD i 0 → (Cond.eq (.elem (.field (tmJ i) "java/lang/String" "value" "[B") (.int (Int32.ofNat j))) (.int ((bytJ.getD i []).getD j 0))).before #[Value.ref b] s = true := by
  have hs := flat_of_before _ hgv
  intro i hi j hj
  match i, hi, j, hj with
  | 0, _, 0, _ => exact hs _ (List.mem_of_getElem? (i := 78) (by decide +kernel))
  | 0, _, 1, _ => exact hs _ (List.mem_of_getElem? (i := 79) (by decide +kernel))
  | 0, _, 2, _ => exact hs _ (List.mem_of_getElem? (i := 80) (by decide +kernel))
  | 0, _, 3, _ => exact hs _ (List.mem_of_getElem? (i := 81) (by decide +kernel))
  | 0, _, 4, _ => exact hs _ (List.mem_of_getElem? (i := 82) (by decide +kernel))
  | 1, _, 0, _ => exact hs _ (List.mem_of_getElem? (i := 13) (by decide +kernel))
  | 1, _, 1, _ => exact hs _ (List.mem_of_getElem? (i := 14) (by decide +kernel))
  | 1, _, 2, _ => exact hs _ (List.mem_of_getElem? (i := 15) (by decide +kernel))
  | 1, _, 3, _ => exact hs _ (List.mem_of_getElem? (i := 16) (by decide +kernel))
  | 2, _, 0, _ => exact hs _ (List.mem_of_getElem? (i := 21) (by decide +kernel))
  | 2, _, 1, _ => exact hs _ (List.mem_of_getElem? (i := 22) (by decide +kernel))
  | 2, _, 2, _ => exact hs _ (List.mem_of_getElem? (i := 23) (by decide +kernel))
  | 3, _, 0, _ => exact hs _ (List.mem_of_getElem? (i := 29) (by decide +kernel))
  | 3, _, 1, _ => exact hs _ (List.mem_of_getElem? (i := 30) (by decide +kernel))
  | 3, _, 2, _ => exact hs _ (List.mem_of_getElem? (i := 31) (by decide +kernel))
  | 3, _, 3, _ => exact hs _ (List.mem_of_getElem? (i := 32) (by decide +kernel))
  | 3, _, 4, _ => exact hs _ (List.mem_of_getElem? (i := 33) (by decide +kernel))
  | 4, _, 0, _ => exact hs _ (List.mem_of_getElem? (i := 40) (by decide +kernel))
  | 4, _, 1, _ => exact hs _ (List.mem_of_getElem? (i := 41) (by decide +kernel))
  | 4, _, 2, _ => exact hs _ (List.mem_of_getElem? (i := 42) (by decide +kernel))
  | 4, _, 3, _ => exact hs _ (List.mem_of_getElem? (i := 43) (by decide +kernel))
  | 5, _, 0, _ => exact hs _ (List.mem_of_getElem? (i := 51) (by decide +kernel))
  | 5, _, 1, _ => exact hs _ (List.mem_of_getElem? (i := 52) (by decide +kernel))
  | 5, _, 2, _ => exact hs _ (List.mem_of_getElem? (i := 53) (by decide +kernel))
  | 5, _, 3, _ => exact hs _ (List.mem_of_getElem? (i := 54) (by decide +kernel))
  | 5, _, 4, _ => exact hs _ (List.mem_of_getElem? (i := 55) (by decide +kernel))
  | 6, _, 0, _ => exact hs _ (List.mem_of_getElem? (i := 64) (by decide +kernel))
  | 6, _, 1, _ => exact hs _ (List.mem_of_getElem? (i := 65) (by decide +kernel))
  | 6, _, 2, _ => exact hs _ (List.mem_of_getElem? (i := 66) (by decide +kernel))
  | 6, _, 3, _ => exact hs _ (List.mem_of_getElem? (i := 67) (by decide +kernel))
  | 6, _, 4, _ => exact hs _ (List.mem_of_getElem? (i := 68) (by decide +kernel))
  | 7, _, 0, _ => exact hs _ (List.mem_of_getElem? (i := 127) (by decide +kernel))
  | 7, _, 1, _ => exact hs _ (List.mem_of_getElem? (i := 128) (by decide +kernel))
  | 7, _, 2, _ => exact hs _ (List.mem_of_getElem? (i := 129) (by decide +kernel))
  | 7, _, 3, _ => exact hs _ (List.mem_of_getElem? (i := 130) (by decide +kernel))
  | 8, _, 0, _ => exact hs _ (List.mem_of_getElem? (i := 144) (by decide +kernel))
  | 8, _, 1, _ => exact hs _ (List.mem_of_getElem? (i := 145) (by decide +kernel))
  | 8, _, 2, _ => exact hs _ (List.mem_of_getElem? (i := 146) (by decide +kernel))
  | 9, _, 0, _ => exact hs _ (List.mem_of_getElem? (i := 93) (by decide +kernel))
  | 9, _, 1, _ => exact hs _ (List.mem_of_getElem? (i := 94) (by decide +kernel))
  | 9, _, 2, _ => exact hs _ (List.mem_of_getElem? (i := 95) (by decide +kernel))
  | 9, _, 3, _ => exact hs _ (List.mem_of_getElem? (i := 96) (by decide +kernel))
  | 9, _, 4, _ => exact hs _ (List.mem_of_getElem? (i := 97) (by decide +kernel))
  | 10, _, 0, _ => exact hs _ (List.mem_of_getElem? (i := 109) (by decide +kernel))
  | 10, _, 1, _ => exact hs _ (List.mem_of_getElem? (i := 110) (by decide +kernel))
  | 10, _, 2, _ => exact hs _ (List.mem_of_getElem? (i := 111) (by decide +kernel))
  | 10, _, 3, _ => exact hs _ (List.mem_of_getElem? (i := 112) (by decide +kernel))
  | 10, _, 4, _ => exact hs _ (List.mem_of_getElem? (i := 113) (by decide +kernel))
  | 10, _, 5, _ => exact hs _ (List.mem_of_getElem? (i := 114) (by decide +kernel))
  | 0, _, j + 5, h9 => exact absurd h9 (by show ¬ j + 5 < 5; omega)
  | 1, _, j + 4, h9 => exact absurd h9 (by show ¬ j + 4 < 4; omega)
  | 2, _, j + 3, h9 => exact absurd h9 (by show ¬ j + 3 < 3; omega)
  | 3, _, j + 5, h9 => exact absurd h9 (by show ¬ j + 5 < 5; omega)
  | 4, _, j + 4, h9 => exact absurd h9 (by show ¬ j + 4 < 4; omega)
  | 5, _, j + 5, h9 => exact absurd h9 (by show ¬ j + 5 < 5; omega)
  | 6, _, j + 5, h9 => exact absurd h9 (by show ¬ j + 5 < 5; omega)
  | 7, _, j + 4, h9 => exact absurd h9 (by show ¬ j + 4 < 4; omega)
  | 8, _, j + 3, h9 => exact absurd h9 (by show ¬ j + 3 < 3; omega)
  | 9, _, j + 5, h9 => exact absurd h9 (by show ¬ j + 5 < 5; omega)
  | 10, _, j + 6, h9 => exact absurd h9 (by show ¬ j + 6 < 6; omega)
  | i + 11, h9, _, _ => exact absurd h9 (by omega)
theorem st_f {s : State} {b : Nat} (hts : ∀ w ∈ lw_tbl, w.before #[Value.ref b] s = true) (hgv : (Jvm.Cond.and given_1 narrow_1).before #[Value.ref b] s = true) : ∀ i j : Nat, i < 11 → j < 11 → i ≠ j → (Cond.not (Cond.eq (tmJ i) (tmJ j))).before #[Value.ref b] s = true ∨ (Cond.not (Cond.eq (tmJ j) (tmJ i))).before #[Value.ref b] s = true := by
  have hs := flat_of_before _ hgv
  intro i j hi hj hij
  match i, hi, j, hj, hij with
  | 0, _, 0, _, h7 => exact absurd rfl h7
  | 0, _, 1, _, _ => exact Or.inr (hs _ (List.mem_of_getElem? (i := 83) (by decide +kernel)))
  | 0, _, 2, _, _ => exact Or.inr (hs _ (List.mem_of_getElem? (i := 84) (by decide +kernel)))
  | 0, _, 3, _, _ => exact Or.inr (hs _ (List.mem_of_getElem? (i := 85) (by decide +kernel)))
  | 0, _, 4, _, _ => exact Or.inr (hs _ (List.mem_of_getElem? (i := 86) (by decide +kernel)))
  | 0, _, 5, _, _ => exact Or.inr (hs _ (List.mem_of_getElem? (i := 87) (by decide +kernel)))
  | 0, _, 6, _, _ => exact Or.inr (hs _ (List.mem_of_getElem? (i := 88) (by decide +kernel)))
  | 0, _, 7, _, _ => exact Or.inl (hs _ (List.mem_of_getElem? (i := 137) (by decide +kernel)))
  | 0, _, 8, _, _ => exact Or.inl (hs _ (List.mem_of_getElem? (i := 153) (by decide +kernel)))
  | 0, _, 9, _, _ => exact Or.inl (hs _ (List.mem_of_getElem? (i := 104) (by decide +kernel)))
  | 0, _, 10, _, _ => exact Or.inl (hs _ (List.mem_of_getElem? (i := 121) (by decide +kernel)))
  | 0, _, j + 11, h9, _ => exact absurd h9 (by omega)
  | 1, _, 0, _, _ => exact Or.inl (hs _ (List.mem_of_getElem? (i := 83) (by decide +kernel)))
  | 1, _, 1, _, h7 => exact absurd rfl h7
  | 1, _, 2, _, _ => exact Or.inl (hs _ (List.mem_of_getElem? (i := 24) (by decide +kernel)))
  | 1, _, 3, _, _ => exact Or.inl (hs _ (List.mem_of_getElem? (i := 34) (by decide +kernel)))
  | 1, _, 4, _, _ => exact Or.inl (hs _ (List.mem_of_getElem? (i := 44) (by decide +kernel)))
  | 1, _, 5, _, _ => exact Or.inl (hs _ (List.mem_of_getElem? (i := 56) (by decide +kernel)))
  | 1, _, 6, _, _ => exact Or.inl (hs _ (List.mem_of_getElem? (i := 69) (by decide +kernel)))
  | 1, _, 7, _, _ => exact Or.inl (hs _ (List.mem_of_getElem? (i := 131) (by decide +kernel)))
  | 1, _, 8, _, _ => exact Or.inl (hs _ (List.mem_of_getElem? (i := 147) (by decide +kernel)))
  | 1, _, 9, _, _ => exact Or.inl (hs _ (List.mem_of_getElem? (i := 98) (by decide +kernel)))
  | 1, _, 10, _, _ => exact Or.inl (hs _ (List.mem_of_getElem? (i := 115) (by decide +kernel)))
  | 1, _, j + 11, h9, _ => exact absurd h9 (by omega)
  | 2, _, 0, _, _ => exact Or.inl (hs _ (List.mem_of_getElem? (i := 84) (by decide +kernel)))
  | 2, _, 1, _, _ => exact Or.inr (hs _ (List.mem_of_getElem? (i := 24) (by decide +kernel)))
  | 2, _, 2, _, h7 => exact absurd rfl h7
  | 2, _, 3, _, _ => exact Or.inl (hs _ (List.mem_of_getElem? (i := 35) (by decide +kernel)))
  | 2, _, 4, _, _ => exact Or.inl (hs _ (List.mem_of_getElem? (i := 45) (by decide +kernel)))
  | 2, _, 5, _, _ => exact Or.inl (hs _ (List.mem_of_getElem? (i := 57) (by decide +kernel)))
  | 2, _, 6, _, _ => exact Or.inl (hs _ (List.mem_of_getElem? (i := 70) (by decide +kernel)))
  | 2, _, 7, _, _ => exact Or.inl (hs _ (List.mem_of_getElem? (i := 132) (by decide +kernel)))
  | 2, _, 8, _, _ => exact Or.inl (hs _ (List.mem_of_getElem? (i := 148) (by decide +kernel)))
  | 2, _, 9, _, _ => exact Or.inl (hs _ (List.mem_of_getElem? (i := 99) (by decide +kernel)))
  | 2, _, 10, _, _ => exact Or.inl (hs _ (List.mem_of_getElem? (i := 116) (by decide +kernel)))
  | 2, _, j + 11, h9, _ => exact absurd h9 (by omega)
  | 3, _, 0, _, _ => exact Or.inl (hs _ (List.mem_of_getElem? (i := 85) (by decide +kernel)))
  | 3, _, 1, _, _ => exact Or.inr (hs _ (List.mem_of_getElem? (i := 34) (by decide +kernel)))
  | 3, _, 2, _, _ => exact Or.inr (hs _ (List.mem_of_getElem? (i := 35) (by decide +kernel)))
  | 3, _, 3, _, h7 => exact absurd rfl h7
  | 3, _, 4, _, _ => exact Or.inl (hs _ (List.mem_of_getElem? (i := 46) (by decide +kernel)))
  | 3, _, 5, _, _ => exact Or.inl (hs _ (List.mem_of_getElem? (i := 58) (by decide +kernel)))
  | 3, _, 6, _, _ => exact Or.inl (hs _ (List.mem_of_getElem? (i := 71) (by decide +kernel)))
  | 3, _, 7, _, _ => exact Or.inl (hs _ (List.mem_of_getElem? (i := 133) (by decide +kernel)))
  | 3, _, 8, _, _ => exact Or.inl (hs _ (List.mem_of_getElem? (i := 149) (by decide +kernel)))
  | 3, _, 9, _, _ => exact Or.inl (hs _ (List.mem_of_getElem? (i := 100) (by decide +kernel)))
  | 3, _, 10, _, _ => exact Or.inl (hs _ (List.mem_of_getElem? (i := 117) (by decide +kernel)))
  | 3, _, j + 11, h9, _ => exact absurd h9 (by omega)
  | 4, _, 0, _, _ => exact Or.inl (hs _ (List.mem_of_getElem? (i := 86) (by decide +kernel)))
  | 4, _, 1, _, _ => exact Or.inr (hs _ (List.mem_of_getElem? (i := 44) (by decide +kernel)))
  | 4, _, 2, _, _ => exact Or.inr (hs _ (List.mem_of_getElem? (i := 45) (by decide +kernel)))
  | 4, _, 3, _, _ => exact Or.inr (hs _ (List.mem_of_getElem? (i := 46) (by decide +kernel)))
  | 4, _, 4, _, h7 => exact absurd rfl h7
  | 4, _, 5, _, _ => exact Or.inl (hs _ (List.mem_of_getElem? (i := 59) (by decide +kernel)))
  | 4, _, 6, _, _ => exact Or.inl (hs _ (List.mem_of_getElem? (i := 72) (by decide +kernel)))
  | 4, _, 7, _, _ => exact Or.inl (hs _ (List.mem_of_getElem? (i := 134) (by decide +kernel)))
  | 4, _, 8, _, _ => exact Or.inl (hs _ (List.mem_of_getElem? (i := 150) (by decide +kernel)))
  | 4, _, 9, _, _ => exact Or.inl (hs _ (List.mem_of_getElem? (i := 101) (by decide +kernel)))
  | 4, _, 10, _, _ => exact Or.inl (hs _ (List.mem_of_getElem? (i := 118) (by decide +kernel)))
  | 4, _, j + 11, h9, _ => exact absurd h9 (by omega)
  | 5, _, 0, _, _ => exact Or.inl (hs _ (List.mem_of_getElem? (i := 87) (by decide +kernel)))
  | 5, _, 1, _, _ => exact Or.inr (hs _ (List.mem_of_getElem? (i := 56) (by decide +kernel)))
  | 5, _, 2, _, _ => exact Or.inr (hs _ (List.mem_of_getElem? (i := 57) (by decide +kernel)))
  | 5, _, 3, _, _ => exact Or.inr (hs _ (List.mem_of_getElem? (i := 58) (by decide +kernel)))
  | 5, _, 4, _, _ => exact Or.inr (hs _ (List.mem_of_getElem? (i := 59) (by decide +kernel)))
  | 5, _, 5, _, h7 => exact absurd rfl h7
  | 5, _, 6, _, _ => exact Or.inl (hs _ (List.mem_of_getElem? (i := 73) (by decide +kernel)))
  | 5, _, 7, _, _ => exact Or.inl (hs _ (List.mem_of_getElem? (i := 135) (by decide +kernel)))
  | 5, _, 8, _, _ => exact Or.inl (hs _ (List.mem_of_getElem? (i := 151) (by decide +kernel)))
  | 5, _, 9, _, _ => exact Or.inl (hs _ (List.mem_of_getElem? (i := 102) (by decide +kernel)))
  | 5, _, 10, _, _ => exact Or.inl (hs _ (List.mem_of_getElem? (i := 119) (by decide +kernel)))
  | 5, _, j + 11, h9, _ => exact absurd h9 (by omega)
  | 6, _, 0, _, _ => exact Or.inl (hs _ (List.mem_of_getElem? (i := 88) (by decide +kernel)))
  | 6, _, 1, _, _ => exact Or.inr (hs _ (List.mem_of_getElem? (i := 69) (by decide +kernel)))
  | 6, _, 2, _, _ => exact Or.inr (hs _ (List.mem_of_getElem? (i := 70) (by decide +kernel)))
  | 6, _, 3, _, _ => exact Or.inr (hs _ (List.mem_of_getElem? (i := 71) (by decide +kernel)))
  | 6, _, 4, _, _ => exact Or.inr (hs _ (List.mem_of_getElem? (i := 72) (by decide +kernel)))
  | 6, _, 5, _, _ => exact Or.inr (hs _ (List.mem_of_getElem? (i := 73) (by decide +kernel)))
  | 6, _, 6, _, h7 => exact absurd rfl h7
  | 6, _, 7, _, _ => exact Or.inl (hs _ (List.mem_of_getElem? (i := 136) (by decide +kernel)))
  | 6, _, 8, _, _ => exact Or.inl (hs _ (List.mem_of_getElem? (i := 152) (by decide +kernel)))
  | 6, _, 9, _, _ => exact Or.inl (hs _ (List.mem_of_getElem? (i := 103) (by decide +kernel)))
  | 6, _, 10, _, _ => exact Or.inl (hs _ (List.mem_of_getElem? (i := 120) (by decide +kernel)))
  | 6, _, j + 11, h9, _ => exact absurd h9 (by omega)
  | 7, _, 0, _, _ => exact Or.inr (hs _ (List.mem_of_getElem? (i := 137) (by decide +kernel)))
  | 7, _, 1, _, _ => exact Or.inr (hs _ (List.mem_of_getElem? (i := 131) (by decide +kernel)))
  | 7, _, 2, _, _ => exact Or.inr (hs _ (List.mem_of_getElem? (i := 132) (by decide +kernel)))
  | 7, _, 3, _, _ => exact Or.inr (hs _ (List.mem_of_getElem? (i := 133) (by decide +kernel)))
  | 7, _, 4, _, _ => exact Or.inr (hs _ (List.mem_of_getElem? (i := 134) (by decide +kernel)))
  | 7, _, 5, _, _ => exact Or.inr (hs _ (List.mem_of_getElem? (i := 135) (by decide +kernel)))
  | 7, _, 6, _, _ => exact Or.inr (hs _ (List.mem_of_getElem? (i := 136) (by decide +kernel)))
  | 7, _, 7, _, h7 => exact absurd rfl h7
  | 7, _, 8, _, _ => exact Or.inl (hs _ (List.mem_of_getElem? (i := 156) (by decide +kernel)))
  | 7, _, 9, _, _ => exact Or.inr (hs _ (List.mem_of_getElem? (i := 138) (by decide +kernel)))
  | 7, _, 10, _, _ => exact Or.inr (hs _ (List.mem_of_getElem? (i := 139) (by decide +kernel)))
  | 7, _, j + 11, h9, _ => exact absurd h9 (by omega)
  | 8, _, 0, _, _ => exact Or.inr (hs _ (List.mem_of_getElem? (i := 153) (by decide +kernel)))
  | 8, _, 1, _, _ => exact Or.inr (hs _ (List.mem_of_getElem? (i := 147) (by decide +kernel)))
  | 8, _, 2, _, _ => exact Or.inr (hs _ (List.mem_of_getElem? (i := 148) (by decide +kernel)))
  | 8, _, 3, _, _ => exact Or.inr (hs _ (List.mem_of_getElem? (i := 149) (by decide +kernel)))
  | 8, _, 4, _, _ => exact Or.inr (hs _ (List.mem_of_getElem? (i := 150) (by decide +kernel)))
  | 8, _, 5, _, _ => exact Or.inr (hs _ (List.mem_of_getElem? (i := 151) (by decide +kernel)))
  | 8, _, 6, _, _ => exact Or.inr (hs _ (List.mem_of_getElem? (i := 152) (by decide +kernel)))
  | 8, _, 7, _, _ => exact Or.inr (hs _ (List.mem_of_getElem? (i := 156) (by decide +kernel)))
  | 8, _, 8, _, h7 => exact absurd rfl h7
  | 8, _, 9, _, _ => exact Or.inr (hs _ (List.mem_of_getElem? (i := 154) (by decide +kernel)))
  | 8, _, 10, _, _ => exact Or.inr (hs _ (List.mem_of_getElem? (i := 155) (by decide +kernel)))
  | 8, _, j + 11, h9, _ => exact absurd h9 (by omega)
  | 9, _, 0, _, _ => exact Or.inr (hs _ (List.mem_of_getElem? (i := 104) (by decide +kernel)))
  | 9, _, 1, _, _ => exact Or.inr (hs _ (List.mem_of_getElem? (i := 98) (by decide +kernel)))
  | 9, _, 2, _, _ => exact Or.inr (hs _ (List.mem_of_getElem? (i := 99) (by decide +kernel)))
  | 9, _, 3, _, _ => exact Or.inr (hs _ (List.mem_of_getElem? (i := 100) (by decide +kernel)))
  | 9, _, 4, _, _ => exact Or.inr (hs _ (List.mem_of_getElem? (i := 101) (by decide +kernel)))
  | 9, _, 5, _, _ => exact Or.inr (hs _ (List.mem_of_getElem? (i := 102) (by decide +kernel)))
  | 9, _, 6, _, _ => exact Or.inr (hs _ (List.mem_of_getElem? (i := 103) (by decide +kernel)))
  | 9, _, 7, _, _ => exact Or.inl (hs _ (List.mem_of_getElem? (i := 138) (by decide +kernel)))
  | 9, _, 8, _, _ => exact Or.inl (hs _ (List.mem_of_getElem? (i := 154) (by decide +kernel)))
  | 9, _, 9, _, h7 => exact absurd rfl h7
  | 9, _, 10, _, _ => exact Or.inl (hs _ (List.mem_of_getElem? (i := 122) (by decide +kernel)))
  | 9, _, j + 11, h9, _ => exact absurd h9 (by omega)
  | 10, _, 0, _, _ => exact Or.inr (hs _ (List.mem_of_getElem? (i := 121) (by decide +kernel)))
  | 10, _, 1, _, _ => exact Or.inr (hs _ (List.mem_of_getElem? (i := 115) (by decide +kernel)))
  | 10, _, 2, _, _ => exact Or.inr (hs _ (List.mem_of_getElem? (i := 116) (by decide +kernel)))
  | 10, _, 3, _, _ => exact Or.inr (hs _ (List.mem_of_getElem? (i := 117) (by decide +kernel)))
  | 10, _, 4, _, _ => exact Or.inr (hs _ (List.mem_of_getElem? (i := 118) (by decide +kernel)))
  | 10, _, 5, _, _ => exact Or.inr (hs _ (List.mem_of_getElem? (i := 119) (by decide +kernel)))
  | 10, _, 6, _, _ => exact Or.inr (hs _ (List.mem_of_getElem? (i := 120) (by decide +kernel)))
  | 10, _, 7, _, _ => exact Or.inl (hs _ (List.mem_of_getElem? (i := 139) (by decide +kernel)))
  | 10, _, 8, _, _ => exact Or.inl (hs _ (List.mem_of_getElem? (i := 155) (by decide +kernel)))
  | 10, _, 9, _, _ => exact Or.inr (hs _ (List.mem_of_getElem? (i := 122) (by decide +kernel)))
  | 10, _, 10, _, h7 => exact absurd rfl h7
  | 10, _, j + 11, h9, _ => exact absurd h9 (by omega)
  | i + 11, h9, _, _, _ => exact absurd h9 (by omega)
theorem st_g {s : State} {b : Nat} (hts : ∀ w ∈ lw_tbl, w.before #[Value.ref b] s = true) (hgv : (Jvm.Cond.and given_1 narrow_1).before #[Value.ref b] s = true) : ∀ i : Nat, i < 11 → (Cond.stringRef RX3 (entT.getD i 0) (txtJ.getD i "")).before #[Value.ref b] s = true := by
  intro i hi
  match i, hi with
  | 0, _ => exact hts _ (List.mem_of_getElem? (i := 592) (by decide +kernel))
  | 1, _ => exact hts _ (List.mem_of_getElem? (i := 586) (by decide +kernel))
  | 2, _ => exact hts _ (List.mem_of_getElem? (i := 587) (by decide +kernel))
  | 3, _ => exact hts _ (List.mem_of_getElem? (i := 588) (by decide +kernel))
  | 4, _ => exact hts _ (List.mem_of_getElem? (i := 589) (by decide +kernel))
  | 5, _ => exact hts _ (List.mem_of_getElem? (i := 590) (by decide +kernel))
  | 6, _ => exact hts _ (List.mem_of_getElem? (i := 591) (by decide +kernel))
  | 7, _ => exact hts _ (List.mem_of_getElem? (i := 661) (by decide +kernel))
  | 8, _ => exact hts _ (List.mem_of_getElem? (i := 666) (by decide +kernel))
  | 9, _ => exact hts _ (List.mem_of_getElem? (i := 659) (by decide +kernel))
  | 10, _ => exact hts _ (List.mem_of_getElem? (i := 660) (by decide +kernel))
  | i + 11, h9 => exact absurd h9 (by omega)
theorem st_h {s : State} {b : Nat} (hts : ∀ w ∈ lw_tbl, w.before #[Value.ref b] s = true) (hgv : (Jvm.Cond.and given_1 narrow_1).before #[Value.ref b] s = true) : ∀ i : Nat, i < 11 → (Cond.stringRef RX5 (entM.getD i 0) (txtJ.getD i "")).before #[Value.ref b] s = true := by
  intro i hi
  match i, hi with
  | 0, _ => exact hts _ (List.mem_of_getElem? (i := 754) (by decide +kernel))
  | 1, _ => exact hts _ (List.mem_of_getElem? (i := 755) (by decide +kernel))
  | 2, _ => exact hts _ (List.mem_of_getElem? (i := 756) (by decide +kernel))
  | 3, _ => exact hts _ (List.mem_of_getElem? (i := 757) (by decide +kernel))
  | 4, _ => exact hts _ (List.mem_of_getElem? (i := 758) (by decide +kernel))
  | 5, _ => exact hts _ (List.mem_of_getElem? (i := 759) (by decide +kernel))
  | 6, _ => exact hts _ (List.mem_of_getElem? (i := 760) (by decide +kernel))
  | 7, _ => exact hts _ (List.mem_of_getElem? (i := 1170) (by decide +kernel))
  | 8, _ => exact hts _ (List.mem_of_getElem? (i := 1171) (by decide +kernel))
  | 9, _ => exact hts _ (List.mem_of_getElem? (i := 1160) (by decide +kernel))
  | 10, _ => exact hts _ (List.mem_of_getElem? (i := 1165) (by decide +kernel))
  | i + 11, h9 => exact absurd h9 (by omega)
theorem st_i {s : State} {b : Nat} (hts : ∀ w ∈ lw_tbl, w.before #[Value.ref b] s = true) (hgv : (Jvm.Cond.and given_1 narrow_1).before #[Value.ref b] s = true) : ∀ i : Nat, i < 11 → (Cond.eq (tmJ i) (.string RX5 (entM.getD i 0))).before #[Value.ref b] s = true := by
  have hs := flat_of_before _ hgv
  intro i hi
  match i, hi with
  | 0, _ => exact hs _ (List.mem_of_getElem? (i := 172) (by decide +kernel))
  | 1, _ => exact hs _ (List.mem_of_getElem? (i := 185) (by decide +kernel))
  | 2, _ => exact hs _ (List.mem_of_getElem? (i := 205) (by decide +kernel))
  | 3, _ => exact hs _ (List.mem_of_getElem? (i := 228) (by decide +kernel))
  | 4, _ => exact hs _ (List.mem_of_getElem? (i := 251) (by decide +kernel))
  | 5, _ => exact hs _ (List.mem_of_getElem? (i := 276) (by decide +kernel))
  | 6, _ => exact hs _ (List.mem_of_getElem? (i := 302) (by decide +kernel))
  | 7, _ => exact hs _ (List.mem_of_getElem? (i := 387) (by decide +kernel))
  | 8, _ => exact hs _ (List.mem_of_getElem? (i := 415) (by decide +kernel))
  | 9, _ => exact hs _ (List.mem_of_getElem? (i := 330) (by decide +kernel))
  | 10, _ => exact hs _ (List.mem_of_getElem? (i := 359) (by decide +kernel))
  | i + 11, h9 => exact absurd h9 (by omega)
theorem st_SE {s : State} {b : Nat} (hts : ∀ w ∈ lw_tbl, w.before #[Value.ref b] s = true) (hgv : (Jvm.Cond.and given_1 narrow_1).before #[Value.ref b] s = true) : ∃ ρ ν : Nat → Nat, SE ρ ν (fun q : Nat => s.heap.size ≤ q) s s.heap := by
  have hs := flat_of_before _ hgv
  have hA : ∀ a : Nat, a < s.heap.size → ¬ s.heap.size ≤ a := fun a h => Nat.not_le.mpr h
  obtain ⟨ρ, ν, h1, h2⟩ := vk_Sof (args := #[Value.ref b]) (s := s) (N := 11) (tm := tmJ) (len := lenJ) (byt := bytJ) (A := (fun q : Nat => s.heap.size ≤ q)) (by decide +kernel) (st_a hts hgv) (st_b hts hgv) (st_c hts hgv) (st_d hts hgv) (st_e hts hgv) (st_f hts hgv) hA
  refine ⟨ρ, ν, h1, va_Zof (hts _ (List.mem_of_getElem? (i := 606) (by decide +kernel))) (hts _ (List.mem_of_getElem? (i := 79) (by decide +kernel))) (va_eqt (hs _ (List.mem_of_getElem? (i := 4) (by decide +kernel)))) hA, va_Zqof (hts _ (List.mem_of_getElem? (i := 622) (by decide +kernel))) (hts _ (List.mem_of_getElem? (i := 81) (by decide +kernel))) (hs _ (List.mem_of_getElem? (i := 5) (by decide +kernel))) hA, fun i hi => vk_R.of (st_g hts hgv i hi) (h2 i hi), fun i hi => ?_⟩
  obtain ⟨y, e1, e2⟩ := Cond.eq_one (st_i hts hgv i hi)
  cases (h2 i hi).symm.trans e1
  exact vk_R.of (st_h hts hgv i hi) e2
theorem st_EK {s : State} {b : Nat} (hts : ∀ w ∈ lw_tbl, w.before #[Value.ref b] s = true) : ∃ (D : va_G) (κ : Nat → ClassId), EK D κ s := by
  have hG := gG_sub hts
  obtain ⟨c0, iS0, hKn0⟩ := u_known (C := RX0) (T := TX0) (N := 4) (n := 4) hG iX0 (tw_148 hG)
  obtain ⟨c1, iS1, hKn1⟩ := u_known (C := RX1) (T := TX1) (N := 11) (n := 11) hG iX1 (tw_92 hG)
  obtain ⟨c2, iS2, hKn2⟩ := u_known (C := RX2) (T := TX2) (N := 3) (n := 3) hG iX2 (tw_191 hG)
  obtain ⟨c3, iS3, hKn3⟩ := u_known (C := RX3) (T := TX3) (N := 5) (n := 5) hG iX3 (tw_167 hG)
  obtain ⟨c4, iS4, hKn4⟩ := u_known (C := RX4) (T := TX4) (N := 8) (n := 8) hG iX4 (tw_84 hG)
  obtain ⟨c5, iS5, hKn5⟩ := u_known (C := RX5) (T := TX5) (N := 21) (n := 21) hG iX5 (tw_747 hG)
  obtain ⟨dC, dI, hKc⟩ : ∃ (dC : Nat → ClassId) (dI : Nat → Nat → Nat), ∀ (k : Nat) (q : vw_C), classes[k]? = some q → u_Kn s q.1 q.2.1 q.2.2 (dC k) (dI k) := by
    refine ⟨fun k => match k with | 0 => c0 | 1 => c1 | 2 => c2 | 3 => c3 | 4 => c4 | _ => c5, fun k => match k with | 0 => iS0 | 1 => iS1 | 2 => iS2 | 3 => iS3 | 4 => iS4 | _ => iS5, ?_⟩
    intro k q hq
    match k, hq with
    | 0, hq => cases hq; exact hKn0
    | 1, hq => cases hq; exact hKn1
    | 2, hq => cases hq; exact hKn2
    | 3, hq => cases hq; exact hKn3
    | 4, hq => cases hq; exact hKn4
    | 5, hq => cases hq; exact hKn5
    | k + 6, hq => simp [classes] at hq
  obtain ⟨k0, kk0, cp0, f1, f2, f3⟩ := Cond.arrayClass_spec (type := .int) (hts _ (List.mem_of_getElem? (i := 146) (by decide +kernel)))
  obtain ⟨cp1, k1, kk1, g1, -, g3, g4, g5⟩ := Cond.arrayOver_spec (n := "CountyJigsaw$Sheet") (hts _ (List.mem_of_getElem? (i := 190) (by decide +kernel)))
  obtain ⟨cp2, k2, kk2, h1, -, h3, h4, h5⟩ := Cond.arrayOver_spec (n := "java/lang/String") (hts _ (List.mem_of_getElem? (i := 753) (by decide +kernel)))
  refine ⟨(dC, dI), fun k => match k with | 0 => k0 | 1 => k1 | _ => k2, ⟨hKc, fun k q hq => ?_⟩, va_Nw.of rfl (hts _ (List.mem_of_getElem? (i := 321) (by decide +kernel)))⟩
  match k, hq with
  | 0, hq => cases hq; exact ⟨fun n z => ⟨(fun q h => by cases h), kk0, f2, cp0, f3⟩, f1⟩
  | 1, hq => cases hq; exact ⟨fun n z => ⟨(fun q h => by cases h), kk1, g3, cp1, g4⟩, kk1, cp1, g3, g4, g1, g5⟩
  | 2, hq => cases hq; exact ⟨fun n z => ⟨(fun q h => by cases h), kk2, h3, cp2, h4⟩, kk2, cp2, h3, h4, h1, h5⟩
  | k + 3, hq => simp [tyl] at hq
theorem st_EC {s : State} {b : Nat} (hts : ∀ w ∈ lw_tbl, w.before #[Value.ref b] s = true) : EC s := ⟨va_Nw.of rfl (hts _ (List.mem_of_getElem? (i := 149) (by decide +kernel))), va_Nw.of rfl (hts _ (List.mem_of_getElem? (i := 168) (by decide +kernel))), va_Nw.of rfl (hts _ (List.mem_of_getElem? (i := 192) (by decide +kernel))), va_AO.of (hts _ (List.mem_of_getElem? (i := 190) (by decide +kernel))), va_AO.of (hts _ (List.mem_of_getElem? (i := 753) (by decide +kernel)))⟩
