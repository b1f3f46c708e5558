/-! THE START: the checks, each word found by its place -/
theorem st_w0 : ∀ j, j < (kwWord 0).length → Cond.eq (.elem (.field (tS 0) strT "value" "[B") (.int (Int32.ofNat j))) (.int ((kwWord 0).getD j 0)) ∈ flatC nar := fun j hj => match j, hj with
  | 0, _ => in_at [true, true, true, false, false, true, true, true, true, true, true] rfl
  | 1, _ => in_at [true, true, true, false, true, false, false, false, false, false] rfl
  | 2, _ => in_at [true, true, true, false, true, false, false, false, false, true, false] rfl
  | 3, _ => in_at [true, true, true, false, true, false, false, false, false, true, true] rfl
  | 4, _ => in_at [true, true, true, false, true, false, false, false, true, false, false] rfl
  | n + 5, h => absurd (show n + 5 < 5 from h) (Nat.not_lt.mpr (Nat.le_add_left 5 n))
theorem st_p0 : ∀ j, j < 15 → (0 = j ∨ Cond.not (.eq (tK 0) (tK j)) ∈ flatC nar) ∨ Cond.not (.eq (tK j) (tK 0)) ∈ flatC nar := fun j hj => match j, hj with
  | 0, _ => .inl (.inl rfl)
  | 1, _ => .inl (.inr (in_at [true, false, false, true, false, false, true, true, true, false, false] rfl))
  | 2, _ => .inl (.inr (in_at [true, false, false, true, false, false, true, true, true, true, true, false] rfl))
  | 3, _ => .inl (.inr (in_at [true, false, false, true, false, true, false, false, false, true, true, false] rfl))
  | 4, _ => .inl (.inr (in_at [true, false, false, true, false, true, false, false, true, true, true, true] rfl))
  | 5, _ => .inl (.inr (in_at [true, false, false, true, false, true, false, true, true, false, true, false] rfl))
  | 6, _ => .inl (.inr (in_at [true, false, false, true, false, true, true, false, false, true, false] rfl))
  | 7, _ => .inl (.inr (in_at [true, false, false, true, false, true, true, true, false, false, true, false] rfl))
  | 8, _ => .inl (.inr (in_at [true, false, false, true, false, true, true, true, true, true, true, true] rfl))
  | 9, _ => .inl (.inr (in_at [true, false, false, true, true, false, false, false, true, true, true, true] rfl))
  | 10, _ => .inl (.inr (in_at [true, false, false, true, true, false, false, true, true, true, true, true] rfl))
  | 11, _ => .inl (.inr (in_at [true, false, false, true, true, false, true, true, false, false, true, false] rfl))
  | 12, _ => .inl (.inr (in_at [true, false, false, true, true, true, false, false, false, true, false] rfl))
  | 13, _ => .inl (.inr (in_at [true, false, false, true, true, true, false, true, true, false, true, false] rfl))
  | 14, _ => .inl (.inr (in_at [true, false, false, true, true, true, true, false, true, true, true, true] rfl))
  | n + 15, h => absurd h (Nat.not_lt.mpr (Nat.le_add_left 15 n))
theorem st_c0 : st_chk1 0 = true := st_mk (tb_5 (List.mem_of_getElem? (i := 26) rfl)) (in_at [true, false, false, true, false, false, true, false, true, true, true, false] rfl) (in_at [true, false, false, true, false, false, true, true, false, false, true, false] rfl) (in_at [true, false, false, true, false, false, true, true, false, false, false] rfl)
    (in_at [true, true, true, false, false, true, true, true, false, true, true] rfl) (in_at [true, true, true, false, false, true, true, true, true, false, false] rfl) (in_at [true, true, true, false, false, true, true, true, true, false, true] rfl) (in_at [true, true, true, false, false, true, true, true, true, true, false] rfl)
    st_w0 (in_at [true, false, false, true, false, false, false, true, true, false, true, true] rfl) st_p0
theorem st_w1 : ∀ j, j < (kwWord 1).length → Cond.eq (.elem (.field (tS 1) strT "value" "[B") (.int (Int32.ofNat j))) (.int ((kwWord 1).getD j 0)) ∈ flatC nar := fun j hj => match j, hj with
  | 0, _ => in_at [true, true, true, false, true, false, false, true, false, false, true] rfl
  | 1, _ => in_at [true, true, true, false, true, false, false, true, false, true, false] rfl
  | 2, _ => in_at [true, true, true, false, true, false, false, true, false, true, true] rfl
  | n + 3, h => absurd (show n + 3 < 3 from h) (Nat.not_lt.mpr (Nat.le_add_left 3 n))
theorem st_p1 : ∀ j, j < 15 → (1 = j ∨ Cond.not (.eq (tK 1) (tK j)) ∈ flatC nar) ∨ Cond.not (.eq (tK j) (tK 1)) ∈ flatC nar := fun j hj => match j, hj with
  | 0, _ => .inr (in_at [true, false, false, true, false, false, true, true, true, false, false] rfl)
  | 1, _ => .inl (.inl rfl)
  | 2, _ => .inl (.inr (in_at [true, false, false, true, false, false, true, true, true, true, true, true] rfl))
  | 3, _ => .inl (.inr (in_at [true, false, false, true, false, true, false, false, false, true, true, true] rfl))
  | 4, _ => .inl (.inr (in_at [true, false, false, true, false, true, false, true, false, false, false] rfl))
  | 5, _ => .inl (.inr (in_at [true, false, false, true, false, true, false, true, true, false, true, true] rfl))
  | 6, _ => .inl (.inr (in_at [true, false, false, true, false, true, true, false, false, true, true, false] rfl))
  | 7, _ => .inl (.inr (in_at [true, false, false, true, false, true, true, true, false, false, true, true] rfl))
  | 8, _ => .inl (.inr (in_at [true, false, false, true, true, false, false, false, false, false, false] rfl))
  | 9, _ => .inl (.inr (in_at [true, false, false, true, true, false, false, true, false, false, false] rfl))
  | 10, _ => .inl (.inr (in_at [true, false, false, true, true, false, true, false, false, false, false] rfl))
  | 11, _ => .inl (.inr (in_at [true, false, false, true, true, false, true, true, false, false, true, true] rfl))
  | 12, _ => .inl (.inr (in_at [true, false, false, true, true, true, false, false, false, true, true, false] rfl))
  | 13, _ => .inl (.inr (in_at [true, false, false, true, true, true, false, true, true, false, true, true] rfl))
  | 14, _ => .inl (.inr (in_at [true, false, false, true, true, true, true, true, false, false, false] rfl))
  | n + 15, h => absurd h (Nat.not_lt.mpr (Nat.le_add_left 15 n))
theorem st_c1 : st_chk1 1 = true := st_mk (tb_5 (List.mem_of_getElem? (i := 46) rfl)) (in_at [true, false, false, true, false, false, true, true, false, false, true, true] rfl) (in_at [true, false, false, true, false, false, true, true, false, true, true, true] rfl) (in_at [true, false, false, true, false, false, true, true, false, true, true, false] rfl)
    (in_at [true, true, true, false, true, false, false, false, true, false, true] rfl) (in_at [true, true, true, false, true, false, false, false, true, true, false] rfl) (in_at [true, true, true, false, true, false, false, false, true, true, true] rfl) (in_at [true, true, true, false, true, false, false, true, false, false, false] rfl)
    st_w1 (in_at [true, false, false, true, false, false, false, true, true, true, false, false] rfl) st_p1
theorem st_w2 : ∀ j, j < (kwWord 2).length → Cond.eq (.elem (.field (tS 2) strT "value" "[B") (.int (Int32.ofNat j))) (.int ((kwWord 2).getD j 0)) ∈ flatC nar := fun j hj => match j, hj with
  | 0, _ => in_at [true, true, true, false, true, false, true, false, false, false] rfl
  | 1, _ => in_at [true, true, true, false, true, false, true, false, false, true, false] rfl
  | 2, _ => in_at [true, true, true, false, true, false, true, false, false, true, true] rfl
  | 3, _ => in_at [true, true, true, false, true, false, true, false, true, false, false] rfl
  | 4, _ => in_at [true, true, true, false, true, false, true, false, true, false, true] rfl
  | 5, _ => in_at [true, true, true, false, true, false, true, false, true, true, false] rfl
  | 6, _ => in_at [true, true, true, false, true, false, true, false, true, true, true] rfl
  | n + 7, h => absurd (show n + 7 < 7 from h) (Nat.not_lt.mpr (Nat.le_add_left 7 n))
theorem st_p2 : ∀ j, j < 15 → (2 = j ∨ Cond.not (.eq (tK 2) (tK j)) ∈ flatC nar) ∨ Cond.not (.eq (tK j) (tK 2)) ∈ flatC nar := fun j hj => match j, hj with
  | 0, _ => .inr (in_at [true, false, false, true, false, false, true, true, true, true, true, false] rfl)
  | 1, _ => .inr (in_at [true, false, false, true, false, false, true, true, true, true, true, true] rfl)
  | 2, _ => .inl (.inl rfl)
  | 3, _ => .inl (.inr (in_at [true, false, false, true, false, true, false, false, true, false, false] rfl))
  | 4, _ => .inl (.inr (in_at [true, false, false, true, false, true, false, true, false, false, true, false] rfl))
  | 5, _ => .inl (.inr (in_at [true, false, false, true, false, true, false, true, true, true, false, false] rfl))
  | 6, _ => .inl (.inr (in_at [true, false, false, true, false, true, true, false, false, true, true, true] rfl))
  | 7, _ => .inl (.inr (in_at [true, false, false, true, false, true, true, true, false, true, false] rfl))
  | 8, _ => .inl (.inr (in_at [true, false, false, true, true, false, false, false, false, false, true, false] rfl))
  | 9, _ => .inl (.inr (in_at [true, false, false, true, true, false, false, true, false, false, true, false] rfl))
  | 10, _ => .inl (.inr (in_at [true, false, false, true, true, false, true, false, false, false, true, false] rfl))
  | 11, _ => .inl (.inr (in_at [true, false, false, true, true, false, true, true, false, true, false] rfl))
  | 12, _ => .inl (.inr (in_at [true, false, false, true, true, true, false, false, false, true, true, true] rfl))
  | 13, _ => .inl (.inr (in_at [true, false, false, true, true, true, false, true, true, true, false, false] rfl))
  | 14, _ => .inl (.inr (in_at [true, false, false, true, true, true, true, true, false, false, true, false] rfl))
  | n + 15, h => absurd h (Nat.not_lt.mpr (Nat.le_add_left 15 n))
theorem st_c2 : st_chk1 2 = true := st_mk (tb_5 (List.mem_of_getElem? (i := 84) rfl)) (in_at [true, false, false, true, false, false, true, true, true, false, true, false] rfl) (in_at [true, false, false, true, false, false, true, true, true, true, false, true] rfl) (in_at [true, false, false, true, false, false, true, true, true, true, false, false] rfl)
    (in_at [true, true, true, false, true, false, false, true, true, false, false] rfl) (in_at [true, true, true, false, true, false, false, true, true, false, true] rfl) (in_at [true, true, true, false, true, false, false, true, true, true, false] rfl) (in_at [true, true, true, false, true, false, false, true, true, true, true] rfl)
    st_w2 (in_at [true, false, false, true, false, false, false, true, true, true, false, true] rfl) st_p2
theorem st_w3 : ∀ j, j < (kwWord 3).length → Cond.eq (.elem (.field (tS 3) strT "value" "[B") (.int (Int32.ofNat j))) (.int ((kwWord 3).getD j 0)) ∈ flatC nar := fun j hj => match j, hj with
  | 0, _ => in_at [true, true, true, false, true, false, true, true, true, false, false] rfl
  | 1, _ => in_at [true, true, true, false, true, false, true, true, true, false, true] rfl
  | 2, _ => in_at [true, true, true, false, true, false, true, true, true, true, false] rfl
  | 3, _ => in_at [true, true, true, false, true, false, true, true, true, true, true] rfl
  | n + 4, h => absurd (show n + 4 < 4 from h) (Nat.not_lt.mpr (Nat.le_add_left 4 n))
theorem st_p3 : ∀ j, j < 15 → (3 = j ∨ Cond.not (.eq (tK 3) (tK j)) ∈ flatC nar) ∨ Cond.not (.eq (tK j) (tK 3)) ∈ flatC nar := fun j hj => match j, hj with
  | 0, _ => .inr (in_at [true, false, false, true, false, true, false, false, false, true, true, false] rfl)
  | 1, _ => .inr (in_at [true, false, false, true, false, true, false, false, false, true, true, true] rfl)
  | 2, _ => .inr (in_at [true, false, false, true, false, true, false, false, true, false, false] rfl)
  | 3, _ => .inl (.inl rfl)
  | 4, _ => .inl (.inr (in_at [true, false, false, true, false, true, false, true, false, false, true, true] rfl))
  | 5, _ => .inl (.inr (in_at [true, false, false, true, false, true, false, true, true, true, false, true] rfl))
  | 6, _ => .inl (.inr (in_at [true, false, false, true, false, true, true, false, true, false, false] rfl))
  | 7, _ => .inl (.inr (in_at [true, false, false, true, false, true, true, true, false, true, true, false] rfl))
  | 8, _ => .inl (.inr (in_at [true, false, false, true, true, false, false, false, false, false, true, true] rfl))
  | 9, _ => .inl (.inr (in_at [true, false, false, true, true, false, false, true, false, false, true, true] rfl))
  | 10, _ => .inl (.inr (in_at [true, false, false, true, true, false, true, false, false, false, true, true] rfl))
  | 11, _ => .inl (.inr (in_at [true, false, false, true, true, false, true, true, false, true, true, false] rfl))
  | 12, _ => .inl (.inr (in_at [true, false, false, true, true, true, false, false, true, false, false] rfl))
  | 13, _ => .inl (.inr (in_at [true, false, false, true, true, true, false, true, true, true, false, true] rfl))
  | 14, _ => .inl (.inr (in_at [true, false, false, true, true, true, true, true, false, false, true, true] rfl))
  | n + 15, h => absurd h (Nat.not_lt.mpr (Nat.le_add_left 15 n))
theorem st_c3 : st_chk1 3 = true := st_mk (tb_5 (List.mem_of_getElem? (i := 96) rfl)) (in_at [true, false, false, true, false, true, false, false, false, false, false] rfl) (in_at [true, false, false, true, false, true, false, false, false, true, false] rfl) (in_at [true, false, false, true, false, true, false, false, false, false, true, true] rfl)
    (in_at [true, true, true, false, true, false, true, true, false, false, false] rfl) (in_at [true, true, true, false, true, false, true, true, false, false, true] rfl) (in_at [true, true, true, false, true, false, true, true, false, true, false] rfl) (in_at [true, true, true, false, true, false, true, true, false, true, true] rfl)
    st_w3 (in_at [true, false, false, true, false, false, false, true, true, true, true, false] rfl) st_p3
theorem st_w4 : ∀ j, j < (kwWord 4).length → Cond.eq (.elem (.field (tS 4) strT "value" "[B") (.int (Int32.ofNat j))) (.int ((kwWord 4).getD j 0)) ∈ flatC nar := fun j hj => match j, hj with
  | 0, _ => in_at [true, true, true, false, true, true, false, false, true, false, true] rfl
  | 1, _ => in_at [true, true, true, false, true, true, false, false, true, true, false] rfl
  | 2, _ => in_at [true, true, true, false, true, true, false, false, true, true, true] rfl
  | 3, _ => in_at [true, true, true, false, true, true, false, true, false, false, false] rfl
  | 4, _ => in_at [true, true, true, false, true, true, false, true, false, false, true] rfl
  | 5, _ => in_at [true, true, true, false, true, true, false, true, false, true, false] rfl
  | 6, _ => in_at [true, true, true, false, true, true, false, true, false, true, true] rfl
  | n + 7, h => absurd (show n + 7 < 7 from h) (Nat.not_lt.mpr (Nat.le_add_left 7 n))
theorem st_p4 : ∀ j, j < 15 → (4 = j ∨ Cond.not (.eq (tK 4) (tK j)) ∈ flatC nar) ∨ Cond.not (.eq (tK j) (tK 4)) ∈ flatC nar := fun j hj => match j, hj with
  | 0, _ => .inr (in_at [true, false, false, true, false, true, false, false, true, true, true, true] rfl)
  | 1, _ => .inr (in_at [true, false, false, true, false, true, false, true, false, false, false] rfl)
  | 2, _ => .inr (in_at [true, false, false, true, false, true, false, true, false, false, true, false] rfl)
  | 3, _ => .inr (in_at [true, false, false, true, false, true, false, true, false, false, true, true] rfl)
  | 4, _ => .inl (.inl rfl)
  | 5, _ => .inl (.inr (in_at [true, false, false, true, false, true, false, true, true, true, true, false] rfl))
  | 6, _ => .inl (.inr (in_at [true, false, false, true, false, true, true, false, true, false, true, false] rfl))
  | 7, _ => .inl (.inr (in_at [true, false, false, true, false, true, true, true, false, true, true, true] rfl))
  | 8, _ => .inl (.inr (in_at [true, false, false, true, true, false, false, false, false, true, false] rfl))
  | 9, _ => .inl (.inr (in_at [true, false, false, true, true, false, false, true, false, true, false] rfl))
  | 10, _ => .inl (.inr (in_at [true, false, false, true, true, false, true, false, false, true, false] rfl))
  | 11, _ => .inl (.inr (in_at [true, false, false, true, true, false, true, true, false, true, true, true] rfl))
  | 12, _ => .inl (.inr (in_at [true, false, false, true, true, true, false, false, true, false, true, false] rfl))
  | 13, _ => .inl (.inr (in_at [true, false, false, true, true, true, false, true, true, true, true, false] rfl))
  | 14, _ => .inl (.inr (in_at [true, false, false, true, true, true, true, true, false, true, false] rfl))
  | n + 15, h => absurd h (Nat.not_lt.mpr (Nat.le_add_left 15 n))
theorem st_c4 : st_chk1 4 = true := st_mk (tb_5 (List.mem_of_getElem? (i := 119) rfl)) (in_at [true, false, false, true, false, true, false, false, true, false, true, false] rfl) (in_at [true, false, false, true, false, true, false, false, true, true, true, false] rfl) (in_at [true, false, false, true, false, true, false, false, true, true, false] rfl)
    (in_at [true, true, true, false, true, true, false, false, false, false] rfl) (in_at [true, true, true, false, true, true, false, false, false, true, false] rfl) (in_at [true, true, true, false, true, true, false, false, false, true, true] rfl) (in_at [true, true, true, false, true, true, false, false, true, false, false] rfl)
    st_w4 (in_at [true, false, false, true, false, false, false, true, true, true, true, true] rfl) st_p4
theorem st_w5 : ∀ j, j < (kwWord 5).length → Cond.eq (.elem (.field (tS 5) strT "value" "[B") (.int (Int32.ofNat j))) (.int ((kwWord 5).getD j 0)) ∈ flatC nar := fun j hj => match j, hj with
  | 0, _ => in_at [true, true, true, false, true, true, true, false, false, false] rfl
  | 1, _ => in_at [true, true, true, false, true, true, true, false, false, true, false] rfl
  | 2, _ => in_at [true, true, true, false, true, true, true, false, false, true, true] rfl
  | 3, _ => in_at [true, true, true, false, true, true, true, false, true, false, false] rfl
  | 4, _ => in_at [true, true, true, false, true, true, true, false, true, false, true] rfl
  | n + 5, h => absurd (show n + 5 < 5 from h) (Nat.not_lt.mpr (Nat.le_add_left 5 n))
theorem st_p5 : ∀ j, j < 15 → (5 = j ∨ Cond.not (.eq (tK 5) (tK j)) ∈ flatC nar) ∨ Cond.not (.eq (tK j) (tK 5)) ∈ flatC nar := fun j hj => match j, hj with
  | 0, _ => .inr (in_at [true, false, false, true, false, true, false, true, true, false, true, false] rfl)
  | 1, _ => .inr (in_at [true, false, false, true, false, true, false, true, true, false, true, true] rfl)
  | 2, _ => .inr (in_at [true, false, false, true, false, true, false, true, true, true, false, false] rfl)
  | 3, _ => .inr (in_at [true, false, false, true, false, true, false, true, true, true, false, true] rfl)
  | 4, _ => .inr (in_at [true, false, false, true, false, true, false, true, true, true, true, false] rfl)
  | 5, _ => .inl (.inl rfl)
  | 6, _ => .inl (.inr (in_at [true, false, false, true, false, true, true, false, true, false, true, true] rfl))
  | 7, _ => .inl (.inr (in_at [true, false, false, true, false, true, true, true, true, false, false] rfl))
  | 8, _ => .inl (.inr (in_at [true, false, false, true, true, false, false, false, false, true, true, false] rfl))
  | 9, _ => .inl (.inr (in_at [true, false, false, true, true, false, false, true, false, true, true, false] rfl))
  | 10, _ => .inl (.inr (in_at [true, false, false, true, true, false, true, false, false, true, true, false] rfl))
  | 11, _ => .inl (.inr (in_at [true, false, false, true, true, false, true, true, true, false, false] rfl))
  | 12, _ => .inl (.inr (in_at [true, false, false, true, true, true, false, false, true, false, true, true] rfl))
  | 13, _ => .inl (.inr (in_at [true, false, false, true, true, true, false, true, true, true, true, true] rfl))
  | 14, _ => .inl (.inr (in_at [true, false, false, true, true, true, true, true, false, true, true, false] rfl))
  | n + 15, h => absurd h (Nat.not_lt.mpr (Nat.le_add_left 15 n))
theorem st_c5 : st_chk1 5 = true := st_mk (tb_5 (List.mem_of_getElem? (i := 130) rfl)) (in_at [true, false, false, true, false, true, false, true, false, true, false] rfl) (in_at [true, false, false, true, false, true, false, true, true, false, false] rfl) (in_at [true, false, false, true, false, true, false, true, false, true, true, true] rfl)
    (in_at [true, true, true, false, true, true, false, true, true, false, false] rfl) (in_at [true, true, true, false, true, true, false, true, true, false, true] rfl) (in_at [true, true, true, false, true, true, false, true, true, true, false] rfl) (in_at [true, true, true, false, true, true, false, true, true, true, true] rfl)
    st_w5 (in_at [true, false, false, true, false, false, true, false, false, false, false] rfl) st_p5
theorem st_w6 : ∀ j, j < (kwWord 6).length → Cond.eq (.elem (.field (tS 6) strT "value" "[B") (.int (Int32.ofNat j))) (.int ((kwWord 6).getD j 0)) ∈ flatC nar := fun j hj => match j, hj with
  | 0, _ => in_at [true, true, true, false, true, true, true, true, false, true, false] rfl
  | 1, _ => in_at [true, true, true, false, true, true, true, true, false, true, true] rfl
  | 2, _ => in_at [true, true, true, false, true, true, true, true, true, false, false] rfl
  | 3, _ => in_at [true, true, true, false, true, true, true, true, true, false, true] rfl
  | n + 4, h => absurd (show n + 4 < 4 from h) (Nat.not_lt.mpr (Nat.le_add_left 4 n))
theorem st_p6 : ∀ j, j < 15 → (6 = j ∨ Cond.not (.eq (tK 6) (tK j)) ∈ flatC nar) ∨ Cond.not (.eq (tK j) (tK 6)) ∈ flatC nar := fun j hj => match j, hj with
  | 0, _ => .inr (in_at [true, false, false, true, false, true, true, false, false, true, false] rfl)
  | 1, _ => .inr (in_at [true, false, false, true, false, true, true, false, false, true, true, false] rfl)
  | 2, _ => .inr (in_at [true, false, false, true, false, true, true, false, false, true, true, true] rfl)
  | 3, _ => .inr (in_at [true, false, false, true, false, true, true, false, true, false, false] rfl)
  | 4, _ => .inr (in_at [true, false, false, true, false, true, true, false, true, false, true, false] rfl)
  | 5, _ => .inr (in_at [true, false, false, true, false, true, true, false, true, false, true, true] rfl)
  | 6, _ => .inl (.inl rfl)
  | 7, _ => .inl (.inr (in_at [true, false, false, true, false, true, true, true, true, false, true, false] rfl))
  | 8, _ => .inl (.inr (in_at [true, false, false, true, true, false, false, false, false, true, true, true] rfl))
  | 9, _ => .inl (.inr (in_at [true, false, false, true, true, false, false, true, false, true, true, true] rfl))
  | 10, _ => .inl (.inr (in_at [true, false, false, true, true, false, true, false, false, true, true, true] rfl))
  | 11, _ => .inl (.inr (in_at [true, false, false, true, true, false, true, true, true, false, true, false] rfl))
  | 12, _ => .inl (.inr (in_at [true, false, false, true, true, true, false, false, true, true, false] rfl))
  | 13, _ => .inl (.inr (in_at [true, false, false, true, true, true, true, false, false, false, false] rfl))
  | 14, _ => .inl (.inr (in_at [true, false, false, true, true, true, true, true, false, true, true, true] rfl))
  | n + 15, h => absurd h (Nat.not_lt.mpr (Nat.le_add_left 15 n))
theorem st_c6 : st_chk1 6 = true := st_mk (tb_7 (List.mem_of_getElem? (i := 105) rfl)) (in_at [true, false, false, true, false, true, false, true, true, true, true, true] rfl) (in_at [true, false, false, true, false, true, true, false, false, false, true, true] rfl) (in_at [true, false, false, true, false, true, true, false, false, false, true, false] rfl)
    (in_at [true, true, true, false, true, true, true, false, true, true, false] rfl) (in_at [true, true, true, false, true, true, true, false, true, true, true] rfl) (in_at [true, true, true, false, true, true, true, true, false, false, false] rfl) (in_at [true, true, true, false, true, true, true, true, false, false, true] rfl)
    st_w6 (in_at [true, false, false, true, false, false, true, false, false, false, true, false] rfl) st_p6
theorem st_w7 : ∀ j, j < (kwWord 7).length → Cond.eq (.elem (.field (tS 7) strT "value" "[B") (.int (Int32.ofNat j))) (.int ((kwWord 7).getD j 0)) ∈ flatC nar := fun j hj => match j, hj with
  | 0, _ => in_at [true, true, true, true, false, false, false, false, false, true, true] rfl
  | 1, _ => in_at [true, true, true, true, false, false, false, false, true, false, false] rfl
  | 2, _ => in_at [true, true, true, true, false, false, false, false, true, false, true] rfl
  | 3, _ => in_at [true, true, true, true, false, false, false, false, true, true, false] rfl
  | 4, _ => in_at [true, true, true, true, false, false, false, false, true, true, true] rfl
  | 5, _ => in_at [true, true, true, true, false, false, false, true, false, false, false] rfl
  | 6, _ => in_at [true, true, true, true, false, false, false, true, false, false, true] rfl
  | 7, _ => in_at [true, true, true, true, false, false, false, true, false, true, false] rfl
  | n + 8, h => absurd (show n + 8 < 8 from h) (Nat.not_lt.mpr (Nat.le_add_left 8 n))
theorem st_p7 : ∀ j, j < 15 → (7 = j ∨ Cond.not (.eq (tK 7) (tK j)) ∈ flatC nar) ∨ Cond.not (.eq (tK j) (tK 7)) ∈ flatC nar := fun j hj => match j, hj with
  | 0, _ => .inr (in_at [true, false, false, true, false, true, true, true, false, false, true, false] rfl)
  | 1, _ => .inr (in_at [true, false, false, true, false, true, true, true, false, false, true, true] rfl)
  | 2, _ => .inr (in_at [true, false, false, true, false, true, true, true, false, true, false] rfl)
  | 3, _ => .inr (in_at [true, false, false, true, false, true, true, true, false, true, true, false] rfl)
  | 4, _ => .inr (in_at [true, false, false, true, false, true, true, true, false, true, true, true] rfl)
  | 5, _ => .inr (in_at [true, false, false, true, false, true, true, true, true, false, false] rfl)
  | 6, _ => .inr (in_at [true, false, false, true, false, true, true, true, true, false, true, false] rfl)
  | 7, _ => .inl (.inl rfl)
  | 8, _ => .inl (.inr (in_at [true, false, false, true, true, false, false, false, true, false, false] rfl))
  | 9, _ => .inl (.inr (in_at [true, false, false, true, true, false, false, true, true, false, false] rfl))
  | 10, _ => .inl (.inr (in_at [true, false, false, true, true, false, true, false, true, false, false] rfl))
  | 11, _ => .inl (.inr (in_at [true, false, false, true, true, false, true, true, true, false, true, true] rfl))
  | 12, _ => .inl (.inr (in_at [true, false, false, true, true, true, false, false, true, true, true, false] rfl))
  | 13, _ => .inl (.inr (in_at [true, false, false, true, true, true, true, false, false, false, true, false] rfl))
  | 14, _ => .inl (.inr (in_at [true, false, false, true, true, true, true, true, true, false, false] rfl))
  | n + 15, h => absurd h (Nat.not_lt.mpr (Nat.le_add_left 15 n))
theorem st_c7 : st_chk1 7 = true := st_mk (tb_7 (List.mem_of_getElem? (i := 106) rfl)) (in_at [true, false, false, true, false, true, true, false, true, true, false] rfl) (in_at [true, false, false, true, false, true, true, true, false, false, false] rfl) (in_at [true, false, false, true, false, true, true, false, true, true, true, true] rfl)
    (in_at [true, true, true, false, true, true, true, true, true, true, false] rfl) (in_at [true, true, true, false, true, true, true, true, true, true, true] rfl) (in_at [true, true, true, true, false, false, false, false, false, false] rfl) (in_at [true, true, true, true, false, false, false, false, false, true, false] rfl)
    st_w7 (in_at [true, false, false, true, false, false, true, false, false, false, true, true] rfl) st_p7
theorem st_w8 : ∀ j, j < (kwWord 8).length → Cond.eq (.elem (.field (tS 8) strT "value" "[B") (.int (Int32.ofNat j))) (.int ((kwWord 8).getD j 0)) ∈ flatC nar := fun j hj => match j, hj with
  | 0, _ => in_at [true, true, true, true, false, false, false, true, true, true, true] rfl
  | 1, _ => in_at [true, true, true, true, false, false, true, false, false, false] rfl
  | 2, _ => in_at [true, true, true, true, false, false, true, false, false, true, false] rfl
  | 3, _ => in_at [true, true, true, true, false, false, true, false, false, true, true] rfl
  | 4, _ => in_at [true, true, true, true, false, false, true, false, true, false, false] rfl
  | 5, _ => in_at [true, true, true, true, false, false, true, false, true, false, true] rfl
  | 6, _ => in_at [true, true, true, true, false, false, true, false, true, true, false] rfl
  | n + 7, h => absurd (show n + 7 < 7 from h) (Nat.not_lt.mpr (Nat.le_add_left 7 n))
theorem st_p8 : ∀ j, j < 15 → (8 = j ∨ Cond.not (.eq (tK 8) (tK j)) ∈ flatC nar) ∨ Cond.not (.eq (tK j) (tK 8)) ∈ flatC nar := fun j hj => match j, hj with
  | 0, _ => .inr (in_at [true, false, false, true, false, true, true, true, true, true, true, true] rfl)
  | 1, _ => .inr (in_at [true, false, false, true, true, false, false, false, false, false, false] rfl)
  | 2, _ => .inr (in_at [true, false, false, true, true, false, false, false, false, false, true, false] rfl)
  | 3, _ => .inr (in_at [true, false, false, true, true, false, false, false, false, false, true, true] rfl)
  | 4, _ => .inr (in_at [true, false, false, true, true, false, false, false, false, true, false] rfl)
  | 5, _ => .inr (in_at [true, false, false, true, true, false, false, false, false, true, true, false] rfl)
  | 6, _ => .inr (in_at [true, false, false, true, true, false, false, false, false, true, true, true] rfl)
  | 7, _ => .inr (in_at [true, false, false, true, true, false, false, false, true, false, false] rfl)
  | 8, _ => .inl (.inl rfl)
  | 9, _ => .inl (.inr (in_at [true, false, false, true, true, false, false, true, true, false, true, false] rfl))
  | 10, _ => .inl (.inr (in_at [true, false, false, true, true, false, true, false, true, false, true, false] rfl))
  | 11, _ => .inl (.inr (in_at [true, false, false, true, true, false, true, true, true, true, false, false] rfl))
  | 12, _ => .inl (.inr (in_at [true, false, false, true, true, true, false, false, true, true, true, true] rfl))
  | 13, _ => .inl (.inr (in_at [true, false, false, true, true, true, true, false, false, false, true, true] rfl))
  | 14, _ => .inl (.inr (in_at [true, false, false, true, true, true, true, true, true, false, true, false] rfl))
  | n + 15, h => absurd h (Nat.not_lt.mpr (Nat.le_add_left 15 n))
theorem st_c8 : st_chk1 8 = true := st_mk (tb_7 (List.mem_of_getElem? (i := 107) rfl)) (in_at [true, false, false, true, false, true, true, true, true, false, true, true] rfl) (in_at [true, false, false, true, false, true, true, true, true, true, true, false] rfl) (in_at [true, false, false, true, false, true, true, true, true, true, false, true] rfl)
    (in_at [true, true, true, true, false, false, false, true, false, true, true] rfl) (in_at [true, true, true, true, false, false, false, true, true, false, false] rfl) (in_at [true, true, true, true, false, false, false, true, true, false, true] rfl) (in_at [true, true, true, true, false, false, false, true, true, true, false] rfl)
    st_w8 (in_at [true, false, false, true, false, false, true, false, false, true, false] rfl) st_p8
theorem st_w9 : ∀ j, j < (kwWord 9).length → Cond.eq (.elem (.field (tS 9) strT "value" "[B") (.int (Int32.ofNat j))) (.int ((kwWord 9).getD j 0)) ∈ flatC nar := fun j hj => match j, hj with
  | 0, _ => in_at [true, true, true, true, false, false, true, true, false, true, true] rfl
  | 1, _ => in_at [true, true, true, true, false, false, true, true, true, false, false] rfl
  | 2, _ => in_at [true, true, true, true, false, false, true, true, true, false, true] rfl
  | 3, _ => in_at [true, true, true, true, false, false, true, true, true, true, false] rfl
  | 4, _ => in_at [true, true, true, true, false, false, true, true, true, true, true] rfl
  | 5, _ => in_at [true, true, true, true, false, true, false, false, false, false] rfl
  | 6, _ => in_at [true, true, true, true, false, true, false, false, false, true, false] rfl
  | n + 7, h => absurd (show n + 7 < 7 from h) (Nat.not_lt.mpr (Nat.le_add_left 7 n))
theorem st_p9 : ∀ j, j < 15 → (9 = j ∨ Cond.not (.eq (tK 9) (tK j)) ∈ flatC nar) ∨ Cond.not (.eq (tK j) (tK 9)) ∈ flatC nar := fun j hj => match j, hj with
  | 0, _ => .inr (in_at [true, false, false, true, true, false, false, false, true, true, true, true] rfl)
  | 1, _ => .inr (in_at [true, false, false, true, true, false, false, true, false, false, false] rfl)
  | 2, _ => .inr (in_at [true, false, false, true, true, false, false, true, false, false, true, false] rfl)
  | 3, _ => .inr (in_at [true, false, false, true, true, false, false, true, false, false, true, true] rfl)
  | 4, _ => .inr (in_at [true, false, false, true, true, false, false, true, false, true, false] rfl)
  | 5, _ => .inr (in_at [true, false, false, true, true, false, false, true, false, true, true, false] rfl)
  | 6, _ => .inr (in_at [true, false, false, true, true, false, false, true, false, true, true, true] rfl)
  | 7, _ => .inr (in_at [true, false, false, true, true, false, false, true, true, false, false] rfl)
  | 8, _ => .inr (in_at [true, false, false, true, true, false, false, true, true, false, true, false] rfl)
  | 9, _ => .inl (.inl rfl)
  | 10, _ => .inl (.inr (in_at [true, false, false, true, true, false, true, false, true, false, true, true] rfl))
  | 11, _ => .inl (.inr (in_at [true, false, false, true, true, false, true, true, true, true, false, true] rfl))
  | 12, _ => .inl (.inr (in_at [true, false, false, true, true, true, false, true, false, false, false] rfl))
  | 13, _ => .inl (.inr (in_at [true, false, false, true, true, true, true, false, false, true, false] rfl))
  | 14, _ => .inl (.inr (in_at [true, false, false, true, true, true, true, true, true, false, true, true] rfl))
  | n + 15, h => absurd h (Nat.not_lt.mpr (Nat.le_add_left 15 n))
theorem st_c9 : st_chk1 9 = true := st_mk (tb_7 (List.mem_of_getElem? (i := 108) rfl)) (in_at [true, false, false, true, true, false, false, false, true, false, true, false] rfl) (in_at [true, false, false, true, true, false, false, false, true, true, true, false] rfl) (in_at [true, false, false, true, true, false, false, false, true, true, false] rfl)
    (in_at [true, true, true, true, false, false, true, false, true, true, true] rfl) (in_at [true, true, true, true, false, false, true, true, false, false, false] rfl) (in_at [true, true, true, true, false, false, true, true, false, false, true] rfl) (in_at [true, true, true, true, false, false, true, true, false, true, false] rfl)
    st_w9 (in_at [true, false, false, true, false, false, true, false, false, true, true, false] rfl) st_p9
theorem st_w10 : ∀ j, j < (kwWord 10).length → Cond.eq (.elem (.field (tS 10) strT "value" "[B") (.int (Int32.ofNat j))) (.int ((kwWord 10).getD j 0)) ∈ flatC nar := fun j hj => match j, hj with
  | 0, _ => in_at [true, true, true, true, false, true, false, false, true, true, true] rfl
  | 1, _ => in_at [true, true, true, true, false, true, false, true, false, false, false] rfl
  | 2, _ => in_at [true, true, true, true, false, true, false, true, false, false, true] rfl
  | 3, _ => in_at [true, true, true, true, false, true, false, true, false, true, false] rfl
  | 4, _ => in_at [true, true, true, true, false, true, false, true, false, true, true] rfl
  | n + 5, h => absurd (show n + 5 < 5 from h) (Nat.not_lt.mpr (Nat.le_add_left 5 n))
theorem st_p10 : ∀ j, j < 15 → (10 = j ∨ Cond.not (.eq (tK 10) (tK j)) ∈ flatC nar) ∨ Cond.not (.eq (tK j) (tK 10)) ∈ flatC nar := fun j hj => match j, hj with
  | 0, _ => .inr (in_at [true, false, false, true, true, false, false, true, true, true, true, true] rfl)
  | 1, _ => .inr (in_at [true, false, false, true, true, false, true, false, false, false, false] rfl)
  | 2, _ => .inr (in_at [true, false, false, true, true, false, true, false, false, false, true, false] rfl)
  | 3, _ => .inr (in_at [true, false, false, true, true, false, true, false, false, false, true, true] rfl)
  | 4, _ => .inr (in_at [true, false, false, true, true, false, true, false, false, true, false] rfl)
  | 5, _ => .inr (in_at [true, false, false, true, true, false, true, false, false, true, true, false] rfl)
  | 6, _ => .inr (in_at [true, false, false, true, true, false, true, false, false, true, true, true] rfl)
  | 7, _ => .inr (in_at [true, false, false, true, true, false, true, false, true, false, false] rfl)
  | 8, _ => .inr (in_at [true, false, false, true, true, false, true, false, true, false, true, false] rfl)
  | 9, _ => .inr (in_at [true, false, false, true, true, false, true, false, true, false, true, true] rfl)
  | 10, _ => .inl (.inl rfl)
  | 11, _ => .inl (.inr (in_at [true, false, false, true, true, false, true, true, true, true, true, false] rfl))
  | 12, _ => .inl (.inr (in_at [true, false, false, true, true, true, false, true, false, false, true, false] rfl))
  | 13, _ => .inl (.inr (in_at [true, false, false, true, true, true, true, false, false, true, true, false] rfl))
  | 14, _ => .inl (.inr (in_at [true, false, false, true, true, true, true, true, true, true, false, false] rfl))
  | n + 15, h => absurd h (Nat.not_lt.mpr (Nat.le_add_left 15 n))
theorem st_c10 : st_chk1 10 = true := st_mk (tb_7 (List.mem_of_getElem? (i := 109) rfl)) (in_at [true, false, false, true, true, false, false, true, true, false, true, true] rfl) (in_at [true, false, false, true, true, false, false, true, true, true, true, false] rfl) (in_at [true, false, false, true, true, false, false, true, true, true, false, true] rfl)
    (in_at [true, true, true, true, false, true, false, false, false, true, true] rfl) (in_at [true, true, true, true, false, true, false, false, true, false, false] rfl) (in_at [true, true, true, true, false, true, false, false, true, false, true] rfl) (in_at [true, true, true, true, false, true, false, false, true, true, false] rfl)
    st_w10 (in_at [true, false, false, true, false, false, true, false, false, true, true, true] rfl) st_p10
theorem st_w11 : ∀ j, j < (kwWord 11).length → Cond.eq (.elem (.field (tS 11) strT "value" "[B") (.int (Int32.ofNat j))) (.int ((kwWord 11).getD j 0)) ∈ flatC nar := fun j hj => match j, hj with
  | 0, _ => in_at [true, true, true, true, false, true, true, false, false, false] rfl
  | 1, _ => in_at [true, true, true, true, false, true, true, false, false, true, false] rfl
  | 2, _ => in_at [true, true, true, true, false, true, true, false, false, true, true] rfl
  | n + 3, h => absurd (show n + 3 < 3 from h) (Nat.not_lt.mpr (Nat.le_add_left 3 n))
theorem st_p11 : ∀ j, j < 15 → (11 = j ∨ Cond.not (.eq (tK 11) (tK j)) ∈ flatC nar) ∨ Cond.not (.eq (tK j) (tK 11)) ∈ flatC nar := fun j hj => match j, hj with
  | 0, _ => .inr (in_at [true, false, false, true, true, false, true, true, false, false, true, false] rfl)
  | 1, _ => .inr (in_at [true, false, false, true, true, false, true, true, false, false, true, true] rfl)
  | 2, _ => .inr (in_at [true, false, false, true, true, false, true, true, false, true, false] rfl)
  | 3, _ => .inr (in_at [true, false, false, true, true, false, true, true, false, true, true, false] rfl)
  | 4, _ => .inr (in_at [true, false, false, true, true, false, true, true, false, true, true, true] rfl)
  | 5, _ => .inr (in_at [true, false, false, true, true, false, true, true, true, false, false] rfl)
  | 6, _ => .inr (in_at [true, false, false, true, true, false, true, true, true, false, true, false] rfl)
  | 7, _ => .inr (in_at [true, false, false, true, true, false, true, true, true, false, true, true] rfl)
  | 8, _ => .inr (in_at [true, false, false, true, true, false, true, true, true, true, false, false] rfl)
  | 9, _ => .inr (in_at [true, false, false, true, true, false, true, true, true, true, false, true] rfl)
  | 10, _ => .inr (in_at [true, false, false, true, true, false, true, true, true, true, true, false] rfl)
  | 11, _ => .inl (.inl rfl)
  | 12, _ => .inl (.inr (in_at [true, false, false, true, true, true, false, true, false, false, true, true] rfl))
  | 13, _ => .inl (.inr (in_at [true, false, false, true, true, true, true, false, false, true, true, true] rfl))
  | 14, _ => .inl (.inr (in_at [true, false, false, true, true, true, true, true, true, true, false, true] rfl))
  | n + 15, h => absurd h (Nat.not_lt.mpr (Nat.le_add_left 15 n))
theorem st_c11 : st_chk1 11 = true := st_mk (tb_7 (List.mem_of_getElem? (i := 110) rfl)) (in_at [true, false, false, true, true, false, true, false, true, true, false] rfl) (in_at [true, false, false, true, true, false, true, true, false, false, false] rfl) (in_at [true, false, false, true, true, false, true, false, true, true, true, true] rfl)
    (in_at [true, true, true, true, false, true, false, true, true, false, false] rfl) (in_at [true, true, true, true, false, true, false, true, true, false, true] rfl) (in_at [true, true, true, true, false, true, false, true, true, true, false] rfl) (in_at [true, true, true, true, false, true, false, true, true, true, true] rfl)
    st_w11 (in_at [true, false, false, true, false, false, true, false, true, false, false] rfl) st_p11
theorem st_w12 : ∀ j, j < (kwWord 12).length → Cond.eq (.elem (.field (tS 12) strT "value" "[B") (.int (Int32.ofNat j))) (.int ((kwWord 12).getD j 0)) ∈ flatC nar := fun j hj => match j, hj with
  | 0, _ => in_at [true, true, true, true, false, true, true, true, false, false, false] rfl
  | 1, _ => in_at [true, true, true, true, false, true, true, true, false, false, true] rfl
  | 2, _ => in_at [true, true, true, true, false, true, true, true, false, true, false] rfl
  | n + 3, h => absurd (show n + 3 < 3 from h) (Nat.not_lt.mpr (Nat.le_add_left 3 n))
theorem st_p12 : ∀ j, j < 15 → (12 = j ∨ Cond.not (.eq (tK 12) (tK j)) ∈ flatC nar) ∨ Cond.not (.eq (tK j) (tK 12)) ∈ flatC nar := fun j hj => match j, hj with
  | 0, _ => .inr (in_at [true, false, false, true, true, true, false, false, false, true, false] rfl)
  | 1, _ => .inr (in_at [true, false, false, true, true, true, false, false, false, true, true, false] rfl)
  | 2, _ => .inr (in_at [true, false, false, true, true, true, false, false, false, true, true, true] rfl)
  | 3, _ => .inr (in_at [true, false, false, true, true, true, false, false, true, false, false] rfl)
  | 4, _ => .inr (in_at [true, false, false, true, true, true, false, false, true, false, true, false] rfl)
  | 5, _ => .inr (in_at [true, false, false, true, true, true, false, false, true, false, true, true] rfl)
  | 6, _ => .inr (in_at [true, false, false, true, true, true, false, false, true, true, false] rfl)
  | 7, _ => .inr (in_at [true, false, false, true, true, true, false, false, true, true, true, false] rfl)
  | 8, _ => .inr (in_at [true, false, false, true, true, true, false, false, true, true, true, true] rfl)
  | 9, _ => .inr (in_at [true, false, false, true, true, true, false, true, false, false, false] rfl)
  | 10, _ => .inr (in_at [true, false, false, true, true, true, false, true, false, false, true, false] rfl)
  | 11, _ => .inr (in_at [true, false, false, true, true, true, false, true, false, false, true, true] rfl)
  | 12, _ => .inl (.inl rfl)
  | 13, _ => .inl (.inr (in_at [true, false, false, true, true, true, true, false, true, false, false] rfl))
  | 14, _ => .inl (.inr (in_at [true, false, false, true, true, true, true, true, true, true, true, false] rfl))
  | n + 15, h => absurd h (Nat.not_lt.mpr (Nat.le_add_left 15 n))
theorem st_c12 : st_chk1 12 = true := st_mk (tb_7 (List.mem_of_getElem? (i := 111) rfl)) (in_at [true, false, false, true, true, false, true, true, true, true, true, true] rfl) (in_at [true, false, false, true, true, true, false, false, false, false, true, true] rfl) (in_at [true, false, false, true, true, true, false, false, false, false, true, false] rfl)
    (in_at [true, true, true, true, false, true, true, false, true, false, false] rfl) (in_at [true, true, true, true, false, true, true, false, true, false, true] rfl) (in_at [true, true, true, true, false, true, true, false, true, true, false] rfl) (in_at [true, true, true, true, false, true, true, false, true, true, true] rfl)
    st_w12 (in_at [true, false, false, true, false, false, true, false, true, false, true, false] rfl) st_p12
theorem st_w13 : ∀ j, j < (kwWord 13).length → Cond.eq (.elem (.field (tS 13) strT "value" "[B") (.int (Int32.ofNat j))) (.int ((kwWord 13).getD j 0)) ∈ flatC nar := fun j hj => match j, hj with
  | 0, _ => in_at [true, true, true, true, false, true, true, true, true, true, true] rfl
  | 1, _ => in_at [true, true, true, true, true, false, false, false, false, false] rfl
  | 2, _ => in_at [true, true, true, true, true, false, false, false, false, true, false] rfl
  | n + 3, h => absurd (show n + 3 < 3 from h) (Nat.not_lt.mpr (Nat.le_add_left 3 n))
theorem st_p13 : ∀ j, j < 15 → (13 = j ∨ Cond.not (.eq (tK 13) (tK j)) ∈ flatC nar) ∨ Cond.not (.eq (tK j) (tK 13)) ∈ flatC nar := fun j hj => match j, hj with
  | 0, _ => .inr (in_at [true, false, false, true, true, true, false, true, true, false, true, false] rfl)
  | 1, _ => .inr (in_at [true, false, false, true, true, true, false, true, true, false, true, true] rfl)
  | 2, _ => .inr (in_at [true, false, false, true, true, true, false, true, true, true, false, false] rfl)
  | 3, _ => .inr (in_at [true, false, false, true, true, true, false, true, true, true, false, true] rfl)
  | 4, _ => .inr (in_at [true, false, false, true, true, true, false, true, true, true, true, false] rfl)
  | 5, _ => .inr (in_at [true, false, false, true, true, true, false, true, true, true, true, true] rfl)
  | 6, _ => .inr (in_at [true, false, false, true, true, true, true, false, false, false, false] rfl)
  | 7, _ => .inr (in_at [true, false, false, true, true, true, true, false, false, false, true, false] rfl)
  | 8, _ => .inr (in_at [true, false, false, true, true, true, true, false, false, false, true, true] rfl)
  | 9, _ => .inr (in_at [true, false, false, true, true, true, true, false, false, true, false] rfl)
  | 10, _ => .inr (in_at [true, false, false, true, true, true, true, false, false, true, true, false] rfl)
  | 11, _ => .inr (in_at [true, false, false, true, true, true, true, false, false, true, true, true] rfl)
  | 12, _ => .inr (in_at [true, false, false, true, true, true, true, false, true, false, false] rfl)
  | 13, _ => .inl (.inl rfl)
  | 14, _ => .inl (.inr (in_at [true, false, false, true, true, true, true, true, true, true, true, true] rfl))
  | n + 15, h => absurd h (Nat.not_lt.mpr (Nat.le_add_left 15 n))
theorem st_c13 : st_chk1 13 = true := st_mk (tb_7 (List.mem_of_getElem? (i := 112) rfl)) (in_at [true, false, false, true, true, true, false, true, false, true, false] rfl) (in_at [true, false, false, true, true, true, false, true, true, false, false] rfl) (in_at [true, false, false, true, true, true, false, true, false, true, true, true] rfl)
    (in_at [true, true, true, true, false, true, true, true, false, true, true] rfl) (in_at [true, true, true, true, false, true, true, true, true, false, false] rfl) (in_at [true, true, true, true, false, true, true, true, true, false, true] rfl) (in_at [true, true, true, true, false, true, true, true, true, true, false] rfl)
    st_w13 (in_at [true, false, false, true, false, false, true, false, true, false, true, true] rfl) st_p13
theorem st_w14 : ∀ j, j < (kwWord 14).length → Cond.eq (.elem (.field (tS 14) strT "value" "[B") (.int (Int32.ofNat j))) (.int ((kwWord 14).getD j 0)) ∈ flatC nar := fun j hj => match j, hj with
  | 0, _ => in_at [true, true, true, true, true, false, false, false, true, true, true] rfl
  | 1, _ => in_at [true, true, true, true, true, false, false, true, false, false, false] rfl
  | n + 2, h => absurd (show n + 2 < 2 from h) (Nat.not_lt.mpr (Nat.le_add_left 2 n))
theorem st_p14 : ∀ j, j < 15 → (14 = j ∨ Cond.not (.eq (tK 14) (tK j)) ∈ flatC nar) ∨ Cond.not (.eq (tK j) (tK 14)) ∈ flatC nar := fun j hj => match j, hj with
  | 0, _ => .inr (in_at [true, false, false, true, true, true, true, false, true, true, true, true] rfl)
  | 1, _ => .inr (in_at [true, false, false, true, true, true, true, true, false, false, false] rfl)
  | 2, _ => .inr (in_at [true, false, false, true, true, true, true, true, false, false, true, false] rfl)
  | 3, _ => .inr (in_at [true, false, false, true, true, true, true, true, false, false, true, true] rfl)
  | 4, _ => .inr (in_at [true, false, false, true, true, true, true, true, false, true, false] rfl)
  | 5, _ => .inr (in_at [true, false, false, true, true, true, true, true, false, true, true, false] rfl)
  | 6, _ => .inr (in_at [true, false, false, true, true, true, true, true, false, true, true, true] rfl)
  | 7, _ => .inr (in_at [true, false, false, true, true, true, true, true, true, false, false] rfl)
  | 8, _ => .inr (in_at [true, false, false, true, true, true, true, true, true, false, true, false] rfl)
  | 9, _ => .inr (in_at [true, false, false, true, true, true, true, true, true, false, true, true] rfl)
  | 10, _ => .inr (in_at [true, false, false, true, true, true, true, true, true, true, false, false] rfl)
  | 11, _ => .inr (in_at [true, false, false, true, true, true, true, true, true, true, false, true] rfl)
  | 12, _ => .inr (in_at [true, false, false, true, true, true, true, true, true, true, true, false] rfl)
  | 13, _ => .inr (in_at [true, false, false, true, true, true, true, true, true, true, true, true] rfl)
  | 14, _ => .inl (.inl rfl)
  | n + 15, h => absurd h (Nat.not_lt.mpr (Nat.le_add_left 15 n))
theorem st_c14 : st_chk1 14 = true := st_mk (tb_7 (List.mem_of_getElem? (i := 113) rfl)) (in_at [true, false, false, true, true, true, true, false, true, false, true, false] rfl) (in_at [true, false, false, true, true, true, true, false, true, true, true, false] rfl) (in_at [true, false, false, true, true, true, true, false, true, true, false] rfl)
    (in_at [true, true, true, true, true, false, false, false, false, true, true] rfl) (in_at [true, true, true, true, true, false, false, false, true, false, false] rfl) (in_at [true, true, true, true, true, false, false, false, true, false, true] rfl) (in_at [true, true, true, true, true, false, false, false, true, true, false] rfl)
    st_w14 (in_at [true, false, false, true, false, false, true, false, true, true, false] rfl) st_p14
theorem sx_lw0 : ∀ q, q < (lsBy 0).length → Cond.eq (.elem (.field (tL 0) strT "value" "[B") (.int (Int32.ofNat q))) (.int ((lsBy 0).getD q 0)) ∈ flatC nar := fun q hq => match q, hq with
  | 0, _ => in_at [true, false, true, true, false, false, false, true, false, true, false] rfl
  | 1, _ => in_at [true, false, true, true, false, false, false, true, false, true, true, false] rfl
  | 2, _ => in_at [true, false, true, true, false, false, false, true, false, true, true, true] rfl
  | 3, _ => in_at [true, false, true, true, false, false, false, true, true, false, false] rfl
  | 4, _ => in_at [true, false, true, true, false, false, false, true, true, false, true, false] rfl
  | 5, _ => in_at [true, false, true, true, false, false, false, true, true, false, true, true] rfl
  | n + 6, h => absurd (show n + 6 < 6 from h) (Nat.not_lt.mpr (Nat.le_add_left 6 n))
theorem sx_l0 : sx_ls 0 := ⟨in_at [true, false, true, true, false, false, false, false, true, true, true, true] rfl, in_at [true, false, true, true, false, false, false, true, false, false, false] rfl, in_at [true, false, true, true, false, false, false, true, false, false, true, false] rfl, in_at [true, false, true, true, false, false, false, true, false, false, true, true] rfl, sx_lw0, tb_3 (List.mem_of_getElem? (i := 85) rfl)⟩
theorem sx_lw1 : ∀ q, q < (lsBy 1).length → Cond.eq (.elem (.field (tL 1) strT "value" "[B") (.int (Int32.ofNat q))) (.int ((lsBy 1).getD q 0)) ∈ flatC nar := fun q hq => match q, hq with
  | 0, _ => in_at [true, false, true, true, false, false, true, false, false, false, false] rfl
  | n + 1, h => absurd (show n + 1 < 1 from h) (Nat.not_lt.mpr (Nat.le_add_left 1 n))
theorem sx_l1 : sx_ls 1 := ⟨in_at [true, false, true, true, false, false, false, true, true, true, false, false] rfl, in_at [true, false, true, true, false, false, false, true, true, true, false, true] rfl, in_at [true, false, true, true, false, false, false, true, true, true, true, false] rfl, in_at [true, false, true, true, false, false, false, true, true, true, true, true] rfl, sx_lw1, tb_4 (List.mem_of_getElem? (i := 26) rfl)⟩
theorem sx_lw2 : ∀ q, q < (lsBy 2).length → Cond.eq (.elem (.field (tL 2) strT "value" "[B") (.int (Int32.ofNat q))) (.int ((lsBy 2).getD q 0)) ∈ flatC nar := fun q hq => match q, hq with
  | 0, _ => in_at [true, false, true, true, false, false, true, false, false, true, true, true] rfl
  | 1, _ => in_at [true, false, true, true, false, false, true, false, true, false, false] rfl
  | 2, _ => in_at [true, false, true, true, false, false, true, false, true, false, true, false] rfl
  | 3, _ => in_at [true, false, true, true, false, false, true, false, true, false, true, true] rfl
  | 4, _ => in_at [true, false, true, true, false, false, true, false, true, true, false] rfl
  | n + 5, h => absurd (show n + 5 < 5 from h) (Nat.not_lt.mpr (Nat.le_add_left 5 n))
theorem sx_l2 : sx_ls 2 := ⟨in_at [true, false, true, true, false, false, true, false, false, false, true, false] rfl, in_at [true, false, true, true, false, false, true, false, false, false, true, true] rfl, in_at [true, false, true, true, false, false, true, false, false, true, false] rfl, in_at [true, false, true, true, false, false, true, false, false, true, true, false] rfl, sx_lw2, tb_4 (List.mem_of_getElem? (i := 28) rfl)⟩
theorem sx_lw3 : ∀ q, q < (lsBy 3).length → Cond.eq (.elem (.field (tL 3) strT "value" "[B") (.int (Int32.ofNat q))) (.int ((lsBy 3).getD q 0)) ∈ flatC nar := fun q hq => match q, hq with
  | 0, _ => in_at [true, false, true, true, false, false, true, true, false, false, true, true] rfl
  | 1, _ => in_at [true, false, true, true, false, false, true, true, false, true, false] rfl
  | 2, _ => in_at [true, false, true, true, false, false, true, true, false, true, true, false] rfl
  | 3, _ => in_at [true, false, true, true, false, false, true, true, false, true, true, true] rfl
  | 4, _ => in_at [true, false, true, true, false, false, true, true, true, false, false] rfl
  | 5, _ => in_at [true, false, true, true, false, false, true, true, true, false, true, false] rfl
  | 6, _ => in_at [true, false, true, true, false, false, true, true, true, false, true, true] rfl
  | 7, _ => in_at [true, false, true, true, false, false, true, true, true, true, false, false] rfl
  | 8, _ => in_at [true, false, true, true, false, false, true, true, true, true, false, true] rfl
  | n + 9, h => absurd (show n + 9 < 9 from h) (Nat.not_lt.mpr (Nat.le_add_left 9 n))
theorem sx_l3 : sx_ls 3 := ⟨in_at [true, false, true, true, false, false, true, false, true, true, true, false] rfl, in_at [true, false, true, true, false, false, true, false, true, true, true, true] rfl, in_at [true, false, true, true, false, false, true, true, false, false, false] rfl, in_at [true, false, true, true, false, false, true, true, false, false, true, false] rfl, sx_lw3, tb_4 (List.mem_of_getElem? (i := 51) rfl)⟩
theorem sx_lw4 : ∀ q, q < (lsBy 4).length → Cond.eq (.elem (.field (tL 4) strT "value" "[B") (.int (Int32.ofNat q))) (.int ((lsBy 4).getD q 0)) ∈ flatC nar := fun q hq => match q, hq with
  | 0, _ => in_at [true, false, true, true, false, true, false, false, false, false, true, true] rfl
  | 1, _ => in_at [true, false, true, true, false, true, false, false, false, true, false] rfl
  | 2, _ => in_at [true, false, true, true, false, true, false, false, false, true, true, false] rfl
  | 3, _ => in_at [true, false, true, true, false, true, false, false, false, true, true, true] rfl
  | 4, _ => in_at [true, false, true, true, false, true, false, false, true, false, false] rfl
  | 5, _ => in_at [true, false, true, true, false, true, false, false, true, false, true, false] rfl
  | n + 6, h => absurd (show n + 6 < 6 from h) (Nat.not_lt.mpr (Nat.le_add_left 6 n))
theorem sx_l4 : sx_ls 4 := ⟨in_at [true, false, true, true, false, false, true, true, true, true, true, false] rfl, in_at [true, false, true, true, false, false, true, true, true, true, true, true] rfl, in_at [true, false, true, true, false, true, false, false, false, false, false] rfl, in_at [true, false, true, true, false, true, false, false, false, false, true, false] rfl, sx_lw4, tb_4 (List.mem_of_getElem? (i := 52) rfl)⟩
theorem sx_lw5 : ∀ q, q < (lsBy 5).length → Cond.eq (.elem (.field (tL 5) strT "value" "[B") (.int (Int32.ofNat q))) (.int ((lsBy 5).getD q 0)) ∈ flatC nar := fun q hq => match q, hq with
  | 0, _ => in_at [true, false, true, true, false, true, false, true, false, false, false] rfl
  | 1, _ => in_at [true, false, true, true, false, true, false, true, false, false, true, false] rfl
  | 2, _ => in_at [true, false, true, true, false, true, false, true, false, false, true, true] rfl
  | 3, _ => in_at [true, false, true, true, false, true, false, true, false, true, false] rfl
  | 4, _ => in_at [true, false, true, true, false, true, false, true, false, true, true, false] rfl
  | n + 5, h => absurd (show n + 5 < 5 from h) (Nat.not_lt.mpr (Nat.le_add_left 5 n))
theorem sx_l5 : sx_ls 5 := ⟨in_at [true, false, true, true, false, true, false, false, true, false, true, true] rfl, in_at [true, false, true, true, false, true, false, false, true, true, false] rfl, in_at [true, false, true, true, false, true, false, false, true, true, true, false] rfl, in_at [true, false, true, true, false, true, false, false, true, true, true, true] rfl, sx_lw5, tb_4 (List.mem_of_getElem? (i := 58) rfl)⟩
theorem sx_lw6 : ∀ q, q < (lsBy 6).length → Cond.eq (.elem (.field (tL 6) strT "value" "[B") (.int (Int32.ofNat q))) (.int ((lsBy 6).getD q 0)) ∈ flatC nar := fun q hq => match q, hq with
  | 0, _ => in_at [true, false, true, true, false, true, false, true, true, true, false, false] rfl
  | 1, _ => in_at [true, false, true, true, false, true, false, true, true, true, false, true] rfl
  | 2, _ => in_at [true, false, true, true, false, true, false, true, true, true, true, false] rfl
  | 3, _ => in_at [true, false, true, true, false, true, false, true, true, true, true, true] rfl
  | 4, _ => in_at [true, false, true, true, false, true, true, false, false, false, false] rfl
  | 5, _ => in_at [true, false, true, true, false, true, true, false, false, false, true, false] rfl
  | 6, _ => in_at [true, false, true, true, false, true, true, false, false, false, true, true] rfl
  | 7, _ => in_at [true, false, true, true, false, true, true, false, false, true, false] rfl
  | 8, _ => in_at [true, false, true, true, false, true, true, false, false, true, true, false] rfl
  | n + 9, h => absurd (show n + 9 < 9 from h) (Nat.not_lt.mpr (Nat.le_add_left 9 n))
theorem sx_l6 : sx_ls 6 := ⟨in_at [true, false, true, true, false, true, false, true, false, true, true, true] rfl, in_at [true, false, true, true, false, true, false, true, true, false, false] rfl, in_at [true, false, true, true, false, true, false, true, true, false, true, false] rfl, in_at [true, false, true, true, false, true, false, true, true, false, true, true] rfl, sx_lw6, tb_4 (List.mem_of_getElem? (i := 59) rfl)⟩
theorem sx_lw7 : ∀ q, q < (lsBy 7).length → Cond.eq (.elem (.field (tL 7) strT "value" "[B") (.int (Int32.ofNat q))) (.int ((lsBy 7).getD q 0)) ∈ flatC nar := fun q hq => match q, hq with
  | 0, _ => in_at [true, false, true, true, false, true, true, false, true, true, false] rfl
  | 1, _ => in_at [true, false, true, true, false, true, true, false, true, true, true, false] rfl
  | 2, _ => in_at [true, false, true, true, false, true, true, false, true, true, true, true] rfl
  | 3, _ => in_at [true, false, true, true, false, true, true, true, false, false, false] rfl
  | 4, _ => in_at [true, false, true, true, false, true, true, true, false, false, true, false] rfl
  | 5, _ => in_at [true, false, true, true, false, true, true, true, false, false, true, true] rfl
  | 6, _ => in_at [true, false, true, true, false, true, true, true, false, true, false] rfl
  | 7, _ => in_at [true, false, true, true, false, true, true, true, false, true, true, false] rfl
  | n + 8, h => absurd (show n + 8 < 8 from h) (Nat.not_lt.mpr (Nat.le_add_left 8 n))
theorem sx_l7 : sx_ls 7 := ⟨in_at [true, false, true, true, false, true, true, false, false, true, true, true] rfl, in_at [true, false, true, true, false, true, true, false, true, false, false] rfl, in_at [true, false, true, true, false, true, true, false, true, false, true, false] rfl, in_at [true, false, true, true, false, true, true, false, true, false, true, true] rfl, sx_lw7, tb_4 (List.mem_of_getElem? (i := 60) rfl)⟩
theorem sx_lw8 : ∀ q, q < (lsBy 8).length → Cond.eq (.elem (.field (tL 8) strT "value" "[B") (.int (Int32.ofNat q))) (.int ((lsBy 8).getD q 0)) ∈ flatC nar := fun q hq => match q, hq with
  | 0, _ => in_at [true, false, true, true, false, true, true, true, true, true, false, false] rfl
  | 1, _ => in_at [true, false, true, true, false, true, true, true, true, true, false, true] rfl
  | 2, _ => in_at [true, false, true, true, false, true, true, true, true, true, true, false] rfl
  | 3, _ => in_at [true, false, true, true, false, true, true, true, true, true, true, true] rfl
  | 4, _ => in_at [true, false, true, true, true, false, false, false, false, false, false] rfl
  | 5, _ => in_at [true, false, true, true, true, false, false, false, false, false, true, false] rfl
  | 6, _ => in_at [true, false, true, true, true, false, false, false, false, false, true, true] rfl
  | 7, _ => in_at [true, false, true, true, true, false, false, false, false, true, false] rfl
  | n + 8, h => absurd (show n + 8 < 8 from h) (Nat.not_lt.mpr (Nat.le_add_left 8 n))
theorem sx_l8 : sx_ls 8 := ⟨in_at [true, false, true, true, false, true, true, true, false, true, true, true] rfl, in_at [true, false, true, true, false, true, true, true, true, false, false] rfl, in_at [true, false, true, true, false, true, true, true, true, false, true, false] rfl, in_at [true, false, true, true, false, true, true, true, true, false, true, true] rfl, sx_lw8, tb_4 (List.mem_of_getElem? (i := 61) rfl)⟩
theorem sx_lw9 : ∀ q, q < (lsBy 9).length → Cond.eq (.elem (.field (tL 9) strT "value" "[B") (.int (Int32.ofNat q))) (.int ((lsBy 9).getD q 0)) ∈ flatC nar := fun q hq => match q, hq with
  | 0, _ => in_at [true, false, true, true, true, false, false, false, true, false, true, true] rfl
  | 1, _ => in_at [true, false, true, true, true, false, false, false, true, true, false] rfl
  | 2, _ => in_at [true, false, true, true, true, false, false, false, true, true, true, false] rfl
  | 3, _ => in_at [true, false, true, true, true, false, false, false, true, true, true, true] rfl
  | 4, _ => in_at [true, false, true, true, true, false, false, true, false, false, false] rfl
  | 5, _ => in_at [true, false, true, true, true, false, false, true, false, false, true, false] rfl
  | n + 6, h => absurd (show n + 6 < 6 from h) (Nat.not_lt.mpr (Nat.le_add_left 6 n))
theorem sx_l9 : sx_ls 9 := ⟨in_at [true, false, true, true, true, false, false, false, false, true, true, false] rfl, in_at [true, false, true, true, true, false, false, false, false, true, true, true] rfl, in_at [true, false, true, true, true, false, false, false, true, false, false] rfl, in_at [true, false, true, true, true, false, false, false, true, false, true, false] rfl, sx_lw9, tb_4 (List.mem_of_getElem? (i := 62) rfl)⟩
theorem sx_lw10 : ∀ q, q < (lsBy 10).length → Cond.eq (.elem (.field (tL 10) strT "value" "[B") (.int (Int32.ofNat q))) (.int ((lsBy 10).getD q 0)) ∈ flatC nar := fun q hq => absurd hq (Nat.not_lt_zero q)
theorem sx_l10 : sx_ls 10 := ⟨in_at [true, false, true, true, true, false, false, true, false, false, true, true] rfl, in_at [true, false, true, true, true, false, false, true, false, true, false] rfl, in_at [true, false, true, true, true, false, false, true, false, true, true, false] rfl, in_at [true, false, true, true, true, false, false, true, false, true, true, true] rfl, sx_lw10, tb_4 (List.mem_of_getElem? (i := 69) rfl)⟩
theorem sx_lw11 : ∀ q, q < (lsBy 11).length → Cond.eq (.elem (.field (tL 11) strT "value" "[B") (.int (Int32.ofNat q))) (.int ((lsBy 11).getD q 0)) ∈ flatC nar := fun q hq => match q, hq with
  | 0, _ => in_at [true, false, true, true, true, false, false, true, true, true, false, true] rfl
  | 1, _ => in_at [true, false, true, true, true, false, false, true, true, true, true, false] rfl
  | 2, _ => in_at [true, false, true, true, true, false, false, true, true, true, true, true] rfl
  | 3, _ => in_at [true, false, true, true, true, false, true, false, false, false, false] rfl
  | 4, _ => in_at [true, false, true, true, true, false, true, false, false, false, true, false] rfl
  | 5, _ => in_at [true, false, true, true, true, false, true, false, false, false, true, true] rfl
  | 6, _ => in_at [true, false, true, true, true, false, true, false, false, true, false] rfl
  | 7, _ => in_at [true, false, true, true, true, false, true, false, false, true, true, false] rfl
  | 8, _ => in_at [true, false, true, true, true, false, true, false, false, true, true, true] rfl
  | n + 9, h => absurd (show n + 9 < 9 from h) (Nat.not_lt.mpr (Nat.le_add_left 9 n))
theorem sx_l11 : sx_ls 11 := ⟨in_at [true, false, true, true, true, false, false, true, true, false, false] rfl, in_at [true, false, true, true, true, false, false, true, true, false, true, false] rfl, in_at [true, false, true, true, true, false, false, true, true, false, true, true] rfl, in_at [true, false, true, true, true, false, false, true, true, true, false, false] rfl, sx_lw11, tb_4 (List.mem_of_getElem? (i := 130) rfl)⟩
theorem sx_lw12 : ∀ q, q < (lsBy 12).length → Cond.eq (.elem (.field (tL 12) strT "value" "[B") (.int (Int32.ofNat q))) (.int ((lsBy 12).getD q 0)) ∈ flatC nar := fun q hq => match q, hq with
  | 0, _ => in_at [true, false, true, true, true, false, true, false, true, true, true, false] rfl
  | 1, _ => in_at [true, false, true, true, true, false, true, false, true, true, true, true] rfl
  | 2, _ => in_at [true, false, true, true, true, false, true, true, false, false, false] rfl
  | 3, _ => in_at [true, false, true, true, true, false, true, true, false, false, true, false] rfl
  | 4, _ => in_at [true, false, true, true, true, false, true, true, false, false, true, true] rfl
  | 5, _ => in_at [true, false, true, true, true, false, true, true, false, true, false] rfl
  | 6, _ => in_at [true, false, true, true, true, false, true, true, false, true, true, false] rfl
  | 7, _ => in_at [true, false, true, true, true, false, true, true, false, true, true, true] rfl
  | n + 8, h => absurd (show n + 8 < 8 from h) (Nat.not_lt.mpr (Nat.le_add_left 8 n))
theorem sx_l12 : sx_ls 12 := ⟨in_at [true, false, true, true, true, false, true, false, true, false, false] rfl, in_at [true, false, true, true, true, false, true, false, true, false, true, false] rfl, in_at [true, false, true, true, true, false, true, false, true, false, true, true] rfl, in_at [true, false, true, true, true, false, true, false, true, true, false] rfl, sx_lw12, tb_4 (List.mem_of_getElem? (i := 131) rfl)⟩
theorem sx_lw13 : ∀ q, q < (lsBy 13).length → Cond.eq (.elem (.field (tL 13) strT "value" "[B") (.int (Int32.ofNat q))) (.int ((lsBy 13).getD q 0)) ∈ flatC nar := fun q hq => match q, hq with
  | 0, _ => in_at [true, false, true, true, true, false, true, true, true, true, false, true] rfl
  | 1, _ => in_at [true, false, true, true, true, false, true, true, true, true, true, false] rfl
  | n + 2, h => absurd (show n + 2 < 2 from h) (Nat.not_lt.mpr (Nat.le_add_left 2 n))
theorem sx_l13 : sx_ls 13 := ⟨in_at [true, false, true, true, true, false, true, true, true, false, false] rfl, in_at [true, false, true, true, true, false, true, true, true, false, true, false] rfl, in_at [true, false, true, true, true, false, true, true, true, false, true, true] rfl, in_at [true, false, true, true, true, false, true, true, true, true, false, false] rfl, sx_lw13, tb_4 (List.mem_of_getElem? (i := 132) rfl)⟩
theorem sx_l_all : ∀ j, j < 14 → sx_ls j := fun j hj => match j, hj with
  | 0, _ => sx_l0
  | 1, _ => sx_l1
  | 2, _ => sx_l2
  | 3, _ => sx_l3
  | 4, _ => sx_l4
  | 5, _ => sx_l5
  | 6, _ => sx_l6
  | 7, _ => sx_l7
  | 8, _ => sx_l8
  | 9, _ => sx_l9
  | 10, _ => sx_l10
  | 11, _ => sx_l11
  | 12, _ => sx_l12
  | 13, _ => sx_l13
  | n + 14, h => absurd h (Nat.not_lt.mpr (Nat.le_add_left 14 n))
theorem sx_dgOw : ∀ q, q < 100 → Cond.eq (.elem (tG "DigitOnes") (.int (Int32.ofNat q))) (.int (dgO.getD q 0)) ∈ flatC nar := fun q hq => match q, hq with
  | 0, _ => in_at [true, false, false, false, false, false, false, true, false, false, false] rfl
  | 1, _ => in_at [true, false, false, false, false, false, false, true, false, false, true, false] rfl
  | 2, _ => in_at [true, false, false, false, false, false, false, true, false, false, true, true] rfl
  | 3, _ => in_at [true, false, false, false, false, false, false, true, false, true, false] rfl
  | 4, _ => in_at [true, false, false, false, false, false, false, true, false, true, true, false] rfl
  | 5, _ => in_at [true, false, false, false, false, false, false, true, false, true, true, true] rfl
  | 6, _ => in_at [true, false, false, false, false, false, false, true, true, false, false] rfl
  | 7, _ => in_at [true, false, false, false, false, false, false, true, true, false, true, false] rfl
  | 8, _ => in_at [true, false, false, false, false, false, false, true, true, false, true, true] rfl
  | 9, _ => in_at [true, false, false, false, false, false, false, true, true, true, false, false] rfl
  | 10, _ => in_at [true, false, false, false, false, false, false, true, true, true, false, true] rfl
  | 11, _ => in_at [true, false, false, false, false, false, false, true, true, true, true, false] rfl
  | 12, _ => in_at [true, false, false, false, false, false, false, true, true, true, true, true] rfl
  | 13, _ => in_at [true, false, false, false, false, false, true, false, false, false, false] rfl
  | 14, _ => in_at [true, false, false, false, false, false, true, false, false, false, true, false] rfl
  | 15, _ => in_at [true, false, false, false, false, false, true, false, false, false, true, true] rfl
  | 16, _ => in_at [true, false, false, false, false, false, true, false, false, true, false] rfl
  | 17, _ => in_at [true, false, false, false, false, false, true, false, false, true, true, false] rfl
  | 18, _ => in_at [true, false, false, false, false, false, true, false, false, true, true, true] rfl
  | 19, _ => in_at [true, false, false, false, false, false, true, false, true, false, false] rfl
  | 20, _ => in_at [true, false, false, false, false, false, true, false, true, false, true, false] rfl
  | 21, _ => in_at [true, false, false, false, false, false, true, false, true, false, true, true] rfl
  | 22, _ => in_at [true, false, false, false, false, false, true, false, true, true, false] rfl
  | 23, _ => in_at [true, false, false, false, false, false, true, false, true, true, true, false] rfl
  | 24, _ => in_at [true, false, false, false, false, false, true, false, true, true, true, true] rfl
  | 25, _ => in_at [true, false, false, false, false, false, true, true, false, false, false] rfl
  | 26, _ => in_at [true, false, false, false, false, false, true, true, false, false, true, false] rfl
  | 27, _ => in_at [true, false, false, false, false, false, true, true, false, false, true, true] rfl
  | 28, _ => in_at [true, false, false, false, false, false, true, true, false, true, false] rfl
  | 29, _ => in_at [true, false, false, false, false, false, true, true, false, true, true, false] rfl
  | 30, _ => in_at [true, false, false, false, false, false, true, true, false, true, true, true] rfl
  | 31, _ => in_at [true, false, false, false, false, false, true, true, true, false, false] rfl
  | 32, _ => in_at [true, false, false, false, false, false, true, true, true, false, true, false] rfl
  | 33, _ => in_at [true, false, false, false, false, false, true, true, true, false, true, true] rfl
  | 34, _ => in_at [true, false, false, false, false, false, true, true, true, true, false, false] rfl
  | 35, _ => in_at [true, false, false, false, false, false, true, true, true, true, false, true] rfl
  | 36, _ => in_at [true, false, false, false, false, false, true, true, true, true, true, false] rfl
  | 37, _ => in_at [true, false, false, false, false, false, true, true, true, true, true, true] rfl
  | 38, _ => in_at [true, false, false, false, false, true, false, false, false, false, false] rfl
  | 39, _ => in_at [true, false, false, false, false, true, false, false, false, false, true, false] rfl
  | 40, _ => in_at [true, false, false, false, false, true, false, false, false, false, true, true] rfl
  | 41, _ => in_at [true, false, false, false, false, true, false, false, false, true, false] rfl
  | 42, _ => in_at [true, false, false, false, false, true, false, false, false, true, true, false] rfl
  | 43, _ => in_at [true, false, false, false, false, true, false, false, false, true, true, true] rfl
  | 44, _ => in_at [true, false, false, false, false, true, false, false, true, false, false] rfl
  | 45, _ => in_at [true, false, false, false, false, true, false, false, true, false, true, false] rfl
  | 46, _ => in_at [true, false, false, false, false, true, false, false, true, false, true, true] rfl
  | 47, _ => in_at [true, false, false, false, false, true, false, false, true, true, false] rfl
  | 48, _ => in_at [true, false, false, false, false, true, false, false, true, true, true, false] rfl
  | 49, _ => in_at [true, false, false, false, false, true, false, false, true, true, true, true] rfl
  | 50, _ => in_at [true, false, false, false, false, true, false, true, false, false, false] rfl
  | 51, _ => in_at [true, false, false, false, false, true, false, true, false, false, true, false] rfl
  | 52, _ => in_at [true, false, false, false, false, true, false, true, false, false, true, true] rfl
  | 53, _ => in_at [true, false, false, false, false, true, false, true, false, true, false] rfl
  | 54, _ => in_at [true, false, false, false, false, true, false, true, false, true, true, false] rfl
  | 55, _ => in_at [true, false, false, false, false, true, false, true, false, true, true, true] rfl
  | 56, _ => in_at [true, false, false, false, false, true, false, true, true, false, false] rfl
  | 57, _ => in_at [true, false, false, false, false, true, false, true, true, false, true, false] rfl
  | 58, _ => in_at [true, false, false, false, false, true, false, true, true, false, true, true] rfl
  | 59, _ => in_at [true, false, false, false, false, true, false, true, true, true, false, false] rfl
  | 60, _ => in_at [true, false, false, false, false, true, false, true, true, true, false, true] rfl
  | 61, _ => in_at [true, false, false, false, false, true, false, true, true, true, true, false] rfl
  | 62, _ => in_at [true, false, false, false, false, true, false, true, true, true, true, true] rfl
  | 63, _ => in_at [true, false, false, false, false, true, true, false, false, false, false] rfl
  | 64, _ => in_at [true, false, false, false, false, true, true, false, false, false, true, false] rfl
  | 65, _ => in_at [true, false, false, false, false, true, true, false, false, false, true, true] rfl
  | 66, _ => in_at [true, false, false, false, false, true, true, false, false, true, false] rfl
  | 67, _ => in_at [true, false, false, false, false, true, true, false, false, true, true, false] rfl
  | 68, _ => in_at [true, false, false, false, false, true, true, false, false, true, true, true] rfl
  | 69, _ => in_at [true, false, false, false, false, true, true, false, true, false, false] rfl
  | 70, _ => in_at [true, false, false, false, false, true, true, false, true, false, true, false] rfl
  | 71, _ => in_at [true, false, false, false, false, true, true, false, true, false, true, true] rfl
  | 72, _ => in_at [true, false, false, false, false, true, true, false, true, true, false] rfl
  | 73, _ => in_at [true, false, false, false, false, true, true, false, true, true, true, false] rfl
  | 74, _ => in_at [true, false, false, false, false, true, true, false, true, true, true, true] rfl
  | 75, _ => in_at [true, false, false, false, false, true, true, true, false, false, false] rfl
  | 76, _ => in_at [true, false, false, false, false, true, true, true, false, false, true, false] rfl
  | 77, _ => in_at [true, false, false, false, false, true, true, true, false, false, true, true] rfl
  | 78, _ => in_at [true, false, false, false, false, true, true, true, false, true, false] rfl
  | 79, _ => in_at [true, false, false, false, false, true, true, true, false, true, true, false] rfl
  | 80, _ => in_at [true, false, false, false, false, true, true, true, false, true, true, true] rfl
  | 81, _ => in_at [true, false, false, false, false, true, true, true, true, false, false] rfl
  | 82, _ => in_at [true, false, false, false, false, true, true, true, true, false, true, false] rfl
  | 83, _ => in_at [true, false, false, false, false, true, true, true, true, false, true, true] rfl
  | 84, _ => in_at [true, false, false, false, false, true, true, true, true, true, false, false] rfl
  | 85, _ => in_at [true, false, false, false, false, true, true, true, true, true, false, true] rfl
  | 86, _ => in_at [true, false, false, false, false, true, true, true, true, true, true, false] rfl
  | 87, _ => in_at [true, false, false, false, false, true, true, true, true, true, true, true] rfl
  | 88, _ => in_at [true, false, false, false, true, false, false, false, false, false, false] rfl
  | 89, _ => in_at [true, false, false, false, true, false, false, false, false, false, true, false] rfl
  | 90, _ => in_at [true, false, false, false, true, false, false, false, false, false, true, true] rfl
  | 91, _ => in_at [true, false, false, false, true, false, false, false, false, true, false] rfl
  | 92, _ => in_at [true, false, false, false, true, false, false, false, false, true, true, false] rfl
  | 93, _ => in_at [true, false, false, false, true, false, false, false, false, true, true, true] rfl
  | 94, _ => in_at [true, false, false, false, true, false, false, false, true, false, false] rfl
  | 95, _ => in_at [true, false, false, false, true, false, false, false, true, false, true, false] rfl
  | 96, _ => in_at [true, false, false, false, true, false, false, false, true, false, true, true] rfl
  | 97, _ => in_at [true, false, false, false, true, false, false, false, true, true, false] rfl
  | 98, _ => in_at [true, false, false, false, true, false, false, false, true, true, true, false] rfl
  | 99, _ => in_at [true, false, false, false, true, false, false, false, true, true, true, true] rfl
  | n + 100, h => absurd h (Nat.not_lt.mpr (Nat.le_add_left 100 n))
theorem sx_dgO : sx_dg "DigitOnes" dgO := ⟨tb_4 (List.mem_of_getElem? (i := 15) rfl), in_at [true, false, false, false, false, false, false, false, true, true, true, false] rfl, in_at [true, false, false, false, false, false, false, false, true, true, true, true] rfl, sx_dgOw⟩
theorem sx_dgTw : ∀ q, q < 100 → Cond.eq (.elem (tG "DigitTens") (.int (Int32.ofNat q))) (.int (dgT.getD q 0)) ∈ flatC nar := fun q hq => match q, hq with
  | 0, _ => in_at [true, false, false, false, true, false, false, true, false, true, false] rfl
  | 1, _ => in_at [true, false, false, false, true, false, false, true, false, true, true, false] rfl
  | 2, _ => in_at [true, false, false, false, true, false, false, true, false, true, true, true] rfl
  | 3, _ => in_at [true, false, false, false, true, false, false, true, true, false, false] rfl
  | 4, _ => in_at [true, false, false, false, true, false, false, true, true, false, true, false] rfl
  | 5, _ => in_at [true, false, false, false, true, false, false, true, true, false, true, true] rfl
  | 6, _ => in_at [true, false, false, false, true, false, false, true, true, true, false, false] rfl
  | 7, _ => in_at [true, false, false, false, true, false, false, true, true, true, false, true] rfl
  | 8, _ => in_at [true, false, false, false, true, false, false, true, true, true, true, false] rfl
  | 9, _ => in_at [true, false, false, false, true, false, false, true, true, true, true, true] rfl
  | 10, _ => in_at [true, false, false, false, true, false, true, false, false, false, false] rfl
  | 11, _ => in_at [true, false, false, false, true, false, true, false, false, false, true, false] rfl
  | 12, _ => in_at [true, false, false, false, true, false, true, false, false, false, true, true] rfl
  | 13, _ => in_at [true, false, false, false, true, false, true, false, false, true, false] rfl
  | 14, _ => in_at [true, false, false, false, true, false, true, false, false, true, true, false] rfl
  | 15, _ => in_at [true, false, false, false, true, false, true, false, false, true, true, true] rfl
  | 16, _ => in_at [true, false, false, false, true, false, true, false, true, false, false] rfl
  | 17, _ => in_at [true, false, false, false, true, false, true, false, true, false, true, false] rfl
  | 18, _ => in_at [true, false, false, false, true, false, true, false, true, false, true, true] rfl
  | 19, _ => in_at [true, false, false, false, true, false, true, false, true, true, false] rfl
  | 20, _ => in_at [true, false, false, false, true, false, true, false, true, true, true, false] rfl
  | 21, _ => in_at [true, false, false, false, true, false, true, false, true, true, true, true] rfl
  | 22, _ => in_at [true, false, false, false, true, false, true, true, false, false, false] rfl
  | 23, _ => in_at [true, false, false, false, true, false, true, true, false, false, true, false] rfl
  | 24, _ => in_at [true, false, false, false, true, false, true, true, false, false, true, true] rfl
  | 25, _ => in_at [true, false, false, false, true, false, true, true, false, true, false] rfl
  | 26, _ => in_at [true, false, false, false, true, false, true, true, false, true, true, false] rfl
  | 27, _ => in_at [true, false, false, false, true, false, true, true, false, true, true, true] rfl
  | 28, _ => in_at [true, false, false, false, true, false, true, true, true, false, false] rfl
  | 29, _ => in_at [true, false, false, false, true, false, true, true, true, false, true, false] rfl
  | 30, _ => in_at [true, false, false, false, true, false, true, true, true, false, true, true] rfl
  | 31, _ => in_at [true, false, false, false, true, false, true, true, true, true, false, false] rfl
  | 32, _ => in_at [true, false, false, false, true, false, true, true, true, true, false, true] rfl
  | 33, _ => in_at [true, false, false, false, true, false, true, true, true, true, true, false] rfl
  | 34, _ => in_at [true, false, false, false, true, false, true, true, true, true, true, true] rfl
  | 35, _ => in_at [true, false, false, false, true, true, false, false, false, false, false] rfl
  | 36, _ => in_at [true, false, false, false, true, true, false, false, false, false, true, false] rfl
  | 37, _ => in_at [true, false, false, false, true, true, false, false, false, false, true, true] rfl
  | 38, _ => in_at [true, false, false, false, true, true, false, false, false, true, false] rfl
  | 39, _ => in_at [true, false, false, false, true, true, false, false, false, true, true, false] rfl
  | 40, _ => in_at [true, false, false, false, true, true, false, false, false, true, true, true] rfl
  | 41, _ => in_at [true, false, false, false, true, true, false, false, true, false, false] rfl
  | 42, _ => in_at [true, false, false, false, true, true, false, false, true, false, true, false] rfl
  | 43, _ => in_at [true, false, false, false, true, true, false, false, true, false, true, true] rfl
  | 44, _ => in_at [true, false, false, false, true, true, false, false, true, true, false] rfl
  | 45, _ => in_at [true, false, false, false, true, true, false, false, true, true, true, false] rfl
  | 46, _ => in_at [true, false, false, false, true, true, false, false, true, true, true, true] rfl
  | 47, _ => in_at [true, false, false, false, true, true, false, true, false, false, false] rfl
  | 48, _ => in_at [true, false, false, false, true, true, false, true, false, false, true, false] rfl
  | 49, _ => in_at [true, false, false, false, true, true, false, true, false, false, true, true] rfl
  | 50, _ => in_at [true, false, false, false, true, true, false, true, false, true, false] rfl
  | 51, _ => in_at [true, false, false, false, true, true, false, true, false, true, true, false] rfl
  | 52, _ => in_at [true, false, false, false, true, true, false, true, false, true, true, true] rfl
  | 53, _ => in_at [true, false, false, false, true, true, false, true, true, false, false] rfl
  | 54, _ => in_at [true, false, false, false, true, true, false, true, true, false, true, false] rfl
  | 55, _ => in_at [true, false, false, false, true, true, false, true, true, false, true, true] rfl
  | 56, _ => in_at [true, false, false, false, true, true, false, true, true, true, false, false] rfl
  | 57, _ => in_at [true, false, false, false, true, true, false, true, true, true, false, true] rfl
  | 58, _ => in_at [true, false, false, false, true, true, false, true, true, true, true, false] rfl
  | 59, _ => in_at [true, false, false, false, true, true, false, true, true, true, true, true] rfl
  | 60, _ => in_at [true, false, false, false, true, true, true, false, false, false, false] rfl
  | 61, _ => in_at [true, false, false, false, true, true, true, false, false, false, true, false] rfl
  | 62, _ => in_at [true, false, false, false, true, true, true, false, false, false, true, true] rfl
  | 63, _ => in_at [true, false, false, false, true, true, true, false, false, true, false] rfl
  | 64, _ => in_at [true, false, false, false, true, true, true, false, false, true, true, false] rfl
  | 65, _ => in_at [true, false, false, false, true, true, true, false, false, true, true, true] rfl
  | 66, _ => in_at [true, false, false, false, true, true, true, false, true, false, false] rfl
  | 67, _ => in_at [true, false, false, false, true, true, true, false, true, false, true, false] rfl
  | 68, _ => in_at [true, false, false, false, true, true, true, false, true, false, true, true] rfl
  | 69, _ => in_at [true, false, false, false, true, true, true, false, true, true, false] rfl
  | 70, _ => in_at [true, false, false, false, true, true, true, false, true, true, true, false] rfl
  | 71, _ => in_at [true, false, false, false, true, true, true, false, true, true, true, true] rfl
  | 72, _ => in_at [true, false, false, false, true, true, true, true, false, false, false] rfl
  | 73, _ => in_at [true, false, false, false, true, true, true, true, false, false, true, false] rfl
  | 74, _ => in_at [true, false, false, false, true, true, true, true, false, false, true, true] rfl
  | 75, _ => in_at [true, false, false, false, true, true, true, true, false, true, false] rfl
  | 76, _ => in_at [true, false, false, false, true, true, true, true, false, true, true, false] rfl
  | 77, _ => in_at [true, false, false, false, true, true, true, true, false, true, true, true] rfl
  | 78, _ => in_at [true, false, false, false, true, true, true, true, true, false, false] rfl
  | 79, _ => in_at [true, false, false, false, true, true, true, true, true, false, true, false] rfl
  | 80, _ => in_at [true, false, false, false, true, true, true, true, true, false, true, true] rfl
  | 81, _ => in_at [true, false, false, false, true, true, true, true, true, true, false, false] rfl
  | 82, _ => in_at [true, false, false, false, true, true, true, true, true, true, false, true] rfl
  | 83, _ => in_at [true, false, false, false, true, true, true, true, true, true, true, false] rfl
  | 84, _ => in_at [true, false, false, false, true, true, true, true, true, true, true, true] rfl
  | 85, _ => in_at [true, false, false, true, false, false, false, false, false, false, false] rfl
  | 86, _ => in_at [true, false, false, true, false, false, false, false, false, false, true, false] rfl
  | 87, _ => in_at [true, false, false, true, false, false, false, false, false, false, true, true] rfl
  | 88, _ => in_at [true, false, false, true, false, false, false, false, false, true, false] rfl
  | 89, _ => in_at [true, false, false, true, false, false, false, false, false, true, true, false] rfl
  | 90, _ => in_at [true, false, false, true, false, false, false, false, false, true, true, true] rfl
  | 91, _ => in_at [true, false, false, true, false, false, false, false, true, false, false] rfl
  | 92, _ => in_at [true, false, false, true, false, false, false, false, true, false, true, false] rfl
  | 93, _ => in_at [true, false, false, true, false, false, false, false, true, false, true, true] rfl
  | 94, _ => in_at [true, false, false, true, false, false, false, false, true, true, false] rfl
  | 95, _ => in_at [true, false, false, true, false, false, false, false, true, true, true, false] rfl
  | 96, _ => in_at [true, false, false, true, false, false, false, false, true, true, true, true] rfl
  | 97, _ => in_at [true, false, false, true, false, false, false, true, false, false, false] rfl
  | 98, _ => in_at [true, false, false, true, false, false, false, true, false, false, true, false] rfl
  | 99, _ => in_at [true, false, false, true, false, false, false, true, false, false, true, true] rfl
  | n + 100, h => absurd h (Nat.not_lt.mpr (Nat.le_add_left 100 n))
theorem sx_dgT : sx_dg "DigitTens" dgT := ⟨tb_4 (List.mem_of_getElem? (i := 17) rfl), in_at [true, false, false, false, true, false, false, true, false, false, true, false] rfl, in_at [true, false, false, false, true, false, false, true, false, false, true, true] rfl, sx_dgTw⟩
theorem sx_iI : Cond.initialized "java/lang/Integer" ∈ lw_tbl := tb_1 (List.mem_of_getElem? (i := 23) rfl)
