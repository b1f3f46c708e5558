/-! THE START: the checks, each word found by its place -/
theorem st_w0 : ∀ j, j < (kwWord 0).length → Cond.eq (.elem (.field (tS 0) strT "value" "[B") (.int (Int32.ofNat j))) (.int ((kwWord 0).getD j 0)) ∈ flatC nar := fun j hj => match j, hj with
  | 0, _ => in_at [true, true, false, true, true, true, false, false, true, false, true, false] rfl
  | 1, _ => in_at [true, true, false, true, true, true, false, false, true, false, true, true] rfl
  | 2, _ => in_at [true, true, false, true, true, true, false, false, true, true, false] rfl
  | 3, _ => in_at [true, true, false, true, true, true, false, false, true, true, true, false] rfl
  | 4, _ => in_at [true, true, false, true, true, true, false, false, true, true, true, true] rfl
  | n + 5, h => absurd (show n + 5 < 5 from h) (Nat.not_lt.mpr (Nat.le_add_left 5 n))
theorem st_p0 : ∀ j, j < 15 → (0 = j ∨ Cond.not (.eq (tK 0) (tK j)) ∈ flatC nar) ∨ Cond.not (.eq (tK j) (tK 0)) ∈ flatC nar := fun j hj => match j, hj with
  | 0, _ => .inl (.inl rfl)
  | 1, _ => .inl (.inr (in_at [true, false, false, false, false, false, true, false, true, true, true, false] rfl))
  | 2, _ => .inl (.inr (in_at [true, false, false, false, false, false, true, true, false, true, false] rfl))
  | 3, _ => .inl (.inr (in_at [true, false, false, false, false, false, true, true, true, true, false, false] rfl))
  | 4, _ => .inl (.inr (in_at [true, false, false, false, false, true, false, false, false, true, false] rfl))
  | 5, _ => .inl (.inr (in_at [true, false, false, false, false, true, false, false, true, true, true, true] rfl))
  | 6, _ => .inl (.inr (in_at [true, false, false, false, true, false, false, true, true, false, false] rfl))
  | 7, _ => .inl (.inr (in_at [true, false, false, false, true, false, true, false, true, false, true, false] rfl))
  | 8, _ => .inl (.inr (in_at [true, false, false, false, true, false, true, true, true, true, false, true] rfl))
  | 9, _ => .inl (.inr (in_at [true, false, false, false, true, true, false, true, false, false, true, false] rfl))
  | 10, _ => .inl (.inr (in_at [true, false, false, false, true, true, true, false, false, true, true, true] rfl))
  | 11, _ => .inl (.inr (in_at [true, false, false, false, false, true, false, true, true, true, false, true] rfl))
  | 12, _ => .inl (.inr (in_at [true, false, false, false, false, true, true, false, true, false, true, false] rfl))
  | 13, _ => .inl (.inr (in_at [true, false, false, false, false, true, true, true, true, false, false] rfl))
  | 14, _ => .inl (.inr (in_at [true, false, false, false, true, false, false, false, false, true, true, true] rfl))
  | n + 15, h => absurd h (Nat.not_lt.mpr (Nat.le_add_left 15 n))
theorem st_c0 : st_chk1 0 = true := st_mk (tb_2 (List.mem_of_getElem? (i := 215) rfl)) (in_at [true, false, false, false, false, false, true, false, false, false, true, true] rfl) (in_at [true, false, false, false, false, false, true, false, false, true, true, true] rfl) (in_at [true, false, false, false, false, false, true, false, false, true, true, false] rfl)
    (in_at [true, true, false, true, true, true, false, false, false, true, false] rfl) (in_at [true, true, false, true, true, true, false, false, false, true, true, false] rfl) (in_at [true, true, false, true, true, true, false, false, false, true, true, true] rfl) (in_at [true, true, false, true, true, true, false, false, true, false, false] rfl)
    st_w0 (in_at [true, true, false, true, true, true, false, true, false, false, false] rfl) (tb_8 (List.mem_of_getElem? (i := 231) rfl)) (in_at [true, false, false, false, false, false, false, false, true, false, true, false] rfl) st_p0
theorem st_w1 : ∀ j, j < (kwWord 1).length → Cond.eq (.elem (.field (tS 1) strT "value" "[B") (.int (Int32.ofNat j))) (.int ((kwWord 1).getD j 0)) ∈ flatC nar := fun j hj => match j, hj with
  | 0, _ => in_at [true, true, false, true, true, true, false, true, false, true, true, true] rfl
  | 1, _ => in_at [true, true, false, true, true, true, false, true, true, false, false] rfl
  | 2, _ => in_at [true, true, false, true, true, true, false, true, true, false, true, false] rfl
  | n + 3, h => absurd (show n + 3 < 3 from h) (Nat.not_lt.mpr (Nat.le_add_left 3 n))
theorem st_p1 : ∀ j, j < 15 → (1 = j ∨ Cond.not (.eq (tK 1) (tK j)) ∈ flatC nar) ∨ Cond.not (.eq (tK j) (tK 1)) ∈ flatC nar := fun j hj => match j, hj with
  | 0, _ => .inr (in_at [true, false, false, false, false, false, true, false, true, true, true, false] rfl)
  | 1, _ => .inl (.inl rfl)
  | 2, _ => .inl (.inr (in_at [true, false, false, false, false, false, true, true, false, true, true, false] rfl))
  | 3, _ => .inl (.inr (in_at [true, false, false, false, false, false, true, true, true, true, false, true] rfl))
  | 4, _ => .inl (.inr (in_at [true, false, false, false, false, true, false, false, false, true, true, false] rfl))
  | 5, _ => .inl (.inr (in_at [true, false, false, false, false, true, false, true, false, false, false] rfl))
  | 6, _ => .inl (.inr (in_at [true, false, false, false, true, false, false, true, true, false, true, false] rfl))
  | 7, _ => .inl (.inr (in_at [true, false, false, false, true, false, true, false, true, false, true, true] rfl))
  | 8, _ => .inl (.inr (in_at [true, false, false, false, true, false, true, true, true, true, true, false] rfl))
  | 9, _ => .inl (.inr (in_at [true, false, false, false, true, true, false, true, false, false, true, true] rfl))
  | 10, _ => .inl (.inr (in_at [true, false, false, false, true, true, true, false, true, false, false] rfl))
  | 11, _ => .inl (.inr (in_at [true, false, false, false, false, true, false, true, true, true, true, false] rfl))
  | 12, _ => .inl (.inr (in_at [true, false, false, false, false, true, true, false, true, false, true, true] rfl))
  | 13, _ => .inl (.inr (in_at [true, false, false, false, false, true, true, true, true, false, true, false] rfl))
  | 14, _ => .inl (.inr (in_at [true, false, false, false, true, false, false, false, true, false, false] rfl))
  | n + 15, h => absurd h (Nat.not_lt.mpr (Nat.le_add_left 15 n))
theorem st_c1 : st_chk1 1 = true := st_mk (tb_2 (List.mem_of_getElem? (i := 235) rfl)) (in_at [true, false, false, false, false, false, true, false, true, false, false] rfl) (in_at [true, false, false, false, false, false, true, false, true, true, false] rfl) (in_at [true, false, false, false, false, false, true, false, true, false, true, true] rfl)
    (in_at [true, true, false, true, true, true, false, true, false, false, true, false] rfl) (in_at [true, true, false, true, true, true, false, true, false, false, true, true] rfl) (in_at [true, true, false, true, true, true, false, true, false, true, false] rfl) (in_at [true, true, false, true, true, true, false, true, false, true, true, false] rfl)
    st_w1 (in_at [true, true, false, true, true, true, false, true, true, false, true, true] rfl) (tb_9 (List.mem_of_getElem? (i := 10) rfl)) (in_at [true, false, false, false, false, false, false, false, true, false, true, true] rfl) st_p1
theorem st_w2 : ∀ j, j < (kwWord 2).length → Cond.eq (.elem (.field (tS 2) strT "value" "[B") (.int (Int32.ofNat j))) (.int ((kwWord 2).getD j 0)) ∈ flatC nar := fun j hj => match j, hj with
  | 0, _ => in_at [true, true, false, true, true, true, true, false, false, false, false] rfl
  | 1, _ => in_at [true, true, false, true, true, true, true, false, false, false, true, false] rfl
  | 2, _ => in_at [true, true, false, true, true, true, true, false, false, false, true, true] rfl
  | 3, _ => in_at [true, true, false, true, true, true, true, false, false, true, false] rfl
  | 4, _ => in_at [true, true, false, true, true, true, true, false, false, true, true, false] rfl
  | 5, _ => in_at [true, true, false, true, true, true, true, false, false, true, true, true] rfl
  | 6, _ => in_at [true, true, false, true, true, true, true, false, true, false, false] rfl
  | n + 7, h => absurd (show n + 7 < 7 from h) (Nat.not_lt.mpr (Nat.le_add_left 7 n))
theorem st_p2 : ∀ j, j < 15 → (2 = j ∨ Cond.not (.eq (tK 2) (tK j)) ∈ flatC nar) ∨ Cond.not (.eq (tK j) (tK 2)) ∈ flatC nar := fun j hj => match j, hj with
  | 0, _ => .inr (in_at [true, false, false, false, false, false, true, true, false, true, false] rfl)
  | 1, _ => .inr (in_at [true, false, false, false, false, false, true, true, false, true, true, false] rfl)
  | 2, _ => .inl (.inl rfl)
  | 3, _ => .inl (.inr (in_at [true, false, false, false, false, false, true, true, true, true, true, false] rfl))
  | 4, _ => .inl (.inr (in_at [true, false, false, false, false, true, false, false, false, true, true, true] rfl))
  | 5, _ => .inl (.inr (in_at [true, false, false, false, false, true, false, true, false, false, true, false] rfl))
  | 6, _ => .inl (.inr (in_at [true, false, false, false, true, false, false, true, true, false, true, true] rfl))
  | 7, _ => .inl (.inr (in_at [true, false, false, false, true, false, true, false, true, true, false] rfl))
  | 8, _ => .inl (.inr (in_at [true, false, false, false, true, false, true, true, true, true, true, true] rfl))
  | 9, _ => .inl (.inr (in_at [true, false, false, false, true, true, false, true, false, true, false] rfl))
  | 10, _ => .inl (.inr (in_at [true, false, false, false, true, true, true, false, true, false, true, false] rfl))
  | 11, _ => .inl (.inr (in_at [true, false, false, false, false, true, false, true, true, true, true, true] rfl))
  | 12, _ => .inl (.inr (in_at [true, false, false, false, false, true, true, false, true, true, false] rfl))
  | 13, _ => .inl (.inr (in_at [true, false, false, false, false, true, true, true, true, false, true, true] rfl))
  | 14, _ => .inl (.inr (in_at [true, false, false, false, true, false, false, false, true, false, true, false] rfl))
  | n + 15, h => absurd h (Nat.not_lt.mpr (Nat.le_add_left 15 n))
theorem st_c2 : st_chk1 2 = true := st_mk (tb_3 (List.mem_of_getElem? (i := 37) rfl)) (in_at [true, false, false, false, false, false, true, false, true, true, true, true] rfl) (in_at [true, false, false, false, false, false, true, true, false, false, true, true] rfl) (in_at [true, false, false, false, false, false, true, true, false, false, true, false] rfl)
    (in_at [true, true, false, true, true, true, false, true, true, true, false, false] rfl) (in_at [true, true, false, true, true, true, false, true, true, true, false, true] rfl) (in_at [true, true, false, true, true, true, false, true, true, true, true, false] rfl) (in_at [true, true, false, true, true, true, false, true, true, true, true, true] rfl)
    st_w2 (in_at [true, true, false, true, true, true, true, false, true, false, true, false] rfl) (tb_9 (List.mem_of_getElem? (i := 27) rfl)) (in_at [true, false, false, false, false, false, false, false, true, true, false] rfl) st_p2
theorem st_w3 : ∀ j, j < (kwWord 3).length → Cond.eq (.elem (.field (tS 3) strT "value" "[B") (.int (Int32.ofNat j))) (.int ((kwWord 3).getD j 0)) ∈ flatC nar := fun j hj => match j, hj with
  | 0, _ => in_at [true, true, false, true, true, true, true, true, false, false, false] rfl
  | 1, _ => in_at [true, true, false, true, true, true, true, true, false, false, true, false] rfl
  | 2, _ => in_at [true, true, false, true, true, true, true, true, false, false, true, true] rfl
  | 3, _ => in_at [true, true, false, true, true, true, true, true, false, true, false] rfl
  | n + 4, h => absurd (show n + 4 < 4 from h) (Nat.not_lt.mpr (Nat.le_add_left 4 n))
theorem st_p3 : ∀ j, j < 15 → (3 = j ∨ Cond.not (.eq (tK 3) (tK j)) ∈ flatC nar) ∨ Cond.not (.eq (tK j) (tK 3)) ∈ flatC nar := fun j hj => match j, hj with
  | 0, _ => .inr (in_at [true, false, false, false, false, false, true, true, true, true, false, false] rfl)
  | 1, _ => .inr (in_at [true, false, false, false, false, false, true, true, true, true, false, true] rfl)
  | 2, _ => .inr (in_at [true, false, false, false, false, false, true, true, true, true, true, false] rfl)
  | 3, _ => .inl (.inl rfl)
  | 4, _ => .inl (.inr (in_at [true, false, false, false, false, true, false, false, true, false, false] rfl))
  | 5, _ => .inl (.inr (in_at [true, false, false, false, false, true, false, true, false, false, true, true] rfl))
  | 6, _ => .inl (.inr (in_at [true, false, false, false, true, false, false, true, true, true, false, false] rfl))
  | 7, _ => .inl (.inr (in_at [true, false, false, false, true, false, true, false, true, true, true, false] rfl))
  | 8, _ => .inl (.inr (in_at [true, false, false, false, true, true, false, false, false, false, false] rfl))
  | 9, _ => .inl (.inr (in_at [true, false, false, false, true, true, false, true, false, true, true, false] rfl))
  | 10, _ => .inl (.inr (in_at [true, false, false, false, true, true, true, false, true, false, true, true] rfl))
  | 11, _ => .inl (.inr (in_at [true, false, false, false, false, true, true, false, false, false, false] rfl))
  | 12, _ => .inl (.inr (in_at [true, false, false, false, false, true, true, false, true, true, true, false] rfl))
  | 13, _ => .inl (.inr (in_at [true, false, false, false, false, true, true, true, true, true, false, false] rfl))
  | 14, _ => .inl (.inr (in_at [true, false, false, false, true, false, false, false, true, false, true, true] rfl))
  | n + 15, h => absurd h (Nat.not_lt.mpr (Nat.le_add_left 15 n))
theorem st_c3 : st_chk1 3 = true := st_mk (tb_3 (List.mem_of_getElem? (i := 56) rfl)) (in_at [true, false, false, false, false, false, true, true, false, true, true, true] rfl) (in_at [true, false, false, false, false, false, true, true, true, false, true, true] rfl) (in_at [true, false, false, false, false, false, true, true, true, false, true, false] rfl)
    (in_at [true, true, false, true, true, true, true, false, true, false, true, true] rfl) (in_at [true, true, false, true, true, true, true, false, true, true, false] rfl) (in_at [true, true, false, true, true, true, true, false, true, true, true, false] rfl) (in_at [true, true, false, true, true, true, true, false, true, true, true, true] rfl)
    st_w3 (in_at [true, true, false, true, true, true, true, true, false, true, true, false] rfl) (tb_9 (List.mem_of_getElem? (i := 28) rfl)) (in_at [true, false, false, false, false, false, false, false, true, true, true, false] rfl) st_p3
theorem st_w4 : ∀ j, j < (kwWord 4).length → Cond.eq (.elem (.field (tS 4) strT "value" "[B") (.int (Int32.ofNat j))) (.int ((kwWord 4).getD j 0)) ∈ flatC nar := fun j hj => match j, hj with
  | 0, _ => in_at [true, true, false, true, true, true, true, true, true, true, false, false] rfl
  | 1, _ => in_at [true, true, false, true, true, true, true, true, true, true, false, true] rfl
  | 2, _ => in_at [true, true, false, true, true, true, true, true, true, true, true, false] rfl
  | 3, _ => in_at [true, true, false, true, true, true, true, true, true, true, true, true] rfl
  | 4, _ => in_at [true, true, true, false, false, false, false, false, false] rfl
  | 5, _ => in_at [true, true, true, false, false, false, false, false, true, false] rfl
  | 6, _ => in_at [true, true, true, false, false, false, false, false, true, true] rfl
  | n + 7, h => absurd (show n + 7 < 7 from h) (Nat.not_lt.mpr (Nat.le_add_left 7 n))
theorem st_p4 : ∀ j, j < 15 → (4 = j ∨ Cond.not (.eq (tK 4) (tK j)) ∈ flatC nar) ∨ Cond.not (.eq (tK j) (tK 4)) ∈ flatC nar := fun j hj => match j, hj with
  | 0, _ => .inr (in_at [true, false, false, false, false, true, false, false, false, true, false] rfl)
  | 1, _ => .inr (in_at [true, false, false, false, false, true, false, false, false, true, true, false] rfl)
  | 2, _ => .inr (in_at [true, false, false, false, false, true, false, false, false, true, true, true] rfl)
  | 3, _ => .inr (in_at [true, false, false, false, false, true, false, false, true, false, false] rfl)
  | 4, _ => .inl (.inl rfl)
  | 5, _ => .inl (.inr (in_at [true, false, false, false, false, true, false, true, false, true, false] rfl))
  | 6, _ => .inl (.inr (in_at [true, false, false, false, true, false, false, true, true, true, false, true] rfl))
  | 7, _ => .inl (.inr (in_at [true, false, false, false, true, false, true, false, true, true, true, true] rfl))
  | 8, _ => .inl (.inr (in_at [true, false, false, false, true, true, false, false, false, false, true, false] rfl))
  | 9, _ => .inl (.inr (in_at [true, false, false, false, true, true, false, true, false, true, true, true] rfl))
  | 10, _ => .inl (.inr (in_at [true, false, false, false, true, true, true, false, true, true, false] rfl))
  | 11, _ => .inl (.inr (in_at [true, false, false, false, false, true, true, false, false, false, true, false] rfl))
  | 12, _ => .inl (.inr (in_at [true, false, false, false, false, true, true, false, true, true, true, true] rfl))
  | 13, _ => .inl (.inr (in_at [true, false, false, false, false, true, true, true, true, true, false, true] rfl))
  | 14, _ => .inl (.inr (in_at [true, false, false, false, true, false, false, false, true, true, false] rfl))
  | n + 15, h => absurd h (Nat.not_lt.mpr (Nat.le_add_left 15 n))
theorem st_c4 : st_chk1 4 = true := st_mk (tb_3 (List.mem_of_getElem? (i := 79) rfl)) (in_at [true, false, false, false, false, false, true, true, true, true, true, true] rfl) (in_at [true, false, false, false, false, true, false, false, false, false, true, true] rfl) (in_at [true, false, false, false, false, true, false, false, false, false, true, false] rfl)
    (in_at [true, true, false, true, true, true, true, true, false, true, true, true] rfl) (in_at [true, true, false, true, true, true, true, true, true, false, false] rfl) (in_at [true, true, false, true, true, true, true, true, true, false, true, false] rfl) (in_at [true, true, false, true, true, true, true, true, true, false, true, true] rfl)
    st_w4 (in_at [true, true, true, false, false, false, false, true, false] rfl) (tb_9 (List.mem_of_getElem? (i := 29) rfl)) (in_at [true, false, false, false, false, false, false, false, true, true, true, true] rfl) st_p4
theorem st_w5 : ∀ j, j < (kwWord 5).length → Cond.eq (.elem (.field (tS 5) strT "value" "[B") (.int (Int32.ofNat j))) (.int ((kwWord 5).getD j 0)) ∈ flatC nar := fun j hj => match j, hj with
  | 0, _ => in_at [true, true, true, false, false, false, true, false, true, true] rfl
  | 1, _ => in_at [true, true, true, false, false, false, true, true, false] rfl
  | 2, _ => in_at [true, true, true, false, false, false, true, true, true, false] rfl
  | 3, _ => in_at [true, true, true, false, false, false, true, true, true, true] rfl
  | 4, _ => in_at [true, true, true, false, false, true, false, false, false] rfl
  | n + 5, h => absurd (show n + 5 < 5 from h) (Nat.not_lt.mpr (Nat.le_add_left 5 n))
theorem st_p5 : ∀ j, j < 15 → (5 = j ∨ Cond.not (.eq (tK 5) (tK j)) ∈ flatC nar) ∨ Cond.not (.eq (tK j) (tK 5)) ∈ flatC nar := fun j hj => match j, hj with
  | 0, _ => .inr (in_at [true, false, false, false, false, true, false, false, true, true, true, true] rfl)
  | 1, _ => .inr (in_at [true, false, false, false, false, true, false, true, false, false, false] rfl)
  | 2, _ => .inr (in_at [true, false, false, false, false, true, false, true, false, false, true, false] rfl)
  | 3, _ => .inr (in_at [true, false, false, false, false, true, false, true, false, false, true, true] rfl)
  | 4, _ => .inr (in_at [true, false, false, false, false, true, false, true, false, true, false] rfl)
  | 5, _ => .inl (.inl rfl)
  | 6, _ => .inl (.inr (in_at [true, false, false, false, true, false, false, true, true, true, true, false] rfl))
  | 7, _ => .inl (.inr (in_at [true, false, false, false, true, false, true, true, false, false, false] rfl))
  | 8, _ => .inl (.inr (in_at [true, false, false, false, true, true, false, false, false, false, true, true] rfl))
  | 9, _ => .inl (.inr (in_at [true, false, false, false, true, true, false, true, true, false, false] rfl))
  | 10, _ => .inl (.inr (in_at [true, false, false, false, true, true, true, false, true, true, true, false] rfl))
  | 11, _ => .inl (.inr (in_at [true, false, false, false, false, true, true, false, false, false, true, true] rfl))
  | 12, _ => .inl (.inr (in_at [true, false, false, false, false, true, true, true, false, false, false] rfl))
  | 13, _ => .inl (.inr (in_at [true, false, false, false, false, true, true, true, true, true, true, false] rfl))
  | 14, _ => .inl (.inr (in_at [true, false, false, false, true, false, false, false, true, true, true, false] rfl))
  | n + 15, h => absurd h (Nat.not_lt.mpr (Nat.le_add_left 15 n))
theorem st_c5 : st_chk1 5 = true := st_mk (tb_3 (List.mem_of_getElem? (i := 93) rfl)) (in_at [true, false, false, false, false, true, false, false, true, false, true, false] rfl) (in_at [true, false, false, false, false, true, false, false, true, true, true, false] rfl) (in_at [true, false, false, false, false, true, false, false, true, true, false] rfl)
    (in_at [true, true, true, false, false, false, false, true, true, false] rfl) (in_at [true, true, true, false, false, false, false, true, true, true] rfl) (in_at [true, true, true, false, false, false, true, false, false] rfl) (in_at [true, true, true, false, false, false, true, false, true, false] rfl)
    st_w5 (in_at [true, true, true, false, false, true, false, false, true, false] rfl) (tb_9 (List.mem_of_getElem? (i := 30) rfl)) (in_at [true, false, false, false, false, false, false, true, false, false, false] rfl) st_p5
theorem st_w6 : ∀ j, j < (kwWord 6).length → Cond.eq (.elem (.field (tS 6) strT "value" "[B") (.int (Int32.ofNat j))) (.int ((kwWord 6).getD j 0)) ∈ flatC nar := fun j hj => match j, hj with
  | 0, _ => in_at [true, true, true, false, true, true, true, true, true, true] rfl
  | 1, _ => in_at [true, true, true, true, false, false, false, false, false] rfl
  | 2, _ => in_at [true, true, true, true, false, false, false, false, true, false] rfl
  | 3, _ => in_at [true, true, true, true, false, false, false, false, true, true] rfl
  | n + 4, h => absurd (show n + 4 < 4 from h) (Nat.not_lt.mpr (Nat.le_add_left 4 n))
theorem st_p6 : ∀ j, j < 15 → (6 = j ∨ Cond.not (.eq (tK 6) (tK j)) ∈ flatC nar) ∨ Cond.not (.eq (tK j) (tK 6)) ∈ flatC nar := fun j hj => match j, hj with
  | 0, _ => .inr (in_at [true, false, false, false, true, false, false, true, true, false, false] rfl)
  | 1, _ => .inr (in_at [true, false, false, false, true, false, false, true, true, false, true, false] rfl)
  | 2, _ => .inr (in_at [true, false, false, false, true, false, false, true, true, false, true, true] rfl)
  | 3, _ => .inr (in_at [true, false, false, false, true, false, false, true, true, true, false, false] rfl)
  | 4, _ => .inr (in_at [true, false, false, false, true, false, false, true, true, true, false, true] rfl)
  | 5, _ => .inr (in_at [true, false, false, false, true, false, false, true, true, true, true, false] rfl)
  | 6, _ => .inl (.inl rfl)
  | 7, _ => .inl (.inr (in_at [true, false, false, false, true, false, true, true, false, true, true, true] rfl))
  | 8, _ => .inl (.inr (in_at [true, false, false, false, true, true, false, false, true, false, true, false] rfl))
  | 9, _ => .inl (.inr (in_at [true, false, false, false, true, true, false, true, true, true, true, false] rfl))
  | 10, _ => .inl (.inr (in_at [true, false, false, false, true, true, true, true, false, true, false] rfl))
  | 11, _ => .inr (in_at [true, false, false, false, true, false, false, true, true, true, true, true] rfl)
  | 12, _ => .inr (in_at [true, false, false, false, true, false, true, false, false, false, false] rfl)
  | 13, _ => .inr (in_at [true, false, false, false, true, false, true, false, false, false, true, false] rfl)
  | 14, _ => .inr (in_at [true, false, false, false, true, false, true, false, false, false, true, true] rfl)
  | n + 15, h => absurd h (Nat.not_lt.mpr (Nat.le_add_left 15 n))
theorem st_c6 : st_chk1 6 = true := st_mk (tb_10 (List.mem_of_getElem? (i := 117) rfl)) (in_at [true, false, false, false, true, false, false, true, false, false, true, true] rfl) (in_at [true, false, false, false, true, false, false, true, false, true, true, true] rfl) (in_at [true, false, false, false, true, false, false, true, false, true, true, false] rfl)
    (in_at [true, true, true, false, true, true, true, false, true, true] rfl) (in_at [true, true, true, false, true, true, true, true, false, false] rfl) (in_at [true, true, true, false, true, true, true, true, false, true] rfl) (in_at [true, true, true, false, true, true, true, true, true, false] rfl)
    st_w6 (in_at [true, true, true, true, false, false, false, true, false] rfl) (tb_9 (List.mem_of_getElem? (i := 39) rfl)) (in_at [true, false, false, false, false, false, false, true, false, false, true, false] rfl) st_p6
theorem st_w7 : ∀ j, j < (kwWord 7).length → Cond.eq (.elem (.field (tS 7) strT "value" "[B") (.int (Int32.ofNat j))) (.int ((kwWord 7).getD j 0)) ∈ flatC nar := fun j hj => match j, hj with
  | 0, _ => in_at [true, true, true, true, false, false, true, false, true, true] rfl
  | 1, _ => in_at [true, true, true, true, false, false, true, true, false] rfl
  | 2, _ => in_at [true, true, true, true, false, false, true, true, true, false] rfl
  | 3, _ => in_at [true, true, true, true, false, false, true, true, true, true] rfl
  | 4, _ => in_at [true, true, true, true, false, true, false, false, false] rfl
  | 5, _ => in_at [true, true, true, true, false, true, false, false, true, false] rfl
  | 6, _ => in_at [true, true, true, true, false, true, false, false, true, true] rfl
  | 7, _ => in_at [true, true, true, true, false, true, false, true, false] rfl
  | n + 8, h => absurd (show n + 8 < 8 from h) (Nat.not_lt.mpr (Nat.le_add_left 8 n))
theorem st_p7 : ∀ j, j < 15 → (7 = j ∨ Cond.not (.eq (tK 7) (tK j)) ∈ flatC nar) ∨ Cond.not (.eq (tK j) (tK 7)) ∈ flatC nar := fun j hj => match j, hj with
  | 0, _ => .inr (in_at [true, false, false, false, true, false, true, false, true, false, true, false] rfl)
  | 1, _ => .inr (in_at [true, false, false, false, true, false, true, false, true, false, true, true] rfl)
  | 2, _ => .inr (in_at [true, false, false, false, true, false, true, false, true, true, false] rfl)
  | 3, _ => .inr (in_at [true, false, false, false, true, false, true, false, true, true, true, false] rfl)
  | 4, _ => .inr (in_at [true, false, false, false, true, false, true, false, true, true, true, true] rfl)
  | 5, _ => .inr (in_at [true, false, false, false, true, false, true, true, false, false, false] rfl)
  | 6, _ => .inr (in_at [true, false, false, false, true, false, true, true, false, true, true, true] rfl)
  | 7, _ => .inl (.inl rfl)
  | 8, _ => .inl (.inr (in_at [true, false, false, false, true, true, false, false, true, false, true, true] rfl))
  | 9, _ => .inl (.inr (in_at [true, false, false, false, true, true, false, true, true, true, true, true] rfl))
  | 10, _ => .inl (.inr (in_at [true, false, false, false, true, true, true, true, false, true, true, false] rfl))
  | 11, _ => .inr (in_at [true, false, false, false, true, false, true, true, false, false, true, false] rfl)
  | 12, _ => .inr (in_at [true, false, false, false, true, false, true, true, false, false, true, true] rfl)
  | 13, _ => .inr (in_at [true, false, false, false, true, false, true, true, false, true, false] rfl)
  | 14, _ => .inr (in_at [true, false, false, false, true, false, true, true, false, true, true, false] rfl)
  | n + 15, h => absurd h (Nat.not_lt.mpr (Nat.le_add_left 15 n))
theorem st_c7 : st_chk1 7 = true := st_mk (tb_10 (List.mem_of_getElem? (i := 118) rfl)) (in_at [true, false, false, false, true, false, true, false, false, true, false] rfl) (in_at [true, false, false, false, true, false, true, false, true, false, false] rfl) (in_at [true, false, false, false, true, false, true, false, false, true, true, true] rfl)
    (in_at [true, true, true, true, false, false, false, true, true, false] rfl) (in_at [true, true, true, true, false, false, false, true, true, true] rfl) (in_at [true, true, true, true, false, false, true, false, false] rfl) (in_at [true, true, true, true, false, false, true, false, true, false] rfl)
    st_w7 (in_at [true, true, true, true, false, true, false, true, true, false] rfl) (tb_9 (List.mem_of_getElem? (i := 40) rfl)) (in_at [true, false, false, false, false, false, false, true, false, false, true, true] rfl) st_p7
theorem st_w8 : ∀ j, j < (kwWord 8).length → Cond.eq (.elem (.field (tS 8) strT "value" "[B") (.int (Int32.ofNat j))) (.int ((kwWord 8).getD j 0)) ∈ flatC nar := fun j hj => match j, hj with
  | 0, _ => in_at [true, true, true, true, false, true, true, true, false, false] rfl
  | 1, _ => in_at [true, true, true, true, false, true, true, true, false, true] rfl
  | 2, _ => in_at [true, true, true, true, false, true, true, true, true, false] rfl
  | 3, _ => in_at [true, true, true, true, false, true, true, true, true, true] rfl
  | 4, _ => in_at [true, true, true, true, true, false, false, false, false] rfl
  | 5, _ => in_at [true, true, true, true, true, false, false, false, true, false] rfl
  | 6, _ => in_at [true, true, true, true, true, false, false, false, true, true] rfl
  | n + 7, h => absurd (show n + 7 < 7 from h) (Nat.not_lt.mpr (Nat.le_add_left 7 n))
theorem st_p8 : ∀ j, j < 15 → (8 = j ∨ Cond.not (.eq (tK 8) (tK j)) ∈ flatC nar) ∨ Cond.not (.eq (tK j) (tK 8)) ∈ flatC nar := fun j hj => match j, hj with
  | 0, _ => .inr (in_at [true, false, false, false, true, false, true, true, true, true, false, true] rfl)
  | 1, _ => .inr (in_at [true, false, false, false, true, false, true, true, true, true, true, false] rfl)
  | 2, _ => .inr (in_at [true, false, false, false, true, false, true, true, true, true, true, true] rfl)
  | 3, _ => .inr (in_at [true, false, false, false, true, true, false, false, false, false, false] rfl)
  | 4, _ => .inr (in_at [true, false, false, false, true, true, false, false, false, false, true, false] rfl)
  | 5, _ => .inr (in_at [true, false, false, false, true, true, false, false, false, false, true, true] rfl)
  | 6, _ => .inr (in_at [true, false, false, false, true, true, false, false, true, false, true, false] rfl)
  | 7, _ => .inr (in_at [true, false, false, false, true, true, false, false, true, false, true, true] rfl)
  | 8, _ => .inl (.inl rfl)
  | 9, _ => .inl (.inr (in_at [true, false, false, false, true, true, true, false, false, false, false] rfl))
  | 10, _ => .inl (.inr (in_at [true, false, false, false, true, true, true, true, false, true, true, true] rfl))
  | 11, _ => .inr (in_at [true, false, false, false, true, true, false, false, false, true, false] rfl)
  | 12, _ => .inr (in_at [true, false, false, false, true, true, false, false, false, true, true, false] rfl)
  | 13, _ => .inr (in_at [true, false, false, false, true, true, false, false, false, true, true, true] rfl)
  | 14, _ => .inr (in_at [true, false, false, false, true, true, false, false, true, false, false] rfl)
  | n + 15, h => absurd h (Nat.not_lt.mpr (Nat.le_add_left 15 n))
theorem st_c8 : st_chk1 8 = true := st_mk (tb_10 (List.mem_of_getElem? (i := 119) rfl)) (in_at [true, false, false, false, true, false, true, true, true, false, false] rfl) (in_at [true, false, false, false, true, false, true, true, true, true, false, false] rfl) (in_at [true, false, false, false, true, false, true, true, true, false, true, true] rfl)
    (in_at [true, true, true, true, false, true, false, true, true, true] rfl) (in_at [true, true, true, true, false, true, true, false, false] rfl) (in_at [true, true, true, true, false, true, true, false, true, false] rfl) (in_at [true, true, true, true, false, true, true, false, true, true] rfl)
    st_w8 (in_at [true, true, true, true, true, false, false, true, false] rfl) (tb_9 (List.mem_of_getElem? (i := 41) rfl)) (in_at [true, false, false, false, false, false, false, true, false, true, false] rfl) st_p8
theorem st_w9 : ∀ j, j < (kwWord 9).length → Cond.eq (.elem (.field (tS 9) strT "value" "[B") (.int (Int32.ofNat j))) (.int ((kwWord 9).getD j 0)) ∈ flatC nar := fun j hj => match j, hj with
  | 0, _ => in_at [true, true, true, true, true, false, true, false, true, true] rfl
  | 1, _ => in_at [true, true, true, true, true, false, true, true, false, false] rfl
  | 2, _ => in_at [true, true, true, true, true, false, true, true, false, true] rfl
  | 3, _ => in_at [true, true, true, true, true, false, true, true, true, false] rfl
  | 4, _ => in_at [true, true, true, true, true, false, true, true, true, true] rfl
  | 5, _ => in_at [true, true, true, true, true, true, false, false, false] rfl
  | 6, _ => in_at [true, true, true, true, true, true, false, false, true, false] rfl
  | n + 7, h => absurd (show n + 7 < 7 from h) (Nat.not_lt.mpr (Nat.le_add_left 7 n))
theorem st_p9 : ∀ j, j < 15 → (9 = j ∨ Cond.not (.eq (tK 9) (tK j)) ∈ flatC nar) ∨ Cond.not (.eq (tK j) (tK 9)) ∈ flatC nar := fun j hj => match j, hj with
  | 0, _ => .inr (in_at [true, false, false, false, true, true, false, true, false, false, true, false] rfl)
  | 1, _ => .inr (in_at [true, false, false, false, true, true, false, true, false, false, true, true] rfl)
  | 2, _ => .inr (in_at [true, false, false, false, true, true, false, true, false, true, false] rfl)
  | 3, _ => .inr (in_at [true, false, false, false, true, true, false, true, false, true, true, false] rfl)
  | 4, _ => .inr (in_at [true, false, false, false, true, true, false, true, false, true, true, true] rfl)
  | 5, _ => .inr (in_at [true, false, false, false, true, true, false, true, true, false, false] rfl)
  | 6, _ => .inr (in_at [true, false, false, false, true, true, false, true, true, true, true, false] rfl)
  | 7, _ => .inr (in_at [true, false, false, false, true, true, false, true, true, true, true, true] rfl)
  | 8, _ => .inr (in_at [true, false, false, false, true, true, true, false, false, false, false] rfl)
  | 9, _ => .inl (.inl rfl)
  | 10, _ => .inl (.inr (in_at [true, false, false, false, true, true, true, true, true, false, false] rfl))
  | 11, _ => .inr (in_at [true, false, false, false, true, true, false, true, true, false, true, false] rfl)
  | 12, _ => .inr (in_at [true, false, false, false, true, true, false, true, true, false, true, true] rfl)
  | 13, _ => .inr (in_at [true, false, false, false, true, true, false, true, true, true, false, false] rfl)
  | 14, _ => .inr (in_at [true, false, false, false, true, true, false, true, true, true, false, true] rfl)
  | n + 15, h => absurd h (Nat.not_lt.mpr (Nat.le_add_left 15 n))
theorem st_c9 : st_chk1 9 = true := st_mk (tb_10 (List.mem_of_getElem? (i := 120) rfl)) (in_at [true, false, false, false, true, true, false, false, true, true, false] rfl) (in_at [true, false, false, false, true, true, false, true, false, false, false] rfl) (in_at [true, false, false, false, true, true, false, false, true, true, true, true] rfl)
    (in_at [true, true, true, true, true, false, false, true, true, false] rfl) (in_at [true, true, true, true, true, false, false, true, true, true] rfl) (in_at [true, true, true, true, true, false, true, false, false] rfl) (in_at [true, true, true, true, true, false, true, false, true, false] rfl)
    st_w9 (in_at [true, true, true, true, true, true, false, false, true, true] rfl) (tb_9 (List.mem_of_getElem? (i := 42) rfl)) (in_at [true, false, false, false, false, false, false, true, false, true, true, false] rfl) st_p9
theorem st_w10 : ∀ j, j < (kwWord 10).length → Cond.eq (.elem (.field (tS 10) strT "value" "[B") (.int (Int32.ofNat j))) (.int ((kwWord 10).getD j 0)) ∈ flatC nar := fun j hj => match j, hj with
  | 0, _ => in_at [true, true, true, true, true, true, true, false, true, false] rfl
  | 1, _ => in_at [true, true, true, true, true, true, true, false, true, true] rfl
  | 2, _ => in_at [true, true, true, true, true, true, true, true, false, false] rfl
  | 3, _ => in_at [true, true, true, true, true, true, true, true, false, true] rfl
  | 4, _ => in_at [true, true, true, true, true, true, true, true, true, false] rfl
  | n + 5, h => absurd (show n + 5 < 5 from h) (Nat.not_lt.mpr (Nat.le_add_left 5 n))
theorem st_p10 : ∀ j, j < 15 → (10 = j ∨ Cond.not (.eq (tK 10) (tK j)) ∈ flatC nar) ∨ Cond.not (.eq (tK j) (tK 10)) ∈ flatC nar := fun j hj => match j, hj with
  | 0, _ => .inr (in_at [true, false, false, false, true, true, true, false, false, true, true, true] rfl)
  | 1, _ => .inr (in_at [true, false, false, false, true, true, true, false, true, false, false] rfl)
  | 2, _ => .inr (in_at [true, false, false, false, true, true, true, false, true, false, true, false] rfl)
  | 3, _ => .inr (in_at [true, false, false, false, true, true, true, false, true, false, true, true] rfl)
  | 4, _ => .inr (in_at [true, false, false, false, true, true, true, false, true, true, false] rfl)
  | 5, _ => .inr (in_at [true, false, false, false, true, true, true, false, true, true, true, false] rfl)
  | 6, _ => .inr (in_at [true, false, false, false, true, true, true, true, false, true, false] rfl)
  | 7, _ => .inr (in_at [true, false, false, false, true, true, true, true, false, true, true, false] rfl)
  | 8, _ => .inr (in_at [true, false, false, false, true, true, true, true, false, true, true, true] rfl)
  | 9, _ => .inr (in_at [true, false, false, false, true, true, true, true, true, false, false] rfl)
  | 10, _ => .inl (.inl rfl)
  | 11, _ => .inr (in_at [true, false, false, false, true, true, true, false, true, true, true, true] rfl)
  | 12, _ => .inr (in_at [true, false, false, false, true, true, true, true, false, false, false] rfl)
  | 13, _ => .inr (in_at [true, false, false, false, true, true, true, true, false, false, true, false] rfl)
  | 14, _ => .inr (in_at [true, false, false, false, true, true, true, true, false, false, true, true] rfl)
  | n + 15, h => absurd h (Nat.not_lt.mpr (Nat.le_add_left 15 n))
theorem st_c10 : st_chk1 10 = true := st_mk (tb_10 (List.mem_of_getElem? (i := 121) rfl)) (in_at [true, false, false, false, true, true, true, false, false, false, true, false] rfl) (in_at [true, false, false, false, true, true, true, false, false, true, true, false] rfl) (in_at [true, false, false, false, true, true, true, false, false, true, false] rfl)
    (in_at [true, true, true, true, true, true, false, true, false] rfl) (in_at [true, true, true, true, true, true, false, true, true, false] rfl) (in_at [true, true, true, true, true, true, false, true, true, true] rfl) (in_at [true, true, true, true, true, true, true, false, false] rfl)
    st_w10 (in_at [true, true, true, true, true, true, true, true, true, true] rfl) (tb_9 (List.mem_of_getElem? (i := 43) rfl)) (in_at [true, false, false, false, false, false, false, true, false, true, true, true] rfl) st_p10
theorem st_w11 : ∀ j, j < (kwWord 11).length → Cond.eq (.elem (.field (tS 11) strT "value" "[B") (.int (Int32.ofNat j))) (.int ((kwWord 11).getD j 0)) ∈ flatC nar := fun j hj => match j, hj with
  | 0, _ => in_at [true, true, true, false, false, true, true, false, false] rfl
  | 1, _ => in_at [true, true, true, false, false, true, true, false, true, false] rfl
  | 2, _ => in_at [true, true, true, false, false, true, true, false, true, true] rfl
  | n + 3, h => absurd (show n + 3 < 3 from h) (Nat.not_lt.mpr (Nat.le_add_left 3 n))
theorem st_p11 : ∀ j, j < 15 → (11 = j ∨ Cond.not (.eq (tK 11) (tK j)) ∈ flatC nar) ∨ Cond.not (.eq (tK j) (tK 11)) ∈ flatC nar := fun j hj => match j, hj with
  | 0, _ => .inr (in_at [true, false, false, false, false, true, false, true, true, true, false, true] rfl)
  | 1, _ => .inr (in_at [true, false, false, false, false, true, false, true, true, true, true, false] rfl)
  | 2, _ => .inr (in_at [true, false, false, false, false, true, false, true, true, true, true, true] rfl)
  | 3, _ => .inr (in_at [true, false, false, false, false, true, true, false, false, false, false] rfl)
  | 4, _ => .inr (in_at [true, false, false, false, false, true, true, false, false, false, true, false] rfl)
  | 5, _ => .inr (in_at [true, false, false, false, false, true, true, false, false, false, true, true] rfl)
  | 6, _ => .inl (.inr (in_at [true, false, false, false, true, false, false, true, true, true, true, true] rfl))
  | 7, _ => .inl (.inr (in_at [true, false, false, false, true, false, true, true, false, false, true, false] rfl))
  | 8, _ => .inl (.inr (in_at [true, false, false, false, true, true, false, false, false, true, false] rfl))
  | 9, _ => .inl (.inr (in_at [true, false, false, false, true, true, false, true, true, false, true, false] rfl))
  | 10, _ => .inl (.inr (in_at [true, false, false, false, true, true, true, false, true, true, true, true] rfl))
  | 11, _ => .inl (.inl rfl)
  | 12, _ => .inl (.inr (in_at [true, false, false, false, false, true, true, true, false, false, true, false] rfl))
  | 13, _ => .inl (.inr (in_at [true, false, false, false, false, true, true, true, true, true, true, true] rfl))
  | 14, _ => .inl (.inr (in_at [true, false, false, false, true, false, false, false, true, true, true, true] rfl))
  | n + 15, h => absurd h (Nat.not_lt.mpr (Nat.le_add_left 15 n))
theorem st_c11 : st_chk1 11 = true := st_mk (tb_5 (List.mem_of_getElem? (i := 211) rfl)) (in_at [true, false, false, false, false, true, false, true, true, false, false] rfl) (in_at [true, false, false, false, false, true, false, true, true, true, false, false] rfl) (in_at [true, false, false, false, false, true, false, true, true, false, true, true] rfl)
    (in_at [true, true, true, false, false, true, false, false, true, true] rfl) (in_at [true, true, true, false, false, true, false, true, false] rfl) (in_at [true, true, true, false, false, true, false, true, true, false] rfl) (in_at [true, true, true, false, false, true, false, true, true, true] rfl)
    st_w11 (in_at [true, true, true, false, false, true, true, true, false, false] rfl) (tb_9 (List.mem_of_getElem? (i := 31) rfl)) (in_at [true, false, false, false, false, false, false, true, true, false, false] rfl) st_p11
theorem st_w12 : ∀ j, j < (kwWord 12).length → Cond.eq (.elem (.field (tS 12) strT "value" "[B") (.int (Int32.ofNat j))) (.int ((kwWord 12).getD j 0)) ∈ flatC nar := fun j hj => match j, hj with
  | 0, _ => in_at [true, true, true, false, true, false, false, false, true, false] rfl
  | 1, _ => in_at [true, true, true, false, true, false, false, false, true, true] rfl
  | 2, _ => in_at [true, true, true, false, true, false, false, true, false] rfl
  | n + 3, h => absurd (show n + 3 < 3 from h) (Nat.not_lt.mpr (Nat.le_add_left 3 n))
theorem st_p12 : ∀ j, j < 15 → (12 = j ∨ Cond.not (.eq (tK 12) (tK j)) ∈ flatC nar) ∨ Cond.not (.eq (tK j) (tK 12)) ∈ flatC nar := fun j hj => match j, hj with
  | 0, _ => .inr (in_at [true, false, false, false, false, true, true, false, true, false, true, false] rfl)
  | 1, _ => .inr (in_at [true, false, false, false, false, true, true, false, true, false, true, true] rfl)
  | 2, _ => .inr (in_at [true, false, false, false, false, true, true, false, true, true, false] rfl)
  | 3, _ => .inr (in_at [true, false, false, false, false, true, true, false, true, true, true, false] rfl)
  | 4, _ => .inr (in_at [true, false, false, false, false, true, true, false, true, true, true, true] rfl)
  | 5, _ => .inr (in_at [true, false, false, false, false, true, true, true, false, false, false] rfl)
  | 6, _ => .inl (.inr (in_at [true, false, false, false, true, false, true, false, false, false, false] rfl))
  | 7, _ => .inl (.inr (in_at [true, false, false, false, true, false, true, true, false, false, true, true] rfl))
  | 8, _ => .inl (.inr (in_at [true, false, false, false, true, true, false, false, false, true, true, false] rfl))
  | 9, _ => .inl (.inr (in_at [true, false, false, false, true, true, false, true, true, false, true, true] rfl))
  | 10, _ => .inl (.inr (in_at [true, false, false, false, true, true, true, true, false, false, false] rfl))
  | 11, _ => .inr (in_at [true, false, false, false, false, true, true, true, false, false, true, false] rfl)
  | 12, _ => .inl (.inl rfl)
  | 13, _ => .inl (.inr (in_at [true, false, false, false, true, false, false, false, false, false, false] rfl))
  | 14, _ => .inl (.inr (in_at [true, false, false, false, true, false, false, true, false, false, false] rfl))
  | n + 15, h => absurd h (Nat.not_lt.mpr (Nat.le_add_left 15 n))
theorem st_c12 : st_chk1 12 = true := st_mk (tb_5 (List.mem_of_getElem? (i := 230) rfl)) (in_at [true, false, false, false, false, true, true, false, false, true, false] rfl) (in_at [true, false, false, false, false, true, true, false, true, false, false] rfl) (in_at [true, false, false, false, false, true, true, false, false, true, true, true] rfl)
    (in_at [true, true, true, false, false, true, true, true, false, true] rfl) (in_at [true, true, true, false, false, true, true, true, true, false] rfl) (in_at [true, true, true, false, false, true, true, true, true, true] rfl) (in_at [true, true, true, false, true, false, false, false, false] rfl)
    st_w12 (in_at [true, true, true, false, true, false, false, true, true, false] rfl) (tb_9 (List.mem_of_getElem? (i := 32) rfl)) (in_at [true, false, false, false, false, false, false, true, true, false, true, false] rfl) st_p12
theorem st_w13 : ∀ j, j < (kwWord 13).length → Cond.eq (.elem (.field (tS 13) strT "value" "[B") (.int (Int32.ofNat j))) (.int ((kwWord 13).getD j 0)) ∈ flatC nar := fun j hj => match j, hj with
  | 0, _ => in_at [true, true, true, false, true, false, true, true, false] rfl
  | 1, _ => in_at [true, true, true, false, true, false, true, true, true, false] rfl
  | 2, _ => in_at [true, true, true, false, true, false, true, true, true, true] rfl
  | n + 3, h => absurd (show n + 3 < 3 from h) (Nat.not_lt.mpr (Nat.le_add_left 3 n))
theorem st_p13 : ∀ j, j < 15 → (13 = j ∨ Cond.not (.eq (tK 13) (tK j)) ∈ flatC nar) ∨ Cond.not (.eq (tK j) (tK 13)) ∈ flatC nar := fun j hj => match j, hj with
  | 0, _ => .inr (in_at [true, false, false, false, false, true, true, true, true, false, false] rfl)
  | 1, _ => .inr (in_at [true, false, false, false, false, true, true, true, true, false, true, false] rfl)
  | 2, _ => .inr (in_at [true, false, false, false, false, true, true, true, true, false, true, true] rfl)
  | 3, _ => .inr (in_at [true, false, false, false, false, true, true, true, true, true, false, false] rfl)
  | 4, _ => .inr (in_at [true, false, false, false, false, true, true, true, true, true, false, true] rfl)
  | 5, _ => .inr (in_at [true, false, false, false, false, true, true, true, true, true, true, false] rfl)
  | 6, _ => .inl (.inr (in_at [true, false, false, false, true, false, true, false, false, false, true, false] rfl))
  | 7, _ => .inl (.inr (in_at [true, false, false, false, true, false, true, true, false, true, false] rfl))
  | 8, _ => .inl (.inr (in_at [true, false, false, false, true, true, false, false, false, true, true, true] rfl))
  | 9, _ => .inl (.inr (in_at [true, false, false, false, true, true, false, true, true, true, false, false] rfl))
  | 10, _ => .inl (.inr (in_at [true, false, false, false, true, true, true, true, false, false, true, false] rfl))
  | 11, _ => .inr (in_at [true, false, false, false, false, true, true, true, true, true, true, true] rfl)
  | 12, _ => .inr (in_at [true, false, false, false, true, false, false, false, false, false, false] rfl)
  | 13, _ => .inl (.inl rfl)
  | 14, _ => .inl (.inr (in_at [true, false, false, false, true, false, false, true, false, false, true, false] rfl))
  | n + 15, h => absurd h (Nat.not_lt.mpr (Nat.le_add_left 15 n))
theorem st_c13 : st_chk1 13 = true := st_mk (tb_5 (List.mem_of_getElem? (i := 232) rfl)) (in_at [true, false, false, false, false, true, true, true, false, false, true, true] rfl) (in_at [true, false, false, false, false, true, true, true, false, true, true, true] rfl) (in_at [true, false, false, false, false, true, true, true, false, true, true, false] rfl)
    (in_at [true, true, true, false, true, false, false, true, true, true] rfl) (in_at [true, true, true, false, true, false, true, false, false] rfl) (in_at [true, true, true, false, true, false, true, false, true, false] rfl) (in_at [true, true, true, false, true, false, true, false, true, true] rfl)
    st_w13 (in_at [true, true, true, false, true, true, false, false, false] rfl) (tb_9 (List.mem_of_getElem? (i := 33) rfl)) (in_at [true, false, false, false, false, false, false, true, true, false, true, true] rfl) st_p13
theorem st_w14 : ∀ j, j < (kwWord 14).length → Cond.eq (.elem (.field (tS 14) strT "value" "[B") (.int (Int32.ofNat j))) (.int ((kwWord 14).getD j 0)) ∈ flatC nar := fun j hj => match j, hj with
  | 0, _ => in_at [true, true, true, false, true, true, false, true, true, true] rfl
  | 1, _ => in_at [true, true, true, false, true, true, true, false, false] rfl
  | n + 2, h => absurd (show n + 2 < 2 from h) (Nat.not_lt.mpr (Nat.le_add_left 2 n))
theorem st_p14 : ∀ j, j < 15 → (14 = j ∨ Cond.not (.eq (tK 14) (tK j)) ∈ flatC nar) ∨ Cond.not (.eq (tK j) (tK 14)) ∈ flatC nar := fun j hj => match j, hj with
  | 0, _ => .inr (in_at [true, false, false, false, true, false, false, false, false, true, true, true] rfl)
  | 1, _ => .inr (in_at [true, false, false, false, true, false, false, false, true, false, false] rfl)
  | 2, _ => .inr (in_at [true, false, false, false, true, false, false, false, true, false, true, false] rfl)
  | 3, _ => .inr (in_at [true, false, false, false, true, false, false, false, true, false, true, true] rfl)
  | 4, _ => .inr (in_at [true, false, false, false, true, false, false, false, true, true, false] rfl)
  | 5, _ => .inr (in_at [true, false, false, false, true, false, false, false, true, true, true, false] rfl)
  | 6, _ => .inl (.inr (in_at [true, false, false, false, true, false, true, false, false, false, true, true] rfl))
  | 7, _ => .inl (.inr (in_at [true, false, false, false, true, false, true, true, false, true, true, false] rfl))
  | 8, _ => .inl (.inr (in_at [true, false, false, false, true, true, false, false, true, false, false] rfl))
  | 9, _ => .inl (.inr (in_at [true, false, false, false, true, true, false, true, true, true, false, true] rfl))
  | 10, _ => .inl (.inr (in_at [true, false, false, false, true, true, true, true, false, false, true, true] rfl))
  | 11, _ => .inr (in_at [true, false, false, false, true, false, false, false, true, true, true, true] rfl)
  | 12, _ => .inr (in_at [true, false, false, false, true, false, false, true, false, false, false] rfl)
  | 13, _ => .inr (in_at [true, false, false, false, true, false, false, true, false, false, true, false] rfl)
  | 14, _ => .inl (.inl rfl)
  | n + 15, h => absurd h (Nat.not_lt.mpr (Nat.le_add_left 15 n))
theorem st_c14 : st_chk1 14 = true := st_mk (tb_6 (List.mem_of_getElem? (i := 7) rfl)) (in_at [true, false, false, false, true, false, false, false, false, false, true, false] rfl) (in_at [true, false, false, false, true, false, false, false, false, true, true, false] rfl) (in_at [true, false, false, false, true, false, false, false, false, true, false] rfl)
    (in_at [true, true, true, false, true, true, false, false, true, false] rfl) (in_at [true, true, true, false, true, true, false, false, true, true] rfl) (in_at [true, true, true, false, true, true, false, true, false] rfl) (in_at [true, true, true, false, true, true, false, true, true, false] rfl)
    st_w14 (in_at [true, true, true, false, true, true, true, false, true, false] rfl) (tb_9 (List.mem_of_getElem? (i := 34) rfl)) (in_at [true, false, false, false, false, false, false, true, true, true, false, false] rfl) st_p14
