/-! PURE: the reference's cells, 12 from m on -/
abbrev Rs : Type := (Nat → Int32) × Bool × (Nat → Nat → Int64) × (Nat → Nat → Int32)
def rsS (R : Rs) (k : Nat) (v : Int32) : Rs := (va_up R.1 k v, R.2)
def rsJ (R : Rs) (a : Nat) (f : Nat → Int64) : Rs := (R.1, R.2.1, va_up R.2.2.1 a f, R.2.2.2)
def robj (m : Nat) (R : Rs) : List Value := [.int (R.1 0), .ref (m + 1), .ref (m + 2), .ref (if R.2.1 = true then m + 2 else m + 1), .ref (m + 3), .int (R.1 5), .ref (m + 4), .ref (m + 5), .int (R.1 8), .int (R.1 9), .int (R.1 10), .int (R.1 11), .int (R.1 12), .int (R.1 13), .int (R.1 14), .int (R.1 15), .int (R.1 16), .int (R.1 17), .ref (m + 6), .ref (m + 7), .int (R.1 20), .int (R.1 21), .ref (m + 8), .ref (m + 9), .ref (m + 10), .int (R.1 25), .ref (m + 11), .int (R.1 27)]
def cell (m : Nat) (R : Rs) : Nat → PC
  | 0 => .inr (11, robj m R)
  | 1 => .inl (1, (806, .inr (.inl (R.2.2.1 1))))
  | 2 => .inl (1, (806, .inr (.inl (R.2.2.1 2))))
  | 3 => .inl (0, (4000, .inl (R.2.2.2 3)))
  | 4 => .inl (0, (60, .inl (R.2.2.2 4)))
  | 5 => .inl (2, (700, .inl (R.2.2.2 5)))
  | 6 => .inl (0, (4, .inl (R.2.2.2 6)))
  | 7 => .inl (3, (4, .inl (R.2.2.2 7)))
  | 8 => .inl (1, (1612, .inr (.inl (R.2.2.1 8))))
  | 9 => .inl (3, (2, .inl (R.2.2.2 9)))
  | 10 => .inl (1, (4836, .inr (.inl (R.2.2.1 10))))
  | _ => .inl (2, (12000, .inl (R.2.2.2 11)))
def ov (M : Mem) (m : Nat) (R : Rs) : Mem := (fun q => if m ≤ q ∧ q < m + 12 then some (cell m R (q - m)) else M.1 q, M.2)
theorem ov_at (M : Mem) (m : Nat) (R : Rs) {i : Nat} (h : i < 12) : (ov M m R).1 (m + i) = some (cell m R i) := by
  show (if m ≤ m + i ∧ m + i < m + 12 then some (cell m R (m + i - m)) else M.1 (m + i)) = _
  rw [if_pos ⟨by omega, by omega⟩, Nat.add_sub_cancel_left]
theorem ov_set (M : Mem) (m : Nat) (R R' : Rs) {i : Nat} (hi : i < 12) (h : ∀ j, j ≠ i → cell m R j = cell m R' j) : mset (ov M m R) (m + i) (cell m R' i) = ov M m R' := by
  refine Prod.ext (funext fun q => ?_) rfl
  show (if q = m + i then some (cell m R' i) else if m ≤ q ∧ q < m + 12 then some (cell m R (q - m)) else M.1 q) = if m ≤ q ∧ q < m + 12 then some (cell m R' (q - m)) else M.1 q
  by_cases e : q = m + i
  · rw [if_pos e, if_pos ⟨by omega, by omega⟩, e, Nat.add_sub_cancel_left]
  · rw [if_neg e]
    by_cases e2 : m ≤ q ∧ q < m + 12
    · rw [if_pos e2, if_pos e2, h (q - m) (by omega)]
    · rw [if_neg e2, if_neg e2]
/-- the reference lies at m -/
def rA (M : Mem) (m : Nat) (R : Rs) : Prop := ov M m R = M
theorem rA.of {M : Mem} {m : Nat} {R : Rs} (h : ∀ i, i < 12 → M.1 (m + i) = some (cell m R i)) : rA M m R := by
  refine Prod.ext (funext fun q => ?_) rfl
  show (if m ≤ q ∧ q < m + 12 then some (cell m R (q - m)) else M.1 q) = M.1 q
  by_cases e : m ≤ q ∧ q < m + 12
  · rw [if_pos e, ← h (q - m) (by omega), show m + (q - m) = q by omega]
  · rw [if_neg e]
theorem rA.at {M : Mem} {m : Nat} {R : Rs} (h : rA M m R) {i : Nat} (hi : i < 12) : M.1 (m + i) = some (cell m R i) := by
  rw [← ov_at M m R hi, h]
theorem rA.sm {M M' : Mem} {m : Nat} {R : Rs} (h : rA M m R) (s : same M M' m 12) : rA M' m R := rA.of fun i hi => (s (m + i) (by omega) (by omega)).trans (h.at hi)
def rowN (R : Rs) : Nat := if R.2.1 = true then 2 else 1
def rowf (R : Rs) : Nat → Int64 := R.2.2.1 (rowN R)
def rsR (R : Rs) (f : Nat → Int64) : Rs := rsJ R (rowN R) f
section
variable (M : Mem) (m : Nat) (R : Rs)
theorem r_s1 {k : Nat} (hk : k < 806) (v : Int64) : sJ (ov M m R) 1 (m + 1) (nI k) v = some (ov M m (rsJ R 1 (vp_updL (R.2.2.1 1) k v))) := by
  rw [sJ_h (ov_at M m R (i := 1) (by omega)) (inR_n hk (by omega)), nI_clamp (by omega)]
  exact congrArg some (ov_set M m R (rsJ R 1 (vp_updL (R.2.2.1 1) k v)) (i := 1) (by omega) (fun j hj => by
    match j, hj with
    | 0, _ => rfl
    | 1, hj => exact absurd rfl hj
    | 2, _ => rfl
    | 3, _ => rfl
    | 4, _ => rfl
    | 5, _ => rfl
    | 6, _ => rfl
    | 7, _ => rfl
    | 8, _ => rfl
    | 9, _ => rfl
    | 10, _ => rfl
    | j + 11, _ => rfl))
theorem r_s2 {k : Nat} (hk : k < 806) (v : Int64) : sJ (ov M m R) 1 (m + 2) (nI k) v = some (ov M m (rsJ R 2 (vp_updL (R.2.2.1 2) k v))) := by
  rw [sJ_h (ov_at M m R (i := 2) (by omega)) (inR_n hk (by omega)), nI_clamp (by omega)]
  exact congrArg some (ov_set M m R (rsJ R 2 (vp_updL (R.2.2.1 2) k v)) (i := 2) (by omega) (fun j hj => by
    match j, hj with
    | 0, _ => rfl
    | 1, _ => rfl
    | 2, hj => exact absurd rfl hj
    | 3, _ => rfl
    | 4, _ => rfl
    | 5, _ => rfl
    | 6, _ => rfl
    | 7, _ => rfl
    | 8, _ => rfl
    | 9, _ => rfl
    | 10, _ => rfl
    | j + 11, _ => rfl))
theorem r_srow {k : Nat} (hk : k < 806) (v : Int64) : sJ (ov M m R) 1 (m + rowN R) (nI k) v = some (ov M m (rsR R (vp_updL (rowf R) k v))) := by
  unfold rsR rowf rowN
  split
  · exact r_s2 M m R hk v
  · exact r_s1 M m R hk v
end