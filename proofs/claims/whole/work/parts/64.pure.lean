/-! PURE: the reference's cells, 12 from m on -/
abbrev Rs : Type := (Nat → Int32) × Bool × (Nat → Nat → Int64) × (Nat → Nat → Int32)
def rsS (R : Rs) (k : Nat) (v : Int32) : Rs := (va_up R.1 k v, R.2)
def rsW (R : Rs) (w : Bool) : Rs := (R.1, w, R.2.2)
def rsJ (R : Rs) (a : Nat) (f : Nat → Int64) : Rs := (R.1, R.2.1, va_up R.2.2.1 a f, R.2.2.2)
def rsI (R : Rs) (a : Nat) (f : Nat → Int32) : Rs := (R.1, R.2.1, R.2.2.1, va_up R.2.2.2 a f)
def robj (m : Nat) (R : Rs) : List Value := [.int (R.1 0), .ref (m + 1), .ref (m + 2), .ref (if R.2.1 = true then m + 2 else m + 1), .ref (m + 3), .int (R.1 5), .ref (m + 4), .ref (m + 5), .int (R.1 8), .int (R.1 9), .int (R.1 10), .int (R.1 11), .int (R.1 12), .int (R.1 13), .int (R.1 14), .int (R.1 15), .int (R.1 16), .int (R.1 17), .ref (m + 6), .ref (m + 7), .int (R.1 20), .int (R.1 21), .ref (m + 8), .ref (m + 9), .ref (m + 10), .int (R.1 25), .ref (m + 11), .int (R.1 27)]
def cell (m : Nat) (R : Rs) : Nat → PC
  | 0 => .inr (11, robj m R)
  | 1 => .inl (1, (806, .inr (.inl (R.2.2.1 1))))
  | 2 => .inl (1, (806, .inr (.inl (R.2.2.1 2))))
  | 3 => .inl (0, (4000, .inl (R.2.2.2 3)))
  | 4 => .inl (0, (60, .inl (R.2.2.2 4)))
  | 5 => .inl (2, (700, .inl (R.2.2.2 5)))
  | 6 => .inl (0, (4, .inl (R.2.2.2 6)))
  | 7 => .inl (3, (4, .inl (R.2.2.2 7)))
  | 8 => .inl (1, (1612, .inr (.inl (R.2.2.1 8))))
  | 9 => .inl (3, (2, .inl (R.2.2.2 9)))
  | 10 => .inl (1, (4836, .inr (.inl (R.2.2.1 10))))
  | _ => .inl (2, (12000, .inl (R.2.2.2 11)))
def ov (M : Mem) (m : Nat) (R : Rs) : Mem := (fun q => if m ≤ q ∧ q < m + 12 then some (cell m R (q - m)) else M.1 q, M.2)
theorem ov_at (M : Mem) (m : Nat) (R : Rs) {i : Nat} (h : i < 12) : (ov M m R).1 (m + i) = some (cell m R i) := by
  show (if m ≤ m + i ∧ m + i < m + 12 then some (cell m R (m + i - m)) else M.1 (m + i)) = _
  rw [if_pos ⟨by omega, by omega⟩, Nat.add_sub_cancel_left]
theorem ov_0 (M : Mem) (m : Nat) (R : Rs) : (ov M m R).1 m = some (.inr (11, robj m R)) := ov_at M m R (i := 0) (by omega)
theorem ov_set (M : Mem) (m : Nat) (R R' : Rs) {i : Nat} (hi : i < 12) (h : ∀ j, j ≠ i → cell m R j = cell m R' j) : mset (ov M m R) (m + i) (cell m R' i) = ov M m R' := by
  refine Prod.ext (funext fun q => ?_) rfl
  show (if q = m + i then some (cell m R' i) else if m ≤ q ∧ q < m + 12 then some (cell m R (q - m)) else M.1 q) = if m ≤ q ∧ q < m + 12 then some (cell m R' (q - m)) else M.1 q
  by_cases e : q = m + i
  · rw [if_pos e, if_pos ⟨by omega, by omega⟩, e, Nat.add_sub_cancel_left]
  · rw [if_neg e]
    by_cases e2 : m ≤ q ∧ q < m + 12
    · rw [if_pos e2, if_pos e2, h (q - m) (by omega)]
    · rw [if_neg e2, if_neg e2]
theorem ov_ov (M : Mem) (m : Nat) (R R' : Rs) : ov (ov M m R) m R' = ov M m R' := by
  refine Prod.ext (funext fun q => ?_) rfl
  show (if m ≤ q ∧ q < m + 12 then some (cell m R' (q - m)) else (if m ≤ q ∧ q < m + 12 then some (cell m R (q - m)) else M.1 q)) = if m ≤ q ∧ q < m + 12 then some (cell m R' (q - m)) else M.1 q
  split <;> rfl
theorem ov_off (M : Mem) (m : Nat) (R R' : Rs) : off (ov M m R) (ov M m R') m 12 := by
  refine ⟨rfl, fun q hq => ?_⟩
  show (if m ≤ q ∧ q < m + 12 then some (cell m R' (q - m)) else M.1 q) = if m ≤ q ∧ q < m + 12 then some (cell m R (q - m)) else M.1 q
  rw [if_neg (by omega), if_neg (by omega)]
/-- the reference lies at m -/
def rA (M : Mem) (m : Nat) (R : Rs) : Prop := ov M m R = M
theorem rA.of {M : Mem} {m : Nat} {R : Rs} (h : ∀ i, i < 12 → M.1 (m + i) = some (cell m R i)) : rA M m R := by
  refine Prod.ext (funext fun q => ?_) rfl
  show (if m ≤ q ∧ q < m + 12 then some (cell m R (q - m)) else M.1 q) = M.1 q
  by_cases e : m ≤ q ∧ q < m + 12
  · rw [if_pos e, ← h (q - m) (by omega), show m + (q - m) = q by omega]
  · rw [if_neg e]
theorem rA.at {M : Mem} {m : Nat} {R : Rs} (h : rA M m R) {i : Nat} (hi : i < 12) : M.1 (m + i) = some (cell m R i) := by
  rw [← ov_at M m R hi, h]
theorem rA.sm {M M' : Mem} {m : Nat} {R : Rs} (h : rA M m R) (s : same M M' m 12) : rA M' m R := rA.of fun i hi => (s (m + i) (by omega) (by omega)).trans (h.at hi)
theorem rA.ov (M : Mem) (m : Nat) (R : Rs) : rA (ov M m R) m R := ov_ov M m R R
theorem cell_S (m : Nat) (R : Rs) (k : Nat) (v : Int32) {j : Nat} (h : j ≠ 0) : cell m R j = cell m (rsS R k v) j := by
  match j, h with
  | 0, h => exact absurd rfl h
  | 1, _ | 2, _ | 3, _ | 4, _ | 5, _ | 6, _ | 7, _ | 8, _ | 9, _ | 10, _ => rfl
  | j + 11, _ => rfl
theorem cell_W (m : Nat) (R : Rs) (w : Bool) {j : Nat} (h : j ≠ 0) : cell m R j = cell m (rsW R w) j := by
  match j, h with
  | 0, h => exact absurd rfl h
  | 1, _ | 2, _ | 3, _ | 4, _ | 5, _ | 6, _ | 7, _ | 8, _ | 9, _ | 10, _ => rfl
  | j + 11, _ => rfl
def rowN (R : Rs) : Nat := if R.2.1 = true then 2 else 1
def rowf (R : Rs) : Nat → Int64 := R.2.2.1 (rowN R)
def rsR (R : Rs) (f : Nat → Int64) : Rs := rsJ R (rowN R) f
section
variable (M : Mem) (m : Nat) (R : Rs)
theorem ov_ob {τ : Type} (x : Option τ) : ob (ov M m R) 11 m x = x := ob_h (ov_0 M m R) x
theorem r_g0 : gI (ov M m R) 11 0 m = some (R.1 0) := by rw [gI_h (ov_0 M m R)]; rfl
theorem r_p0 (v : Int32) : pV (ov M m R) 11 0 m (.int v) = some (ov M m (rsS R 0 v)) := by
  rw [pV_h (ov_0 M m R) (Nat.le_of_ble_eq_true rfl)]
  exact congrArg some (ov_set M m R (rsS R 0 v) (i := 0) (by decide) (fun j hj => cell_S m R 0 v hj))
theorem r_g1 : gR (ov M m R) 11 1 m = some (m + 1) := by rw [gR_h (ov_0 M m R)]; rfl
theorem r_g2 : gR (ov M m R) 11 2 m = some (m + 2) := by rw [gR_h (ov_0 M m R)]; rfl
theorem r_g3 : gR (ov M m R) 11 3 m = some (m + rowN R) := by
  rw [gR_h (ov_0 M m R), rowN]
  show some (if R.2.1 = true then m + 2 else m + 1) = _
  split <;> rfl
theorem r_g4 : gR (ov M m R) 11 4 m = some (m + 3) := by rw [gR_h (ov_0 M m R)]; rfl
theorem r_g5 : gI (ov M m R) 11 5 m = some (R.1 5) := by rw [gI_h (ov_0 M m R)]; rfl
theorem r_p5 (v : Int32) : pV (ov M m R) 11 5 m (.int v) = some (ov M m (rsS R 5 v)) := by
  rw [pV_h (ov_0 M m R) (Nat.le_of_ble_eq_true rfl)]
  exact congrArg some (ov_set M m R (rsS R 5 v) (i := 0) (by decide) (fun j hj => cell_S m R 5 v hj))
theorem r_g6 : gR (ov M m R) 11 6 m = some (m + 4) := by rw [gR_h (ov_0 M m R)]; rfl
theorem r_g7 : gR (ov M m R) 11 7 m = some (m + 5) := by rw [gR_h (ov_0 M m R)]; rfl
theorem r_g8 : gI (ov M m R) 11 8 m = some (R.1 8) := by rw [gI_h (ov_0 M m R)]; rfl
theorem r_p8 (v : Int32) : pV (ov M m R) 11 8 m (.int v) = some (ov M m (rsS R 8 v)) := by
  rw [pV_h (ov_0 M m R) (Nat.le_of_ble_eq_true rfl)]
  exact congrArg some (ov_set M m R (rsS R 8 v) (i := 0) (by decide) (fun j hj => cell_S m R 8 v hj))
theorem r_g9 : gI (ov M m R) 11 9 m = some (R.1 9) := by rw [gI_h (ov_0 M m R)]; rfl
theorem r_p9 (v : Int32) : pV (ov M m R) 11 9 m (.int v) = some (ov M m (rsS R 9 v)) := by
  rw [pV_h (ov_0 M m R) (Nat.le_of_ble_eq_true rfl)]
  exact congrArg some (ov_set M m R (rsS R 9 v) (i := 0) (by decide) (fun j hj => cell_S m R 9 v hj))
theorem r_g10 : gI (ov M m R) 11 10 m = some (R.1 10) := by rw [gI_h (ov_0 M m R)]; rfl
theorem r_p10 (v : Int32) : pV (ov M m R) 11 10 m (.int v) = some (ov M m (rsS R 10 v)) := by
  rw [pV_h (ov_0 M m R) (Nat.le_of_ble_eq_true rfl)]
  exact congrArg some (ov_set M m R (rsS R 10 v) (i := 0) (by decide) (fun j hj => cell_S m R 10 v hj))
theorem r_g11 : gI (ov M m R) 11 11 m = some (R.1 11) := by rw [gI_h (ov_0 M m R)]; rfl
theorem r_p11 (v : Int32) : pV (ov M m R) 11 11 m (.int v) = some (ov M m (rsS R 11 v)) := by
  rw [pV_h (ov_0 M m R) (Nat.le_of_ble_eq_true rfl)]
  exact congrArg some (ov_set M m R (rsS R 11 v) (i := 0) (by decide) (fun j hj => cell_S m R 11 v hj))
theorem r_g12 : gI (ov M m R) 11 12 m = some (R.1 12) := by rw [gI_h (ov_0 M m R)]; rfl
theorem r_p12 (v : Int32) : pV (ov M m R) 11 12 m (.int v) = some (ov M m (rsS R 12 v)) := by
  rw [pV_h (ov_0 M m R) (Nat.le_of_ble_eq_true rfl)]
  exact congrArg some (ov_set M m R (rsS R 12 v) (i := 0) (by decide) (fun j hj => cell_S m R 12 v hj))
theorem r_g13 : gI (ov M m R) 11 13 m = some (R.1 13) := by rw [gI_h (ov_0 M m R)]; rfl
theorem r_p13 (v : Int32) : pV (ov M m R) 11 13 m (.int v) = some (ov M m (rsS R 13 v)) := by
  rw [pV_h (ov_0 M m R) (Nat.le_of_ble_eq_true rfl)]
  exact congrArg some (ov_set M m R (rsS R 13 v) (i := 0) (by decide) (fun j hj => cell_S m R 13 v hj))
theorem r_g14 : gI (ov M m R) 11 14 m = some (R.1 14) := by rw [gI_h (ov_0 M m R)]; rfl
theorem r_p14 (v : Int32) : pV (ov M m R) 11 14 m (.int v) = some (ov M m (rsS R 14 v)) := by
  rw [pV_h (ov_0 M m R) (Nat.le_of_ble_eq_true rfl)]
  exact congrArg some (ov_set M m R (rsS R 14 v) (i := 0) (by decide) (fun j hj => cell_S m R 14 v hj))
theorem r_g15 : gI (ov M m R) 11 15 m = some (R.1 15) := by rw [gI_h (ov_0 M m R)]; rfl
theorem r_p15 (v : Int32) : pV (ov M m R) 11 15 m (.int v) = some (ov M m (rsS R 15 v)) := by
  rw [pV_h (ov_0 M m R) (Nat.le_of_ble_eq_true rfl)]
  exact congrArg some (ov_set M m R (rsS R 15 v) (i := 0) (by decide) (fun j hj => cell_S m R 15 v hj))
theorem r_g16 : gZ (ov M m R) 11 16 m = vZ (.int (R.1 16)) := by rw [gZ_h (ov_0 M m R)]; rfl
theorem r_p16 (v : Int32) : pV (ov M m R) 11 16 m (.int v) = some (ov M m (rsS R 16 v)) := by
  rw [pV_h (ov_0 M m R) (Nat.le_of_ble_eq_true rfl)]
  exact congrArg some (ov_set M m R (rsS R 16 v) (i := 0) (by decide) (fun j hj => cell_S m R 16 v hj))
theorem r_g17 : gI (ov M m R) 11 17 m = some (R.1 17) := by rw [gI_h (ov_0 M m R)]; rfl
theorem r_p17 (v : Int32) : pV (ov M m R) 11 17 m (.int v) = some (ov M m (rsS R 17 v)) := by
  rw [pV_h (ov_0 M m R) (Nat.le_of_ble_eq_true rfl)]
  exact congrArg some (ov_set M m R (rsS R 17 v) (i := 0) (by decide) (fun j hj => cell_S m R 17 v hj))
theorem r_g18 : gR (ov M m R) 11 18 m = some (m + 6) := by rw [gR_h (ov_0 M m R)]; rfl
theorem r_g19 : gR (ov M m R) 11 19 m = some (m + 7) := by rw [gR_h (ov_0 M m R)]; rfl
theorem r_g20 : gI (ov M m R) 11 20 m = some (R.1 20) := by rw [gI_h (ov_0 M m R)]; rfl
theorem r_p20 (v : Int32) : pV (ov M m R) 11 20 m (.int v) = some (ov M m (rsS R 20 v)) := by
  rw [pV_h (ov_0 M m R) (Nat.le_of_ble_eq_true rfl)]
  exact congrArg some (ov_set M m R (rsS R 20 v) (i := 0) (by decide) (fun j hj => cell_S m R 20 v hj))
theorem r_g21 : gI (ov M m R) 11 21 m = some (R.1 21) := by rw [gI_h (ov_0 M m R)]; rfl
theorem r_p21 (v : Int32) : pV (ov M m R) 11 21 m (.int v) = some (ov M m (rsS R 21 v)) := by
  rw [pV_h (ov_0 M m R) (Nat.le_of_ble_eq_true rfl)]
  exact congrArg some (ov_set M m R (rsS R 21 v) (i := 0) (by decide) (fun j hj => cell_S m R 21 v hj))
theorem r_g22 : gR (ov M m R) 11 22 m = some (m + 8) := by rw [gR_h (ov_0 M m R)]; rfl
theorem r_g23 : gR (ov M m R) 11 23 m = some (m + 9) := by rw [gR_h (ov_0 M m R)]; rfl
theorem r_g24 : gR (ov M m R) 11 24 m = some (m + 10) := by rw [gR_h (ov_0 M m R)]; rfl
theorem r_g25 : gI (ov M m R) 11 25 m = some (R.1 25) := by rw [gI_h (ov_0 M m R)]; rfl
theorem r_p25 (v : Int32) : pV (ov M m R) 11 25 m (.int v) = some (ov M m (rsS R 25 v)) := by
  rw [pV_h (ov_0 M m R) (Nat.le_of_ble_eq_true rfl)]
  exact congrArg some (ov_set M m R (rsS R 25 v) (i := 0) (by decide) (fun j hj => cell_S m R 25 v hj))
theorem r_g26 : gR (ov M m R) 11 26 m = some (m + 11) := by rw [gR_h (ov_0 M m R)]; rfl
theorem r_g27 : gI (ov M m R) 11 27 m = some (R.1 27) := by rw [gI_h (ov_0 M m R)]; rfl
theorem r_p27 (v : Int32) : pV (ov M m R) 11 27 m (.int v) = some (ov M m (rsS R 27 v)) := by
  rw [pV_h (ov_0 M m R) (Nat.le_of_ble_eq_true rfl)]
  exact congrArg some (ov_set M m R (rsS R 27 v) (i := 0) (by decide) (fun j hj => cell_S m R 27 v hj))
theorem r_p3 (w : Bool) : pV (ov M m R) 11 3 m (.ref (if w = true then m + 2 else m + 1)) = some (ov M m (rsW R w)) := by
  rw [pV_h (ov_0 M m R) (Nat.le_of_ble_eq_true rfl)]
  exact congrArg some (ov_set M m R (rsW R w) (i := 0) (by decide) (fun j hj => cell_W m R w hj))
theorem r_L1 : aL (ov M m R) (m + 1) = some (nI 806) := by rw [aL_h (ov_at M m R (i := 1) (by omega))]
theorem r_a1 {k : Nat} (hk : k < 806) : aJ (ov M m R) 1 (m + 1) (nI k) = some (R.2.2.1 1 k) := by rw [aJ_h (ov_at M m R (i := 1) (by omega)) (inR_n hk (by omega)), nI_clamp (by omega)]
theorem r_s1 {k : Nat} (hk : k < 806) (v : Int64) : sJ (ov M m R) 1 (m + 1) (nI k) v = some (ov M m (rsJ R 1 (vp_updL (R.2.2.1 1) k v))) := by
  rw [sJ_h (ov_at M m R (i := 1) (by omega)) (inR_n hk (by omega)), nI_clamp (by omega)]
  exact congrArg some (ov_set M m R (rsJ R 1 (vp_updL (R.2.2.1 1) k v)) (i := 1) (by omega) (fun j hj => by
    match j, hj with
    | 0, _ => rfl
    | 1, hj => exact absurd rfl hj
    | 2, _ => rfl
    | 3, _ => rfl
    | 4, _ => rfl
    | 5, _ => rfl
    | 6, _ => rfl
    | 7, _ => rfl
    | 8, _ => rfl
    | 9, _ => rfl
    | 10, _ => rfl
    | j + 11, _ => rfl))
theorem r_L2 : aL (ov M m R) (m + 2) = some (nI 806) := by rw [aL_h (ov_at M m R (i := 2) (by omega))]
theorem r_a2 {k : Nat} (hk : k < 806) : aJ (ov M m R) 1 (m + 2) (nI k) = some (R.2.2.1 2 k) := by rw [aJ_h (ov_at M m R (i := 2) (by omega)) (inR_n hk (by omega)), nI_clamp (by omega)]
theorem r_s2 {k : Nat} (hk : k < 806) (v : Int64) : sJ (ov M m R) 1 (m + 2) (nI k) v = some (ov M m (rsJ R 2 (vp_updL (R.2.2.1 2) k v))) := by
  rw [sJ_h (ov_at M m R (i := 2) (by omega)) (inR_n hk (by omega)), nI_clamp (by omega)]
  exact congrArg some (ov_set M m R (rsJ R 2 (vp_updL (R.2.2.1 2) k v)) (i := 2) (by omega) (fun j hj => by
    match j, hj with
    | 0, _ => rfl
    | 1, _ => rfl
    | 2, hj => exact absurd rfl hj
    | 3, _ => rfl
    | 4, _ => rfl
    | 5, _ => rfl
    | 6, _ => rfl
    | 7, _ => rfl
    | 8, _ => rfl
    | 9, _ => rfl
    | 10, _ => rfl
    | j + 11, _ => rfl))
theorem r_L3 : aL (ov M m R) (m + 3) = some (nI 4000) := by rw [aL_h (ov_at M m R (i := 3) (by omega))]
theorem r_a3 {k : Nat} (hk : k < 4000) : aI (ov M m R) 0 (m + 3) (nI k) = some (R.2.2.2 3 k) := by rw [aI_h (ov_at M m R (i := 3) (by omega)) (inR_n hk (by omega)), nI_clamp (by omega)]
theorem r_s3 {k : Nat} (hk : k < 4000) (v : Int32) : sI (ov M m R) 0 (m + 3) (nI k) v = some (ov M m (rsI R 3 (upd (R.2.2.2 3) k v))) := by
  rw [sI_h (ov_at M m R (i := 3) (by omega)) (inR_n hk (by omega)), nI_clamp (by omega)]
  exact congrArg some (ov_set M m R (rsI R 3 (upd (R.2.2.2 3) k v)) (i := 3) (by omega) (fun j hj => by
    match j, hj with
    | 0, _ => rfl
    | 1, _ => rfl
    | 2, _ => rfl
    | 3, hj => exact absurd rfl hj
    | 4, _ => rfl
    | 5, _ => rfl
    | 6, _ => rfl
    | 7, _ => rfl
    | 8, _ => rfl
    | 9, _ => rfl
    | 10, _ => rfl
    | j + 11, _ => rfl))
theorem r_L4 : aL (ov M m R) (m + 4) = some (nI 60) := by rw [aL_h (ov_at M m R (i := 4) (by omega))]
theorem r_a4 {k : Nat} (hk : k < 60) : aI (ov M m R) 0 (m + 4) (nI k) = some (R.2.2.2 4 k) := by rw [aI_h (ov_at M m R (i := 4) (by omega)) (inR_n hk (by omega)), nI_clamp (by omega)]
theorem r_s4 {k : Nat} (hk : k < 60) (v : Int32) : sI (ov M m R) 0 (m + 4) (nI k) v = some (ov M m (rsI R 4 (upd (R.2.2.2 4) k v))) := by
  rw [sI_h (ov_at M m R (i := 4) (by omega)) (inR_n hk (by omega)), nI_clamp (by omega)]
  exact congrArg some (ov_set M m R (rsI R 4 (upd (R.2.2.2 4) k v)) (i := 4) (by omega) (fun j hj => by
    match j, hj with
    | 0, _ => rfl
    | 1, _ => rfl
    | 2, _ => rfl
    | 3, _ => rfl
    | 4, hj => exact absurd rfl hj
    | 5, _ => rfl
    | 6, _ => rfl
    | 7, _ => rfl
    | 8, _ => rfl
    | 9, _ => rfl
    | 10, _ => rfl
    | j + 11, _ => rfl))
theorem r_L5 : aL (ov M m R) (m + 5) = some (nI 700) := by rw [aL_h (ov_at M m R (i := 5) (by omega))]
theorem r_a5 {k : Nat} (hk : k < 700) : aI (ov M m R) 2 (m + 5) (nI k) = some (R.2.2.2 5 k) := by rw [aI_h (ov_at M m R (i := 5) (by omega)) (inR_n hk (by omega)), nI_clamp (by omega)]
theorem r_s5 {k : Nat} (hk : k < 700) (v : Int32) : sI (ov M m R) 2 (m + 5) (nI k) v = some (ov M m (rsI R 5 (upd (R.2.2.2 5) k v))) := by
  rw [sI_h (ov_at M m R (i := 5) (by omega)) (inR_n hk (by omega)), nI_clamp (by omega)]
  exact congrArg some (ov_set M m R (rsI R 5 (upd (R.2.2.2 5) k v)) (i := 5) (by omega) (fun j hj => by
    match j, hj with
    | 0, _ => rfl
    | 1, _ => rfl
    | 2, _ => rfl
    | 3, _ => rfl
    | 4, _ => rfl
    | 5, hj => exact absurd rfl hj
    | 6, _ => rfl
    | 7, _ => rfl
    | 8, _ => rfl
    | 9, _ => rfl
    | 10, _ => rfl
    | j + 11, _ => rfl))
theorem r_L6 : aL (ov M m R) (m + 6) = some (nI 4) := by rw [aL_h (ov_at M m R (i := 6) (by omega))]
theorem r_a6 {k : Nat} (hk : k < 4) : aI (ov M m R) 0 (m + 6) (nI k) = some (R.2.2.2 6 k) := by rw [aI_h (ov_at M m R (i := 6) (by omega)) (inR_n hk (by omega)), nI_clamp (by omega)]
theorem r_s6 {k : Nat} (hk : k < 4) (v : Int32) : sI (ov M m R) 0 (m + 6) (nI k) v = some (ov M m (rsI R 6 (upd (R.2.2.2 6) k v))) := by
  rw [sI_h (ov_at M m R (i := 6) (by omega)) (inR_n hk (by omega)), nI_clamp (by omega)]
  exact congrArg some (ov_set M m R (rsI R 6 (upd (R.2.2.2 6) k v)) (i := 6) (by omega) (fun j hj => by
    match j, hj with
    | 0, _ => rfl
    | 1, _ => rfl
    | 2, _ => rfl
    | 3, _ => rfl
    | 4, _ => rfl
    | 5, _ => rfl
    | 6, hj => exact absurd rfl hj
    | 7, _ => rfl
    | 8, _ => rfl
    | 9, _ => rfl
    | 10, _ => rfl
    | j + 11, _ => rfl))
theorem r_L7 : aL (ov M m R) (m + 7) = some (nI 4) := by rw [aL_h (ov_at M m R (i := 7) (by omega))]
theorem r_a7 {k : Nat} (hk : k < 4) : aI (ov M m R) 3 (m + 7) (nI k) = some (R.2.2.2 7 k) := by rw [aI_h (ov_at M m R (i := 7) (by omega)) (inR_n hk (by omega)), nI_clamp (by omega)]
theorem r_s7 {k : Nat} (hk : k < 4) (v : Int32) : sI (ov M m R) 3 (m + 7) (nI k) v = some (ov M m (rsI R 7 (upd (R.2.2.2 7) k v))) := by
  rw [sI_h (ov_at M m R (i := 7) (by omega)) (inR_n hk (by omega)), nI_clamp (by omega)]
  exact congrArg some (ov_set M m R (rsI R 7 (upd (R.2.2.2 7) k v)) (i := 7) (by omega) (fun j hj => by
    match j, hj with
    | 0, _ => rfl
    | 1, _ => rfl
    | 2, _ => rfl
    | 3, _ => rfl
    | 4, _ => rfl
    | 5, _ => rfl
    | 6, _ => rfl
    | 7, hj => exact absurd rfl hj
    | 8, _ => rfl
    | 9, _ => rfl
    | 10, _ => rfl
    | j + 11, _ => rfl))
theorem r_L8 : aL (ov M m R) (m + 8) = some (nI 1612) := by rw [aL_h (ov_at M m R (i := 8) (by omega))]
theorem r_a8 {k : Nat} (hk : k < 1612) : aJ (ov M m R) 1 (m + 8) (nI k) = some (R.2.2.1 8 k) := by rw [aJ_h (ov_at M m R (i := 8) (by omega)) (inR_n hk (by omega)), nI_clamp (by omega)]
theorem r_s8 {k : Nat} (hk : k < 1612) (v : Int64) : sJ (ov M m R) 1 (m + 8) (nI k) v = some (ov M m (rsJ R 8 (vp_updL (R.2.2.1 8) k v))) := by
  rw [sJ_h (ov_at M m R (i := 8) (by omega)) (inR_n hk (by omega)), nI_clamp (by omega)]
  exact congrArg some (ov_set M m R (rsJ R 8 (vp_updL (R.2.2.1 8) k v)) (i := 8) (by omega) (fun j hj => by
    match j, hj with
    | 0, _ => rfl
    | 1, _ => rfl
    | 2, _ => rfl
    | 3, _ => rfl
    | 4, _ => rfl
    | 5, _ => rfl
    | 6, _ => rfl
    | 7, _ => rfl
    | 8, hj => exact absurd rfl hj
    | 9, _ => rfl
    | 10, _ => rfl
    | j + 11, _ => rfl))
theorem r_L9 : aL (ov M m R) (m + 9) = some (nI 2) := by rw [aL_h (ov_at M m R (i := 9) (by omega))]
theorem r_a9 {k : Nat} (hk : k < 2) : aI (ov M m R) 3 (m + 9) (nI k) = some (R.2.2.2 9 k) := by rw [aI_h (ov_at M m R (i := 9) (by omega)) (inR_n hk (by omega)), nI_clamp (by omega)]
theorem r_s9 {k : Nat} (hk : k < 2) (v : Int32) : sI (ov M m R) 3 (m + 9) (nI k) v = some (ov M m (rsI R 9 (upd (R.2.2.2 9) k v))) := by
  rw [sI_h (ov_at M m R (i := 9) (by omega)) (inR_n hk (by omega)), nI_clamp (by omega)]
  exact congrArg some (ov_set M m R (rsI R 9 (upd (R.2.2.2 9) k v)) (i := 9) (by omega) (fun j hj => by
    match j, hj with
    | 0, _ => rfl
    | 1, _ => rfl
    | 2, _ => rfl
    | 3, _ => rfl
    | 4, _ => rfl
    | 5, _ => rfl
    | 6, _ => rfl
    | 7, _ => rfl
    | 8, _ => rfl
    | 9, hj => exact absurd rfl hj
    | 10, _ => rfl
    | j + 11, _ => rfl))
theorem r_L10 : aL (ov M m R) (m + 10) = some (nI 4836) := by rw [aL_h (ov_at M m R (i := 10) (by omega))]
theorem r_a10 {k : Nat} (hk : k < 4836) : aJ (ov M m R) 1 (m + 10) (nI k) = some (R.2.2.1 10 k) := by rw [aJ_h (ov_at M m R (i := 10) (by omega)) (inR_n hk (by omega)), nI_clamp (by omega)]
theorem r_s10 {k : Nat} (hk : k < 4836) (v : Int64) : sJ (ov M m R) 1 (m + 10) (nI k) v = some (ov M m (rsJ R 10 (vp_updL (R.2.2.1 10) k v))) := by
  rw [sJ_h (ov_at M m R (i := 10) (by omega)) (inR_n hk (by omega)), nI_clamp (by omega)]
  exact congrArg some (ov_set M m R (rsJ R 10 (vp_updL (R.2.2.1 10) k v)) (i := 10) (by omega) (fun j hj => by
    match j, hj with
    | 0, _ => rfl
    | 1, _ => rfl
    | 2, _ => rfl
    | 3, _ => rfl
    | 4, _ => rfl
    | 5, _ => rfl
    | 6, _ => rfl
    | 7, _ => rfl
    | 8, _ => rfl
    | 9, _ => rfl
    | 10, hj => exact absurd rfl hj
    | j + 11, _ => rfl))
theorem r_L11 : aL (ov M m R) (m + 11) = some (nI 12000) := by rw [aL_h (ov_at M m R (i := 11) (by omega))]
theorem r_a11 {k : Nat} (hk : k < 12000) : aI (ov M m R) 2 (m + 11) (nI k) = some (R.2.2.2 11 k) := by rw [aI_h (ov_at M m R (i := 11) (by omega)) (inR_n hk (by omega)), nI_clamp (by omega)]
theorem r_s11 {k : Nat} (hk : k < 12000) (v : Int32) : sI (ov M m R) 2 (m + 11) (nI k) v = some (ov M m (rsI R 11 (upd (R.2.2.2 11) k v))) := by
  rw [sI_h (ov_at M m R (i := 11) (by omega)) (inR_n hk (by omega)), nI_clamp (by omega)]
  refine congrArg some ?_
  refine Prod.ext (funext fun q => ?_) rfl
  show (if q = m + 11 then some (cell m (rsI R 11 (upd (R.2.2.2 11) k v)) 11) else if m ≤ q ∧ q < m + 12 then some (cell m R (q - m)) else M.1 q) = if m ≤ q ∧ q < m + 12 then some (cell m (rsI R 11 (upd (R.2.2.2 11) k v)) (q - m)) else M.1 q
  by_cases e : q = m + 11
  · rw [if_pos e, if_pos ⟨by omega, by omega⟩, e, Nat.add_sub_cancel_left]
  · rw [if_neg e]
    by_cases e2 : m ≤ q ∧ q < m + 12
    · rw [if_pos e2, if_pos e2]
      obtain ⟨i, hi⟩ : ∃ i, i = q - m := ⟨_, rfl⟩
      rw [← hi]
      have hi2 : i < 11 := by omega
      match i, hi2 with
      | 0, _ => rfl
      | 1, _ => rfl
      | 2, _ => rfl
      | 3, _ => rfl
      | 4, _ => rfl
      | 5, _ => rfl
      | 6, _ => rfl
      | 7, _ => rfl
      | 8, _ => rfl
      | 9, _ => rfl
      | 10, _ => rfl
    · rw [if_neg e2, if_neg e2]
theorem r_row {k : Nat} (hk : k < 806) : aJ (ov M m R) 1 (m + rowN R) (nI k) = some (rowf R k) := by
  unfold rowf rowN
  split
  · exact r_a2 M m R hk
  · exact r_a1 M m R hk
theorem r_srow {k : Nat} (hk : k < 806) (v : Int64) : sJ (ov M m R) 1 (m + rowN R) (nI k) v = some (ov M m (rsR R (vp_updL (rowf R) k v))) := by
  unfold rsR rowf rowN
  split
  · exact r_s2 M m R hk v
  · exact r_s1 M m R hk v
end
theorem rowN_R (R : Rs) (f : Nat → Int64) : rowN (rsR R f) = rowN R := rfl
theorem rowf_R (R : Rs) (f : Nat → Int64) : rowf (rsR R f) = f := va_up_s _ _ _
theorem rsR_R (R : Rs) (f g : Nat → Int64) : rsR (rsR R f) g = rsR R g := by
  refine Prod.ext rfl (Prod.ext rfl (Prod.ext (funext fun j => ?_) rfl))
  show va_up (va_up R.2.2.1 (rowN R) f) (rowN R) g j = va_up R.2.2.1 (rowN R) g j
  by_cases e : j = rowN R
  · rw [e, va_up_s, va_up_s]
  · rw [va_up_n _ _ e, va_up_n _ _ e, va_up_n _ _ e]
theorem rowf_S (R : Rs) (k : Nat) (v : Int32) : rowf (rsS R k v) = rowf R := rfl
theorem rowf_I (R : Rs) (k : Nat) (f : Nat → Int32) : rowf (rsI R k f) = rowf R := rfl
