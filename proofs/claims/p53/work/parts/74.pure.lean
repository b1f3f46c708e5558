/-! PURE: tokens -/
/-- kind (0 the end, 1 a word, 2 a number, 3 a symbol), start, end, value -/
abbrev Tk : Type := Nat × Nat × Nat × Nat
def tkK (t : Tk) : Nat := t.1
def tkS (t : Tk) : Nat := t.2.1
def tkE (t : Tk) : Nat := t.2.2.1
def tkV (t : Tk) : Nat := t.2.2.2
/-- the token that a reader meets from a byte on -/
def tkAt (l : List Int32) (p : Nat) : Tk :=
  let q := rn isG l p
  if l.length ≤ q then (0, l.length, l.length, 0)
  else if isL (ch l q) = true then (1, q, rn isL l q, 0)
  else if isD (ch l q) = true then (2, q, rn isD l q, nv l q (rn isD l q))
  else (3, q, q + 1, (ch l q).toNatClampNeg)
def toks (l : List Int32) : Nat → Tk
  | 0 => tkAt l 0
  | n + 1 => tkAt l (tkE (toks l n))
theorem tkAt_gap {l : List Int32} {p : Nat} (h : isG (ch l p) = true) : tkAt l p = tkAt l (p + 1) := by
  unfold tkAt
  rw [rn_y isG_m h]
theorem tkAt_end {l : List Int32} {p : Nat} (h : l.length ≤ p) : tkAt l p = (0, l.length, l.length, 0) := by
  have : rn isG l p = p := rn_n (by rw [ch_out h]; exact isG_m)
  unfold tkAt
  rw [this]
  simp only [h, if_true]
theorem tkAt_E {l : List Int32} {p : Nat} : tkE (tkAt l p) ≤ l.length ∧ (tkK (tkAt l p) ≠ 0 → p < tkE (tkAt l p) ∧ tkS (tkAt l p) < tkE (tkAt l p) ∧ p ≤ tkS (tkAt l p)) := by
  have h1 := rn_ge isG l p
  unfold tkAt
  simp only
  by_cases e : l.length ≤ rn isG l p
  · rw [if_pos e]; exact ⟨Nat.le_refl _, fun z => absurd rfl z⟩
  · rw [if_neg e]
    by_cases e2 : isL (ch l (rn isG l p)) = true
    · rw [if_pos e2]
      have g1 := rn_le (p := isL) (l := l) (k := rn isG l p) (by omega)
      have g2 : rn isL l (rn isG l p) = rn isL l (rn isG l p + 1) := rn_y isL_m e2
      have g3 := rn_ge isL l (rn isG l p + 1)
      exact ⟨g1, fun _ => ⟨by show p < rn isL l (rn isG l p); omega, by show rn isG l p < rn isL l (rn isG l p); omega, h1⟩⟩
    · rw [if_neg e2]
      by_cases e3 : isD (ch l (rn isG l p)) = true
      · rw [if_pos e3]
        have g1 := rn_le (p := isD) (l := l) (k := rn isG l p) (by omega)
        have g2 : rn isD l (rn isG l p) = rn isD l (rn isG l p + 1) := rn_y isD_m e3
        have g3 := rn_ge isD l (rn isG l p + 1)
        exact ⟨g1, fun _ => ⟨by show p < rn isD l (rn isG l p); omega, by show rn isG l p < rn isD l (rn isG l p); omega, h1⟩⟩
      · rw [if_neg e3]
        exact ⟨by show rn isG l p + 1 ≤ l.length; omega, fun _ => ⟨by show p < rn isG l p + 1; omega, by show rn isG l p < rn isG l p + 1; omega, h1⟩⟩
/-- the end of all tokens -/
theorem toks_le (l : List Int32) (i : Nat) : tkE (toks l i) ≤ l.length := by
  cases i with
  | zero => exact tkAt_E.1
  | succ i => exact tkAt_E.1
theorem tkAt_K0 {l : List Int32} {p : Nat} (h : tkK (tkAt l p) = 0) : tkAt l p = (0, l.length, l.length, 0) := by
  unfold tkAt at h ⊢
  simp only at h ⊢
  by_cases e : l.length ≤ rn isG l p
  · rw [if_pos e]
  · rw [if_neg e] at h
    by_cases e2 : isL (ch l (rn isG l p)) = true
    · rw [if_pos e2] at h; cases h
    · rw [if_neg e2] at h
      by_cases e3 : isD (ch l (rn isG l p)) = true
      · rw [if_pos e3] at h; cases h
      · rw [if_neg e3] at h; cases h
theorem toks_K0 {l : List Int32} {i : Nat} (h : tkK (toks l i) = 0) : toks l i = (0, l.length, l.length, 0) := by
  cases i with
  | zero => exact tkAt_K0 h
  | succ i => exact tkAt_K0 h
theorem toks_after {l : List Int32} {i : Nat} (h : tkK (toks l i) = 0) : ∀ j, i ≤ j → toks l j = (0, l.length, l.length, 0) := by
  intro j hj
  induction j with
  | zero =>
    obtain rfl : i = 0 := by omega
    exact toks_K0 h
  | succ j ih =>
    by_cases e : i = j + 1
    · subst e; exact toks_K0 h
    · have := ih (by omega)
      show tkAt l (tkE (toks l j)) = _
      rw [this]
      exact tkAt_end (Nat.le_refl _)
/-! the class's tokens: an object of 15 fields, five rows -/
abbrev Tx : Type := Int32 × Int32 × Int32 × Int32 × Int32 × Int64 × Option Nat × Int32 × Int32
abbrev Ta : Type := (Nat → Int32) × (Nat → Int32) × (Nat → Int32) × (Nat → Int64) × (Nat → Option Nat)
def tob (r rt : Nat) (X : Tx) : List Value := [.ref rt, .ref (r + 1), .ref (r + 2), .ref (r + 3), .ref (r + 4), .ref (r + 5), .int X.1, .int X.2.1, .int X.2.2.1, .int X.2.2.2.1, .int X.2.2.2.2.1, .long X.2.2.2.2.2.1, va_rf X.2.2.2.2.2.2.1, .int X.2.2.2.2.2.2.2.1, .int X.2.2.2.2.2.2.2.2]
def tkM (M : Mem) (r rt : Nat) (X : Tx) (A : Ta) : Prop :=
  M.1 r = some (.inr (9, tob r rt X)) ∧ M.1 (r + 1) = some (.inl (0, (701, .inl A.1))) ∧ M.1 (r + 2) = some (.inl (0, (701, .inl A.2.1))) ∧ M.1 (r + 3) = some (.inl (0, (701, .inl A.2.2.1))) ∧ M.1 (r + 4) = some (.inl (1, (701, .inr (.inl A.2.2.2.1)))) ∧ M.1 (r + 5) = some (.inl (8, (701, .inr (.inr (.inr (.inr A.2.2.2.2))))))
theorem tkM.sm {M M' : Mem} {r rt : Nat} {X : Tx} {A : Ta} (h : tkM M r rt X A) (s : same M M' r 6) : tkM M' r rt X A := by
  obtain ⟨h0, h1, h2, h3, h4, h5⟩ := h
  exact ⟨(s _ (by omega) (by omega)).trans h0, (s _ (by omega) (by omega)).trans h1, (s _ (by omega) (by omega)).trans h2, (s _ (by omega) (by omega)).trans h3, (s _ (by omega) (by omega)).trans h4, (s _ (by omega) (by omega)).trans h5⟩
theorem vQ_rf (x : Option Nat) : vQ (va_rf x) = some x := by cases x <;> rfl
section
variable {M : Mem} {r rt : Nat} {X : Tx} {A : Ta}
theorem tkM.ob (h : tkM M r rt X A) {τ : Type} (x : Option τ) : ob M 9 r x = x := ob_h h.1 x
theorem tkM.g0 (h : tkM M r rt X A) : gR M 9 0 r = some rt := by rw [gR_h h.1]; rfl
theorem tkM.g1 (h : tkM M r rt X A) : gR M 9 1 r = some (r + 1) := by rw [gR_h h.1]; rfl
theorem tkM.g2 (h : tkM M r rt X A) : gR M 9 2 r = some (r + 2) := by rw [gR_h h.1]; rfl
theorem tkM.g3 (h : tkM M r rt X A) : gR M 9 3 r = some (r + 3) := by rw [gR_h h.1]; rfl
theorem tkM.g4 (h : tkM M r rt X A) : gR M 9 4 r = some (r + 4) := by rw [gR_h h.1]; rfl
theorem tkM.g5 (h : tkM M r rt X A) : gR M 9 5 r = some (r + 5) := by rw [gR_h h.1]; rfl
theorem tkM.g6 (h : tkM M r rt X A) : gI M 9 6 r = some X.1 := by rw [gI_h h.1]; rfl
theorem tkM.g7 (h : tkM M r rt X A) : gI M 9 7 r = some X.2.1 := by rw [gI_h h.1]; rfl
theorem tkM.g8 (h : tkM M r rt X A) : gI M 9 8 r = some X.2.2.1 := by rw [gI_h h.1]; rfl
theorem tkM.g9 (h : tkM M r rt X A) : gI M 9 9 r = some X.2.2.2.1 := by rw [gI_h h.1]; rfl
theorem tkM.g10 (h : tkM M r rt X A) : gI M 9 10 r = some X.2.2.2.2.1 := by rw [gI_h h.1]; rfl
theorem tkM.g11 (h : tkM M r rt X A) : gJ M 9 11 r = some X.2.2.2.2.2.1 := by rw [gJ_h h.1]; rfl
theorem tkM.g12 (h : tkM M r rt X A) : gQ M 9 12 r = some X.2.2.2.2.2.2.1 := by rw [gQ_h h.1]; exact vQ_rf _
theorem tkM.g13 (h : tkM M r rt X A) : gI M 9 13 r = some X.2.2.2.2.2.2.2.1 := by rw [gI_h h.1]; rfl
theorem tkM.g14 (h : tkM M r rt X A) : gI M 9 14 r = some X.2.2.2.2.2.2.2.2 := by rw [gI_h h.1]; rfl
theorem tkM.put (h : tkM M r rt X A) (X' : Tx) : tkM (mset M r (.inr (9, tob r rt X'))) r rt X' A ∧ off M (mset M r (.inr (9, tob r rt X'))) r 6 := by
  have o := off_set M r (.inr (9, tob r rt X'))
  obtain ⟨h0, h1, h2, h3, h4, h5⟩ := h
  exact ⟨⟨mset_at _ _ _, (o.2 _ (by omega)).trans h1, (o.2 _ (by omega)).trans h2, (o.2 _ (by omega)).trans h3, (o.2 _ (by omega)).trans h4, (o.2 _ (by omega)).trans h5⟩, o.wide (by omega) (by omega)⟩
theorem mset2 (M : Mem) (r : Nat) (a b : PC) : mset (mset M r a) r b = mset M r b := by
  unfold mset
  refine Prod.ext (funext fun j => ?_) rfl
  by_cases e : j = r
  · simp [e]
  · simp [e]
theorem tkM.p6 (h : tkM M r rt X A) (v : Int32) : pV M 9 6 r (.int v) = some (mset M r (.inr (9, tob r rt (v, X.2)))) := by rw [pV_h h.1 (Nat.le_of_ble_eq_true rfl)]; rfl
theorem tkM.p7 (h : tkM M r rt X A) (v : Int32) : pV M 9 7 r (.int v) = some (mset M r (.inr (9, tob r rt (X.1, v, X.2.2)))) := by rw [pV_h h.1 (Nat.le_of_ble_eq_true rfl)]; rfl
theorem tkM.p8 (h : tkM M r rt X A) (v : Int32) : pV M 9 8 r (.int v) = some (mset M r (.inr (9, tob r rt (X.1, X.2.1, v, X.2.2.2)))) := by rw [pV_h h.1 (Nat.le_of_ble_eq_true rfl)]; rfl
theorem tkM.p9 (h : tkM M r rt X A) (v : Int32) : pV M 9 9 r (.int v) = some (mset M r (.inr (9, tob r rt (X.1, X.2.1, X.2.2.1, v, X.2.2.2.2)))) := by rw [pV_h h.1 (Nat.le_of_ble_eq_true rfl)]; rfl
theorem tkM.p10 (h : tkM M r rt X A) (v : Int32) : pV M 9 10 r (.int v) = some (mset M r (.inr (9, tob r rt (X.1, X.2.1, X.2.2.1, X.2.2.2.1, v, X.2.2.2.2.2)))) := by rw [pV_h h.1 (Nat.le_of_ble_eq_true rfl)]; rfl
theorem tkM.p11 (h : tkM M r rt X A) (v : Int64) : pV M 9 11 r (.long v) = some (mset M r (.inr (9, tob r rt (X.1, X.2.1, X.2.2.1, X.2.2.2.1, X.2.2.2.2.1, v, X.2.2.2.2.2.2)))) := by rw [pV_h h.1 (Nat.le_of_ble_eq_true rfl)]; rfl
theorem tkM.p12 (h : tkM M r rt X A) (v : Option Nat) : pV M 9 12 r (va_rf v) = some (mset M r (.inr (9, tob r rt (X.1, X.2.1, X.2.2.1, X.2.2.2.1, X.2.2.2.2.1, X.2.2.2.2.2.1, v, X.2.2.2.2.2.2.2)))) := by rw [pV_h h.1 (Nat.le_of_ble_eq_true rfl)]; rfl
theorem tkM.p13 (h : tkM M r rt X A) (v : Int32) : pV M 9 13 r (.int v) = some (mset M r (.inr (9, tob r rt (X.1, X.2.1, X.2.2.1, X.2.2.2.1, X.2.2.2.2.1, X.2.2.2.2.2.1, X.2.2.2.2.2.2.1, v, X.2.2.2.2.2.2.2.2)))) := by rw [pV_h h.1 (Nat.le_of_ble_eq_true rfl)]; rfl
theorem tkM.p14 (h : tkM M r rt X A) (v : Int32) : pV M 9 14 r (.int v) = some (mset M r (.inr (9, tob r rt (X.1, X.2.1, X.2.2.1, X.2.2.2.1, X.2.2.2.2.1, X.2.2.2.2.2.1, X.2.2.2.2.2.2.1, X.2.2.2.2.2.2.2.1, v)))) := by rw [pV_h h.1 (Nat.le_of_ble_eq_true rfl)]; rfl
theorem tkM.rooms (h : tkM M r rt X A) : aL M (r + 1) = some (nI 701) ∧ aL M (r + 2) = some (nI 701) ∧ aL M (r + 3) = some (nI 701) ∧ aL M (r + 4) = some (nI 701) ∧ aL M (r + 5) = some (nI 701) := by
  obtain ⟨h0, h1, h2, h3, h4, h5⟩ := h
  exact ⟨aL_h h1, aL_h h2, aL_h h3, aL_h h4, aL_h h5⟩
theorem tkM.els (h : tkM M r rt X A) {k : Nat} (hk : k < 701) : aI M 0 (r + 1) (nI k) = some (A.1 k) ∧ aI M 0 (r + 2) (nI k) = some (A.2.1 k) ∧ aI M 0 (r + 3) (nI k) = some (A.2.2.1 k) ∧ aJ M 1 (r + 4) (nI k) = some (A.2.2.2.1 k) ∧ aQ M 8 (r + 5) (nI k) = some (A.2.2.2.2 k) := by
  obtain ⟨h0, h1, h2, h3, h4, h5⟩ := h
  have c : (nI k).toNatClampNeg = k := nI_clamp (by omega)
  refine ⟨?_, ?_, ?_, ?_, ?_⟩
  · rw [aI_h h1 (inR_n hk (by omega)), c]
  · rw [aI_h h2 (inR_n hk (by omega)), c]
  · rw [aI_h h3 (inR_n hk (by omega)), c]
  · rw [aJ_h h4 (inR_n hk (by omega)), c]
  · rw [aQ_h h5 (inR_n hk (by omega)), c]
/-- a token is told -/
theorem X10_add_e (h : tkM M r rt X A) {c : Nat} (hc : c < 701) (hX : X.1 = nI c) (k s v : Int32) (nm : Int64) (w : Option Nat) (hw : kq w = true) :
    ∃ M', f_X10_addToken r k s v nm w M = some M' ∧ tkM M' r rt (nI (c + 1), X.2) (upd A.1 c k, upd A.2.1 c s, upd A.2.2.1 c v, vp_updL A.2.2.2.1 c nm, va_up A.2.2.2.2 c w) ∧ off M M' r 6 := by
  have hg := h.g6
  rw [hX] at hg
  obtain ⟨q1, q2, q3, q4, q5⟩ := h.rooms
  have cl : (nI c).toNatClampNeg = c := nI_clamp (by omega)
  obtain ⟨h0, h1, h2, h3, h4, h5⟩ := id h
  obtain ⟨M1, hM1⟩ : ∃ M1, M1 = mset M (r + 1) (.inl (0, (701, .inl (upd A.1 c k)))) := ⟨_, rfl⟩
  have s1 : sI M 0 (r + 1) (nI c) k = some M1 := by rw [sI_h h1 (inR_n hc (by omega)), cl, hM1]
  have n1 : ∀ q, q ≠ r + 1 → M1.1 q = M.1 q := fun q hq => by rw [hM1, mset_ne _ _ hq]
  have t1 : M1.1 (r + 1) = some (.inl (0, (701, .inl (upd A.1 c k)))) := by rw [hM1, mset_at]
  obtain ⟨M2, hM2⟩ : ∃ M2, M2 = mset M1 (r + 2) (.inl (0, (701, .inl (upd A.2.1 c s)))) := ⟨_, rfl⟩
  have s2 : sI M1 0 (r + 2) (nI c) s = some M2 := by rw [sI_h ((n1 _ (by omega)).trans h2) (inR_n hc (by omega)), cl, hM2]
  have n2 : ∀ q, q ≠ r + 2 → M2.1 q = M1.1 q := fun q hq => by rw [hM2, mset_ne _ _ hq]
  have t2 : M2.1 (r + 2) = some (.inl (0, (701, .inl (upd A.2.1 c s)))) := by rw [hM2, mset_at]
  obtain ⟨M3, hM3⟩ : ∃ M3, M3 = mset M2 (r + 3) (.inl (0, (701, .inl (upd A.2.2.1 c v)))) := ⟨_, rfl⟩
  have s3 : sI M2 0 (r + 3) (nI c) v = some M3 := by rw [sI_h ((n2 _ (by omega)).trans ((n1 _ (by omega)).trans h3)) (inR_n hc (by omega)), cl, hM3]
  have n3 : ∀ q, q ≠ r + 3 → M3.1 q = M2.1 q := fun q hq => by rw [hM3, mset_ne _ _ hq]
  have t3 : M3.1 (r + 3) = some (.inl (0, (701, .inl (upd A.2.2.1 c v)))) := by rw [hM3, mset_at]
  obtain ⟨M4, hM4⟩ : ∃ M4, M4 = mset M3 (r + 4) (.inl (1, (701, .inr (.inl (vp_updL A.2.2.2.1 c nm))))) := ⟨_, rfl⟩
  have s4 : sJ M3 1 (r + 4) (nI c) nm = some M4 := by rw [sJ_h ((n3 _ (by omega)).trans ((n2 _ (by omega)).trans ((n1 _ (by omega)).trans h4))) (inR_n hc (by omega)), cl, hM4]
  have n4 : ∀ q, q ≠ r + 4 → M4.1 q = M3.1 q := fun q hq => by rw [hM4, mset_ne _ _ hq]
  have t4 : M4.1 (r + 4) = some (.inl (1, (701, .inr (.inl (vp_updL A.2.2.2.1 c nm))))) := by rw [hM4, mset_at]
  obtain ⟨M5, hM5⟩ : ∃ M5, M5 = mset M4 (r + 5) (.inl (8, (701, .inr (.inr (.inr (.inr (va_up A.2.2.2.2 c w))))))) := ⟨_, rfl⟩
  have s5 : sQ M4 8 (r + 5) (nI c) w = some M5 := by rw [sQ_h ((n4 _ (by omega)).trans ((n3 _ (by omega)).trans ((n2 _ (by omega)).trans ((n1 _ (by omega)).trans h5)))) (inR_n hc (by omega)), cl, hM5]
  have n5 : ∀ q, q ≠ r + 5 → M5.1 q = M4.1 q := fun q hq => by rw [hM5, mset_ne _ _ hq]
  have t5 : M5.1 (r + 5) = some (.inl (8, (701, .inr (.inr (.inr (.inr (va_up A.2.2.2.2 c w))))))) := by rw [hM5, mset_at]
  have hT5 : tkM M5 r rt X (upd A.1 c k, upd A.2.1 c s, upd A.2.2.1 c v, vp_updL A.2.2.2.1 c nm, va_up A.2.2.2.2 c w) := by
    refine ⟨?_, ?_, ?_, ?_, ?_, t5⟩
    · rw [n5 _ (by omega), n4 _ (by omega), n3 _ (by omega), n2 _ (by omega), n1 _ (by omega)]; exact h0
    · rw [n5 _ (by omega), n4 _ (by omega), n3 _ (by omega), n2 _ (by omega)]; exact t1
    · rw [n5 _ (by omega), n4 _ (by omega), n3 _ (by omega)]; exact t2
    · rw [n5 _ (by omega), n4 _ (by omega)]; exact t3
    · rw [n5 _ (by omega)]; exact t4
  have e2 : gR M1 9 2 r = some (r + 2) := by rw [gR_h ((n1 _ (by omega)).trans h0)]; rfl
  have e3 : gR M2 9 3 r = some (r + 3) := by rw [gR_h ((n2 _ (by omega)).trans ((n1 _ (by omega)).trans h0))]; rfl
  have e4 : gR M3 9 4 r = some (r + 4) := by rw [gR_h ((n3 _ (by omega)).trans ((n2 _ (by omega)).trans ((n1 _ (by omega)).trans h0)))]; rfl
  have e5 : gR M4 9 5 r = some (r + 5) := by rw [gR_h ((n4 _ (by omega)).trans ((n3 _ (by omega)).trans ((n2 _ (by omega)).trans ((n1 _ (by omega)).trans h0))))]; rfl
  have e6 : gI M5 9 6 r = some (nI c) := by rw [hT5.g6, hX]
  obtain ⟨p1, p2⟩ := hT5.put (nI (c + 1), X.2)
  refine ⟨_, ?_, p1, ?_⟩
  · have hle : ¬ (nI 701 ≤ nI c) := nI_ge (by omega) (by omega)
    simp only [f_X10_addToken, h.ob, hg, neg0 (show c < 2 ^ 31 by omega), if_false, h.g1, h.g2, h.g3, h.g4, h.g5, q1, q2, q3, q4, q5, hle, bso, s1, e2, s2, e3, s3, e4, s4, e5, kwn, hw, cond_true, s5, e6, nI_1, hT5.p6]
  · refine off.trans ⟨?_, fun q hq => ?_⟩ p2
    · rw [hM5, hM4, hM3, hM2, hM1]; rfl
    · rw [n5 _ (by omega), n4 _ (by omega), n3 _ (by omega), n2 _ (by omega), n1 _ (by omega)]
end
