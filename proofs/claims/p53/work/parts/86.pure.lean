/-! PURE: the reference at a token -/
/-- a letter's byte is held as it is -/
def byR (l : List Int32) : Prop := ∀ k, k < l.length → isL (ch l k) = true → l.getD k 0 = ch l k
def vlR (x : Int32) (t : Tk) : Prop := if tkK t = 3 then x = nI (tkV t) else if tkK t = 2 then numR x (tkV t) else True
/-- the reference stands at the i-th token, no error -/
def rL (R : Rs) (l : List Int32) (i : Nat) : Prop :=
  (rTx R l ∧ byR l) ∧ R.1 10 = nI (tkE (toks l i)) ∧ R.1 11 = nI (tkS (toks l i)) ∧ R.1 12 = nI (tkK (toks l i)) ∧ vlR (R.1 13) (toks l i) ∧ R.1 14 = 0 ∧ R.1 15 = -1
/-- the reference told an error -/
def rF (R : Rs) (l : List Int32) (c p : Int32) : Prop := (rTx R l ∧ byR l) ∧ R.1 14 = c ∧ R.1 15 = p ∧ c ≠ 0
/-- what the reader changes -/
def rk (R R' : Rs) : Prop := R'.2 = R.2 ∧ ∀ k, (k < 10 ∨ 15 < k) → R'.1 k = R.1 k
theorem rk.rf (R : Rs) : rk R R := ⟨rfl, fun _ _ => rfl⟩
theorem rk.trans {R R1 R2 : Rs} (h : rk R R1) (g : rk R1 R2) : rk R R2 := ⟨g.1.trans h.1, fun k hk => (g.2 k hk).trans (h.2 k hk)⟩
theorem rk.row {R R' : Rs} (h : rk R R') : rowf R' = rowf R := by unfold rowf rowN; rw [h.1]
section
variable {M : Mem} {m : Nat} {R : Rs} {l : List Int32} {i : Nat} {c p : Int32}
end
