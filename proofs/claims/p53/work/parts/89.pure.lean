/-! PURE: the reference reads a box's name and flags; the draft -/
section
variable {M : Mem} {m : Nat} {R : Rs} {l : List Int32} {i : Nat} {c p : Int32} {S : St}
end
def cntN (S : St) : Nat := fd (fun k a => a + (stB S k).2.2.length) 0 (stN S) 0
/-- what a load may change before it is done -/
def dk (R R' : Rs) : Prop := R'.2.1 = R.2.1 ∧ (∀ k, (k < 10 ∨ 17 < k) → R'.1 k = R.1 k) ∧ (∀ a, a ≠ rowN R → R'.2.2.1 a = R.2.2.1 a) ∧ ∀ a, a ≠ 6 → a ≠ 7 → R'.2.2.2 a = R.2.2.2 a
theorem dk.rf (R : Rs) : dk R R := ⟨rfl, fun _ _ => rfl, fun _ _ => rfl, fun _ _ _ => rfl⟩
theorem dk.rN {R R' : Rs} (h : dk R R') : rowN R' = rowN R := by unfold rowN; rw [h.1]
theorem dk.trans {R R1 R2 : Rs} (h : dk R R1) (g : dk R1 R2) : dk R R2 :=
  ⟨g.1.trans h.1, fun k hk => (g.2.1 k hk).trans (h.2.1 k hk), fun a ha => (g.2.2.1 a (by rw [h.rN]; exact ha)).trans (h.2.2.1 a ha), fun a ha hb => (g.2.2.2 a ha hb).trans (h.2.2.2 a ha hb)⟩
theorem rk.d {R R' : Rs} (h : rk R R') : dk R R' := ⟨by rw [h.1], fun k hk => h.2 k (by omega), fun a _ => by rw [h.1], fun a _ _ => by rw [h.1]⟩
theorem rTx.d {R R' : Rs} {l : List Int32} (h : rTx R l) (k : dk R R') : rTx R' l := ⟨(k.2.1 9 (by omega)).trans h.1, h.2.1, by rw [k.2.2.2 5 (by omega) (by omega)]; exact h.2.2⟩
theorem rF.d {R R' : Rs} {l : List Int32} {c p : Int32} (h : rF R l c p) (k : dk R R') (e1 : R'.1 14 = R.1 14) (e2 : R'.1 15 = R.1 15) : rF R' l c p := ⟨⟨h.1.1.d k, h.1.2⟩, e1.trans h.2.1, e2.trans h.2.2.1, h.2.2.2⟩
theorem rL.d {R R' : Rs} {l : List Int32} {i : Nat} (h : rL R l i) (k : dk R R') (e : ∀ q, 10 ≤ q → q ≤ 15 → R'.1 q = R.1 q) : rL R' l i := by
  obtain ⟨⟨h1, hy⟩, h2, h3, h4, h5, h6, h7⟩ := h
  exact ⟨⟨h1.d k, hy⟩, (e 10 (by omega) (by omega)).trans h2, (e 11 (by omega) (by omega)).trans h3, (e 12 (by omega) (by omega)).trans h4, by rw [e 13 (by omega) (by omega)]; exact h5, (e 14 (by omega) (by omega)).trans h6, (e 15 (by omega) (by omega)).trans h7⟩