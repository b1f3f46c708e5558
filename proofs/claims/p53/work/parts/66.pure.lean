/-! PURE: the reference, what it asks of a session -/
def okV (S : St) (s : Sx) : Prop := okB S (sxB s) ∧ (sxB s = -1 → sxE s = [])
theorem okV.box {S : St} {s : Sx} (h : okV S s) {k : Nat} (hk : k < (sxE s).length) (h3 : stN S ≤ 3) : ∃ b, b < stN S ∧ sxB s = nI b ∧ bof S (sxB s) = (stB S b).2.2 := by
  rcases h.1 with h1 | ⟨b, hb, h1⟩
  · rw [h.2 h1] at hk
    exact absurd hk (Nat.not_lt_zero _)
  · exact ⟨b, hb, h1, by rw [h1, bof_in (by omega)]⟩
theorem FU_s : ∃ n, FU = n + 1 := ⟨FU - 1, by rw [FU_eq]⟩
theorem b2i_t : b2i true = 1 := rfl
theorem b2i_f : b2i false = 0 := rfl
section
variable {M : Mem} {m : Nat} {R : Rs} {S : St}
theorem oI_m1 {ms : Ms} {u : Int32} (hl : ms.length ≤ 30) : (oI (mix ms u) = -1) = (mix ms u = none) := by
  cases e : mix ms u with
  | none => simp [oI]
  | some k =>
    have := mix_lt e
    simp only [oI, nI_m1 (show k < 2 ^ 31 by omega), reduceCtorEq]
end
