/-! PURE: readers -/
theorem sel_in {j n : Nat} (hj : j ≤ n) (hn : n < 2 ^ 31) : (!decide (nI j < 0) && !decide (nI n < nI j)) = true := by
  have a : ¬ (nI j < 0) := Int32.not_lt.mpr (nI_ge0 (by omega))
  have b : ¬ (nI n < nI j) := by rw [nI_ltI hn (by omega)]; omega
  rw [decide_eq_false a, decide_eq_false b]; rfl
theorem sel_ex (a : Int32) {n : Nat} (hn : n < 2 ^ 31) : (∃ j, j ≤ n ∧ a = nI j) ∨ ((!decide (a < 0) && !decide (nI n < a)) = false ∧ ∀ j, j ≤ n → a ≠ nI j) := by
  rcases i_cases a with h | ⟨j, hj, rfl⟩
  · refine .inr ⟨by rw [decide_eq_true h]; rfl, fun j hj z => ?_⟩
    rw [z] at h
    exact Int32.not_lt.mpr (nI_ge0 (by omega)) h
  · by_cases e : j ≤ n
    · exact .inl ⟨j, e, rfl⟩
    · have b : nI n < nI j := by rw [nI_ltI hn hj]; omega
      refine .inr ⟨by rw [decide_eq_true b, Bool.and_comm]; rfl, fun i hi z => ?_⟩
      have := (nI_eq hj (by omega)).mp z
      omega
theorem idx_in {j n : Nat} (hj : j < n) (hn : n < 2 ^ 31) : (!decide (nI j < 0) && !decide (nI n - 1 < nI j)) = true := by
  obtain ⟨k, rfl⟩ : ∃ k, n = k + 1 := ⟨n - 1, by omega⟩
  rw [nI_pred]
  exact sel_in (by omega) (by omega)
theorem idx_no {a : Int32} {n : Nat} (hn : n < 2 ^ 31) (h : ¬ ∃ j, j < n ∧ a = nI j) : (!decide (a < 0) && !decide (nI n - 1 < a)) = false := by
  by_cases e : n = 0
  · subst e
    by_cases s : a < 0
    · rw [decide_eq_true s]; rfl
    · have : nI 0 - 1 < a := Int32.lt_of_lt_of_le (show nI 0 - 1 < (0 : Int32) by decide) (Int32.not_lt.mp s)
      rw [decide_eq_true this, Bool.and_comm]; rfl
  · obtain ⟨k, rfl⟩ : ∃ k, n = k + 1 := ⟨n - 1, by omega⟩
    rw [nI_pred]
    rcases sel_ex a (n := k) (by omega) with ⟨j, hj, z⟩ | ⟨z, -⟩
    · exact absurd ⟨j, by omega, z⟩ h
    · exact z
section
variable {M : Mem} {m : Nat} {R : Rs} {I O : List Int32} {S : St} {K : Nat → St} {B : Nat → Bool} {C : Nat} {H : Nat → St} {N : List Nt} {E : Er} {c : Nat}
end
