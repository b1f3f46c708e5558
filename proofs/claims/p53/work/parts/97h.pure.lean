/-! PURE: fetch, whole -/
section
variable {M : Mem} {m : Nat} {R : Rs} {I O : List Int32} {S : St} {K : Nat → St} {B : Nat → Bool} {C : Nat} {H : Nat → St} {N : List Nt} {E : Er} {c : Nat}
theorem reqOrd_in {u v : Int32} (h : u ≤ v) (M : Mem) : f_X11_requireOrder u v M = some (.inl (), M) := by rw [f_X11_requireOrder, if_pos h]
theorem reqOrd_no {u v : Int32} (h : ¬ u ≤ v) (M : Mem) : f_X11_requireOrder u v M = some (.inr "java/lang/IllegalArgumentException", mskip M) := by rw [f_X11_requireOrder, if_neg h]
theorem cls_addC (h : Cls M I O S K B C H N E) {k : Nat} (hk : k < stM S) (v : Int32) : ∃ M', f_X5_increase (sesR 105 k + 5) 4 v M = some M' ∧ Cls M' I O (setSx S k (addC (stS S k) 4 v)) K B C H N E ∧ off M M' 100 616 := by
  obtain ⟨M1, e1, x1, o1⟩ := X7_count_e (h.sx hk) (k := 4) (by omega) v
  obtain ⟨c1, o2⟩ := h.ses hk (X := addC (stS S k) 4 v) x1 o1
  exact ⟨M1, e1, c1, o2⟩
end
