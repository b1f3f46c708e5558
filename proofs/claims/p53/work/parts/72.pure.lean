/-! PURE: the reference, messages that come -/
def cpB (x : Bx) (l : List (Int32 × Int32)) : Bx := (x.1, x.2.1 + nI l.length, x.2.2 ++ adds x.2.1 l)
section
variable {M : Mem} {m : Nat} {R : Rs} {S : St}
end
theorem cpy_len (ms : Ms) (es : List En) : (cpy ms es).length = (kept ms es).length := by
  induction es with
  | nil => rfl
  | cons e t ih =>
    rw [cpy_cons]
    cases hm : mix ms (eU e) with
    | none => simp only; rw [ih]; simp [kept, gone, hm]
    | some k => simp only [List.length_cons]; rw [ih]; simp [kept, gone, hm]
section
variable {M : Mem} {m : Nat}
end
/-! removing by uids -/
def rmvU (ms : Ms) (us : List Int32) : Ms := us.foldl (fun ms u => match mix ms u with
  | none => ms
  | some k => ms.eraseIdx k) ms
theorem mix_some_mem {ms : Ms} {u : Int32} : (∃ j, j < ms.length ∧ mU (mg ms j) = u) ↔ mix ms u ≠ none := by
  constructor
  · rintro ⟨j, hj, e⟩ z
    refine ixl_none z j (by rw [List.length_map]; exact hj) ?_
    rw [mapD mU hj]; exact e
  · intro h
    cases e : mix ms u with
    | none => exact absurd e h
    | some k =>
      refine ⟨k, mix_lt e, ?_⟩
      have := (ixl_some e).2.1
      rwa [mapD mU (mix_lt e)] at this
section
variable {M : Mem} {m : Nat}
end
