/-! PURE: readers of a session -/
section
variable {M : Mem} {m : Nat} {R : Rs} {I O : List Int32} {S : St} {K : Nat → St} {B : Nat → Bool} {C : Nat} {H : Nat → St} {N : List Nt} {E : Er} {c : Nat}
theorem num_sub {ms : Ms} {es : List En} {n : Nat} (hn : n < es.length) (hg : gone ms (eg es n) = false) : (rng es 0 (n + 1)).countP (fun e => !gone ms e) = (n + 1) - (es.take n).countP (gone ms) ∧ (es.take n).countP (gone ms) ≤ n + 1 := by
  have ht : es.take (n + 1) = es.take n ++ [eg es n] := by
    rw [List.take_succ_eq_append_getElem hn, eg, List.getD_eq_getElem?_getD, List.getElem?_eq_getElem hn]; rfl
  have h1 : rng es 0 (n + 1) = es.take (n + 1) := by rw [rng, List.drop_zero]
  have h2 := List.length_eq_countP_add_countP (p := gone ms) (l := es.take (n + 1))
  have h3 : (es.take (n + 1)).countP (gone ms) = (es.take n).countP (gone ms) := by
    rw [ht, List.countP_append, List.countP_singleton, if_neg (by rw [hg]; decide), Nat.add_zero]
  have h4 : (es.take (n + 1)).countP (fun a => decide ¬gone ms a = true) = (es.take (n + 1)).countP (fun e => !gone ms e) := by
    refine List.countP_congr (fun x _ => ?_)
    cases gone ms x <;> simp
  rw [List.length_take, Nat.min_eq_left (by omega)] at h2
  rw [h1]
  rw [h3, h4] at h2
  omega
end
