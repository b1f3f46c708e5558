/-! PURE: deliver, setLimit -/
section
variable {M : Mem} {m : Nat} {R : Rs} {I O : List Int32} {S : St} {K : Nat → St} {B : Nat → Bool} {C : Nat} {H : Nat → St} {N : List Nt} {E : Er} {c : Nat}
theorem reqRoom_e (h : Cls M I O S K B C H N E) {b : Nat} (hb : b < stN S) {L : Nat} (hL : stL S = nI L) (hL2 : L ≤ 30) {k : Nat} (hk : k ≤ 60) : f_X11_requireRoom 100 (boxR 105 b) (nI k) M = if k = 0 ∨ (stB S b).2.2.length + k ≤ L then some (.inl (), M) else some (.inr "java/lang/IllegalStateException", mskip M) := by
  have hl : (stB S b).2.2.length ≤ 30 := bA.len (h.bx hb)
  have hs : f_X0_size (boxR 105 b) M = some (nI (stB S b).2.2.length) := X0_size_e (h.bx hb)
  have h0 : (nI k ≤ 0) = (k ≤ 0) := leI (y := 0) (b := 0) rfl rfl (by omega) (by omega)
  have h1 : (nI ((stB S b).2.2.length + k) ≤ nI L) = ((stB S b).2.2.length + k ≤ L) := leI rfl rfl (by omega) (by omega)
  rw [f_X11_requireRoom, h.ob]
  by_cases e : k = 0
  · rw [if_pos (by rw [h0]; omega), if_pos (.inl e)]
  · rw [if_neg (by rw [h0]; omega)]
    simp only [hs, h.g2, h.s.gL, hL, bso, nI_add]
    by_cases e2 : (stB S b).2.2.length + k ≤ L
    · rw [if_pos (by rw [h1]; exact e2), if_pos (.inr e2)]
    · rw [if_neg (by rw [h1]; exact e2), if_neg (fun z => by rcases z with z | z; exact e z; exact e2 z)]
theorem okS.add (h : okS c S) (hc : c ≤ 1000) {b : Nat} (hb : b < stN S) (hl : (stB S b).2.2.length < 30) (sz fl : Int32) (hz : 0 ≤ sz) : okS (c + 1) (setBx S b ((stB S b).1, (stB S b).2.1 + 1, (stB S b).2.2 ++ [((stB S b).2.1, sz, fl)])) := by
  obtain ⟨⟨n, n1, n2, n3⟩, hM, hl30⟩ := h.2.2.1 b hb
  rw [n1] at hM ⊢
  refine h.setB (by omega) (b := b) ⟨⟨n + 1, nI_1 n, by omega, by omega⟩, ?_, ?_⟩ ?_
  · show okM (nI n + 1) _
    rw [nI_1]
    exact okM_snoc hM (by omega) n2 sz fl hz
  · show ((stB S b).2.2 ++ [_]).length ≤ 30
    rw [List.length_append, List.length_singleton]; omega
  · show (stB S b).2.1 ≤ nI n + 1
    rw [n1, nI_1]
    exact of_eq_true (leT rfl rfl (Nat.le_succ n) (by omega))
theorem kpC.u {R0 R1 : Rs} {sc js is : List Nat} (k : kp sc js is R0 R1) (h1 : ∀ x ∈ sc, x ∈ [5, 25]) (h2 : ∀ x ∈ js, x ∈ [1, 10]) (h3 : ∀ x ∈ is, x ∈ [3, 4]) : kpC R0 R1 := k.up h1 h2 h3
end
