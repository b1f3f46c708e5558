/-! PURE: findBox, findSession, load -/
section
variable {M : Mem} {m : Nat} {R : Rs}
end
section
variable {M : Mem} {m : Nat} {R : Rs} {I O : List Int32} {S : St} {K : Nat → St} {B : Nat → Bool} {C : Nat} {H : Nat → St} {N : List Nt} {E : Er} {c : Nat}
/-- a command begins; the loaded state stands -/
theorem beginAct_l (h : Cls M I O S K B C H N E) {T : St} (hT : stA M 164 T) : ∃ M' S', f_X11_beginAct 100 M = some M' ∧ agr S' S ∧ Cls M' I O S K B (upC C) (push S' H) [] E ∧ off M M' 100 616 ∧ stA M' 164 T := by
  obtain ⟨M1, S', e1, g1, h1, o1⟩ := X2_rem_e h.h h.s (by omega)
  have c1 := h.mH h1 o1
  obtain ⟨M2, e2, n2, o2⟩ := X4_clear_e c1.n
  exact ⟨M2, S', by simp only [f_X11_beginAct, h.ob, h.g6, h.g2, e1, c1.g7, e2, bso], g1, c1.mN n2 o2, (o1.wide (by omega) (by omega)).trans (o2.wide (by omega) (by omega)), (hT.sm (o1.same (by omega))).sm (o2.same (by omega))⟩
theorem entR.agr {T S' : St} (h : entR T S') : agr S' (entS T) :=
  ⟨h.1, h.2.1, h.2.2.1, fun k _ => by rw [h.2.2.2.1]; rfl, fun k hk => h.2.2.2.2 k hk⟩
theorem cntM_N (S : St) : cntM S = nI (cntN S) := by
  unfold cntM cntN
  have : ∀ n : Nat, fd (fun k a => a + nI (stB S k).2.2.length) 0 n 0 = nI (fd (fun k a => a + (stB S k).2.2.length) 0 n 0) := by
    intro n
    induction n with
    | zero => rfl
    | succ n ih => rw [fd_snoc, fd_snoc, ih, nI_add]
  exact this (stN S)
theorem finish_e (h : Cls M I O S K B C H N E) {T : St} (hT : stA M 164 T) {x y : Int32} (hx : gI M 9 13 708 = some x) (hy : ∀ M', off M M' 100 1 → gI M' 9 14 708 = some y) : ∃ M', f_X11_finishReading 100 M = some M' ∧ Cls M' [] O S K B C H N (x, y) ∧ off M M' 100 616 ∧ stA M' 164 T := by
  obtain ⟨M1, e1, c1, o1⟩ := h.p11 x
  obtain ⟨M2, e2, c2, o2⟩ := c1.p12 y
  obtain ⟨M3, e3, y3, o3⟩ := X1_clear_e c2.i
  refine ⟨M3, ?_, c2.mI y3 o3, ((o1.wide (by omega) (by omega)).trans (o2.wide (by omega) (by omega))).trans (o3.wide (by omega) (by omega)), ((hT.sm (o1.same (by omega))).sm (o2.same (by omega))).sm (o3.same (by omega))⟩
  simp only [f_X11_finishReading, h.ob, h.g8, hx, e1, c1.g8, hy M1 o1, e2, c2.g0, e3, bso]
theorem tkM_13 {X : Tx} {A : Ta} (h : tkM M 708 101 X A) : gI M 9 13 708 = some X.2.2.2.2.2.2.2.1 := by rw [gI_h h.1]; rfl
theorem tkM_14 {X : Tx} {A : Ta} (h : tkM M 708 101 X A) {M' : Mem} (o : off M M' 100 1) : gI M' 9 14 708 = some X.2.2.2.2.2.2.2.2 := by rw [gI_h ((o.2 708 (by omega)).trans h.1)]; rfl
end
