/-! PURE: the reference, what a call begins with -/
/-- all but some scalars, rows and arrays is as it was -/
def kp (sc js is : List Nat) (R R' : Rs) : Prop := R'.2.1 = R.2.1 ∧ (∀ k, k ∉ sc → R'.1 k = R.1 k) ∧ (∀ a, a ∉ js → R'.2.2.1 a = R.2.2.1 a) ∧ ∀ a, a ∉ is → R'.2.2.2 a = R.2.2.2 a
theorem kp.rf (sc js is : List Nat) (R : Rs) : kp sc js is R R := ⟨rfl, fun _ _ => rfl, fun _ _ => rfl, fun _ _ => rfl⟩
theorem kp.trans {sc js is : List Nat} {R R1 R2 : Rs} (h : kp sc js is R R1) (g : kp sc js is R1 R2) : kp sc js is R R2 := ⟨g.1.trans h.1, fun k hk => (g.2.1 k hk).trans (h.2.1 k hk), fun a ha => (g.2.2.1 a ha).trans (h.2.2.1 a ha), fun a ha => (g.2.2.2 a ha).trans (h.2.2.2 a ha)⟩
theorem kp.up {sc js is sc' js' is' : List Nat} {R R' : Rs} (h : kp sc js is R R') (h1 : ∀ x ∈ sc, x ∈ sc') (h2 : ∀ x ∈ js, x ∈ js') (h3 : ∀ x ∈ is, x ∈ is') : kp sc' js' is' R R' := ⟨h.1, fun k hk => h.2.1 k (fun z => hk (h1 k z)), fun a ha => h.2.2.1 a (fun z => ha (h2 a z)), fun a ha => h.2.2.2 a (fun z => ha (h3 a z))⟩
theorem row1 {R : Rs} (hw : R.2.1 = false) : rowN R = 1 := by rw [rowN, hw]; rfl
theorem kpT.kp {R R' : Rs} (h : kpT R R') (hw : R.2.1 = false) : kp [5] [1] [3] R R' := by
  refine ⟨h.1, fun k hk => h.2.1 k (fun z => hk (by rw [z]; exact List.mem_singleton.mpr rfl)), fun a ha => h.2.2.1 a (fun z => ha ?_), fun a ha => h.2.2.2 a (fun z => ha (by rw [z]; exact List.mem_singleton.mpr rfl))⟩
  rw [row1 hw] at z
  rw [z]; exact List.mem_singleton.mpr rfl
theorem kp.row {sc js is : List Nat} {R R' : Rs} (h : kp sc js is R R') (hw : R.2.1 = false) (hj : 1 ∉ js) : rowf R' = rowf R := by
  have h1 := row1 hw
  have h2 : rowN R' = 1 := row1 (h.1.trans hw)
  rw [rowf, rowf, h1, h2]
  exact h.2.2.1 1 hj
def cdo (s : Sx) : Bool := !decide (sxB s = -1) && !sxI s
section
variable {M : Mem} {m : Nat} {R : Rs} {S : St}
/-- what can be undone, the latest first -/
def hsR (R : Rs) (cnt : Nat) (hk : Nat → St) : Prop := R.1 25 = nI cnt ∧ cnt ≤ 6 ∧ ∀ i, i < cnt → rep (fun q => R.2.2.1 10 (806 * (cnt - 1 - i) + q)) (hk i)
theorem rep.ext {f g : Nat → Int64} {S : St} (h : rep f S) (e : ∀ q, q < 806 → g q = f q) : rep g S := by
  obtain ⟨h1, h2, h3, h4, h5, h6, h7⟩ := h
  refine ⟨(rg_eq (e _ (by omega))).trans h1, (rg_eq (e _ (by omega))).trans h2, (rg_eq (e _ (by omega))).trans h3, h4, h5, fun b hb => ⟨(h6 b hb).1, (h6 b hb).2.fr (fun q q1 q2 => e q (by unfold bAt at *; omega)) (h6 b hb).1⟩, fun s hs => ⟨(h7 s hs).1, (h7 s hs).2.fr (fun q q1 q2 => e q (by unfold sAt at *; omega)) (h7 s hs).1⟩⟩
end
