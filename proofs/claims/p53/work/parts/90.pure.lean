/-! PURE: the reference's draft, the limit and the boxes -/
theorem rep.lim {f f' : Nat → Int64} {S : St} (h : rep f S) {v : Int32} (e0 : rg f' 0 = v) (e : ∀ q, 1 ≤ q → f' q = f q) : rep f' (v, S.2) := by
  obtain ⟨h1, h2, h3, h4, h5, h6, h7⟩ := h
  exact ⟨e0, (rg_eq (e _ (by omega))).trans h2, (rg_eq (e _ (by omega))).trans h3, h4, h5, fun b hb => ⟨(h6 b hb).1, (h6 b hb).2.fr (fun q q1 q2 => e q (by unfold bAt at *; omega)) (h6 b hb).1⟩, fun s hs => ⟨(h7 s hs).1, (h7 s hs).2.fr (fun q q1 q2 => e q (by unfold sAt at *; omega)) (h7 s hs).1⟩⟩
section
variable {M : Mem} {m : Nat} {R : Rs} {l : List Int32} {i : Nat} {c p : Int32} {P : Ps}
end
