/-! PURE: the reference loads -/
theorem rep.agr {f : Nat → Int64} {S T : St} (h : rep f S) (g : agr S T) : rep f T := by
  obtain ⟨h1, h2, h3, h4, h5, h6, h7⟩ := h
  obtain ⟨g1, g2, g3, g4, g5⟩ := g
  refine ⟨h1.trans g1, by rw [← g2]; exact h2, by rw [← g3]; exact h3, by omega, by omega, fun b hb => ?_, fun s hs => ?_⟩
  · rw [← g4 b hb]; exact h6 b (by omega)
  · rw [← g5 s hs]; exact h7 s (by omega)
section
variable {M : Mem} {m : Nat} {R : Rs} {l : List Int32} {i : Nat} {c p : Int32} {S : St}
end
