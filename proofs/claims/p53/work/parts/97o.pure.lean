/-! PURE: findBox, findSession, load -/
section
variable {M : Mem} {m : Nat} {R : Rs}
end
section
variable {M : Mem} {m : Nat} {R : Rs} {I O : List Int32} {S : St} {K : Nat → St} {B : Nat → Bool} {C : Nat} {H : Nat → St} {N : List Nt} {E : Er} {c : Nat}
theorem entR.agr {T S' : St} (h : entR T S') : agr S' (entS T) :=
  ⟨h.1, h.2.1, h.2.2.1, fun k _ => by rw [h.2.2.2.1]; rfl, fun k hk => h.2.2.2.2 k hk⟩
end
