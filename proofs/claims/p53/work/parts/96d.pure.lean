/-! PURE: questions on both sides -/
theorem hf2 {E E1 : String} (h : E ≠ E1) (c c1 : Int32) (r : List (String × Int32)) : hFind E ((E1, c1) :: (E, c) :: r) = some c := by rw [hFind, if_neg h, hFind, if_pos rfl]
section
variable {M : Mem} {R : Rs} {I O : List Int32} {S : St} {K : Nat → St} {B : Nat → Bool} {C : Nat} {H : Nat → St} {N : List Nt} {E : Er} {c : Nat} {t v : Int32} {hs : List (String × Int32)} {f : Option ((Int32 ⊕ String) × Mem)} {P : Mem → Prop} {Q : Rs → Prop}
end
