/-! PURE: questions on both sides -/
theorem hf2 {E E1 : String} (h : E ≠ E1) (c c1 : Int32) (r : List (String × Int32)) : hFind E ((E1, c1) :: (E, c) :: r) = some c := by rw [hFind, if_neg h, hFind, if_pos rfl]
section
variable {M : Mem} {R : Rs} {I O : List Int32} {S : St} {K : Nat → St} {B : Nat → Bool} {C : Nat} {H : Nat → St} {N : List Nt} {E : Er} {c : Nat} {t v : Int32} {hs : List (String × Int32)} {f : Option ((Int32 ⊕ String) × Mem)} {P : Mem → Prop} {Q : Rs → Prop}
theorem ClsO.rd {x : Int32} (e : f = some (.inl x, M)) (p : P M) : ClsO f M hs 0 x P := ⟨_, M, e, off.rf _ _ _, p, .inl ⟨x, rfl, rfl, rfl⟩⟩
theorem RefO.rd {g : Option (Int32 × Mem)} {b : Int32} (e : g = some (b, ov M 716 (rsS R 0 t))) (hb : t = 0 → b = v) (p : Q (rsS R 0 t)) : RefO g M t v Q := ⟨b, _, e, rsS_at _ _ _, hb, p⟩
end
