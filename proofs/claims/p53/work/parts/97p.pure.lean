/-! PURE: searchBox, search -/
def BothJ (fX : Option ((Int64 ⊕ String) × Mem)) (gX : Mem → Option (Int64 × Mem)) (M : Mem) (R : Rs) (hs : List (String × Int32)) (c : Nat) : Prop :=
  ∃ t v I' O' S' K' B' C' H' N' E', (∃ o M1, fX = some (o, M1) ∧ off M M1 100 616 ∧ Cls M1 I' O' S' K' B' C' H' N' E' ∧ ((o = .inl v ∧ t = 0) ∨ ∃ Ex, o = .inr Ex ∧ hFind Ex hs = some t ∧ t ≠ 0)) ∧
    (∀ M2, ∃ b R', gX (ov M2 716 R) = some (b, ov M2 716 R') ∧ R'.1 0 = t ∧ (t = 0 → b = v) ∧ Ref R' I' O' S' K' B' C' H' N' E') ∧ okW c I' O' S' K' B' C' H' N'
section
variable {M : Mem} {m : Nat} {R : Rs} {I O : List Int32} {S : St} {K : Nat → St} {B : Nat → Bool} {C : Nat} {H : Nat → St} {N : List Nt} {E : Er} {c : Nat}
end
