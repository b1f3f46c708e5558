/-! PURE: notice, outputByte, isCurrent, unseen, mean -/
def nn32 (x : UInt32) : Prop := x &&& 0x7fffffff ≤ 0x7f800000
def nn64 (x : UInt64) : Prop := x &&& 0x7fffffffffffffff ≤ 0x7ff0000000000000
/-- what floats give -/
def FLq : Prop := (∀ a b : Int32, 0 < b.toInt → b.toInt < 1000 → nn32 (FP.fdiv (FP.i2f a) (FP.i2f b))) ∧ (∀ a b : Int32, 0 < b.toInt → nn64 (FP.ddiv (FP.i2d a) (FP.i2d b))) ∧ (∀ x, nn32 x → nn64 (FP.f2d x)) ∧ ∀ x, nn64 x → FP.dcmp x x = some .eq
section
variable {M : Mem} {m : Nat} {R : Rs} {I O : List Int32} {S : St} {K : Nat → St} {B : Nat → Bool} {C : Nat} {H : Nat → St} {N : List Nt} {E : Er} {c : Nat}
theorem ng_map (f : Nt → Int32) {k : Nat} (hk : k < N.length) : (N.map f).getD k 0 = f (ng N k) := by
  simp [ng, List.getD_eq_getElem?_getD, List.getElem?_map, List.getElem?_eq_getElem hk]
end
