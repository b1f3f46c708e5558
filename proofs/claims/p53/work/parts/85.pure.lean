/-! PURE: the reference reads bytes into a token -/
/-- the reference holds the text -/
def rTx (R : Rs) (l : List Int32) : Prop := R.1 9 = nI l.length ∧ l.length ≤ 700 ∧ ∀ k, k < l.length → R.2.2.2 5 k = l.getD k 0
section
variable {M : Mem} {m : Nat} {R : Rs} {l : List Int32}
end
