/-! PURE: bits of a mask; the reference reads names and flags -/
theorem b1_v : ∀ j, j < 32 → (b1 j).toBitVec = BitVec.twoPow 32 j := by decide +kernel
section
variable {M : Mem} {m : Nat} {R : Rs} {l : List Int32} {i : Nat} {c p : Int32}
variable {S : St}
end
