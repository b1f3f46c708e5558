/-! PURE: the reference loads a text whole -/
section
variable {M : Mem} {m : Nat} {R : Rs} {l : List Int32} {S0 S : St} {cnt : Nat} {hk : Nat → St}
theorem hsR.cg {R R' : Rs} (h : hsR R cnt hk) (e1 : R'.1 25 = R.1 25) (e2 : R'.2.2.1 10 = R.2.2.1 10) : hsR R' cnt hk := ⟨e1.trans h.1, h.2.1, fun i hi => by rw [e2]; exact h.2.2 i hi⟩
end
