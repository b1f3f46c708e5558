/-! PURE: what the reference's row says -/
def rg (f : Nat → Int64) (k : Nat) : Int32 := Int64.toInt32 (f k)
/-- a name of the class and one of the reference -/
def lets (w : List Int32) : Prop := 0 < w.length ∧ w.length ≤ 6 ∧ ∀ x ∈ w, ∃ d : Nat, 97 ≤ d ∧ d ≤ 122 ∧ x = nI d
def rstp (n : Int64) (x : Int32) : Int64 := 27 * n + Int32.toInt64 x - 96
def rnm (w : List Int32) : Int64 := w.foldl rstp 0
def nmR (J j : Int64) : Prop := ∃ w, lets w ∧ J = cnm w ∧ j = rnm w
def bRep (f : Nat → Int64) (a : Nat) (b : Bx) : Prop :=
  nmR b.1 (f a) ∧ rg f (a + 1) = nI b.2.2.length ∧ rg f (a + 2) = b.2.1 ∧ ∀ j, j < b.2.2.length → rg f (a + 3 + 3 * j) = mU (mg b.2.2 j) ∧ rg f (a + 3 + 3 * j + 1) = mS (mg b.2.2 j) ∧ rg f (a + 3 + 3 * j + 2) = mF (mg b.2.2 j)
def sRep (f : Nat → Int64) (a : Nat) (s : Sx) : Prop :=
  nmR s.1 (f a) ∧ rg f (a + 1) = sxB s ∧ rg f (a + 2) = b2i (sxR s) ∧ rg f (a + 3) = b2i (sxI s) ∧ rg f (a + 4) = nI (sxE s).length ∧ rg f (a + 5) = sxH s ∧ (∀ j, j < 5 → rg f (a + 6 + j) = (sxC s).getD j 0) ∧ ∀ k, k < (sxE s).length → rg f (a + 11 + 2 * k) = eU (eg (sxE s) k) ∧ rg f (a + 11 + 2 * k + 1) = eT (eg (sxE s) k)
def bAt (b : Nat) : Nat := 3 + 93 * b
def sAt (s : Nat) : Nat := 282 + 131 * s
/-- the row says a state -/
def rep (f : Nat → Int64) (S : St) : Prop :=
  rg f 0 = stL S ∧ rg f 1 = nI (stN S) ∧ rg f 2 = nI (stM S) ∧ stN S ≤ 3 ∧ stM S ≤ 4 ∧ (∀ b, b < stN S → (stB S b).2.2.length ≤ 30 ∧ bRep f (bAt b) (stB S b)) ∧ (∀ s, s < stM S → (sxE (stS S s)).length ≤ 60 ∧ sRep f (sAt s) (stS S s))
section
variable {M : Mem} {m : Nat} {R : Rs}
end
/-! a number between -/
section
variable {M : Mem} {m : Nat} {R : Rs} {S : St}
theorem rep.bx (h : rep (rowf R) S) {b : Nat} (hb : b < stN S) : bRep (rowf R) (bAt b) (stB S b) := (h.2.2.2.2.2.1 b hb).2
theorem rep.sx (h : rep (rowf R) S) {s : Nat} (hs : s < stM S) : sRep (rowf R) (sAt s) (stS S s) := (h.2.2.2.2.2.2 s hs).2
theorem rep.ls (h : rep (rowf R) S) {s : Nat} (hs : s < stM S) : (sxE (stS S s)).length ≤ 60 := (h.2.2.2.2.2.2 s hs).1
end
