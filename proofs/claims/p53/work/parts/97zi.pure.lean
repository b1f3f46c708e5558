/-! PURE: the law's walk comes to true -/
/-- the start: nothing of its own, the script -/
def M0 (L : Nat) (xs : Nat → Int32) : Mem := (fun _ => none, 100, L, xs)