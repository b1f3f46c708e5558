/-! PURE: the class reads a query -/
abbrev Qr : Type := (Nat × Int32) ⊕ Er
/-- a comparison: uid or size -/
def qCmp (l : List Int32) (ms : Ms) (z : Bool) (i : Nat) : Qr :=
  if tSym (toks l (i + 1)) 60 = false ∧ tSym (toks l (i + 1)) 62 = false then .inr (erA l (i + 1) 1)
  else if tNum (toks l (i + 2)) 0 9999 = 0 then .inl (i + 3, setB (pC z (tSym (toks l (i + 1)) 60) (nI (tkV (toks l (i + 2))))) ms)
  else .inr (erA l (i + 2) (tNum (toks l (i + 2)) 0 9999))
/-- a factor begins at this token -/
def qB (l : List Int32) (t : Tk) : Bool := tKw l t 13 || tSym t 40 || tKw l t 11 || !decide (tFlag l t = 0) || tKw l t 3 || tKw l t 12
def qTl (l : List Int32) (F : Nat → Qr) : Nat → Nat → Int32 → Qr
  | 0, i, a => .inl (i, a)
  | n + 1, i, a => if qB l (toks l i) = true then (match F i with
      | .inl y => qTl l F n y.1 (a &&& y.2)
      | .inr e => .inr e) else .inl (i, a)
def qT (l : List Int32) (F : Nat → Qr) (i : Nat) : Qr := match F i with
  | .inl y => qTl l F 700 y.1 y.2
  | .inr e => .inr e
def qQl (l : List Int32) (F : Nat → Qr) : Nat → Nat → Int32 → Qr
  | 0, i, a => .inl (i, a)
  | n + 1, i, a => if tKw l (toks l i) 14 = true then (match qT l F (i + 1) with
      | .inl y => qQl l F n y.1 (a ||| y.2)
      | .inr e => .inr e) else .inl (i, a)
def qQ (l : List Int32) (F : Nat → Qr) (i : Nat) : Qr := match qT l F i with
  | .inl y => qQl l F 700 y.1 y.2
  | .inr e => .inr e
/-- after an opening: what is negated -/
def qN (ms : Ms) (x : Qr) : Qr := match x with
  | .inl y => .inl (y.1, allB ms.length &&& (y.2 ^^^ (-1)))
  | .inr e => .inr e
/-- what is enclosed -/
def qE (l : List Int32) (x : Qr) : Qr := match x with
  | .inl y => if tSym (toks l y.1) 41 = true then .inl (y.1 + 1, y.2) else .inr (erA l y.1 1)
  | .inr e => .inr e
/-- a factor that opens nothing -/
def qZ (l : List Int32) (ms : Ms) (O : Bool → Qr) (i : Nat) : Qr :=
  if tFlag l (toks l i) = 0 then
    if tKw l (toks l i) 11 = true then .inl (i + 1, allB ms.length)
    else if tKw l (toks l i) 3 = true then qCmp l ms true i
    else if tKw l (toks l i) 12 = true then qCmp l ms false i
    else if tKw l (toks l i) 13 = true then O true
    else if tSym (toks l i) 40 = true then O false
    else .inr (erA l i 1)
  else .inl (i + 1, setB (pF (tFlag l (toks l i))) ms)
/-- a factor, with so many openings left -/
def qF (l : List Int32) (ms : Ms) : Nat → Nat → Qr
  | 0, i => qZ l ms (fun _ => .inr (erA l i 5)) i
  | b + 1, i => qZ l ms (fun n => bif n then qN ms (qF l ms b (i + 1)) else qE l (qQ l (qF l ms b) (i + 1))) i
/-- the whole query -/
def qAll (l : List Int32) (ms : Ms) : Qr := match qQ l (qF l ms 5) 0 with
  | .inl y => if tkK (toks l y.1) = 0 then .inl y else .inr (erA l y.1 1)
  | .inr e => .inr e
/-- the object and the box -/
def qH (M : Mem) (rq tk rb : Nat) (ms : Ms) : Prop := M.1 rq = some (.inr (5, [.ref tk])) ∧ (∃ J nx, bA M rb J nx ms) ∧ (rq < tk ∨ tk + 6 ≤ rq) ∧ (rb + 7 ≤ tk ∨ tk + 6 ≤ rb)
def qO (M : Mem) (tk rt : Nat) (l : List Int32) (v : Int32) (x : Qr) : Prop := match x with
  | .inl y => v = y.2 ∧ tkL M tk rt l y.1
  | .inr e => tkF M tk rt e.1 e.2
section
variable {M M' : Mem} {rq tk rt rb : Nat} {l : List Int32} {ms : Ms}
theorem qH.sm (h : qH M rq tk rb ms) (o : off M M' tk 6) : qH M' rq tk rb ms := by
  obtain ⟨h1, ⟨J, nx, h2⟩, d1, d2⟩ := h
  exact ⟨(o.2 _ d1).trans h1, ⟨J, nx, h2.sm (o.same (by omega))⟩, d1, d2⟩
theorem qH.ob (h : qH M rq tk rb ms) {τ : Type} (x : Option τ) : ob M 5 rq x = x := ob_h h.1 x
theorem qH.g0 (h : qH M rq tk rb ms) : gR M 5 0 rq = some tk := by rw [gR_h h.1]; rfl
theorem qH.flg (h : qH M rq tk rb ms) (f : Int32) : f_X0_withFlag rb f M = some (setB (pF f) ms) := by
  obtain ⟨-, ⟨J, nx, h2⟩, -⟩ := h
  exact X0_withFlag_e h2 f
end
