/-! PURE: the class reads a query -/
abbrev Qr : Type := (Nat × Int32) ⊕ Er
/-- a comparison: uid or size -/
def qCmp (l : List Int32) (ms : Ms) (z : Bool) (i : Nat) : Qr :=
  if tSym (toks l (i + 1)) 60 = false ∧ tSym (toks l (i + 1)) 62 = false then .inr (erA l (i + 1) 1)
  else if tNum (toks l (i + 2)) 0 9999 = 0 then .inl (i + 3, setB (pC z (tSym (toks l (i + 1)) 60) (nI (tkV (toks l (i + 2))))) ms)
  else .inr (erA l (i + 2) (tNum (toks l (i + 2)) 0 9999))
/-- a factor begins at this token -/
def qB (l : List Int32) (t : Tk) : Bool := tKw l t 13 || tSym t 40 || tKw l t 11 || !decide (tFlag l t = 0) || tKw l t 3 || tKw l t 12
def qTl (l : List Int32) (F : Nat → Qr) : Nat → Nat → Int32 → Qr
  | 0, i, a => .inl (i, a)
  | n + 1, i, a => if qB l (toks l i) = true then (match F i with
      | .inl y => qTl l F n y.1 (a &&& y.2)
      | .inr e => .inr e) else .inl (i, a)
def qT (l : List Int32) (F : Nat → Qr) (i : Nat) : Qr := match F i with
  | .inl y => qTl l F 700 y.1 y.2
  | .inr e => .inr e
def qQl (l : List Int32) (F : Nat → Qr) : Nat → Nat → Int32 → Qr
  | 0, i, a => .inl (i, a)
  | n + 1, i, a => if tKw l (toks l i) 14 = true then (match qT l F (i + 1) with
      | .inl y => qQl l F n y.1 (a ||| y.2)
      | .inr e => .inr e) else .inl (i, a)
def qQ (l : List Int32) (F : Nat → Qr) (i : Nat) : Qr := match qT l F i with
  | .inl y => qQl l F 700 y.1 y.2
  | .inr e => .inr e
/-- after an opening: what is negated -/
def qN (ms : Ms) (x : Qr) : Qr := match x with
  | .inl y => .inl (y.1, allB ms.length &&& (y.2 ^^^ (-1)))
  | .inr e => .inr e
/-- what is enclosed -/
def qE (l : List Int32) (x : Qr) : Qr := match x with
  | .inl y => if tSym (toks l y.1) 41 = true then .inl (y.1 + 1, y.2) else .inr (erA l y.1 1)
  | .inr e => .inr e
/-- a factor that opens nothing -/
def qZ (l : List Int32) (ms : Ms) (O : Bool → Qr) (i : Nat) : Qr :=
  if tFlag l (toks l i) = 0 then
    if tKw l (toks l i) 11 = true then .inl (i + 1, allB ms.length)
    else if tKw l (toks l i) 3 = true then qCmp l ms true i
    else if tKw l (toks l i) 12 = true then qCmp l ms false i
    else if tKw l (toks l i) 13 = true then O true
    else if tSym (toks l i) 40 = true then O false
    else .inr (erA l i 1)
  else .inl (i + 1, setB (pF (tFlag l (toks l i))) ms)
/-- a factor, with so many openings left -/
def qF (l : List Int32) (ms : Ms) : Nat → Nat → Qr
  | 0, i => qZ l ms (fun _ => .inr (erA l i 5)) i
  | b + 1, i => qZ l ms (fun n => bif n then qN ms (qF l ms b (i + 1)) else qE l (qQ l (qF l ms b) (i + 1))) i
/-- the whole query -/
def qAll (l : List Int32) (ms : Ms) : Qr := match qQ l (qF l ms 5) 0 with
  | .inl y => if tkK (toks l y.1) = 0 then .inl y else .inr (erA l y.1 1)
  | .inr e => .inr e
/-- the object and the box -/
def qH (M : Mem) (rq tk rb : Nat) (ms : Ms) : Prop := M.1 rq = some (.inr (5, [.ref tk])) ∧ (∃ J nx, bA M rb J nx ms) ∧ (rq < tk ∨ tk + 6 ≤ rq) ∧ (rb + 7 ≤ tk ∨ tk + 6 ≤ rb)
def qO (M : Mem) (tk rt : Nat) (l : List Int32) (v : Int32) (x : Qr) : Prop := match x with
  | .inl y => v = y.2 ∧ tkL M tk rt l y.1
  | .inr e => tkF M tk rt e.1 e.2
section
variable {M M' : Mem} {rq tk rt rb : Nat} {l : List Int32} {ms : Ms}
theorem qH.sm (h : qH M rq tk rb ms) (o : off M M' tk 6) : qH M' rq tk rb ms := by
  obtain ⟨h1, ⟨J, nx, h2⟩, d1, d2⟩ := h
  exact ⟨(o.2 _ d1).trans h1, ⟨J, nx, h2.sm (o.same (by omega))⟩, d1, d2⟩
theorem qH.ob (h : qH M rq tk rb ms) {τ : Type} (x : Option τ) : ob M 5 rq x = x := ob_h h.1 x
theorem qH.g0 (h : qH M rq tk rb ms) : gR M 5 0 rq = some tk := by rw [gR_h h.1]; rfl
theorem qH.all (h : qH M rq tk rb ms) : f_X0_everyMessage rb M = some (allB ms.length) := by
  obtain ⟨-, ⟨J, nx, h2⟩, -⟩ := h
  exact X0_every_e h2
theorem qH.flg (h : qH M rq tk rb ms) (f : Int32) : f_X0_withFlag rb f M = some (setB (pF f) ms) := by
  obtain ⟨-, ⟨J, nx, h2⟩, -⟩ := h
  exact X0_withFlag_e h2 f
theorem qH.cmp (h : qH M rq tk rb ms) (z l : Bool) (b : Int32) : f_X0_compared rb z l b M = some (setB (pC z l b) ms) := by
  obtain ⟨-, ⟨J, nx, h2⟩, -⟩ := h
  exact X0_compared_e h2 z l b
theorem X6_begF {e : Er} (h : qH M rq tk rb ms) (f : tkF M tk rt e.1 e.2) : f_X6_beginsFactor rq M = some false := by
  have s := X10_sym_F f 40
  simp only [f_X6_beginsFactor, h.ob, h.g0, X10_kw_F f, s, X10_flag_F f, bso, cond_false, if_true]
theorem X6_begL {i : Nat} (h : qH M rq tk rb ms) (f : tkL M tk rt l i) : f_X6_beginsFactor rq M = some (qB l (toks l i)) := by
  have s : f_X10_isSymbol tk 40 M = some (tSym (toks l i) 40) := X10_sym_L f (c := 40) (by omega)
  have k3 := X10_kw_L f (k := 3) (by omega)
  have k11 := X10_kw_L f (k := 11) (by omega)
  have k12 := X10_kw_L f (k := 12) (by omega)
  have k13 := X10_kw_L f (k := 13) (by omega)
  simp only [f_X6_beginsFactor, h.ob, h.g0, k3, k11, k12, k13, s, X10_flag_L f, bso, qB]
  cases tKw l (toks l i) 13
  · cases tSym (toks l i) 40
    · cases tKw l (toks l i) 11
      · simp only [cond_false, Bool.false_or]
        by_cases e : tFlag l (toks l i) = 0
        · rw [if_pos e, decide_eq_true e]
          cases tKw l (toks l i) 3
          · cases tKw l (toks l i) 12
            · simp only [cond_false, Bool.not_true, Bool.or_false]
            · simp only [cond_false, cond_true, Bool.or_true]
          · simp only [cond_true, Bool.or_true, Bool.true_or]
        · rw [if_neg e, decide_eq_false e]
          simp only [Bool.not_false, Bool.true_or]
      · simp only [cond_false, cond_true, Bool.or_true, Bool.true_or]
    · simp only [cond_false, cond_true, Bool.or_true, Bool.true_or]
  · simp only [cond_true, Bool.true_or]
theorem X6_cmp_e {i : Nat} (h : qH M rq tk rb ms) (f : tkL M tk rt l i) (hk : tkK (toks l i) ≠ 0) (z : Bool) : ∃ v M', f_X6_parseComparison rq rb z M = some (v, M') ∧ qO M' tk rt l v (qCmp l ms z i) ∧ off M M' tk 6 := by
  obtain ⟨M1, e1, t1, o1⟩ := X10_next_L f hk
  have h1 := h.sm o1
  have s1 : f_X10_isSymbol tk 60 M1 = some (tSym (toks l (i + 1)) 60) := X10_sym_L t1 (c := 60) (by omega)
  have s2 : f_X10_isSymbol tk 62 M1 = some (tSym (toks l (i + 1)) 62) := X10_sym_L t1 (c := 62) (by omega)
  have go : (tSym (toks l (i + 1)) 60 = true ∨ tSym (toks l (i + 1)) 62 = true) → ∃ v M', f_X6_parseComparison_41 rq rb z (tSym (toks l (i + 1)) 60) M1 = some (v, M') ∧ qO M' tk rt l v (qCmp l ms z i) ∧ off M M' tk 6 := by
    intro hs
    have hn : tkK (toks l (i + 1)) ≠ 0 := by
      rcases hs with hs | hs
      · have := of_decide_eq_true hs; omega
      · have := of_decide_eq_true hs; omega
    have hc : ¬ (tSym (toks l (i + 1)) 60 = false ∧ tSym (toks l (i + 1)) 62 = false) := by
      rintro ⟨y1, y2⟩
      rw [y1, y2] at hs
      rcases hs with hs | hs <;> cases hs
    obtain ⟨M2, e2, t2, o2⟩ := X10_next_L t1 hn
    have h2 := h1.sm o2
    rcases X10_pnum_L t2 (lo := 0) (hi := 9999) (by omega) (by omega) with ⟨n0, M3, e3, t3, o3⟩ | ⟨n0, x, M3, e3, t3, o3⟩
    · have e3 : f_X10_passNumber tk 0 9999 M2 = some (nI (tkV (toks l (i + 2))), M3) := e3
      have h3 := h2.sm o3
      refine ⟨_, M3, by simp only [f_X6_parseComparison_41, h1.g0, e2, h2.g0, e3, h3.cmp, bso]; rfl, ?_, (o1.trans o2).trans o3⟩
      unfold qCmp
      rw [if_neg hc, if_pos n0]
      exact ⟨rfl, t3⟩
    · have e3 : f_X10_passNumber tk 0 9999 M2 = some (x, M3) := e3
      have h3 := h2.sm o3
      refine ⟨_, M3, by simp only [f_X6_parseComparison_41, h1.g0, e2, h2.g0, e3, h3.cmp, bso]; rfl, ?_, (o1.trans o2).trans o3⟩
      unfold qCmp
      rw [if_neg hc, if_neg n0]
      exact t3
  simp only [f_X6_parseComparison, h.ob, h.g0, e1, h1.g0, s1, s2, bso]
  cases y1 : tSym (toks l (i + 1)) 60 with
  | true =>
    rw [y1] at go
    simp only [cond_true]
    exact go (.inl rfl)
  | false =>
    rw [y1] at go
    simp only [cond_false]
    cases y2 : tSym (toks l (i + 1)) 62 with
    | true =>
      simp only [cond_true]
      exact go (.inr y2)
    | false =>
      simp only [cond_false]
      obtain ⟨M2, e2, t2, o2⟩ := X10_fail_L t1 (c := 1) (by decide)
      have h2 := h1.sm o2
      obtain ⟨x, hx⟩ := X10_pnum_F t2 0 9999
      refine ⟨setB (pC z false x) ms, M2, by simp only [e2, f_X6_parseComparison_41, h2.g0, X10_next_F t2, hx, h2.cmp, bso], ?_, o1.trans o2⟩
      unfold qCmp
      rw [if_pos ⟨y1, y2⟩]
      exact t2
end
