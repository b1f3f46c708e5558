/-! PURE: the class reads a text of statements -/
abbrev Er : Type := Int32 × Int32
/-- the state of a reading: token, state, limit told, message told -/
abbrev Ps : Type := Nat × St × Bool × Bool
def erA (l : List Int32) (i : Nat) (c : Int32) : Er := (c, nI (tkS (toks l i)))
def pLim (l : List Int32) (P : Ps) : Ps ⊕ Er :=
  if P.2.2.2 = true then .inr (erA l P.1 1) else if P.2.2.1 = true then .inr (erA l P.1 3)
  else if tNum (toks l (P.1 + 1)) 1 30 = 0 then .inl (P.1 + 2, (nI (tkV (toks l (P.1 + 1))), P.2.1.2), true, P.2.2.2) else .inr (erA l (P.1 + 1) (tNum (toks l (P.1 + 1)) 1 30))
def addBx (S : St) (J : Int64) : St := (stL S, stN S + 1, stM S, va_up (stB S) (stN S) (J, 1, []), stS S)
def pBox (l : List Int32) (P : Ps) : Ps ⊕ Er :=
  if stN P.2.1 = 3 then .inr (erA l P.1 4) else if tName l (toks l (P.1 + 1)) = false then .inr (erA l (P.1 + 1) 1)
  else if bnm P.2.1 (nmOf l (toks l (P.1 + 1))) = -1 then .inl (P.1 + 2, addBx P.2.1 (nmOf l (toks l (P.1 + 1))), P.2.2) else .inr (erA l (P.1 + 1) 3)
/-- flags, from a token on -/
def pFlg (l : List Int32) : Nat → Nat → Int32 → (Nat × Int32) ⊕ Er
  | 0, j, a => .inl (j, a)
  | n + 1, j, a => if tFlag l (toks l j) = 0 then .inl (j, a) else if a &&& tFlag l (toks l j) = 0 then pFlg l n (j + 1) (a ||| tFlag l (toks l j)) else .inr (erA l j 3)
def addMs (S : St) (k : Nat) (sz fl : Int32) : St := setBx S k ((stB S k).1, (stB S k).2.1 + 1, (stB S k).2.2 ++ [((stB S k).2.1, sz, fl)])
def pMsg (l : List Int32) (P : Ps) : Ps ⊕ Er :=
  let j := P.1 + 1
  if tName l (toks l j) = false then .inr (erA l j 1)
  else if bnm P.2.1 (nmOf l (toks l j)) = -1 then .inr (erA l j 3)
  else
    let k := (bnm P.2.1 (nmOf l (toks l j))).toNatClampNeg
    if stL P.2.1 ≤ nI (stB P.2.1 k).2.2.length then .inr (erA l j 4)
    else if tKw l (toks l (j + 1)) 3 = false then .inr (erA l (j + 1) 1)
    else if tNum (toks l (j + 2)) 1 9999 ≠ 0 then .inr (erA l (j + 2) (tNum (toks l (j + 2)) 1 9999))
    else match pFlg l 700 (j + 3) 0 with
      | .inr e => .inr e
      | .inl (j2, fl) => .inl (j2, addMs P.2.1 k (nI (tkV (toks l (j + 2)))) fl, P.2.2.1, true)
def addSs (S : St) (J : Int64) (bx : Int32) (rd : Bool) : St := (stL S, stN S, stM S + 1, stB S, va_up (stS S) (stM S) (J, bx, rd, false, 0, [], [0, 0, 0, 0, 0]))
def pSes (l : List Int32) (P : Ps) : Ps ⊕ Er :=
  let j := P.1 + 1
  if stM P.2.1 = 4 then .inr (erA l P.1 4) else if tName l (toks l j) = false then .inr (erA l j 1)
  else if snm P.2.1 (nmOf l (toks l j)) ≠ -1 then .inr (erA l j 3)
  else
    let rd := tKw l (toks l (j + 1)) 5
    let q := if rd = true then j + 2 else j + 1
    if rd = false ∧ tSym (toks l q) 59 = true then .inl (q, addSs P.2.1 (nmOf l (toks l j)) (-1) false, P.2.2)
    else if tName l (toks l q) = false then .inr (erA l q 1)
    else if bnm P.2.1 (nmOf l (toks l q)) = -1 then .inr (erA l q 3)
    else .inl (q + 1, addSs P.2.1 (nmOf l (toks l j)) (bnm P.2.1 (nmOf l (toks l q))) rd, P.2.2)
def pSem (l : List Int32) (x : Ps ⊕ Er) : Ps ⊕ Er := match x with
  | .inr e => .inr e
  | .inl P => if tSym (toks l P.1) 59 = true then .inl (P.1 + 1, P.2) else .inr (erA l P.1 1)
def pSta (l : List Int32) (P : Ps) : Ps ⊕ Er :=
  pSem l (if tKw l (toks l P.1) 0 = true then pLim l P else if tKw l (toks l P.1) 1 = true then pBox l P else if tKw l (toks l P.1) 2 = true then pMsg l P else if tKw l (toks l P.1) 4 = true then pSes l P else .inr (erA l P.1 1))
def pAll (l : List Int32) : Nat → Ps → Ps ⊕ Er
  | 0, P => .inl P
  | n + 1, P => if tkK (toks l P.1) = 0 then .inl P else match pSta l P with
    | .inr e => .inr e
    | .inl P' => pAll l n P'
def pTxt (l : List Int32) (S : St) : Ps ⊕ Er := match pSta l (0, S, false, false) with
  | .inr e => .inr e
  | .inl P => pAll l 700 P
/-- the reading goes on -/
def cP (M : Mem) (rp tk rt rl : Nat) (l : List Int32) (P : Ps) : Prop :=
  M.1 rp = some (.inr (8, [.ref tk, .int (b2i P.2.2.1), .int (b2i P.2.2.2)])) ∧ tkL M tk rt l P.1 ∧ stA M rl P.2.1 ∧ yA M rt 700 l ∧ wfS P.2.1
/-- the reading met an error -/
def cQ (M : Mem) (rp tk rt rl : Nat) (l : List Int32) (e : Er) : Prop :=
  (∃ a b : Bool, M.1 rp = some (.inr (8, [.ref tk, .int (b2i a), .int (b2i b)]))) ∧ tkF M tk rt e.1 e.2 ∧ (∃ S, stA M rl S ∧ wfS S) ∧ yA M rt 700 l
def cR (M : Mem) (rp tk rt rl : Nat) (l : List Int32) (x : Ps ⊕ Er) : Prop := match x with
  | .inl P => cP M rp tk rt rl l P
  | .inr e => cQ M rp tk rt rl l e
/-- where the parser's cells lie -/
def apt (rp tk rt rl : Nat) : Prop := (rt + 2 ≤ tk ∧ tk + 6 ≤ rp) ∧ (rt + 2 ≤ rl ∧ rl + 59 ≤ tk)
/-- what the parser may write -/
def offP (M M' : Mem) (rp tk rl : Nat) : Prop := M'.2 = M.2 ∧ ∀ q, (q < rl ∨ rl + 59 ≤ q) → (q < tk ∨ rp < q) → M'.1 q = M.1 q
section
variable {M : Mem} {rp tk rt rl : Nat} {l : List Int32}
theorem offP.rf (M : Mem) (rp tk rl : Nat) : offP M M rp tk rl := ⟨rfl, fun _ _ _ => rfl⟩
theorem offP.trans {M1 M2 : Mem} (h : offP M M1 rp tk rl) (g : offP M1 M2 rp tk rl) : offP M M2 rp tk rl := ⟨g.1.trans h.1, fun q h1 h2 => (g.2 q h1 h2).trans (h.2 q h1 h2)⟩
theorem off.pt {M' : Mem} (o : off M M' tk 6) (ap : apt rp tk rt rl) : offP M M' rp tk rl := ⟨o.1, fun q _ q2 => o.2 q (by have := ap.1.2; omega)⟩
theorem off.pl {M' : Mem} (o : off M M' rl 59) : offP M M' rp tk rl := ⟨o.1, fun q q1 _ => o.2 q (by omega)⟩
theorem off.po {M' : Mem} (o : off M M' rp 1) (ap : apt rp tk rt rl) : offP M M' rp tk rl := ⟨o.1, fun q _ q2 => o.2 q (by have := ap.1.2; omega)⟩
variable (ap : apt rp tk rt rl)
theorem cP.tok {P : Ps} {M' : Mem} {i : Nat} (ap : apt rp tk rt rl) (h : cP M rp tk rt rl l P) (o : off M M' tk 6) (t : tkL M' tk rt l i) : cP M' rp tk rt rl l (i, P.2) := by
  obtain ⟨⟨a1, a2⟩, a3, a4⟩ := ap
  exact ⟨(o.2 _ (by omega)).trans h.1, t, h.2.2.1.sm (o.same (by omega)), h.2.2.2.1.sm (o.same (by omega)), h.2.2.2.2⟩
theorem cP.err {P : Ps} {M' : Mem} {e : Er} (ap : apt rp tk rt rl) (h : cP M rp tk rt rl l P) (o : off M M' tk 6) (t : tkF M' tk rt e.1 e.2) : cQ M' rp tk rt rl l e := by
  obtain ⟨⟨a1, a2⟩, a3, a4⟩ := ap
  exact ⟨⟨P.2.2.1, P.2.2.2, (o.2 _ (by omega)).trans h.1⟩, t, ⟨P.2.1, h.2.2.1.sm (o.same (by omega)), h.2.2.2.2⟩, h.2.2.2.1.sm (o.same (by omega))⟩
theorem cP.g0 {P : Ps} (h : cP M rp tk rt rl l P) : gR M 8 0 rp = some tk := by rw [gR_h h.1]; rfl
theorem cP.g1 {P : Ps} (h : cP M rp tk rt rl l P) : gZ M 8 1 rp = some P.2.2.1 := by rw [gZ_h h.1]; exact vZ_b _
theorem cP.g2 {P : Ps} (h : cP M rp tk rt rl l P) : gZ M 8 2 rp = some P.2.2.2 := by rw [gZ_h h.1]; exact vZ_b _
theorem cP.ob {P : Ps} (h : cP M rp tk rt rl l P) {τ : Type} (x : Option τ) : ob M 8 rp x = x := ob_h h.1 x
theorem cQ.g0 {e : Er} (h : cQ M rp tk rt rl l e) : gR M 8 0 rp = some tk := by obtain ⟨⟨a, b, h1⟩, -⟩ := h; rw [gR_h h1]; rfl
theorem cQ.ob {e : Er} (h : cQ M rp tk rt rl l e) {τ : Type} (x : Option τ) : ob M 8 rp x = x := by obtain ⟨⟨a, b, h1⟩, -⟩ := h; exact ob_h h1 x
/-- the object's two signs -/
theorem cP.p1 {P : Ps} (ap : apt rp tk rt rl) (h : cP M rp tk rt rl l P) (b : Bool) : ∃ M', pV M 8 1 rp (.int (b2i b)) = some M' ∧ cP M' rp tk rt rl l (P.1, P.2.1, b, P.2.2.2) ∧ off M M' rp 1 := by
  obtain ⟨⟨a1, a2⟩, a3, a4⟩ := ap
  have o := off_set M rp (.inr (8, [.ref tk, .int (b2i b), .int (b2i P.2.2.2)]))
  exact ⟨_, by rw [pV_h h.1 (Nat.le_of_ble_eq_true rfl)]; rfl, ⟨mset_at _ _ _, h.2.1.sm (o.same (by omega)), h.2.2.1.sm (o.same (by omega)), h.2.2.2.1.sm (o.same (by omega)), h.2.2.2.2⟩, o⟩
theorem cP.p2 {P : Ps} (ap : apt rp tk rt rl) (h : cP M rp tk rt rl l P) (b : Bool) : ∃ M', pV M 8 2 rp (.int (b2i b)) = some M' ∧ cP M' rp tk rt rl l (P.1, P.2.1, P.2.2.1, b) ∧ off M M' rp 1 := by
  obtain ⟨⟨a1, a2⟩, a3, a4⟩ := ap
  have o := off_set M rp (.inr (8, [.ref tk, .int (b2i P.2.2.1), .int (b2i b)]))
  exact ⟨_, by rw [pV_h h.1 (Nat.le_of_ble_eq_true rfl)]; rfl, ⟨mset_at _ _ _, h.2.1.sm (o.same (by omega)), h.2.2.1.sm (o.same (by omega)), h.2.2.2.1.sm (o.same (by omega)), h.2.2.2.2⟩, o⟩
theorem cQ.p1 {e : Er} (ap : apt rp tk rt rl) (h : cQ M rp tk rt rl l e) (b : Bool) : ∃ M', pV M 8 1 rp (.int (b2i b)) = some M' ∧ cQ M' rp tk rt rl l e ∧ off M M' rp 1 := by
  obtain ⟨⟨a1, a2⟩, a3, a4⟩ := ap
  obtain ⟨⟨x, y, h1⟩, h2, ⟨S, h3, h4⟩, h5⟩ := h
  have o := off_set M rp (.inr (8, [.ref tk, .int (b2i b), .int (b2i y)]))
  exact ⟨_, by rw [pV_h h1 (Nat.le_of_ble_eq_true rfl)]; rfl, ⟨⟨b, y, mset_at _ _ _⟩, h2.sm (o.same (by omega)), ⟨S, h3.sm (o.same (by omega)), h4⟩, h5.sm (o.same (by omega))⟩, o⟩
/-- a state of the target takes the place of another -/
theorem cP.sta {P : Ps} {M' : Mem} {S' : St} (ap : apt rp tk rt rl) (h : cP M rp tk rt rl l P) (o : off M M' rl 59) (s : stA M' rl S') (w : wfS S') : cP M' rp tk rt rl l (P.1, S', P.2.2) := by
  obtain ⟨⟨a1, a2⟩, a3, a4⟩ := ap
  exact ⟨(o.2 _ (by omega)).trans h.1, h.2.1.sm (o.same (by omega)), s, h.2.2.2.1.sm (o.same (by omega)), w⟩
theorem cQ.sta {e : Er} {M' : Mem} {S' : St} (ap : apt rp tk rt rl) (h : cQ M rp tk rt rl l e) (o : off M M' rl 59) (s : stA M' rl S') (w : wfS S') : cQ M' rp tk rt rl l e := by
  obtain ⟨⟨a1, a2⟩, a3, a4⟩ := ap
  obtain ⟨⟨x, y, h1⟩, h2, h3, h5⟩ := h
  exact ⟨⟨x, y, (o.2 _ (by omega)).trans h1⟩, h2.sm (o.same (by omega)), ⟨S', s, w⟩, h5.sm (o.same (by omega))⟩
theorem cQ_lim {e : Er} (ap : apt rp tk rt rl) (h : cQ M rp tk rt rl l e) : ∃ M', f_X9_parseLimit_33 rp rl M = some M' ∧ cQ M' rp tk rt rl l e ∧ offP M M' rp tk rl := by
  obtain ⟨x, hx⟩ := X10_pnum_F h.2.1 1 30
  obtain ⟨S, hS, hw⟩ := h.2.2.1
  obtain ⟨M1, e1, s1, o1⟩ := hS.pL x
  have o1' : off M M1 rl 59 := o1.wide (by omega) (by omega)
  have h1 := h.sta ap o1' s1 hw
  obtain ⟨M2, e2, h2, o2⟩ := h1.p1 ap true
  refine ⟨M2, ?_, h2, o1'.pl.trans (o2.po ap)⟩
  simp only [f_X9_parseLimit_33, h.g0, X10_next_F h.2.1, hx, e1, e2, bso]
theorem X9_limit_e {P : Ps} (ap : apt rp tk rt rl) (h : cP M rp tk rt rl l P) (hk : tkK (toks l P.1) ≠ 0) : ∃ M', f_X9_parseLimit rp rl M = some M' ∧ cR M' rp tk rt rl l (pLim l P) ∧ offP M M' rp tk rl := by
  simp only [f_X9_parseLimit, h.ob, h.g2, h.g1, bso, pLim]
  cases hm : P.2.2.2 with
  | true =>
    obtain ⟨M1, e1, t1, o1⟩ := X10_fail_L h.2.1 (c := 1) (by decide)
    have q1 := h.err ap o1 (e := erA l P.1 1) t1
    obtain ⟨M2, e2, q2, o2⟩ := cQ_lim ap q1
    exact ⟨M2, by simp only [cond_true, h.g0, e1, e2, bso], by simp only [if_true]; exact q2, (o1.pt ap).trans o2⟩
  | false =>
    simp only [cond_false, Bool.false_eq_true, if_false]
    cases hl : P.2.2.1 with
    | true =>
      obtain ⟨M1, e1, t1, o1⟩ := X10_fail_L h.2.1 (c := 3) (by decide)
      have q1 := h.err ap o1 (e := erA l P.1 3) t1
      obtain ⟨M2, e2, q2, o2⟩ := cQ_lim ap q1
      exact ⟨M2, by simp only [cond_true, h.g0, e1, e2, bso], by simp only [if_true]; exact q2, (o1.pt ap).trans o2⟩
    | false =>
      simp only [cond_false, Bool.false_eq_true, if_false]
      obtain ⟨M1, e1, t1, o1⟩ := X10_next_L h.2.1 hk
      have h1 := h.tok ap o1 t1
      rcases X10_pnum_L t1 (lo := 1) (hi := 30) (by omega) (by omega) with ⟨n0, M2, e2, t2, o2⟩ | ⟨n0, x, M2, e2, t2, o2⟩
      · have h2 := h1.tok ap o2 t2
        obtain ⟨M3, e3, s3, o3⟩ := h2.2.2.1.pL (nI (tkV (toks l (P.1 + 1))))
        have o3' : off M2 M3 rl 59 := o3.wide (by omega) (by omega)
        have h3 := h2.sta ap o3' s3 h.2.2.2.2
        obtain ⟨M4, e4, h4, o4⟩ := h3.p1 ap true
        have e2' : f_X10_passNumber tk 1 30 M1 = some (nI (tkV (toks l (P.1 + 1))), M2) := e2
        refine ⟨M4, by simp only [f_X9_parseLimit_33, h.g0, e1, h1.g0, e2', e3, e4, bso], ?_, (((o1.pt ap).trans (o2.pt ap)).trans o3'.pl).trans (o4.po ap)⟩
        simp only [n0, if_true]
        rw [← hm]
        exact h4
      · have q2 := h1.err ap o2 (e := erA l (P.1 + 1) (tNum (toks l (P.1 + 1)) 1 30)) t2
        obtain ⟨S, hS, hw⟩ := q2.2.2.1
        obtain ⟨M3, e3, s3, o3⟩ := hS.pL x
        have o3' : off M2 M3 rl 59 := o3.wide (by omega) (by omega)
        have q3 := q2.sta ap o3' s3 hw
        obtain ⟨M4, e4, q4, o4⟩ := q3.p1 ap true
        have e2' : f_X10_passNumber tk 1 30 M1 = some (x, M2) := e2
        refine ⟨M4, by simp only [f_X9_parseLimit_33, h.g0, e1, h1.g0, e2', e3, e4, bso], ?_, (((o1.pt ap).trans (o2.pt ap)).trans o3'.pl).trans (o4.po ap)⟩
        simp only [n0, if_false]
        exact q4
end
