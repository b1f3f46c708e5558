/-! PURE: the class reads a text into its state -/
def clr (S : St) : St := (30, 0, 0, stB S, stS S)
/-- the state after the sessions entered their boxes -/
def entR (S S' : St) : Prop := stL S' = stL S ∧ stN S' = stN S ∧ stM S' = stM S ∧ stB S' = stB S ∧ ∀ j, j < stM S → stS S' j = ent S (stS S j)
/-- the object at rest -/
def pRs (M : Mem) (rp tk rt rl : Nat) (l : List Int32) (S : St) : Prop :=
  (∃ a b : Bool, M.1 rp = some (.inr (8, [.ref tk, .int (b2i a), .int (b2i b)]))) ∧ tkX M tk rt ∧ stA M rl S ∧ yA M rt 700 l
def pEnd (l : List Int32) (M : Mem) (tk rt : Nat) (S' : St) (x : Ps ⊕ Er) : Prop := match x with
  | .inl P => tkL M tk rt l P.1 ∧ entR P.2.1 S'
  | .inr e => tkF M tk rt e.1 e.2
theorem ent_B (S : St) (s : Sx) : sxB (ent S s) = sxB s := by
  unfold ent
  split <;> rfl
theorem entR.wf {S S' : St} (h : entR S S') (hw : wfS S) : wfS S' := by
  intro k hk
  rw [h.2.2.1] at hk
  rw [h.2.2.2.2 k hk, ent_B]
  rcases hw k hk with e | ⟨b, b1, b2⟩
  · exact .inl e
  · exact .inr ⟨b, by rw [h.2.1]; exact b1, b2⟩
section
variable {M : Mem} {rp tk rt rl : Nat} {l : List Int32}
theorem X9_66_e {x : Ps ⊕ Er} (ap : apt rp tk rt rl) (h : cR M rp tk rt rl l x) : ∃ M' S', f_X9_parseInto_66 rl M = some M' ∧ pRs M' rp tk rt rl l S' ∧ wfS S' ∧ pEnd l M' tk rt S' x ∧ offP M M' rp tk rl := by
  cases x with
  | inl P =>
    have h : cP M rp tk rt rl l P := h
    obtain ⟨M', S', e1, s1, o1, r1⟩ := X8_enter_e h.2.2.1 h.2.2.2.2
    have r1 : entR P.2.1 S' := r1
    have g := h.sta ap o1 s1 (r1.wf h.2.2.2.2)
    exact ⟨M', S', by simp only [f_X9_parseInto_66, e1, bso], ⟨⟨_, _, g.1⟩, g.2.1.x, s1, g.2.2.2.1⟩, r1.wf h.2.2.2.2, ⟨g.2.1, r1⟩, o1.pl⟩
  | inr e =>
    have h : cQ M rp tk rt rl l e := h
    obtain ⟨S, hS, hw⟩ := h.2.2.1
    obtain ⟨M', S', e1, s1, o1, r1⟩ := X8_enter_e hS hw
    have r1 : entR S S' := r1
    have g := h.sta ap o1 s1 (r1.wf hw)
    exact ⟨M', S', by simp only [f_X9_parseInto_66, e1, bso], ⟨g.1, g.2.1.x, s1, g.2.2.2⟩, r1.wf hw, g.2.1, o1.pl⟩
theorem X9_into_e {S : St} (ap : apt rp tk rt rl) (h : pRs M rp tk rt rl l S) : ∃ M' S', f_X9_parseInto rp rl M = some M' ∧ pRs M' rp tk rt rl l S' ∧ wfS S' ∧ pEnd l M' tk rt S' (pTxt l (clr S)) ∧ offP M M' rp tk rl := by
  obtain ⟨⟨a, b, h1⟩, h2, h3, h4⟩ := h
  obtain ⟨⟨a1, a2⟩, a3, a4⟩ := id ap
  obtain ⟨M1, e1, s1, o1⟩ := X8_clear_e h3
  have s1 : stA M1 rl (clr S) := s1
  have g1 : M1.1 rp = some (.inr (8, [.ref tk, .int (b2i a), .int (b2i b)])) := (o1.2 _ (by omega)).trans h1
  have o2 := off_set M1 rp (.inr (8, [.ref tk, .int (b2i false), .int (b2i b)]))
  have e2 : pV M1 8 1 rp (.int (b2i false)) = some (mset M1 rp (.inr (8, [.ref tk, .int (b2i false), .int (b2i b)]))) := by rw [pV_h g1 (Nat.le_of_ble_eq_true rfl)]; rfl
  obtain ⟨M2, hM2⟩ : ∃ x, x = mset M1 rp (.inr (8, [.ref tk, .int (b2i false), .int (b2i b)])) := ⟨_, rfl⟩
  have g2 : M2.1 rp = some (.inr (8, [.ref tk, .int (b2i false), .int (b2i b)])) := by rw [hM2]; exact mset_at _ _ _
  rw [← hM2] at o2 e2
  have o3 := off_set M2 rp (.inr (8, [.ref tk, .int (b2i false), .int (b2i false)]))
  have e3 : pV M2 8 2 rp (.int (b2i false)) = some (mset M2 rp (.inr (8, [.ref tk, .int (b2i false), .int (b2i false)]))) := by rw [pV_h g2 (Nat.le_of_ble_eq_true rfl)]; rfl
  obtain ⟨M3, hM3⟩ : ∃ x, x = mset M2 rp (.inr (8, [.ref tk, .int (b2i false), .int (b2i false)])) := ⟨_, rfl⟩
  have g3 : M3.1 rp = some (.inr (8, [.ref tk, .int (b2i false), .int (b2i false)])) := by rw [hM3]; exact mset_at _ _ _
  rw [← hM3] at o3 e3
  have x3 : tkX M3 tk rt := ((h2.sm (o1.same (by omega))).sm (o2.same (by omega))).sm (o3.same (by omega))
  have y3 : yA M3 rt 700 l := ((h4.sm (o1.same (by omega))).sm (o2.same (by omega))).sm (o3.same (by omega))
  have s3 : stA M3 rl (clr S) := (s1.sm (o2.same (by omega))).sm (o3.same (by omega))
  obtain ⟨M4, e4, t4, o4⟩ := X10_begin_e x3 y3 (by omega)
  have h4 : cP M4 rp tk rt rl l (0, clr S, false, false) := ⟨(o4.2 _ (by omega)).trans g3, t4, s3.sm (o4.same (by omega)), y3.sm (o4.same (by omega)), fun k hk => absurd hk (Nat.not_lt_zero _)⟩
  have hL : okL (0, clr S, false, false) := ⟨30, rfl, by omega, by omega⟩
  obtain ⟨M5, e5, r5, o5⟩ := X9_sta_e ap h4 hL
  have o15 : offP M M5 rp tk rl := ((((o1.pl).trans (o2.po ap)).trans (o3.po ap)).trans (o4.pt ap)).trans o5
  have gr3 : gR M3 8 0 rp = some tk := by rw [gR_h g3]; rfl
  have hob : ∀ x : Option Mem, ob M 8 rp x = x := fun x => ob_h h1 x
  have hx : f_X9_parseInto rp rl M = f_X9_parseInto_28 FU rp rl 0 M5 := by
    simp only [f_X9_parseInto, hob, e1, e2, e3, gr3, e4, e5, bso]
  rw [hx]
  unfold pTxt
  cases hp : pSta l (0, clr S, false, false) with
  | inl P =>
    rw [hp] at r5
    have r5 : cP M5 rp tk rt rl l P := r5
    obtain ⟨M6, e6, r6, o6⟩ := X9_all_loop ap 700 0 FU M5 P (Nat.zero_add _) (by rw [FU_eq]; omega) r5 (pSta_ok hp hL).2
    have e6 : f_X9_parseInto_28 FU rp rl 0 M5 = f_X9_parseInto_66 rl M6 := e6
    obtain ⟨M', S', e', r', w', p', o'⟩ := X9_66_e ap r6
    exact ⟨M', S', e6.trans e', r', w', p', (o15.trans o6).trans o'⟩
  | inr e =>
    rw [hp] at r5
    have r5 : cQ M5 rp tk rt rl l e := r5
    obtain ⟨M', S', e', r', w', p', o'⟩ := X9_66_e (x := .inr e) ap r5
    refine ⟨M', S', ?_, r', w', p', o15.trans o'⟩
    obtain ⟨n, hn⟩ := FU_s
    rw [hn]
    simp only [f_X9_parseInto_28, r5.g0, X10_failed_F r5.2.1, bso, cond_true]
    rw [if_neg (by decide)]
    exact e'
end
