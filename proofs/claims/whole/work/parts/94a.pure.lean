/-! PURE: the reference reads statements -/
section
variable {M : Mem} {m : Nat} {R : Rs} {l : List Int32} {i : Nat} {c p : Int32} {P : Ps}
theorem X12_sem_e {x : Ps ⊕ Er} (h : pR R l x) : ∃ R', f_X12_parseStatement_73 m (ov M m R) = some (ov M m R') ∧ pR R' l (pSem l x) ∧ dk R R' := by
  cases x with
  | inr e =>
    have h : rF R l e.1 e.2 := h
    have n1 : f_X12_need m 59 (ov M m R) = some (ov M m R) := X12_need_F h 59
    exact ⟨R, by simp only [f_X12_parseStatement_73, n1, bso], h, dk.rf R⟩
  | inl P =>
    obtain ⟨h1, h2⟩ := h
    obtain ⟨R1, e1, k1, r1⟩ := X12_need_L (M := M) (m := m) h1 (s := 59) (by omega)
    have e1 : f_X12_need m 59 (ov M m R) = some (ov M m R1) := e1
    refine ⟨R1, by simp only [f_X12_parseStatement_73, e1, bso], ?_, k1.d⟩
    show pR R1 l (if tSym (toks l P.1) 59 = true then .inl (P.1 + 1, P.2) else .inr (erA l P.1 1))
    rcases r1 with ⟨z, r1⟩ | ⟨z, r1⟩
    · rw [if_pos z]; exact ⟨r1, h2.rk k1⟩
    · rw [if_neg (by rw [z]; decide)]; exact r1
theorem X12_sta_e (h : rL R l P.1) (hd : dR R P) (hL : okL P) : ∃ R', f_X12_parseStatement m (ov M m R) = some (ov M m R') ∧ pR R' l (pSta l P) ∧ dk R R' := by
  have w0 : f_X12_isWord m 20 (ov M m R) = some (tKw l (toks l P.1) 0) := X12_word_L h (k := 0) (by omega)
  have w1 : f_X12_isWord m 21 (ov M m R) = some (tKw l (toks l P.1) 1) := X12_word_L h (k := 1) (by omega)
  have w2 : f_X12_isWord m 22 (ov M m R) = some (tKw l (toks l P.1) 2) := X12_word_L h (k := 2) (by omega)
  have w4 : f_X12_isWord m 24 (ov M m R) = some (tKw l (toks l P.1) 4) := X12_word_L h (k := 4) (by omega)
  have go : ∀ (R1 : Rs) (x x' : Ps ⊕ Er), dk R R1 → pR R1 l x' → pSem l x' = pSem l x → ∃ R', f_X12_parseStatement_73 m (ov M m R1) = some (ov M m R') ∧ pR R' l (pSem l x) ∧ dk R R' := by
    intro R1 x x' k1 r1 hx
    obtain ⟨R2, e2, r2, k2⟩ := X12_sem_e (M := M) (m := m) r1
    exact ⟨R2, e2, by rw [← hx]; exact r2, k1.trans k2⟩
  simp only [f_X12_parseStatement, ov_ob, w0, w1, w2, w4, bso]
  unfold pSta
  cases z0 : tKw l (toks l P.1) 0 with
  | true =>
    obtain ⟨R1, e1, r1, k1⟩ := X12_limit_e (M := M) (m := m) h hd
    obtain ⟨R2, e2, r2, k2⟩ := go R1 _ _ k1 r1 rfl
    exact ⟨R2, by simp only [cond_true, e1, bso, e2], by simp only [if_true]; exact r2, k2⟩
  | false =>
    simp only [cond_false, Bool.false_eq_true, if_false]
    cases z1 : tKw l (toks l P.1) 1 with
    | true =>
      obtain ⟨R1, e1, r1, k1⟩ := X12_box_e (M := M) (m := m) h hd
      obtain ⟨R2, e2, r2, k2⟩ := go R1 _ _ k1 r1 rfl
      exact ⟨R2, by simp only [cond_true, e1, bso, e2], by simp only [if_true]; exact r2, k2⟩
    | false =>
      simp only [cond_false, Bool.false_eq_true, if_false]
      cases z2 : tKw l (toks l P.1) 2 with
      | true =>
        obtain ⟨R1, e1, r1, k1⟩ := X12_msg_e (M := M) (m := m) h hd hL
        obtain ⟨R2, e2, r2, k2⟩ := go R1 _ _ k1 r1 rfl
        exact ⟨R2, by simp only [cond_true, e1, bso, e2], by simp only [if_true]; exact r2, k2⟩
      | false =>
        simp only [cond_false, Bool.false_eq_true, if_false]
        cases z4 : tKw l (toks l P.1) 4 with
        | true =>
          obtain ⟨R1, x1, e1, r1, hx, k1⟩ := X12_ses_e (M := M) (m := m) h hd
          obtain ⟨R2, e2, r2, k2⟩ := go R1 _ _ k1 r1 hx
          exact ⟨R2, by simp only [cond_true, e1, bso, e2], by simp only [if_true]; exact r2, k2⟩
        | false =>
          simp only [cond_false, Bool.false_eq_true, if_false]
          obtain ⟨R1, e1, r1, k1⟩ := X12_errs_L (M := M) (m := m) h (e := 1) (by decide)
          have r1 : pR R1 l (.inr (erA l P.1 1)) := r1
          obtain ⟨R2, e2, r2, k2⟩ := go R1 _ _ k1.d r1 rfl
          exact ⟨R2, by simp only [e1, bso, e2], r2, k2⟩
theorem load_70_F (h : rF R l c p) (fu : Nat) : f_X12_load_70 (fu + 1) m (ov M m R) = f_X12_load_91 m (ov M m R) := by
  simp only [f_X12_load_70, X12_good_F h, bso, cond_false]
theorem load_70_e : ∀ (n fu : Nat) (R : Rs) (P : Ps), n + 1 < fu → 700 ≤ P.1 + n → rL R l P.1 → dR R P → okL P → ∃ R', f_X12_load_70 fu m (ov M m R) = f_X12_load_91 m (ov M m R') ∧ pR R' l (pAll l n P) ∧ dk R R' := by
  intro n
  induction n with
  | zero =>
    intro fu R P hf hP h hd hL
    obtain ⟨fu, rfl⟩ : ∃ x, fu = x + 1 := ⟨fu - 1, by omega⟩
    have hl := h.1.1.2.1
    have hk := toks_far (l := l) (i := P.1) (by omega)
    have g12 : gI (ov M m R) 11 12 m = some 0 := by rw [r_g12, h.2.2.2.1, hk]; rfl
    refine ⟨R, ?_, ⟨h, hd⟩, dk.rf R⟩
    simp only [f_X12_load_70, X12_good_L h, bso, cond_true, g12, if_true]
  | succ n ih =>
    intro fu R P hf hP h hd hL
    obtain ⟨fu, rfl⟩ : ∃ x, fu = x + 1 := ⟨fu - 1, by omega⟩
    have g12 : gI (ov M m R) 11 12 m = some (nI (tkK (toks l P.1))) := by rw [r_g12, h.2.2.2.1]
    have hkk := tkK_le l P.1
    have hq : (nI (tkK (toks l P.1)) = 0) = (tkK (toks l P.1) = 0) := eqI (b := 0) rfl rfl (by omega) (by omega)
    simp only [f_X12_load_70, X12_good_L h, bso, cond_true, g12, hq, pAll]
    by_cases e : tkK (toks l P.1) = 0
    · rw [if_pos e, if_pos e]; exact ⟨R, rfl, ⟨h, hd⟩, dk.rf R⟩
    · rw [if_neg e, if_neg e]
      obtain ⟨R1, e1, r1, k1⟩ := X12_sta_e (M := M) (m := m) h hd hL
      simp only [e1, bso]
      cases hs : pSta l P with
      | inr er =>
        rw [hs] at r1
        obtain ⟨fu, rfl⟩ : ∃ x, fu = x + 1 := ⟨fu - 1, by omega⟩
        have r1' : rF R1 l er.1 er.2 := r1
        exact ⟨R1, load_70_F r1' fu, r1, k1⟩
      | inl P' =>
        rw [hs] at r1
        obtain ⟨q1, q2⟩ := pSta_ok hs hL
        obtain ⟨R2, e2, r2, k2⟩ := ih fu R1 P' (by omega) (by omega) r1.1 r1.2 q2
        exact ⟨R2, e2, r2, k1.trans k2⟩
theorem pTxt_0 {S : St} (h : tkK (toks l 0) = 0) : pTxt l S = .inr (erA l 0 1) := by
  have k : ∀ q, tKw l (toks l 0) q = false := fun q => by
    cases z : tKw l (toks l 0) q with
    | false => rfl
    | true => have := tKw_K z; omega
  simp only [pTxt, pSta, k, Bool.false_eq_true, if_false, pSem]
theorem pTxt_1 {S : St} (h : tkK (toks l 0) ≠ 0) : pTxt l S = pAll l 701 (0, S, false, false) := by
  rw [pAll, if_neg h]
  rfl
/-- behind the first scan -/
theorem load_go {S : St} (h : rL R l 0) (hd : dR R (0, S, false, false)) (hL : okL (0, S, false, false)) : ∃ R', ((gI (ov M m R) 11 12 m).bind fun x10 => if (x10 : Int32) = 0 then (f_X12_errs m 1 (ov M m R)).bind fun M30 => f_X12_load_70 FU m M30 else f_X12_load_70 FU m (ov M m R)) = f_X12_load_91 m (ov M m R') ∧ pR R' l (pTxt l S) ∧ dk R R' := by
  have g12 : gI (ov M m R) 11 12 m = some (nI (tkK (toks l 0))) := by rw [r_g12, h.2.2.2.1]
  have hkk := tkK_le l 0
  have hq : (nI (tkK (toks l 0)) = 0) = (tkK (toks l 0) = 0) := eqI (b := 0) rfl rfl (by omega) (by omega)
  simp only [g12, bso, hq]
  by_cases e : tkK (toks l 0) = 0
  · rw [if_pos e, pTxt_0 e]
    obtain ⟨R1, e1, r1, k1⟩ := X12_errs_L (M := M) (m := m) h (e := 1) (by decide)
    obtain ⟨n, hn⟩ := FU_s
    exact ⟨R1, by rw [e1, bso, hn, load_70_F r1], r1, k1.d⟩
  · rw [if_neg e, pTxt_1 e]
    exact load_70_e 701 FU R (0, S, false, false) (by rw [FU_eq]; omega) (by show 700 ≤ 0 + 701; omega) h hd hL
end
