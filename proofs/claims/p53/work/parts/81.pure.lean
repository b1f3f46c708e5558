/-! PURE: the class reads a text whole -/
theorem pLim_ok {l : List Int32} {P P' : Ps} (h : pLim l P = .inl P') : P.1 < P'.1 ∧ okL P' := by
  unfold pLim at h
  by_cases h1 : P.2.2.2 = true
  · rw [if_pos h1] at h; cases h
  · rw [if_neg h1] at h
    by_cases h2 : P.2.2.1 = true
    · rw [if_pos h2] at h; cases h
    · rw [if_neg h2] at h
      by_cases h3 : tNum (toks l (P.1 + 1)) 1 30 = 0
      · rw [if_pos h3] at h
        cases h
        refine ⟨by show P.1 < P.1 + 2; omega, tkV (toks l (P.1 + 1)), rfl, ?_⟩
        unfold tNum at h3
        by_cases e : tkK (toks l (P.1 + 1)) ≠ 2
        · rw [if_pos e] at h3; exact absurd h3 (by decide)
        · rw [if_neg e] at h3
          by_cases e2 : 1 ≤ tkV (toks l (P.1 + 1)) ∧ tkV (toks l (P.1 + 1)) ≤ 30
          · exact e2
          · rw [if_neg e2] at h3; exact absurd h3 (by decide)
      · rw [if_neg h3] at h; cases h
theorem pBox_ok {l : List Int32} {P P' : Ps} (h : pBox l P = .inl P') : P.1 < P'.1 ∧ stL P'.2.1 = stL P.2.1 := by
  unfold pBox at h
  by_cases h1 : stN P.2.1 = 3
  · rw [if_pos h1] at h; cases h
  · rw [if_neg h1] at h
    by_cases h2 : tName l (toks l (P.1 + 1)) = false
    · rw [if_pos h2] at h; cases h
    · rw [if_neg h2] at h
      by_cases h3 : bnm P.2.1 (nmOf l (toks l (P.1 + 1))) = -1
      · rw [if_pos h3] at h
        cases h
        exact ⟨by show P.1 < P.1 + 2; omega, rfl⟩
      · rw [if_neg h3] at h; cases h
theorem pFlg_ge {l : List Int32} : ∀ (n j : Nat) (a : Int32) {y : Nat × Int32}, pFlg l n j a = .inl y → j ≤ y.1 := by
  intro n
  induction n with
  | zero => intro j a y h; cases h; exact Nat.le_refl _
  | succ n ih =>
    intro j a y h
    rw [pFlg] at h
    by_cases h1 : tFlag l (toks l j) = 0
    · rw [if_pos h1] at h; cases h; exact Nat.le_refl _
    · rw [if_neg h1] at h
      by_cases h2 : a &&& tFlag l (toks l j) = 0
      · rw [if_pos h2] at h
        have := ih _ _ h
        omega
      · rw [if_neg h2] at h; cases h
theorem pMsg_ok {l : List Int32} {P P' : Ps} (h : pMsg l P = .inl P') : P.1 < P'.1 ∧ stL P'.2.1 = stL P.2.1 := by
  unfold pMsg at h
  simp only at h
  by_cases h1 : tName l (toks l (P.1 + 1)) = false
  · rw [if_pos h1] at h; cases h
  · rw [if_neg h1] at h
    by_cases h2 : bnm P.2.1 (nmOf l (toks l (P.1 + 1))) = -1
    · rw [if_pos h2] at h; cases h
    · rw [if_neg h2] at h
      by_cases h3 : stL P.2.1 ≤ nI (stB P.2.1 (bnm P.2.1 (nmOf l (toks l (P.1 + 1)))).toNatClampNeg).2.2.length
      · rw [if_pos h3] at h; cases h
      · rw [if_neg h3] at h
        by_cases h4 : tKw l (toks l (P.1 + 1 + 1)) 3 = false
        · rw [if_pos h4] at h; cases h
        · rw [if_neg h4] at h
          by_cases h5 : tNum (toks l (P.1 + 1 + 2)) 1 9999 ≠ 0
          · rw [if_pos h5] at h; cases h
          · rw [if_neg h5] at h
            cases h6 : pFlg l 700 (P.1 + 1 + 3) 0 with
            | inr e => rw [h6] at h; cases h
            | inl y =>
              rw [h6] at h
              have := pFlg_ge _ _ _ h6
              obtain ⟨j2, fl⟩ := y
              cases h
              exact ⟨by show P.1 < j2; have this : P.1 + 1 + 3 ≤ j2 := this; omega, rfl⟩
theorem pSes_ok {l : List Int32} {P P' : Ps} (h : pSes l P = .inl P') : P.1 < P'.1 ∧ stL P'.2.1 = stL P.2.1 := by
  unfold pSes at h
  simp only at h
  by_cases h1 : stM P.2.1 = 4
  · rw [if_pos h1] at h; cases h
  · rw [if_neg h1] at h
    by_cases h2 : tName l (toks l (P.1 + 1)) = false
    · rw [if_pos h2] at h; cases h
    · rw [if_neg h2] at h
      by_cases h3 : snm P.2.1 (nmOf l (toks l (P.1 + 1))) ≠ -1
      · rw [if_pos h3] at h; cases h
      · rw [if_neg h3] at h
        obtain ⟨q, hq⟩ : ∃ q, q = if tKw l (toks l (P.1 + 1 + 1)) 5 = true then P.1 + 1 + 2 else P.1 + 1 + 1 := ⟨_, rfl⟩
        have hqg : P.1 < q := by rw [hq]; split <;> omega
        rw [← hq] at h
        by_cases h4 : tKw l (toks l (P.1 + 1 + 1)) 5 = false ∧ tSym (toks l q) 59 = true
        · rw [if_pos h4] at h; cases h; exact ⟨hqg, rfl⟩
        · rw [if_neg h4] at h
          by_cases h5 : tName l (toks l q) = false
          · rw [if_pos h5] at h; cases h
          · rw [if_neg h5] at h
            by_cases h6 : bnm P.2.1 (nmOf l (toks l q)) = -1
            · rw [if_pos h6] at h; cases h
            · rw [if_neg h6] at h; cases h; exact ⟨by show P.1 < q + 1; omega, rfl⟩
theorem pSta_ok {l : List Int32} {P P' : Ps} (h : pSta l P = .inl P') (hL : okL P) : P.1 < P'.1 ∧ okL P' := by
  have key : ∀ x : Ps ⊕ Er, pSem l x = .inl P' → (∀ Q, x = .inl Q → P.1 < Q.1 ∧ okL Q) → P.1 < P'.1 ∧ okL P' := by
    intro x hx hq
    cases x with
    | inr e => cases hx
    | inl Q =>
      obtain ⟨g1, g2⟩ := hq Q rfl
      unfold pSem at hx
      simp only at hx
      by_cases e : tSym (toks l Q.1) 59 = true
      · rw [if_pos e] at hx
        cases hx
        exact ⟨by show P.1 < Q.1 + 1; omega, g2⟩
      · rw [if_neg e] at hx; cases hx
  have keep : ∀ Q : Ps, P.1 < Q.1 ∧ stL Q.2.1 = stL P.2.1 → P.1 < Q.1 ∧ okL Q := fun Q hQ => by
    obtain ⟨L, l1, l2⟩ := hL
    exact ⟨hQ.1, L, hQ.2.trans l1, l2⟩
  unfold pSta at h
  refine key _ h (fun Q hQ => ?_)
  by_cases h0 : tKw l (toks l P.1) 0 = true
  · rw [if_pos h0] at hQ; exact pLim_ok hQ
  · rw [if_neg h0] at hQ
    by_cases h1 : tKw l (toks l P.1) 1 = true
    · rw [if_pos h1] at hQ; exact keep _ (pBox_ok hQ)
    · rw [if_neg h1] at hQ
      by_cases h2 : tKw l (toks l P.1) 2 = true
      · rw [if_pos h2] at hQ; exact keep _ (pMsg_ok hQ)
      · rw [if_neg h2] at hQ
        by_cases h4 : tKw l (toks l P.1) 4 = true
        · rw [if_pos h4] at hQ; exact keep _ (pSes_ok hQ)
        · rw [if_neg h4] at hQ; cases hQ
section
variable {M : Mem} {rp tk rt rl : Nat} {l : List Int32}
theorem X9_sem_e {x : Ps ⊕ Er} (ap : apt rp tk rt rl) (h : cR M rp tk rt rl l x) : ∃ M', f_X9_parseStatement_92 rp M = some M' ∧ cR M' rp tk rt rl l (pSem l x) ∧ offP M M' rp tk rl := by
  cases x with
  | inr e =>
    have h : cQ M rp tk rt rl l e := h
    exact ⟨M, by simp only [f_X9_parseStatement_92, h.g0, X10_psym_F h.2.1, bso], h, offP.rf _ _ _ _⟩
  | inl P =>
    have h : cP M rp tk rt rl l P := h
    rcases X10_psym_L h.2.1 (s := 59) (by omega) with ⟨n1, M1, e1, t1, o1⟩ | ⟨n1, M1, e1, t1, o1⟩
    · have e1 : f_X10_passSymbol tk 59 M = some M1 := e1
      refine ⟨M1, by simp only [f_X9_parseStatement_92, h.g0, e1, bso], ?_, o1.pt ap⟩
      show cR M1 rp tk rt rl l (if tSym (toks l P.1) 59 = true then .inl (P.1 + 1, P.2) else .inr (erA l P.1 1))
      rw [if_pos n1]
      exact h.tok ap o1 t1
    · have e1 : f_X10_passSymbol tk 59 M = some M1 := e1
      refine ⟨M1, by simp only [f_X9_parseStatement_92, h.g0, e1, bso], ?_, o1.pt ap⟩
      show cR M1 rp tk rt rl l (if tSym (toks l P.1) 59 = true then .inl (P.1 + 1, P.2) else .inr (erA l P.1 1))
      rw [if_neg (by rw [n1]; decide)]
      exact h.err ap o1 (e := erA l P.1 1) t1
theorem X9_sta_e {P : Ps} (ap : apt rp tk rt rl) (h : cP M rp tk rt rl l P) (hL : okL P) : ∃ M', f_X9_parseStatement rp rl M = some M' ∧ cR M' rp tk rt rl l (pSta l P) ∧ offP M M' rp tk rl := by
  have k0 := X10_kw_L h.2.1 (k := 0) (by omega)
  have k1 := X10_kw_L h.2.1 (k := 1) (by omega)
  have k2 := X10_kw_L h.2.1 (k := 2) (by omega)
  have k4 := X10_kw_L h.2.1 (k := 4) (by omega)
  simp only [f_X9_parseStatement, h.ob, h.g0, k0, k1, k2, k4, bso, pSta]
  cases h0 : tKw l (toks l P.1) 0 with
  | true =>
    simp only [cond_true, if_true]
    obtain ⟨M1, e1, r1, o1⟩ := X9_limit_e ap h (by rw [tKw_K h0]; decide)
    obtain ⟨M2, e2, r2, o2⟩ := X9_sem_e ap r1
    exact ⟨M2, by simp only [e1, bso, e2], r2, o1.trans o2⟩
  | false =>
    simp only [cond_false, Bool.false_eq_true, if_false]
    cases h1 : tKw l (toks l P.1) 1 with
    | true =>
      simp only [cond_true, if_true]
      obtain ⟨M1, e1, r1, o1⟩ := X9_box_e ap h (by rw [tKw_K h1]; decide)
      obtain ⟨M2, e2, r2, o2⟩ := X9_sem_e ap r1
      exact ⟨M2, by simp only [e1, bso, e2], r2, o1.trans o2⟩
    | false =>
      simp only [cond_false, Bool.false_eq_true, if_false]
      cases h2 : tKw l (toks l P.1) 2 with
      | true =>
        simp only [cond_true, if_true]
        obtain ⟨M1, e1, r1, o1⟩ := X9_msg_e ap h hL (by rw [tKw_K h2]; decide)
        obtain ⟨M2, e2, r2, o2⟩ := X9_sem_e ap r1
        exact ⟨M2, by simp only [e1, bso, e2], r2, o1.trans o2⟩
      | false =>
        simp only [cond_false, Bool.false_eq_true, if_false]
        cases h4 : tKw l (toks l P.1) 4 with
        | true =>
          simp only [cond_true, if_true]
          obtain ⟨M1, e1, r1, o1⟩ := X9_ses_e ap h (by rw [tKw_K h4]; decide)
          obtain ⟨M2, e2, r2, o2⟩ := X9_sem_e ap r1
          exact ⟨M2, by simp only [e1, bso, e2], r2, o1.trans o2⟩
        | false =>
          simp only [cond_false, Bool.false_eq_true, if_false]
          obtain ⟨M1, e1, t1, o1⟩ := X10_fail_L h.2.1 (c := 1) (by decide)
          have q1 := h.err ap o1 (e := erA l P.1 1) t1
          obtain ⟨M2, e2, r2, o2⟩ := X9_sem_e (x := .inr (erA l P.1 1)) ap q1
          exact ⟨M2, by simp only [e1, bso, e2], r2, (o1.pt ap).trans o2⟩
theorem X9_all_loop (ap : apt rp tk rt rl) : ∀ (n k fu : Nat) (M : Mem) (P : Ps), k + n = 700 → n < fu → cP M rp tk rt rl l P → okL P →
    ∃ M', f_X9_parseInto_28 fu rp rl (nI k) M = f_X9_parseInto_66 rl M' ∧ cR M' rp tk rt rl l (pAll l n P) ∧ offP M M' rp tk rl := by
  intro n
  induction n with
  | zero =>
    intro k fu M P hk hf h hL
    obtain ⟨fu, rfl⟩ : ∃ m, fu = m + 1 := ⟨fu - 1, by omega⟩
    obtain rfl : k = 700 := by omega
    refine ⟨M, ?_, h, offP.rf _ _ _ _⟩
    simp only [f_X9_parseInto_28]
    rw [if_pos (show (700 : Int32) ≤ nI 700 by decide)]
  | succ n ih =>
    intro k fu M P hk hf h hL
    obtain ⟨fu, rfl⟩ : ∃ m, fu = m + 1 := ⟨fu - 1, by omega⟩
    have hE := X10_end_L h.2.1
    simp only [f_X9_parseInto_28, h.g0, X10_failed_L h.2.1, hE, bso, cond_false, pAll]
    rw [if_neg (show ¬ ((700 : Int32) ≤ nI k) from fun z => absurd ((nI_leI (a := 700) (by omega) (by omega)).mp z) (by omega))]
    by_cases e : tkK (toks l P.1) = 0
    · rw [if_pos e, decide_eq_true e]
      exact ⟨M, by simp only [cond_true], h, offP.rf _ _ _ _⟩
    · rw [if_neg e, decide_eq_false e]
      obtain ⟨M1, e1, r1, o1⟩ := X9_sta_e ap h hL
      simp only [cond_false, e1, bso, nI_1]
      cases hp : pSta l P with
      | inr er =>
        rw [hp] at r1
        have r1 : cQ M1 rp tk rt rl l er := r1
        refine ⟨M1, ?_, r1, o1⟩
        obtain ⟨fu, rfl⟩ : ∃ m, fu = m + 1 := ⟨fu - 1, by omega⟩
        simp only [f_X9_parseInto_28, r1.g0, X10_failed_F r1.2.1, bso, cond_true]
        split <;> rfl
      | inl P' =>
        rw [hp] at r1
        obtain ⟨M', e', r', o'⟩ := ih (k + 1) fu M1 P' (by omega) (by omega) r1 (pSta_ok hp hL).2
        exact ⟨M', e', r', o1.trans o'⟩
end
