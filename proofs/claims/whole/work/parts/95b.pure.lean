/-! PURE: the reference reads a query, its factors -/
theorem allOf_n : ∀ n, n < 31 → Int64.toInt32 ((1 <<< ((nI n).toInt64 &&& 63)) - 1) = allB n := by decide +kernel
section
variable {M : Mem} {m : Nat} {R : Rs} {l : List Int32} {i : Nat} {c p : Int32} {S : St} {b op : Nat}
theorem X12_allOf_e (hq : qR R S b op) (hb : b < stN S) : f_X12_allOf m (ov M m R) = some (allB (stB S b).2.2.length) := by
  have hl := hq.1.lb hb
  simp only [f_X12_allOf, ov_ob, r_g20, hq.2.1, bso, X12_many_e hq.1 hb, allOf_n _ (show (stB S b).2.2.length < 31 by omega)]
theorem X12_wFlag_e (hq : qR R S b op) (hb : b < stN S) {q : Nat} (h32 : q < 32) : f_X12_withFlag m (nI q) (ov M m R) = some (setB (pF (b1 q)) (stB S b).2.2) := by
  have hl := hq.1.lb hb
  simp only [f_X12_withFlag, ov_ob]
  refine fd_run (fun fu k a => f_X12_withFlag_4 fu m (nI q) a (nI k) (ov M m R)) (fun k a => if pF (b1 q) (mg (stB S b).2.2 k) = true then a ||| b1 k else a) (fun a => a) 0 (stB S b).2.2.length ?_ ?_ (stB S b).2.2.length 0 0 FU (Nat.zero_add _) (Nat.le_refl _) (by rw [FU_eq]; omega)
  · intro fu a
    simp only [f_X12_withFlag_4, r_g20, hq.2.1, bso, X12_many_e hq.1 hb, leT rfl rfl (Nat.le_refl (stB S b).2.2.length) (show (stB S b).2.2.length < 2 ^ 31 by omega), if_true]
  · intro fu k a _ hk
    have hp : pF (b1 q) (mg (stB S b).2.2 k) = !decide (mF (mg (stB S b).2.2 k) &&& b1 q = 0) := rfl
    simp only [f_X12_withFlag_4, r_g20, hq.2.1, bso, X12_many_e hq.1 hb, leF rfl rfl hk (show (stB S b).2.2.length < 2 ^ 31 by omega), if_false, (X12_ofM_e hq.1 hb hk).2.2, X12_has_e _ h32, ← hp]
    cases hd : pF (b1 q) (mg (stB S b).2.2 k) with
    | true => simp only [cond_true, f_X12_withFlag_41, nI_1, if_true]; rfl
    | false => simp only [cond_false, f_X12_withFlag_41, nI_1, Int32.or_zero, Bool.false_eq_true, if_false]
theorem cmp44_e (hq : qR R S b op) (hb : b < stN S) (z lt : Bool) (bd : Int32) : f_X12_compared_44 FU m (bif z then 1 else 0) lt bd 0 0 (ov M m R) = some (setB (pC z lt bd) (stB S b).2.2, ov M m R) := by
  have hl := hq.1.lb hb
  refine fd_run (fun fu k a => f_X12_compared_44 fu m (bif z then 1 else 0) lt bd a (nI k) (ov M m R)) (fun k a => if pC z lt bd (mg (stB S b).2.2 k) = true then a ||| b1 k else a) (fun a => (a, ov M m R)) 0 (stB S b).2.2.length ?_ ?_ (stB S b).2.2.length 0 0 FU (Nat.zero_add _) (Nat.le_refl _) (by rw [FU_eq]; omega)
  · intro fu a
    simp only [f_X12_compared_44, r_g20, hq.2.1, bso, X12_many_e hq.1 hb, leT rfl rfl (Nat.le_refl (stB S b).2.2.length) (show (stB S b).2.2.length < 2 ^ 31 by omega), if_true]
  · intro fu k a _ hk
    have hof : f_X12_ofMessage m (nI b) (nI k) (bif z then 1 else 0) (ov M m R) = some (bif z then mS (mg (stB S b).2.2 k) else mU (mg (stB S b).2.2 k)) := by
      cases z with
      | true => exact (X12_ofM_e hq.1 hb hk).2.1
      | false => exact (X12_ofM_e hq.1 hb hk).1
    simp only [f_X12_compared_44, r_g20, hq.2.1, bso, X12_many_e hq.1 hb, leF rfl rfl hk (show (stB S b).2.2.length < 2 ^ 31 by omega), if_false, hof, f_X12_compared_98, f_X12_compared_91, f_X12_compared_99, nI_1, Int32.or_zero]
    obtain ⟨v, hv⟩ : ∃ v, v = (bif z then mS (mg (stB S b).2.2 k) else mU (mg (stB S b).2.2 k)) := ⟨_, rfl⟩
    have hp : pC z lt bd (mg (stB S b).2.2 k) = (bif lt then !decide (bd ≤ v) else !decide (v ≤ bd)) := by rw [hv]; rfl
    rw [← hv, hp]
    cases lt with
    | true =>
      simp only [cond_true]
      by_cases e : bd ≤ v
      · rw [if_pos e, decide_eq_true e]; simp only [Bool.not_true, Bool.false_eq_true, if_false]
      · rw [if_neg e, decide_eq_false e]; simp only [Bool.not_false, if_true]; rfl
    | false =>
      simp only [cond_false]
      by_cases e : v ≤ bd
      · rw [if_pos e, decide_eq_true e]; simp only [Bool.not_true, Bool.false_eq_true, if_false]
      · rw [if_neg e, decide_eq_false e]; simp only [Bool.not_false, if_true]; rfl
theorem c25_F (h : rF R l c p) (hq : qR R S b op) (hb : b < stN S) (z lt : Bool) : ∃ v, f_X12_compared_25 m (bif z then 1 else 0) lt (ov M m R) = some (v, ov M m R) :=
  ⟨setB (pC z lt 0) (stB S b).2.2, by simp only [f_X12_compared_25, X12_goOn_F h, bso, X12_num_F h, cmp44_e hq hb]⟩
theorem c25_L (h : rL R l (i + 1)) (hq : qR R S b op) (hb : b < stN S) (z lt : Bool) : ∃ v R', f_X12_compared_25 m (bif z then 1 else 0) lt (ov M m R) = some (v, ov M m R') ∧
    qP R' l v (if tNum (toks l (i + 2)) 0 9999 = 0 then .inl (i + 3, setB (pC z lt (nI (tkV (toks l (i + 2))))) (stB S b).2.2) else .inr (erA l (i + 2) (tNum (toks l (i + 2)) 0 9999))) ∧ rk R R' := by
  obtain ⟨R1, e1, h1, k1⟩ := X12_goOn_L (M := M) (m := m) h
  obtain ⟨x, R2, e2, k2, r2⟩ := X12_num_L (M := M) (m := m) h1 (lo := 0) (hi := 9999) (by omega) (by omega)
  have e2 : f_X12_number m 0 9999 (ov M m R1) = some (x, ov M m R2) := e2
  have hq2 := hq.rk (k1.trans k2)
  refine ⟨setB (pC z lt x) (stB S b).2.2, R2, by simp only [f_X12_compared_25, e1, bso, e2, cmp44_e hq2 hb], ?_, k1.trans k2⟩
  rcases r2 with ⟨n0, rfl, h2⟩ | ⟨n0, h2⟩
  · have n0 : tNum (toks l (i + 2)) 0 9999 = 0 := n0
    rw [if_pos n0]; exact ⟨rfl, h2⟩
  · have n0 : tNum (toks l (i + 2)) 0 9999 ≠ 0 := n0
    rw [if_neg n0]; exact h2
theorem X12_cmp_L (h : rL R l (i + 1)) (hq : qR R S b op) (hb : b < stN S) (z : Bool) : ∃ v R', f_X12_compared m (bif z then 1 else 0) (ov M m R) = some (v, ov M m R') ∧ qP R' l v (qCmp l (stB S b).2.2 z i) ∧ rk R R' := by
  have s60 : f_X12_isSymbol m 60 (ov M m R) = some (tSym (toks l (i + 1)) 60) := X12_sym_L h (s := 60) (by omega)
  have s62 : f_X12_isSymbol m 62 (ov M m R) = some (tSym (toks l (i + 1)) 62) := X12_sym_L h (s := 62) (by omega)
  simp only [f_X12_compared, ov_ob, s60, s62, bso]
  unfold qCmp
  cases h60 : tSym (toks l (i + 1)) 60 with
  | true =>
    rw [if_neg (fun z => by cases z.1)]
    simp only [cond_true]
    exact c25_L h hq hb z true
  | false =>
    simp only [cond_false]
    cases h62 : tSym (toks l (i + 1)) 62 with
    | true =>
      rw [if_neg (fun z => by cases z.2)]
      simp only [cond_true]
      exact c25_L h hq hb z false
    | false =>
      simp only [cond_false, eq_self, and_self, if_true]
      obtain ⟨R1, e1, h1, k1⟩ := X12_errs_L (M := M) (m := m) h (e := 1) (by decide)
      obtain ⟨v, e2⟩ := c25_F (M := M) (m := m) h1 (hq.rk k1) hb z false
      exact ⟨v, R1, by simp only [e1, bso, e2], h1, k1⟩
theorem opens_L (h : rL R l i) (ho : R.1 21 = nI op) (h5 : op < 5) : ∃ R', f_X12_opens m (ov M m R) = some (ov M m R') ∧ rL R' l (i + 1) ∧ rk (rsS R 21 (nI (op + 1))) R' := by
  have h2 : rL (rsS R 21 (nI (op + 1))) l i := h
  obtain ⟨R1, e1, h1, k1⟩ := X12_goOn_L (M := M) (m := m) h2
  have hne : (nI op = 5) = False := eq_false (fun z => absurd ((nI_eq (b := 5) (by omega) (by omega)).mp z) (by omega))
  exact ⟨R1, by simp only [f_X12_opens, ov_ob, r_g21, ho, bso, hne, if_false, f_X12_opens_13, nI_1, r_p21, e1], h1, k1⟩
theorem opens_5 (h : rL R l i) (ho : R.1 21 = nI 5) : ∃ R', f_X12_opens m (ov M m R) = some (ov M m R') ∧ rF R' l 5 (nI (tkS (toks l i))) ∧ rk (rsS R 21 (nI (5 + 1))) R' := by
  obtain ⟨R1, e1, h1, k1⟩ := X12_errs_L (M := M) (m := m) h (e := 5) (by decide)
  have h2 : rF (rsS R1 21 (nI 5 + 1)) l 5 (nI (tkS (toks l i))) := h1
  have ho1 : R1.1 21 = nI 5 := (k1.2 21 (by omega)).trans ho
  have h5 : nI 5 = 5 := rfl
  refine ⟨rsS R1 21 (nI 5 + 1), ?_, h2, ?_⟩
  · simp only [f_X12_opens, ov_ob, r_g21, ho, bso]
    rw [if_pos h5, e1]
    simp only [bso, f_X12_opens_13, r_g21, ho1, r_p21, X12_goOn_F h2]
  · rw [nI_1]
    refine ⟨k1.1, fun j hj => ?_⟩
    show va_up R1.1 21 (nI (5 + 1)) j = va_up R.1 21 (nI (5 + 1)) j
    by_cases e : j = 21
    · rw [e, va_up_s, va_up_s]
    · rw [va_up_n _ _ e, va_up_n _ _ e]; exact k1.2 j hj
theorem rk_close {R R1 : Rs} {v w : Int32} (k : rk (rsS R 21 v) R1) (ho : R.1 21 = w) : rk R (rsS R1 21 w) := by
  refine ⟨k.1, fun j hj => ?_⟩
  show va_up R1.1 21 w j = R.1 j
  by_cases e : j = 21
  · rw [e, va_up_s, ho]
  · rw [va_up_n _ _ e, k.2 j hj]; exact va_up_n _ _ e
variable {r0 r1 r2 : Nat → Mem → Option (Int32 × Mem)} {F Q : Nat → Qr}
theorem fac29_e {R1 : Rs} (hq : qR R S b op) (hb : b < stN S) (k : rk (rsS R 21 (nI (op + 1))) R1) (s0 : Int32) : f_X12_factor_29 r0 r1 r2 m s0 (ov M m R1) = some (allB (stB S b).2.2.length &&& (s0 ^^^ (-1)), ov M m (rsS R1 21 (nI op))) := by
  have g21 : R1.1 21 = nI (op + 1) := (k.2 21 (by omega)).trans (rsS_at _ _ _)
  have hq1 := hq.rk (rk_close k hq.2.2)
  simp only [f_X12_factor_29, r_g21, g21, bso, nI_pred, r_p21, X12_allOf_e hq1 hb]
theorem fac77_F {R1 : Rs} (h : rF R1 l c p) (k : rk (rsS R 21 (nI (op + 1))) R1) (s0 : Int32) : f_X12_factor_77 r0 r1 r2 m s0 (ov M m R1) = some (s0, ov M m (rsS R1 21 (nI op))) := by
  have g21 : R1.1 21 = nI (op + 1) := (k.2 21 (by omega)).trans (rsS_at _ _ _)
  simp only [f_X12_factor_77, X12_need_F h, bso, r_g21, g21, nI_pred, r_p21]
theorem fac77_L {R1 : Rs} {j : Nat} (h : rL R1 l j) (k : rk (rsS R 21 (nI (op + 1))) R1) (ho : R.1 21 = nI op) (s0 : Int32) : ∃ R', f_X12_factor_77 r0 r1 r2 m s0 (ov M m R1) = some (s0, ov M m R') ∧ qP R' l s0 (qE l (.inl (j, s0))) ∧ rk R R' := by
  obtain ⟨R2, e2, k2, r2⟩ := X12_need_L (M := M) (m := m) h (s := 41) (by omega)
  have e2 : f_X12_need m 41 (ov M m R1) = some (ov M m R2) := e2
  have k12 := k.trans k2
  have g21 : R2.1 21 = nI (op + 1) := (k12.2 21 (by omega)).trans (rsS_at _ _ _)
  refine ⟨rsS R2 21 (nI op), by simp only [f_X12_factor_77, e2, bso, r_g21, g21, nI_pred, r_p21], ?_, rk_close k12 ho⟩
  unfold qE
  simp only
  rcases r2 with ⟨z, r2⟩ | ⟨z, r2⟩
  · rw [if_pos z]; exact ⟨rfl, r2⟩
  · rw [if_neg (by rw [z]; decide)]; exact r2
/-- a token's word is one -/
theorem tKw_one {t : Tk} {k : Nat} (hk : k < 15) (h : tKw l t k = true) : (∀ j, j < 15 → j ≠ k → tKw l t j = false) ∧ tFlag l t = kwFlag k := by
  have h1 : kwTk l t = some k := by rw [tKw_iff hk] at h; exact of_decide_eq_true h
  refine ⟨fun j hj hne => ?_, ?_⟩
  · rw [tKw_iff hj, h1]
    exact decide_eq_false (fun z => hne (Option.some.inj z).symm)
  · unfold tFlag; rw [h1]
theorem tSym_no {t : Tk} {s : Nat} (h : tSym t s = true) : (∀ j, tKw l t j = false) ∧ tFlag l t = 0 := by
  have h3 := tSym_K h
  refine ⟨fun j => ?_, ?_⟩
  · cases z : tKw l t j with
    | false => rfl
    | true => have := tKw_K z; omega
  · by_cases e : tFlag l t = 0
    · exact e
    · have := tFlag_K e; omega
/-- no opening here -/
theorem q_fac_rest (hq : qR R S b op) (hb : b < stN S) (h : rL R l i) (z13 : tKw l (toks l i) 13 = false) (z40 : tSym (toks l i) 40 = false) (O : Bool → Qr) :
    ∃ v R', b_X12_factor r0 r1 r2 m (ov M m R) = some (v, ov M m R') ∧ qP R' l v (qZ l (stB S b).2.2 O i) ∧ rk R R' := by
  have w13 : f_X12_isWord m 33 (ov M m R) = some (tKw l (toks l i) 13) := X12_word_L h (k := 13) (by omega)
  have s40 : f_X12_isSymbol m 40 (ov M m R) = some (tSym (toks l i) 40) := X12_sym_L h (s := 40) (by omega)
  simp only [b_X12_factor, ov_ob, w13, z13, s40, z40, bso, cond_false, X12_flag_L h]
  unfold qZ
  by_cases e : kfI (kwTk l (toks l i)) = -1
  · rw [if_pos e, if_pos (kf_0.mpr e)]
    obtain ⟨R1, e1, h1, k1⟩ := X12_takesW_L (M := M) (m := m) h (k := 11) (by omega)
    have e1 : f_X12_takesWord m 31 (ov M m R) = some (tKw l (toks l i) 11, ov M m R1) := e1
    simp only [e1, bso]
    cases z11 : tKw l (toks l i) 11 with
    | true =>
      rw [z11] at h1
      exact ⟨allB (stB S b).2.2.length, R1, by simp only [cond_true, X12_allOf_e (hq.rk k1) hb, bso], by simp only [if_true]; exact ⟨rfl, h1⟩, k1⟩
    | false =>
      rw [z11] at h1
      have h1 : rL R1 l i := h1
      simp only [cond_false, Bool.false_eq_true, if_false]
      obtain ⟨R2, e2, h2, k2⟩ := X12_takesW_L (M := M) (m := m) h1 (k := 3) (by omega)
      have e2 : f_X12_takesWord m 23 (ov M m R1) = some (tKw l (toks l i) 3, ov M m R2) := e2
      simp only [e2, bso]
      cases z3 : tKw l (toks l i) 3 with
      | true =>
        rw [z3] at h2
        have h2 : rL R2 l (i + 1) := h2
        obtain ⟨v, R3, e3, q3, k3⟩ := X12_cmp_L (M := M) (m := m) h2 (hq.rk (k1.trans k2)) hb true
        have e3 : f_X12_compared m 1 (ov M m R2) = some (v, ov M m R3) := e3
        exact ⟨v, R3, by simp only [cond_true, e3, bso], by simp only [if_true]; exact q3, (k1.trans k2).trans k3⟩
      | false =>
        rw [z3] at h2
        have h2 : rL R2 l i := h2
        simp only [cond_false, Bool.false_eq_true, if_false]
        obtain ⟨R3, e3, h3, k3⟩ := X12_takesW_L (M := M) (m := m) h2 (k := 12) (by omega)
        have e3 : f_X12_takesWord m 32 (ov M m R2) = some (tKw l (toks l i) 12, ov M m R3) := e3
        simp only [e3, bso]
        have k13 := (k1.trans k2).trans k3
        cases z12 : tKw l (toks l i) 12 with
        | true =>
          rw [z12] at h3
          have h3 : rL R3 l (i + 1) := h3
          obtain ⟨v, R4, e4, q4, k4⟩ := X12_cmp_L (M := M) (m := m) h3 (hq.rk k13) hb false
          have e4 : f_X12_compared m 0 (ov M m R3) = some (v, ov M m R4) := e4
          exact ⟨v, R4, by simp only [cond_true, e4, bso], by simp only [if_true]; exact q4, k13.trans k4⟩
        | false =>
          rw [z12] at h3
          have h3 : rL R3 l i := h3
          obtain ⟨R4, e4, h4, k4⟩ := X12_errs_L (M := M) (m := m) h3 (e := 1) (by decide)
          refine ⟨0, R4, by simp only [cond_false, e4, bso], ?_, k13.trans k4⟩
          simp only [Bool.false_eq_true, if_false, z13, z40]
          exact h4
  · rw [if_neg e, if_neg (fun z => e (kf_0.mp z))]
    obtain ⟨q, hq5, hqe⟩ := kfI_rng e
    have hfl : tFlag l (toks l i) = b1 q := by rw [kf_flag, if_neg e, hqe]; rfl
    obtain ⟨R1, e1, h1, k1⟩ := X12_goOn_L (M := M) (m := m) h
    rw [hqe, hfl]
    exact ⟨setB (pF (b1 q)) (stB S b).2.2, R1, by simp only [e1, bso, X12_wFlag_e (hq.rk k1) hb (show q < 32 by omega)], ⟨rfl, h1⟩, k1⟩
theorem q_fac_0 (hb : b < stN S) : Rsp (b_X12_factor r0 r1 r2) M m l S b 5 (fun i => qZ l (stB S b).2.2 (fun _ => .inr (erA l i 5)) i) := by
  intro R i hq h
  show ∃ v R', b_X12_factor r0 r1 r2 m (ov M m R) = some (v, ov M m R') ∧ qP R' l v (qZ l (stB S b).2.2 (fun _ => .inr (erA l i 5)) i) ∧ rk R R'
  have w13 : f_X12_isWord m 33 (ov M m R) = some (tKw l (toks l i) 13) := X12_word_L h (k := 13) (by omega)
  have s40 : f_X12_isSymbol m 40 (ov M m R) = some (tSym (toks l i) 40) := X12_sym_L h (s := 40) (by omega)
  cases z13 : tKw l (toks l i) 13 with
  | true =>
    obtain ⟨o1, o2⟩ := tKw_one (k := 13) (by omega) z13
    have hz : qZ l (stB S b).2.2 (fun _ => .inr (erA l i 5)) i = .inr (erA l i 5) := by
      unfold qZ
      rw [if_pos (by rw [o2]; rfl), o1 11 (by omega) (by decide), o1 3 (by omega) (by decide), o1 12 (by omega) (by decide), z13]
      rfl
    obtain ⟨R1, e1, h1, k1⟩ := opens_5 (M := M) (m := m) h hq.2.2
    refine ⟨allB (stB S b).2.2.length &&& (0 ^^^ (-1)), rsS R1 21 (nI 5), ?_, ?_, rk_close k1 hq.2.2⟩
    · simp only [b_X12_factor, ov_ob, w13, z13, bso, cond_true, e1, X12_good_F h1, cond_false]
      exact fac29_e hq hb k1 0
    · rw [hz]; exact h1
  | false =>
    cases z40 : tSym (toks l i) 40 with
    | true =>
      obtain ⟨o1, o2⟩ := tSym_no (l := l) z40
      have hz : qZ l (stB S b).2.2 (fun _ => .inr (erA l i 5)) i = .inr (erA l i 5) := by
        unfold qZ
        rw [if_pos o2, o1 11, o1 3, o1 12, o1 13, z40]
        rfl
      obtain ⟨R1, e1, h1, k1⟩ := opens_5 (M := M) (m := m) h hq.2.2
      refine ⟨0, rsS R1 21 (nI 5), ?_, ?_, rk_close k1 hq.2.2⟩
      · simp only [b_X12_factor, ov_ob, w13, z13, s40, z40, bso, cond_true, e1, X12_good_F h1, cond_false]
        exact fac77_F h1 k1 0
      · rw [hz]; exact h1
    | false => exact q_fac_rest hq hb h z13 z40 _
theorem q_fac_s (hb : b < stN S) (h5 : op < 5) (hN : Rsp r2 M m l S b (op + 1) F) (hQ : Rsp r0 M m l S b (op + 1) Q) :
    Rsp (b_X12_factor r0 r1 r2) M m l S b op (fun i => qZ l (stB S b).2.2 (fun n => bif n then qN (stB S b).2.2 (F (i + 1)) else qE l (Q (i + 1))) i) := by
  intro R i hq h
  show ∃ v R', b_X12_factor r0 r1 r2 m (ov M m R) = some (v, ov M m R') ∧ qP R' l v (qZ l (stB S b).2.2 (fun n => bif n then qN (stB S b).2.2 (F (i + 1)) else qE l (Q (i + 1))) i) ∧ rk R R'
  have w13 : f_X12_isWord m 33 (ov M m R) = some (tKw l (toks l i) 13) := X12_word_L h (k := 13) (by omega)
  have s40 : f_X12_isSymbol m 40 (ov M m R) = some (tSym (toks l i) 40) := X12_sym_L h (s := 40) (by omega)
  obtain ⟨R1, e1, h1, k1⟩ := opens_L (M := M) (m := m) h hq.2.2 h5
  have hq1 : qR R1 S b (op + 1) := ⟨by
    have : rowf R1 = rowf R := k1.row
    rw [this]; exact hq.1, (k1.2 20 (by omega)).trans hq.2.1, (k1.2 21 (by omega)).trans (rsS_at _ _ _)⟩
  cases z13 : tKw l (toks l i) 13 with
  | true =>
    obtain ⟨o1, o2⟩ := tKw_one (k := 13) (by omega) z13
    have hz : ∀ O : Bool → Qr, qZ l (stB S b).2.2 O i = O true := by
      intro O
      unfold qZ
      rw [if_pos (by rw [o2]; rfl), o1 11 (by omega) (by decide), o1 3 (by omega) (by decide), o1 12 (by omega) (by decide), z13]
      rfl
    rw [hz]
    obtain ⟨v, R2, e2, q2, k2⟩ := hN R1 (i + 1) hq1 h1
    have k12 := k1.trans k2
    refine ⟨allB (stB S b).2.2.length &&& (v ^^^ (-1)), rsS R2 21 (nI op), ?_, ?_, rk_close k12 hq.2.2⟩
    · simp only [b_X12_factor, ov_ob, w13, z13, bso, cond_true, e1, X12_good_L h1, e2]
      exact fac29_e hq hb k12 v
    · show qP _ l _ (qN (stB S b).2.2 (F (i + 1)))
      cases hx : F (i + 1) with
      | inl y =>
        rw [hx] at q2
        obtain ⟨rfl, t2⟩ := q2
        exact ⟨rfl, t2⟩
      | inr er =>
        rw [hx] at q2
        exact q2
  | false =>
    cases z40 : tSym (toks l i) 40 with
    | true =>
      obtain ⟨o1, o2⟩ := tSym_no (l := l) z40
      have hz : ∀ O : Bool → Qr, qZ l (stB S b).2.2 O i = O false := by
        intro O
        unfold qZ
        rw [if_pos o2, o1 11, o1 3, o1 12, o1 13, z40]
        rfl
      rw [hz]
      obtain ⟨v, R2, e2, q2, k2⟩ := hQ R1 (i + 1) hq1 h1
      have k12 := k1.trans k2
      have hm : b_X12_factor r0 r1 r2 m (ov M m R) = f_X12_factor_77 r0 r1 r2 m v (ov M m R2) := by
        simp only [b_X12_factor, ov_ob, w13, z13, s40, z40, bso, cond_true, e1, X12_good_L h1, cond_false, e2]
      rw [hm]
      show ∃ v' R', f_X12_factor_77 r0 r1 r2 m v (ov M m R2) = some (v', ov M m R') ∧ qP R' l v' (qE l (Q (i + 1))) ∧ rk R R'
      cases hx : Q (i + 1) with
      | inl y =>
        rw [hx] at q2
        obtain ⟨rfl, t2⟩ := q2
        obtain ⟨R3, e3, q3, k3⟩ := fac77_L (M := M) (m := m) (r0 := r0) (r1 := r1) (r2 := r2) t2 k12 hq.2.2 y.2
        exact ⟨y.2, R3, e3, q3, k3⟩
      | inr er =>
        rw [hx] at q2
        have q2 : rF R2 l er.1 er.2 := q2
        exact ⟨v, rsS R2 21 (nI op), fac77_F q2 k12 v, q2, rk_close k12 hq.2.2⟩
    | false => exact q_fac_rest hq hb h z13 z40 _
end
theorem q_fac_all (M : Mem) (m : Nat) (l : List Int32) (S : St) (b : Nat) (hb : b < stN S) (hl : l.length ≤ 700) : ∀ (bud op d : Nat), op + bud = 5 → 3 * bud + 1 ≤ d → Rsp (GX12 d).2.2 M m l S b op (qF l (stB S b).2.2 bud) := by
  intro bud
  induction bud with
  | zero =>
    intro op d hk hd
    obtain ⟨d, rfl⟩ : ∃ x, d = x + 1 := ⟨d - 1, by omega⟩
    obtain rfl : op = 5 := by omega
    exact q_fac_0 (r0 := (GX12 d).1) (r1 := (GX12 d).2.1) (r2 := (GX12 d).2.2) hb
  | succ bud ih =>
    intro op d hk hd
    obtain ⟨d, rfl⟩ : ∃ x, d = x + 3 := ⟨d - 3, by omega⟩
    have hA := qF_adv l (stB S b).2.2 bud
    have hN := ih (op + 1) (d + 2) (by omega) (by omega)
    have hT : Rsp (GX12 (d + 1)).2.1 M m l S b (op + 1) (qT l (qF l (stB S b).2.2 bud)) := q_term_s (r0 := (GX12 d).1) (r1 := (GX12 d).2.1) (r2 := (GX12 d).2.2) (ih (op + 1) d (by omega) (by omega)) hA hl
    have hQ : Rsp (GX12 (d + 2)).1 M m l S b (op + 1) (qQ l (qF l (stB S b).2.2 bud)) := q_query_s (r0 := (GX12 (d + 1)).1) (r1 := (GX12 (d + 1)).2.1) (r2 := (GX12 (d + 1)).2.2) hT hA hl
    exact q_fac_s (r0 := (GX12 (d + 2)).1) (r1 := (GX12 (d + 2)).2.1) (r2 := (GX12 (d + 2)).2.2) hb (by omega) hN hQ
section
variable {M : Mem} {m : Nat} {R : Rs} {l : List Int32} {S : St} {b : Nat}
/-- what a query may change -/
def qk (R R' : Rs) : Prop := R'.2 = R.2 ∧ R'.1 8 = 0 ∧ ∀ k, (k < 8 ∨ 15 < k) → k ≠ 20 → k ≠ 21 → R'.1 k = R.1 k
theorem X12_query_e (hr : rep (rowf R) S) (hb : b < stN S) (h8 : R.1 8 = nI l.length) (hl : l.length ≤ 700) (h5 : ∀ k, k < l.length → R.2.2.2 5 k = l.getD k 0) (hy : byR l) :
    ∃ v R', f_X12_wholeQuery m (nI b) (ov M m R) = some (v, ov M m R') ∧ qk R R' ∧ (match qAll l (stB S b).2.2 with
      | .inl y => v = y.2 ∧ R'.1 14 = 0 ∧ R'.1 15 = -1
      | .inr e => R'.1 14 = e.1 ∧ R'.1 15 = e.2 ∧ e.1 ≠ 0) := by
  obtain ⟨R1, hR1⟩ : ∃ R1, R1 = rsS (rsS R 20 (nI b)) 21 0 := ⟨_, rfl⟩
  have f1 : ∀ k, k ≠ 20 → k ≠ 21 → R1.1 k = R.1 k := fun k k0 k1 => by
    rw [hR1]
    show va_up (va_up R.1 20 _) 21 _ k = R.1 k
    rw [va_up_n _ _ k1, va_up_n _ _ k0]
  have g1 : R1.1 20 = nI b ∧ R1.1 21 = nI 0 ∧ R1.2 = R.2 := by rw [hR1]; exact ⟨rfl, rfl, rfl⟩
  obtain ⟨R2, e2, h2, q2, s2, f2⟩ := X12_begin_e (M := M) (m := m) (R := R1) (l := l) (by rw [f1 8 (by decide) (by decide)]; exact h8) hl (by rw [g1.2.2]; exact h5) hy
  have hq2 : qR R2 S b 0 := ⟨by
    have : rowf R2 = rowf R := by unfold rowf rowN; rw [q2, g1.2.2]
    rw [this]; exact hr, (f2 20 (by omega)).trans g1.1, (f2 21 (by omega)).trans g1.2.1⟩
  have hA := qF_adv l (stB S b).2.2 5
  have hT : Rsp (GX12 39).2.1 M m l S b 0 (qT l (qF l (stB S b).2.2 5)) := q_term_s (r0 := (GX12 38).1) (r1 := (GX12 38).2.1) (r2 := (GX12 38).2.2) (q_fac_all M m l S b hb hl 5 0 38 rfl (by omega)) hA hl
  have hQ : Rsp (GX12 40).1 M m l S b 0 (qQ l (qF l (stB S b).2.2 5)) := q_query_s (r0 := (GX12 39).1) (r1 := (GX12 39).2.1) (r2 := (GX12 39).2.2) hT hA hl
  obtain ⟨v, R3, e3, q3, k3⟩ := hQ R2 0 hq2 h2
  have e3 : f_X12_query m (ov M m R2) = some (v, ov M m R3) := e3
  have fk : ∀ R4, rk R3 R4 → qk R R4 := fun R4 k4 => by
    have k34 := k3.trans k4
    exact ⟨k34.1.trans (q2.trans g1.2.2), (k34.2 8 (by omega)).trans s2, fun k hk n0 n1 => (k34.2 k (by omega)).trans ((f2 k hk).trans (f1 k n0 n1))⟩
  have p20 : pV (ov M m R) 11 20 m (.int (nI b)) = some (ov M m (rsS R 20 (nI b))) := r_p20 M m R _
  simp only [f_X12_wholeQuery, ov_ob, p20, r_p21, bso]
  rw [← hR1]
  simp only [e2, e3, bso]
  unfold qAll
  cases hx : qQ l (qF l (stB S b).2.2 5) 0 with
  | inr er =>
    rw [hx] at q3
    have q3 : rF R3 l er.1 er.2 := q3
    exact ⟨v, R3, by simp only [X12_good_F q3, bso, cond_false], fk R3 (rk.rf R3), q3.2.1, q3.2.2.1, q3.2.2.2⟩
  | inl y =>
    rw [hx] at q3
    obtain ⟨rfl, t3⟩ := q3
    have hkk := tkK_le l y.1
    have hq : (nI (tkK (toks l y.1)) = 0) = (tkK (toks l y.1) = 0) := eqI (b := 0) rfl rfl (by omega) (by omega)
    have g12 : gI (ov M m R3) 11 12 m = some (nI (tkK (toks l y.1))) := by rw [r_g12, t3.2.2.2.1]
    simp only [X12_good_L t3, bso, cond_true, g12, hq]
    by_cases e : tkK (toks l y.1) = 0
    · rw [if_pos e, if_pos e]
      exact ⟨y.2, R3, rfl, fk R3 (rk.rf R3), rfl, t3.2.2.2.2.2.1, t3.2.2.2.2.2.2⟩
    · rw [if_neg e, if_neg e]
      obtain ⟨R4, e4, h4, k4⟩ := X12_errs_L (M := M) (m := m) t3 (e := 1) (by decide)
      exact ⟨y.2, R4, by simp only [e4, bso], fk R4 k4, h4.2.1, h4.2.2.1, by show (1 : Int32) ≠ 0; decide⟩
end
