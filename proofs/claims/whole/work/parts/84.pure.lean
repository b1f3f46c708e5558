/-! PURE: the class reads a query, the recursion -/
/-- a reading function keeps to what it reads -/
def Fsp (r : Nat → Nat → Int32 → Mem → Option (Int32 × Mem)) (rq tk rt rb : Nat) (l : List Int32) (ms : Ms) (lv : Int32) (F : Nat → Qr) : Prop :=
  ∀ (M : Mem) (i : Nat), qH M rq tk rb ms → tkL M tk rt l i → ∃ v M', r rq rb lv M = some (v, M') ∧ qO M' tk rt l v (F i) ∧ off M M' tk 6
section
variable {r0 r1 r2 r3 r4 : Nat → Nat → Int32 → Mem → Option (Int32 × Mem)} {rq tk rt rb : Nat} {l : List Int32} {ms : Ms} {lv : Int32} {F Q : Nat → Qr}
theorem X6_term_loop (hF : Fsp r2 rq tk rt rb l ms lv F) : ∀ (n k fu i : Nat) (a : Int32) (M : Mem), k + n = 700 → n < fu → qH M rq tk rb ms → tkL M tk rt l i →
    ∃ v M', f_X6_parseTerm_10 r0 r1 r2 r3 r4 fu rq rb lv a (nI k) M = some (v, M') ∧ qO M' tk rt l v (qTl l F n i a) ∧ off M M' tk 6 := by
  intro n
  induction n with
  | zero =>
    intro k fu i a M hk hf h t
    obtain ⟨fu, rfl⟩ : ∃ m, fu = m + 1 := ⟨fu - 1, by omega⟩
    obtain rfl : k = 700 := by omega
    refine ⟨a, M, ?_, ⟨rfl, t⟩, off.rf _ _ _⟩
    simp only [f_X6_parseTerm_10]
    rw [if_pos (show (700 : Int32) ≤ nI 700 by decide)]
  | succ n ih =>
    intro k fu i a M hk hf h t
    obtain ⟨fu, rfl⟩ : ∃ m, fu = m + 1 := ⟨fu - 1, by omega⟩
    simp only [f_X6_parseTerm_10, X6_begL h t, bso]
    rw [if_neg (show ¬ ((700 : Int32) ≤ nI k) from fun z => absurd ((nI_leI (a := 700) (by omega) (by omega)).mp z) (by omega))]
    unfold qTl
    cases hb : qB l (toks l i) with
    | false => exact ⟨a, M, by simp only [cond_false], by simp only [Bool.false_eq_true, if_false]; exact ⟨rfl, t⟩, off.rf _ _ _⟩
    | true =>
      obtain ⟨v, M1, e1, q1, o1⟩ := hF M i h t
      have h1 := h.sm o1
      simp only [cond_true, if_true, e1, bso, nI_1]
      cases hx : F i with
      | inl y =>
        rw [hx] at q1
        obtain ⟨rfl, t1⟩ := q1
        obtain ⟨v', M', e', q', o'⟩ := ih (k + 1) fu y.1 (a &&& y.2) M1 (by omega) (by omega) h1 t1
        exact ⟨v', M', e', q', o1.trans o'⟩
      | inr e =>
        rw [hx] at q1
        have q1 : tkF M1 tk rt e.1 e.2 := q1
        refine ⟨a &&& v, M1, ?_, q1, o1⟩
        obtain ⟨fu, rfl⟩ : ∃ m, fu = m + 1 := ⟨fu - 1, by omega⟩
        simp only [f_X6_parseTerm_10, X6_begF h1 q1, bso, cond_false]
        split <;> rfl
theorem X6_query_loop (hF : Fsp r1 rq tk rt rb l ms lv (qT l F)) : ∀ (n k fu i : Nat) (a : Int32) (M : Mem), k + n = 700 → n < fu → qH M rq tk rb ms → tkL M tk rt l i →
    ∃ v M', f_X6_parseQuery_10 r0 r1 r2 r3 r4 fu rq rb lv a (nI k) M = some (v, M') ∧ qO M' tk rt l v (qQl l F n i a) ∧ off M M' tk 6 := by
  intro n
  induction n with
  | zero =>
    intro k fu i a M hk hf h t
    obtain ⟨fu, rfl⟩ : ∃ m, fu = m + 1 := ⟨fu - 1, by omega⟩
    obtain rfl : k = 700 := by omega
    refine ⟨a, M, ?_, ⟨rfl, t⟩, off.rf _ _ _⟩
    simp only [f_X6_parseQuery_10]
    rw [if_pos (show (700 : Int32) ≤ nI 700 by decide)]
  | succ n ih =>
    intro k fu i a M hk hf h t
    obtain ⟨fu, rfl⟩ : ∃ m, fu = m + 1 := ⟨fu - 1, by omega⟩
    have k14 := X10_kw_L t (k := 14) (by omega)
    simp only [f_X6_parseQuery_10, h.g0, k14, bso]
    rw [if_neg (show ¬ ((700 : Int32) ≤ nI k) from fun z => absurd ((nI_leI (a := 700) (by omega) (by omega)).mp z) (by omega))]
    unfold qQl
    cases hb : tKw l (toks l i) 14 with
    | false => exact ⟨a, M, by simp only [cond_false], by simp only [Bool.false_eq_true, if_false]; exact ⟨rfl, t⟩, off.rf _ _ _⟩
    | true =>
      obtain ⟨M0, e0, t0, o0⟩ := X10_next_L t (by rw [tKw_K hb]; decide)
      have h0 := h.sm o0
      obtain ⟨v, M1, e1, q1, o1⟩ := hF M0 (i + 1) h0 t0
      have h1 := h0.sm o1
      simp only [cond_true, if_true, e0, e1, bso, nI_1]
      cases hx : qT l F (i + 1) with
      | inl y =>
        rw [hx] at q1
        obtain ⟨rfl, t1⟩ := q1
        obtain ⟨v', M', e', q', o'⟩ := ih (k + 1) fu y.1 (a ||| y.2) M1 (by omega) (by omega) h1 t1
        exact ⟨v', M', e', q', (o0.trans o1).trans o'⟩
      | inr e =>
        rw [hx] at q1
        have q1 : tkF M1 tk rt e.1 e.2 := q1
        refine ⟨a ||| v, M1, ?_, q1, o0.trans o1⟩
        obtain ⟨fu, rfl⟩ : ∃ m, fu = m + 1 := ⟨fu - 1, by omega⟩
        simp only [f_X6_parseQuery_10, h1.g0, X10_kw_F q1, bso, cond_false]
        split <;> rfl
theorem X6_term_s (hF : Fsp r2 rq tk rt rb l ms lv F) : Fsp (b_X6_parseTerm r0 r1 r2 r3 r4) rq tk rt rb l ms lv (qT l F) := by
  intro M i h t
  obtain ⟨v, M1, e1, q1, o1⟩ := hF M i h t
  have h1 := h.sm o1
  simp only [b_X6_parseTerm, h.ob, e1, bso]
  unfold qT
  cases hx : F i with
  | inl y =>
    rw [hx] at q1
    obtain ⟨rfl, t1⟩ := q1
    obtain ⟨v', M', e', q', o'⟩ := X6_term_loop (r0 := r0) (r1 := r1) (r3 := r3) (r4 := r4) hF 700 0 FU y.1 y.2 M1 (Nat.zero_add _) (by rw [FU_eq]; omega) h1 t1
    exact ⟨v', M', e', q', o1.trans o'⟩
  | inr e =>
    rw [hx] at q1
    have q1 : tkF M1 tk rt e.1 e.2 := q1
    refine ⟨v, M1, ?_, q1, o1⟩
    obtain ⟨n, hn⟩ := FU_s
    rw [hn]
    simp only [f_X6_parseTerm_10, X6_begF h1 q1, bso, cond_false]
    split <;> rfl
theorem X6_query_s (hF : Fsp r1 rq tk rt rb l ms lv (qT l F)) : Fsp (b_X6_parseQuery r0 r1 r2 r3 r4) rq tk rt rb l ms lv (qQ l F) := by
  intro M i h t
  obtain ⟨v, M1, e1, q1, o1⟩ := hF M i h t
  have h1 := h.sm o1
  simp only [b_X6_parseQuery, h.ob, e1, bso]
  unfold qQ
  cases hx : qT l F i with
  | inl y =>
    rw [hx] at q1
    obtain ⟨rfl, t1⟩ := q1
    obtain ⟨v', M', e', q', o'⟩ := X6_query_loop (r0 := r0) (r2 := r2) (r3 := r3) (r4 := r4) hF 700 0 FU y.1 y.2 M1 (Nat.zero_add _) (by rw [FU_eq]; omega) h1 t1
    exact ⟨v', M', e', q', o1.trans o'⟩
  | inr e =>
    rw [hx] at q1
    have q1 : tkF M1 tk rt e.1 e.2 := q1
    refine ⟨v, M1, ?_, q1, o1⟩
    obtain ⟨n, hn⟩ := FU_s
    rw [hn]
    simp only [f_X6_parseQuery_10, h1.g0, X10_kw_F q1, bso, cond_false]
    split <;> rfl
theorem X6_neg_s (hF : Fsp r2 rq tk rt rb l ms lv F) : Fsp (b_X6_parseNegated r0 r1 r2 r3 r4) rq tk rt rb l ms lv (fun i => qN ms (F i)) := by
  intro M i h t
  show ∃ v M', b_X6_parseNegated r0 r1 r2 r3 r4 rq rb lv M = some (v, M') ∧ qO M' tk rt l v (qN ms (F i)) ∧ off M M' tk 6
  obtain ⟨v, M1, e1, q1, o1⟩ := hF M i h t
  refine ⟨allB ms.length &&& (v ^^^ (-1)), M1, by simp only [b_X6_parseNegated, h.ob, h.all, e1, bso], ?_, o1⟩
  cases hx : F i with
  | inl y =>
    rw [hx] at q1
    obtain ⟨rfl, t1⟩ := q1
    exact ⟨rfl, t1⟩
  | inr e =>
    rw [hx] at q1
    exact q1
theorem X6_enc_s (hF : Fsp r0 rq tk rt rb l ms lv Q) : Fsp (b_X6_parseEnclosed r0 r1 r2 r3 r4) rq tk rt rb l ms lv (fun i => qE l (Q i)) := by
  intro M i h t
  show ∃ v M', b_X6_parseEnclosed r0 r1 r2 r3 r4 rq rb lv M = some (v, M') ∧ qO M' tk rt l v (qE l (Q i)) ∧ off M M' tk 6
  obtain ⟨v, M1, e1, q1, o1⟩ := hF M i h t
  have h1 := h.sm o1
  cases hx : Q i with
  | inl y =>
    rw [hx] at q1
    obtain ⟨rfl, t1⟩ := q1
    unfold qE
    rcases X10_psym_L t1 (s := 41) (by omega) with ⟨n2, M2, e2, t2, o2⟩ | ⟨n2, M2, e2, t2, o2⟩
    · have e2 : f_X10_passSymbol tk 41 M1 = some M2 := e2
      refine ⟨y.2, M2, by simp only [b_X6_parseEnclosed, h.ob, e1, h1.g0, e2, bso], ?_, o1.trans o2⟩
      simp only [n2, if_true]
      exact ⟨rfl, t2⟩
    · have e2 : f_X10_passSymbol tk 41 M1 = some M2 := e2
      refine ⟨y.2, M2, by simp only [b_X6_parseEnclosed, h.ob, e1, h1.g0, e2, bso], ?_, o1.trans o2⟩
      simp only [n2, Bool.false_eq_true, if_false]
      exact t2
  | inr e =>
    rw [hx] at q1
    have q1 : tkF M1 tk rt e.1 e.2 := q1
    refine ⟨v, M1, by simp only [b_X6_parseEnclosed, h.ob, e1, h1.g0, X10_psym_F q1, bso], ?_, o1⟩
    show qO M1 tk rt l v (qE l (.inr e))
    exact q1
/-- a factor that opens, at its opening -/
theorem X6_fac129_s {N E : Nat → Qr} {k : Nat} (hk : k < 5) (hN : Fsp r3 rq tk rt rb l ms (nI (k + 1)) N) (hE : Fsp r4 rq tk rt rb l ms (nI (k + 1)) E) {M : Mem} {i : Nat} (h : qH M rq tk rb ms) (t : tkL M tk rt l i) (h0 : tkK (toks l i) ≠ 0) (n : Bool) :
    ∃ v M', f_X6_parseFactor_129 r0 r1 r2 r3 r4 rq rb (nI k) n M = some (v, M') ∧ qO M' tk rt l v (bif n then N (i + 1) else E (i + 1)) ∧ off M M' tk 6 := by
  obtain ⟨M1, e1, t1, o1⟩ := X10_next_L t h0
  have h1 := h.sm o1
  have hlt : nI k < 5 := of_eq_true (ltT (x := nI k) (y := 5) (a := k) (b := 5) rfl rfl hk (by omega))
  simp only [f_X6_parseFactor_129, h.g0, e1, bso, nI_1]
  rw [if_pos hlt]
  cases n with
  | true =>
    obtain ⟨v, M2, e2, q2, o2⟩ := hN M1 (i + 1) h1 t1
    exact ⟨v, M2, by simp only [cond_true, e2, bso], q2, o1.trans o2⟩
  | false =>
    obtain ⟨v, M2, e2, q2, o2⟩ := hE M1 (i + 1) h1 t1
    exact ⟨v, M2, by simp only [cond_false, e2, bso], q2, o1.trans o2⟩
theorem X6_fac129_no {k : Nat} (hk : k = 5) {M : Mem} {i : Nat} (h : qH M rq tk rb ms) (t : tkL M tk rt l i) (n : Bool) :
    ∃ v M', f_X6_parseFactor_129 r0 r1 r2 r3 r4 rq rb (nI k) n M = some (v, M') ∧ qO M' tk rt l v (.inr (erA l i 5)) ∧ off M M' tk 6 := by
  subst hk
  obtain ⟨M1, e1, t1, o1⟩ := X10_fail_L t (c := 5) (by decide)
  refine ⟨0, M1, ?_, t1, o1⟩
  simp only [f_X6_parseFactor_129, h.g0, e1, bso]
  rw [if_neg (by decide)]
theorem X6_fac_s {O : Nat → Bool → Qr} (hO : ∀ (M : Mem) (i : Nat) (n : Bool), qH M rq tk rb ms → tkL M tk rt l i → tkK (toks l i) ≠ 0 → ∃ v M', f_X6_parseFactor_129 r0 r1 r2 r3 r4 rq rb lv n M = some (v, M') ∧ qO M' tk rt l v (O i n) ∧ off M M' tk 6) :
    Fsp (b_X6_parseFactor r0 r1 r2 r3 r4) rq tk rt rb l ms lv (fun i => qZ l ms (O i) i) := by
  intro M i h t
  have s : f_X10_isSymbol tk 40 M = some (tSym (toks l i) 40) := X10_sym_L t (c := 40) (by omega)
  have k3 := X10_kw_L t (k := 3) (by omega)
  have k11 := X10_kw_L t (k := 11) (by omega)
  have k12 := X10_kw_L t (k := 12) (by omega)
  have k13 := X10_kw_L t (k := 13) (by omega)
  simp only [b_X6_parseFactor, h.ob, h.g0, k3, k11, k12, k13, s, X10_flag_L t, bso, qZ]
  by_cases e : tFlag l (toks l i) = 0
  · rw [if_pos e, if_pos e]
    cases h11 : tKw l (toks l i) 11 with
    | true =>
      obtain ⟨M1, e1, t1, o1⟩ := X10_next_L t (by rw [tKw_K h11]; decide)
      exact ⟨_, M1, by simp only [cond_true, e1, (h.sm o1).all, bso]; rfl, by simp only [if_true]; exact ⟨rfl, t1⟩, o1⟩
    | false =>
      simp only [cond_false, Bool.false_eq_true, if_false]
      cases h3 : tKw l (toks l i) 3 with
      | true =>
        obtain ⟨v, M1, e1, q1, o1⟩ := X6_cmp_e h t (by rw [tKw_K h3]; decide) true
        exact ⟨v, M1, by simp only [cond_true, e1, bso], by simp only [if_true]; exact q1, o1⟩
      | false =>
        simp only [cond_false, Bool.false_eq_true, if_false]
        cases h12 : tKw l (toks l i) 12 with
        | true =>
          obtain ⟨v, M1, e1, q1, o1⟩ := X6_cmp_e h t (by rw [tKw_K h12]; decide) false
          exact ⟨v, M1, by simp only [cond_true, e1, bso], by simp only [if_true]; exact q1, o1⟩
        | false =>
          simp only [cond_false, Bool.false_eq_true, if_false]
          cases h13 : tKw l (toks l i) 13 with
          | true =>
            simp only [cond_true, if_true]
            exact hO M i true h t (by rw [tKw_K h13]; decide)
          | false =>
            simp only [cond_false, Bool.false_eq_true, if_false]
            cases h40 : tSym (toks l i) 40 with
            | true =>
              simp only [cond_true, if_true]
              exact hO M i false h t (by have := of_decide_eq_true h40; omega)
            | false =>
              simp only [cond_false, Bool.false_eq_true, if_false]
              obtain ⟨M1, e1, t1, o1⟩ := X10_fail_L t (c := 1) (by decide)
              exact ⟨0, M1, by simp only [e1, bso], t1, o1⟩
  · rw [if_neg e, if_neg e]
    have hk : tkK (toks l i) ≠ 0 := by
      intro z
      apply e
      unfold tFlag
      rw [kwTk_none (by rw [z]; decide)]
    obtain ⟨M1, e1, t1, o1⟩ := X10_next_L t hk
    exact ⟨_, M1, by simp only [e1, (h.sm o1).flg, bso], ⟨rfl, t1⟩, o1⟩
end
theorem X6_fac_all (rq tk rt rb : Nat) (l : List Int32) (ms : Ms) : ∀ (b k d : Nat), k + b = 5 → 4 * b + 1 ≤ d → Fsp (GX6 d).2.2.1 rq tk rt rb l ms (nI k) (qF l ms b) := by
  intro b
  induction b with
  | zero =>
    intro k d hk hd
    obtain ⟨d, rfl⟩ : ∃ m, d = m + 1 := ⟨d - 1, by omega⟩
    exact X6_fac_s (r0 := (GX6 (d)).1) (r1 := (GX6 (d)).2.1) (r2 := (GX6 (d)).2.2.1) (r3 := (GX6 (d)).2.2.2.1) (r4 := (GX6 (d)).2.2.2.2) (O := fun i _ => .inr (erA l i 5)) (fun M i n h t _ => X6_fac129_no (by omega) h t n)
  | succ b ih =>
    intro k d hk hd
    obtain ⟨d, rfl⟩ : ∃ m, d = m + 4 := ⟨d - 4, by omega⟩
    have hN : Fsp (GX6 (d + 3)).2.2.2.1 rq tk rt rb l ms (nI (k + 1)) (fun i => qN ms (qF l ms b i)) := X6_neg_s (r0 := (GX6 (d + 2)).1) (r1 := (GX6 (d + 2)).2.1) (r2 := (GX6 (d + 2)).2.2.1) (r3 := (GX6 (d + 2)).2.2.2.1) (r4 := (GX6 (d + 2)).2.2.2.2) (ih (k + 1) (d + 2) (by omega) (by omega))
    have hT : Fsp (GX6 (d + 1)).2.1 rq tk rt rb l ms (nI (k + 1)) (qT l (qF l ms b)) := X6_term_s (r0 := (GX6 (d)).1) (r1 := (GX6 (d)).2.1) (r2 := (GX6 (d)).2.2.1) (r3 := (GX6 (d)).2.2.2.1) (r4 := (GX6 (d)).2.2.2.2) (ih (k + 1) d (by omega) (by omega))
    have hQ : Fsp (GX6 (d + 2)).1 rq tk rt rb l ms (nI (k + 1)) (qQ l (qF l ms b)) := X6_query_s (r0 := (GX6 (d + 1)).1) (r1 := (GX6 (d + 1)).2.1) (r2 := (GX6 (d + 1)).2.2.1) (r3 := (GX6 (d + 1)).2.2.2.1) (r4 := (GX6 (d + 1)).2.2.2.2) hT
    have hE : Fsp (GX6 (d + 3)).2.2.2.2 rq tk rt rb l ms (nI (k + 1)) (fun i => qE l (qQ l (qF l ms b) i)) := X6_enc_s (r0 := (GX6 (d + 2)).1) (r1 := (GX6 (d + 2)).2.1) (r2 := (GX6 (d + 2)).2.2.1) (r3 := (GX6 (d + 2)).2.2.2.1) (r4 := (GX6 (d + 2)).2.2.2.2) hQ
    exact X6_fac_s (r0 := (GX6 (d + 3)).1) (r1 := (GX6 (d + 3)).2.1) (r2 := (GX6 (d + 3)).2.2.1) (r3 := (GX6 (d + 3)).2.2.2.1) (r4 := (GX6 (d + 3)).2.2.2.2) (O := fun i n => bif n then qN ms (qF l ms b (i + 1)) else qE l (qQ l (qF l ms b) (i + 1))) (fun M i n h t h0 => X6_fac129_s (by omega) hN hE h t h0 n)
section
variable {M : Mem} {rq tk rt rb : Nat} {l : List Int32} {ms : Ms}
theorem X6_for_e (h : qH M rq tk rb ms) (hx : tkX M tk rt) (hy : yA M rt 700 l) (d : rt + 2 ≤ tk ∨ tk + 6 ≤ rt) :
    ∃ v M', f_X6_parseFor rq rb M = some (v, M') ∧ qO M' tk rt l v (qAll l ms) ∧ off M M' tk 6 := by
  obtain ⟨M1, e1, t1, o1⟩ := X10_begin_e hx hy d
  have h1 := h.sm o1
  have hT : Fsp (GX6 39).2.1 rq tk rt rb l ms 0 (qT l (qF l ms 5)) := X6_term_s (r0 := (GX6 (38)).1) (r1 := (GX6 (38)).2.1) (r2 := (GX6 (38)).2.2.1) (r3 := (GX6 (38)).2.2.2.1) (r4 := (GX6 (38)).2.2.2.2) (X6_fac_all rq tk rt rb l ms 5 0 38 rfl (by omega))
  have hQ : Fsp (GX6 40).1 rq tk rt rb l ms 0 (qQ l (qF l ms 5)) := X6_query_s (r0 := (GX6 (39)).1) (r1 := (GX6 (39)).2.1) (r2 := (GX6 (39)).2.2.1) (r3 := (GX6 (39)).2.2.2.1) (r4 := (GX6 (39)).2.2.2.2) hT
  obtain ⟨v, M2, e2, q2, o2⟩ := hQ M1 0 h1 t1
  have e2 : f_X6_parseQuery rq rb 0 M1 = some (v, M2) := e2
  have h2 := h1.sm o2
  simp only [f_X6_parseFor, h.ob, h.g0, e1, e2, h2.g0, bso]
  unfold qAll
  cases hq : qQ l (qF l ms 5) 0 with
  | inl y =>
    rw [hq] at q2
    obtain ⟨rfl, t2⟩ := q2
    simp only [X10_end_L t2, bso]
    by_cases e : tkK (toks l y.1) = 0
    · rw [decide_eq_true e, if_pos e]
      exact ⟨y.2, M2, by simp only [cond_true], ⟨rfl, t2⟩, o1.trans o2⟩
    · rw [decide_eq_false e, if_neg e]
      obtain ⟨M3, e3, t3, o3⟩ := X10_fail_L t2 (c := 1) (by decide)
      exact ⟨y.2, M3, by simp only [cond_false, e3, bso], t3, (o1.trans o2).trans o3⟩
  | inr e =>
    rw [hq] at q2
    have q2 : tkF M2 tk rt e.1 e.2 := q2
    exact ⟨v, M2, by simp only [X10_end_F q2, cond_false, X10_fail_F q2, bso], q2, o1.trans o2⟩
end
