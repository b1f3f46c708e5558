/-! PURE: the reference reads a query, the loops -/
def adv (F : Nat → Qr) : Prop := ∀ i y, F i = .inl y → i < y.1
theorem qTl_ge {l : List Int32} {F : Nat → Qr} (hA : adv F) : ∀ (n i : Nat) (a : Int32) (y : Nat × Int32), qTl l F n i a = .inl y → i ≤ y.1 := by
  intro n
  induction n with
  | zero => intro i a y h; cases h; exact Nat.le_refl _
  | succ n ih =>
    intro i a y h
    unfold qTl at h
    by_cases e : qB l (toks l i) = true
    · rw [if_pos e] at h
      cases hx : F i with
      | inl z =>
        rw [hx] at h
        have h1 := hA i z hx
        have h2 := ih z.1 (a &&& z.2) y h
        omega
      | inr e => rw [hx] at h; cases h
    · rw [if_neg e] at h; cases h; exact Nat.le_refl _
theorem qT_adv {l : List Int32} {F : Nat → Qr} (hA : adv F) : adv (qT l F) := by
  intro i y h
  unfold qT at h
  cases hx : F i with
  | inl z =>
    rw [hx] at h
    have h1 := hA i z hx
    have h2 := qTl_ge hA 700 z.1 z.2 y h
    omega
  | inr e => rw [hx] at h; cases h
theorem qQl_ge {l : List Int32} {F : Nat → Qr} (hA : adv F) : ∀ (n i : Nat) (a : Int32) (y : Nat × Int32), qQl l F n i a = .inl y → i ≤ y.1 := by
  intro n
  induction n with
  | zero => intro i a y h; cases h; exact Nat.le_refl _
  | succ n ih =>
    intro i a y h
    unfold qQl at h
    by_cases e : tKw l (toks l i) 14 = true
    · rw [if_pos e] at h
      cases hx : qT l F (i + 1) with
      | inl z =>
        rw [hx] at h
        have h1 := qT_adv (l := l) hA (i + 1) z hx
        have h2 := ih z.1 (a ||| z.2) y h
        omega
      | inr e => rw [hx] at h; cases h
    · rw [if_neg e] at h; cases h; exact Nat.le_refl _
theorem qQ_adv {l : List Int32} {F : Nat → Qr} (hA : adv F) : adv (qQ l F) := by
  intro i y h
  unfold qQ at h
  cases hx : qT l F i with
  | inl z =>
    rw [hx] at h
    have h1 := qT_adv (l := l) hA i z hx
    have h2 := qQl_ge hA 700 z.1 z.2 y h
    omega
  | inr e => rw [hx] at h; cases h
theorem qCmp_adv {l : List Int32} {ms : Ms} {z : Bool} {i : Nat} {y : Nat × Int32} (h : qCmp l ms z i = .inl y) : i < y.1 := by
  unfold qCmp at h
  by_cases e : tSym (toks l (i + 1)) 60 = false ∧ tSym (toks l (i + 1)) 62 = false
  · rw [if_pos e] at h; cases h
  · rw [if_neg e] at h
    by_cases e2 : tNum (toks l (i + 2)) 0 9999 = 0
    · rw [if_pos e2] at h; cases h; show i < i + 3; omega
    · rw [if_neg e2] at h; cases h
theorem qZ_adv {l : List Int32} {ms : Ms} {O : Bool → Qr} {i : Nat} (hO : ∀ n y, O n = .inl y → i < y.1) {y : Nat × Int32} (h : qZ l ms O i = .inl y) : i < y.1 := by
  unfold qZ at h
  by_cases e1 : tFlag l (toks l i) = 0
  · rw [if_pos e1] at h
    by_cases e2 : tKw l (toks l i) 11 = true
    · rw [if_pos e2] at h; cases h; exact Nat.lt_succ_self i
    · rw [if_neg e2] at h
      by_cases e3 : tKw l (toks l i) 3 = true
      · rw [if_pos e3] at h; exact qCmp_adv h
      · rw [if_neg e3] at h
        by_cases e4 : tKw l (toks l i) 12 = true
        · rw [if_pos e4] at h; exact qCmp_adv h
        · rw [if_neg e4] at h
          by_cases e5 : tKw l (toks l i) 13 = true
          · rw [if_pos e5] at h; exact hO _ _ h
          · rw [if_neg e5] at h
            by_cases e6 : tSym (toks l i) 40 = true
            · rw [if_pos e6] at h; exact hO _ _ h
            · rw [if_neg e6] at h; cases h
  · rw [if_neg e1] at h; cases h; exact Nat.lt_succ_self i
theorem qF_adv (l : List Int32) (ms : Ms) : ∀ b, adv (qF l ms b) := by
  intro b
  induction b with
  | zero =>
    intro i y h
    unfold qF at h
    exact qZ_adv (O := fun _ => .inr (erA l i 5)) (fun n y z => by cases z) h
  | succ b ih =>
    intro i y h
    unfold qF at h
    refine qZ_adv (O := fun n => bif n then qN ms (qF l ms b (i + 1)) else qE l (qQ l (qF l ms b) (i + 1))) (fun n y z => ?_) h
    cases n with
    | true =>
      have z : qN ms (qF l ms b (i + 1)) = .inl y := z
      cases hx : qF l ms b (i + 1) with
      | inl w =>
        rw [hx] at z
        have := ih _ _ hx
        unfold qN at z
        cases z
        show i < w.1
        omega
      | inr e => rw [hx] at z; cases z
    | false =>
      have z : qE l (qQ l (qF l ms b) (i + 1)) = .inl y := z
      cases hx : qQ l (qF l ms b) (i + 1) with
      | inl w =>
        rw [hx] at z
        have := qQ_adv ih _ _ hx
        unfold qE at z
        simp only at z
        by_cases e : tSym (toks l w.1) 41 = true
        · rw [if_pos e] at z; cases z; show i < w.1 + 1; omega
        · rw [if_neg e] at z; cases z
      | inr e => rw [hx] at z; cases z
theorem qB_end {l : List Int32} {t : Tk} (h : tkK t = 0) : qB l t = false := by
  have k : ∀ q, tKw l t q = false := fun q => by
    cases z : tKw l t q with
    | false => rfl
    | true => have := tKw_K z; omega
  have s : tSym t 40 = false := by
    cases z : tSym t 40 with
    | false => rfl
    | true => have := tSym_K z; omega
  have f : tFlag l t = 0 := by
    by_cases e : tFlag l t = 0
    · exact e
    · have := tFlag_K e; omega
  unfold qB
  rw [k, k, k, k, s, f]
  rfl
theorem tKw_end {l : List Int32} {t : Tk} (h : tkK t = 0) (q : Nat) : tKw l t q = false := by
  cases z : tKw l t q with
  | false => rfl
  | true => have := tKw_K z; omega
/-- what the reference holds while it reads a query -/
def qR (R : Rs) (S : St) (b op : Nat) : Prop := rep (rowf R) S ∧ R.1 20 = nI b ∧ R.1 21 = nI op
theorem qR.rk {R R' : Rs} {S : St} {b op : Nat} (h : qR R S b op) (k : rk R R') : qR R' S b op := ⟨by rw [k.row]; exact h.1, (k.2 20 (by omega)).trans h.2.1, (k.2 21 (by omega)).trans h.2.2⟩
def qP (R' : Rs) (l : List Int32) (v : Int32) (x : Qr) : Prop := match x with
  | .inl y => v = y.2 ∧ rL R' l y.1
  | .inr e => rF R' l e.1 e.2
def Rsp (r : Nat → Mem → Option (Int32 × Mem)) (M : Mem) (m : Nat) (l : List Int32) (S : St) (b op : Nat) (F : Nat → Qr) : Prop :=
  ∀ (R : Rs) (i : Nat), qR R S b op → rL R l i → ∃ v R', r m (ov M m R) = some (v, ov M m R') ∧ qP R' l v (F i) ∧ rk R R'
section
variable {M : Mem} {m : Nat} {R : Rs} {l : List Int32} {i : Nat} {c p : Int32}
theorem X12_isFac_L (h : rL R l i) : f_X12_isFactor m (ov M m R) = some (qB l (toks l i)) := by
  have w13 : f_X12_isWord m 33 (ov M m R) = some (tKw l (toks l i) 13) := X12_word_L h (k := 13) (by omega)
  have w11 : f_X12_isWord m 31 (ov M m R) = some (tKw l (toks l i) 11) := X12_word_L h (k := 11) (by omega)
  have w3 : f_X12_isWord m 23 (ov M m R) = some (tKw l (toks l i) 3) := X12_word_L h (k := 3) (by omega)
  have w12 : f_X12_isWord m 32 (ov M m R) = some (tKw l (toks l i) 12) := X12_word_L h (k := 12) (by omega)
  have s40 : f_X12_isSymbol m 40 (ov M m R) = some (tSym (toks l i) 40) := X12_sym_L h (s := 40) (by omega)
  simp only [f_X12_isFactor, ov_ob, w13, s40, X12_flag_L h, w11, w3, w12, bso, qB]
  by_cases e : kfI (kwTk l (toks l i)) = -1
  · rw [decide_eq_true (kf_0.mpr e)]
    simp only [e, if_true]
    generalize tKw l (toks l i) 13 = a1
    generalize tSym (toks l i) 40 = a2
    generalize tKw l (toks l i) 11 = a3
    generalize tKw l (toks l i) 3 = a4
    generalize tKw l (toks l i) 12 = a5
    cases a1 <;> cases a2 <;> cases a3 <;> cases a4 <;> cases a5 <;> rfl
  · rw [decide_eq_false (fun z => e (kf_0.mp z))]
    simp only [e, if_false]
    generalize tKw l (toks l i) 13 = a1
    generalize tSym (toks l i) 40 = a2
    generalize tKw l (toks l i) 11 = a3
    generalize tKw l (toks l i) 3 = a4
    generalize tKw l (toks l i) 12 = a5
    cases a1 <;> cases a2 <;> cases a3 <;> cases a4 <;> cases a5 <;> rfl
variable {r0 r1 r2 : Nat → Mem → Option (Int32 × Mem)} {S : St} {b op : Nat} {F : Nat → Qr}
theorem q_term_loop (hF : Rsp r2 M m l S b op F) (hA : adv F) (hl : l.length ≤ 700) : ∀ (n fu i : Nat) (a : Int32) (R : Rs), n + 1 < fu → 700 ≤ i + n → qR R S b op → rL R l i →
    ∃ v R', f_X12_term_5 r0 r1 r2 fu m a (ov M m R) = some (v, ov M m R') ∧ qP R' l v (qTl l F n i a) ∧ rk R R' := by
  intro n
  induction n with
  | zero =>
    intro fu i a R hf hi hq h
    obtain ⟨fu, rfl⟩ : ∃ x, fu = x + 1 := ⟨fu - 1, by omega⟩
    have hb := qB_end (l := l) (toks_far (l := l) (i := i) (by omega))
    exact ⟨a, R, by simp only [f_X12_term_5, X12_good_L h, bso, cond_true, X12_isFac_L h, hb, cond_false], ⟨rfl, h⟩, rk.rf R⟩
  | succ n ih =>
    intro fu i a R hf hi hq h
    obtain ⟨fu, rfl⟩ : ∃ x, fu = x + 1 := ⟨fu - 1, by omega⟩
    simp only [f_X12_term_5, X12_good_L h, bso, cond_true, X12_isFac_L h]
    unfold qTl
    cases hb : qB l (toks l i) with
    | false => exact ⟨a, R, by simp only [cond_false], by simp only [Bool.false_eq_true, if_false]; exact ⟨rfl, h⟩, rk.rf R⟩
    | true =>
      obtain ⟨v, R1, e1, q1, k1⟩ := hF R i hq h
      simp only [cond_true, if_true, e1, bso]
      cases hx : F i with
      | inl y =>
        rw [hx] at q1
        obtain ⟨rfl, t1⟩ := q1
        have := hA i y hx
        obtain ⟨v', R', e', q', k'⟩ := ih fu y.1 (a &&& y.2) R1 (by omega) (by omega) (hq.rk k1) t1
        exact ⟨v', R', e', q', k1.trans k'⟩
      | inr e =>
        rw [hx] at q1
        have q1 : rF R1 l e.1 e.2 := q1
        obtain ⟨fu, rfl⟩ : ∃ x, fu = x + 1 := ⟨fu - 1, by omega⟩
        exact ⟨a &&& v, R1, by simp only [f_X12_term_5, X12_good_F q1, bso, cond_false], q1, k1⟩
theorem q_query_loop (hF : Rsp r1 M m l S b op (qT l F)) (hA : adv F) (hl : l.length ≤ 700) : ∀ (n fu i : Nat) (a : Int32) (R : Rs), n + 1 < fu → 700 ≤ i + n → qR R S b op → rL R l i →
    ∃ v R', f_X12_query_5 r0 r1 r2 fu m a (ov M m R) = some (v, ov M m R') ∧ qP R' l v (qQl l F n i a) ∧ rk R R' := by
  intro n
  induction n with
  | zero =>
    intro fu i a R hf hi hq h
    obtain ⟨fu, rfl⟩ : ∃ x, fu = x + 1 := ⟨fu - 1, by omega⟩
    have hb := tKw_end (l := l) (toks_far (l := l) (i := i) (by omega)) 14
    obtain ⟨R1, e1, h1, k1⟩ := X12_takesW_L (M := M) (m := m) h (k := 14) (by omega)
    have e1 : f_X12_takesWord m 34 (ov M m R) = some (tKw l (toks l i) 14, ov M m R1) := e1
    rw [hb] at e1 h1
    exact ⟨a, R1, by simp only [f_X12_query_5, X12_good_L h, bso, cond_true, e1, cond_false], ⟨rfl, h1⟩, k1⟩
  | succ n ih =>
    intro fu i a R hf hi hq h
    obtain ⟨fu, rfl⟩ : ∃ x, fu = x + 1 := ⟨fu - 1, by omega⟩
    obtain ⟨R0, e0, h0, k0⟩ := X12_takesW_L (M := M) (m := m) h (k := 14) (by omega)
    have e0 : f_X12_takesWord m 34 (ov M m R) = some (tKw l (toks l i) 14, ov M m R0) := e0
    simp only [f_X12_query_5, X12_good_L h, bso, cond_true, e0]
    unfold qQl
    cases hb : tKw l (toks l i) 14 with
    | false =>
      rw [hb] at h0
      exact ⟨a, R0, by simp only [cond_false], by simp only [Bool.false_eq_true, if_false]; exact ⟨rfl, h0⟩, k0⟩
    | true =>
      rw [hb] at h0
      have h0 : rL R0 l (i + 1) := h0
      obtain ⟨v, R1, e1, q1, k1⟩ := hF R0 (i + 1) (hq.rk k0) h0
      simp only [cond_true, if_true, e1, bso]
      cases hx : qT l F (i + 1) with
      | inl y =>
        rw [hx] at q1
        obtain ⟨rfl, t1⟩ := q1
        have := qT_adv (l := l) hA (i + 1) y hx
        obtain ⟨v', R', e', q', k'⟩ := ih fu y.1 (a ||| y.2) R1 (by omega) (by omega) (hq.rk (k0.trans k1)) t1
        exact ⟨v', R', e', q', (k0.trans k1).trans k'⟩
      | inr e =>
        rw [hx] at q1
        have q1 : rF R1 l e.1 e.2 := q1
        obtain ⟨fu, rfl⟩ : ∃ x, fu = x + 1 := ⟨fu - 1, by omega⟩
        exact ⟨a ||| v, R1, by simp only [f_X12_query_5, X12_good_F q1, bso, cond_false], q1, k0.trans k1⟩
theorem q_term_s (hF : Rsp r2 M m l S b op F) (hA : adv F) (hl : l.length ≤ 700) : Rsp (b_X12_term r0 r1 r2) M m l S b op (qT l F) := by
  intro R i hq h
  obtain ⟨v, R1, e1, q1, k1⟩ := hF R i hq h
  unfold qT
  cases hx : F i with
  | inl y =>
    rw [hx] at q1
    obtain ⟨rfl, t1⟩ := q1
    obtain ⟨v', R', e', q', k'⟩ := q_term_loop (r0 := r0) (r1 := r1) hF hA hl 700 FU y.1 y.2 R1 (by rw [FU_eq]; omega) (by omega) (hq.rk k1) t1
    exact ⟨v', R', by simp only [b_X12_term, ov_ob, e1, bso]; exact e', q', k1.trans k'⟩
  | inr e =>
    rw [hx] at q1
    have q1 : rF R1 l e.1 e.2 := q1
    obtain ⟨n, hn⟩ := FU_s
    exact ⟨v, R1, by simp only [b_X12_term, ov_ob, e1, bso]; rw [hn]; simp only [f_X12_term_5, X12_good_F q1, bso, cond_false], q1, k1⟩
theorem q_query_s (hF : Rsp r1 M m l S b op (qT l F)) (hA : adv F) (hl : l.length ≤ 700) : Rsp (b_X12_query r0 r1 r2) M m l S b op (qQ l F) := by
  intro R i hq h
  obtain ⟨v, R1, e1, q1, k1⟩ := hF R i hq h
  unfold qQ
  cases hx : qT l F i with
  | inl y =>
    rw [hx] at q1
    obtain ⟨rfl, t1⟩ := q1
    obtain ⟨v', R', e', q', k'⟩ := q_query_loop (r0 := r0) (r2 := r2) hF hA hl 700 FU y.1 y.2 R1 (by rw [FU_eq]; omega) (by omega) (hq.rk k1) t1
    exact ⟨v', R', by simp only [b_X12_query, ov_ob, e1, bso]; exact e', q', k1.trans k'⟩
  | inr e =>
    rw [hx] at q1
    have q1 : rF R1 l e.1 e.2 := q1
    obtain ⟨n, hn⟩ := FU_s
    exact ⟨v, R1, by simp only [b_X12_query, ov_ob, e1, bso]; rw [hn]; simp only [f_X12_query_5, X12_good_F q1, bso, cond_false], q1, k1⟩
end
