/-! PURE: the reference reads a box's name and flags; the draft -/
theorem rL.fl {R : Rs} {l : List Int32} {i : Nat} (h : rL R l i) : rTx R l ∧ byR l := h.1
section
variable {M : Mem} {m : Nat} {R : Rs} {l : List Int32} {i : Nat} {c p : Int32} {S : St}
theorem X12_boxHere_L (h : rL R l i) (hr : rep (rowf R) S) : ∃ x R', f_X12_boxHere m (ov M m R) = some (x, ov M m R') ∧ rk R R' ∧
    ((tName l (toks l i) = true ∧ bnm S (nmOf l (toks l i)) ≠ -1 ∧ x = bnm S (nmOf l (toks l i)) ∧ R' = R) ∨ (tName l (toks l i) = true ∧ bnm S (nmOf l (toks l i)) = -1 ∧ rF R' l 3 (nI (tkS (toks l i)))) ∨ (tName l (toks l i) = false ∧ rF R' l 1 (nI (tkS (toks l i))))) := by
  obtain ⟨x, R1, e1, k1, hx⟩ := X12_nameHere_L (M := M) (m := m) h
  simp only [f_X12_boxHere, ov_ob, e1, bso]
  rcases hx with ⟨hn, rfl, hJ⟩ | ⟨hn, hF⟩
  · simp only [X12_good_L h, bso, cond_true, X12_boxNm_e hr hJ, f_X12_boxHere_21]
    by_cases e : bnm S (nmOf l (toks l i)) = -1
    · obtain ⟨R2, e2, h2, k2⟩ := X12_errs_L (M := M) (m := m) h (e := 3) (by decide)
      exact ⟨_, R2, by rw [if_pos e, e2]; simp only [bso]; rfl, k2, .inr (.inl ⟨hn, e, h2⟩)⟩
    · exact ⟨_, R1, by rw [if_neg e], k1, .inl ⟨hn, e, rfl, rfl⟩⟩
  · exact ⟨-1, R1, by simp only [X12_good_F hF, bso, cond_false, f_X12_boxHere_21, if_true, X12_errs_F hF], k1, .inr (.inr ⟨hn, hF⟩)⟩
theorem X12_boxHere_F (h : rF R l c p) : f_X12_boxHere m (ov M m R) = some (-1, ov M m R) := by
  simp only [f_X12_boxHere, ov_ob, X12_nameHere_F h, bso, X12_good_F h, cond_false, f_X12_boxHere_21, if_true, X12_errs_F h]
theorem kfI_rng {x : Option Nat} (h : kfI x ≠ -1) : ∃ j, j < 5 ∧ kfI x = nI j := by
  cases x with
  | none => exact absurd rfl h
  | some k =>
    unfold kfI at h ⊢
    by_cases e : 6 ≤ k ∧ k ≤ 10
    · exact ⟨k - 6, by omega, if_pos e⟩
    · exact absurd (if_neg e) h
theorem X12_flags_loop (hl : l.length ≤ 700) : ∀ (n j fu : Nat) (a : Int32) (R : Rs), 700 ≤ j + n → n + 1 < fu → rL R l j →
    ∃ x R', f_X12_parseFlags_7 fu m a (kfI (kwTk l (toks l j))) (ov M m R) = some (x, ov M m R') ∧ rk R R' ∧ (match pFlg l n j a with
      | .inl y => x = y.2 ∧ rL R' l y.1
      | .inr e => rF R' l e.1 e.2) := by
  intro n
  induction n with
  | zero =>
    intro j fu a R hj hf h
    obtain ⟨fu, rfl⟩ : ∃ x, fu = x + 1 := ⟨fu - 1, by omega⟩
    have hk := toks_far (l := l) (i := j) (by omega)
    have hn : kwTk l (toks l j) = none := kwTk_none (by rw [hk]; decide)
    exact ⟨a, R, by simp only [hn, kfI, f_X12_parseFlags_7, if_true], rk.rf R, rfl, h⟩
  | succ n ih =>
    intro j fu a R hj hf h
    obtain ⟨fu, rfl⟩ : ∃ x, fu = x + 1 := ⟨fu - 1, by omega⟩
    simp only [f_X12_parseFlags_7, pFlg]
    by_cases e : kfI (kwTk l (toks l j)) = -1
    · rw [if_pos e, if_pos (kf_0.mpr e)]
      exact ⟨a, R, rfl, rk.rf R, rfl, h⟩
    · rw [if_neg e, if_neg (fun z => e (kf_0.mp z))]
      obtain ⟨q, hq, hqe⟩ := kfI_rng e
      have hfl : tFlag l (toks l j) = b1 q := by rw [kf_flag, if_neg e, hqe]; rfl
      rw [hqe, X12_has_e a (show q < 32 by omega), ← hfl]
      simp only [bso]
      by_cases e2 : a &&& tFlag l (toks l j) = 0
      · rw [decide_eq_true e2, if_pos e2]
        obtain ⟨R1, e1, h1, k1⟩ := X12_goOn_L (M := M) (m := m) h
        obtain ⟨x, R2, e3, k3, r3⟩ := ih (j + 1) fu (a ||| tFlag l (toks l j)) R1 (by omega) (by omega) h1
        refine ⟨x, R2, ?_, k1.trans k3, r3⟩
        simp only [Bool.not_true, cond_false, f_X12_parseFlags_25, e1, X12_flag_L h1, bso]
        rw [hfl] at e3
        exact e3
      · rw [decide_eq_false e2, if_neg e2]
        obtain ⟨R1, e1, h1, k1⟩ := X12_errs_L (M := M) (m := m) h (e := 3) (by decide)
        obtain ⟨fu, rfl⟩ : ∃ x, fu = x + 1 := ⟨fu - 1, by omega⟩
        refine ⟨a ||| b1 q, R1, ?_, k1, h1⟩
        simp only [Bool.not_false, cond_true, e1, bso, f_X12_parseFlags_25, X12_goOn_F h1, X12_flag_F h1, f_X12_parseFlags_7, if_true]
        rfl
theorem X12_flags_L (h : rL R l i) : ∃ x R', f_X12_parseFlags m (ov M m R) = some (x, ov M m R') ∧ rk R R' ∧ (match pFlg l 700 i 0 with
      | .inl y => x = y.2 ∧ rL R' l y.1
      | .inr e => rF R' l e.1 e.2) := by
  obtain ⟨x, R', e1, k1, r1⟩ := X12_flags_loop (M := M) (m := m) h.1.1.2.1 700 i FU 0 R (by omega) (by rw [FU_eq]; omega) h
  exact ⟨x, R', by simp only [f_X12_parseFlags, ov_ob, X12_flag_L h, bso]; exact e1, k1, r1⟩
theorem X12_flags_F (h : rF R l c p) : f_X12_parseFlags m (ov M m R) = some (0, ov M m R) := by
  obtain ⟨n, hn⟩ := FU_s
  simp only [f_X12_parseFlags, ov_ob, X12_flag_F h, bso]
  rw [hn]
  simp only [f_X12_parseFlags_7, if_true]
end
/-- a session as the draft's row has it -/
def stub (s : Sx) : Sx := (s.1, 0, false, false, 0, [], [0, 0, 0, 0, 0])
def stb (S : St) : St := (stL S, stN S, stM S, stB S, fun k => stub (stS S k))
def cntN (S : St) : Nat := fd (fun k a => a + (stB S k).2.2.length) 0 (stN S) 0
/-- the draft says what was read -/
def dR (R : Rs) (P : Ps) : Prop :=
  rep (rowf R) (stb P.2.1) ∧ (∀ k, k < stM P.2.1 → R.2.2.2 6 k = sxB (stS P.2.1 k) ∧ R.2.2.2 7 k = b2i (sxR (stS P.2.1 k))) ∧
  (∀ k, stM P.2.1 ≤ k → k < 4 → ∀ j, j < 131 → rowf R (sAt k + j) = 0) ∧ (∀ k, stN P.2.1 ≤ k → k < 3 → ∀ j, j < 93 → rowf R (bAt k + j) = 0) ∧
  R.1 16 = b2i P.2.2.1 ∧ R.1 17 = nI (cntN P.2.1) ∧ P.2.2.2 = decide (0 < cntN P.2.1) ∧ cntN P.2.1 ≤ 90
/-- what a load may change before it is done -/
def dk (R R' : Rs) : Prop := R'.2.1 = R.2.1 ∧ (∀ k, (k < 10 ∨ 17 < k) → R'.1 k = R.1 k) ∧ (∀ a, a ≠ rowN R → R'.2.2.1 a = R.2.2.1 a) ∧ ∀ a, a ≠ 6 → a ≠ 7 → R'.2.2.2 a = R.2.2.2 a
theorem dk.rf (R : Rs) : dk R R := ⟨rfl, fun _ _ => rfl, fun _ _ => rfl, fun _ _ _ => rfl⟩
theorem dk.rN {R R' : Rs} (h : dk R R') : rowN R' = rowN R := by unfold rowN; rw [h.1]
theorem dk.trans {R R1 R2 : Rs} (h : dk R R1) (g : dk R1 R2) : dk R R2 :=
  ⟨g.1.trans h.1, fun k hk => (g.2.1 k hk).trans (h.2.1 k hk), fun a ha => (g.2.2.1 a (by rw [h.rN]; exact ha)).trans (h.2.2.1 a ha), fun a ha hb => (g.2.2.2 a ha hb).trans (h.2.2.2 a ha hb)⟩
theorem rk.d {R R' : Rs} (h : rk R R') : dk R R' := ⟨by rw [h.1], fun k hk => h.2 k (by omega), fun a _ => by rw [h.1], fun a _ _ => by rw [h.1]⟩
theorem dk.S (R : Rs) {k : Nat} (hk : 10 ≤ k ∧ k ≤ 17) (v : Int32) : dk R (rsS R k v) := ⟨rfl, fun j hj => va_up_n _ _ (by omega), fun _ _ => rfl, fun _ _ _ => rfl⟩
theorem dk.R (R : Rs) (f : Nat → Int64) : dk R (rsR R f) := ⟨rfl, fun _ _ => rfl, fun a ha => va_up_n _ _ ha, fun _ _ _ => rfl⟩
theorem dk.I (R : Rs) {a : Nat} (ha : a = 6 ∨ a = 7) (f : Nat → Int32) : dk R (rsI R a f) := ⟨rfl, fun _ _ => rfl, fun _ _ => rfl, fun b h1 h2 => va_up_n _ _ (by omega)⟩
theorem rTx.d {R R' : Rs} {l : List Int32} (h : rTx R l) (k : dk R R') : rTx R' l := ⟨(k.2.1 9 (by omega)).trans h.1, h.2.1, by rw [k.2.2.2 5 (by omega) (by omega)]; exact h.2.2⟩
theorem rF.d {R R' : Rs} {l : List Int32} {c p : Int32} (h : rF R l c p) (k : dk R R') (e1 : R'.1 14 = R.1 14) (e2 : R'.1 15 = R.1 15) : rF R' l c p := ⟨⟨h.1.1.d k, h.1.2⟩, e1.trans h.2.1, e2.trans h.2.2.1, h.2.2.2⟩
theorem rL.d {R R' : Rs} {l : List Int32} {i : Nat} (h : rL R l i) (k : dk R R') (e : ∀ q, 10 ≤ q → q ≤ 15 → R'.1 q = R.1 q) : rL R' l i := by
  obtain ⟨⟨h1, hy⟩, h2, h3, h4, h5, h6, h7⟩ := h
  exact ⟨⟨h1.d k, hy⟩, (e 10 (by omega) (by omega)).trans h2, (e 11 (by omega) (by omega)).trans h3, (e 12 (by omega) (by omega)).trans h4, by rw [e 13 (by omega) (by omega)]; exact h5, (e 14 (by omega) (by omega)).trans h6, (e 15 (by omega) (by omega)).trans h7⟩
theorem dR.rk {R R' : Rs} {P : Ps} (h : dR R P) (k : rk R R') : dR R' P := by
  obtain ⟨h1, h2, h3, h4, h5, h6, h7⟩ := h
  have hI : R'.2.2.2 = R.2.2.2 := by rw [k.1]
  exact ⟨by rw [k.row]; exact h1, by rw [hI]; exact h2, by rw [k.row]; exact h3, by rw [k.row]; exact h4, (k.2 16 (by omega)).trans h5, (k.2 17 (by omega)).trans h6, h7⟩
