/-! PURE: the reference's draft, the limit and the boxes -/
theorem rep.lim {f f' : Nat → Int64} {S : St} (h : rep f S) {v : Int32} (e0 : rg f' 0 = v) (e : ∀ q, 1 ≤ q → f' q = f q) : rep f' (v, S.2) := by
  obtain ⟨h1, h2, h3, h4, h5, h6, h7⟩ := h
  exact ⟨e0, (rg_eq (e _ (by omega))).trans h2, (rg_eq (e _ (by omega))).trans h3, h4, h5, fun b hb => ⟨(h6 b hb).1, (h6 b hb).2.fr (fun q q1 q2 => e q (by unfold bAt at *; omega)) (h6 b hb).1⟩, fun s hs => ⟨(h7 s hs).1, (h7 s hs).2.fr (fun q q1 q2 => e q (by unfold sAt at *; omega)) (h7 s hs).1⟩⟩
theorem rep.addB {f f' : Nat → Int64} {S : St} (h : rep f S) (hn : stN S < 3) {J : Int64} (hJ : nmR J (f' (bAt (stN S)))) (c0 : rg f' (bAt (stN S) + 1) = 0) (c2 : rg f' (bAt (stN S) + 2) = 1) (e1 : rg f' 1 = nI (stN S + 1)) (e : ∀ q, q ≠ 1 → (q < bAt (stN S) ∨ bAt (stN S) + 93 ≤ q) → f' q = f q) :
    rep f' (stL S, stN S + 1, stM S, va_up (stB S) (stN S) (J, 1, []), stS S) := by
  obtain ⟨h1, h2, h3, h4, h5, h6, h7⟩ := h
  refine ⟨(rg_eq (e _ (by omega) (by unfold bAt; omega))).trans h1, e1, (rg_eq (e _ (by omega) (by unfold bAt; omega))).trans h3, by show stN S + 1 ≤ 3; omega, h5, fun b hb => ?_, fun s hs => ⟨(h7 s hs).1, (h7 s hs).2.fr (fun q q1 q2 => e q (by unfold sAt at *; omega) (by unfold bAt sAt at *; omega)) (h7 s hs).1⟩⟩
  show (va_up (stB S) (stN S) (J, 1, []) b).2.2.length ≤ 30 ∧ bRep f' (bAt b) (va_up (stB S) (stN S) (J, 1, []) b)
  have hb : b < stN S + 1 := hb
  by_cases eb : b = stN S
  · subst eb
    rw [va_up_s]
    exact ⟨Nat.zero_le _, hJ, c0, c2, fun j hj => absurd hj (Nat.not_lt_zero _)⟩
  · rw [va_up_n _ _ eb]
    exact ⟨(h6 b (by omega)).1, (h6 b (by omega)).2.fr (fun q q1 q2 => e q (by unfold bAt at *; omega) (by unfold bAt at *; omega)) (h6 b (by omega)).1⟩
theorem rep.addS {f f' : Nat → Int64} {S : St} (h : rep f S) (hn : stM S < 4) {x : Sx} (hJ : nmR x.1 (f' (sAt (stM S)))) (c0 : ∀ j, 1 ≤ j → j < 11 → rg f' (sAt (stM S) + j) = 0) (e1 : rg f' 2 = nI (stM S + 1)) (e : ∀ q, q ≠ 2 → (q < sAt (stM S) ∨ sAt (stM S) + 131 ≤ q) → f' q = f q) :
    rep f' (stL S, stN S, stM S + 1, stB S, va_up (stS S) (stM S) (stub x)) := by
  obtain ⟨h1, h2, h3, h4, h5, h6, h7⟩ := h
  refine ⟨(rg_eq (e _ (by omega) (by unfold sAt; omega))).trans h1, (rg_eq (e _ (by omega) (by unfold sAt; omega))).trans h2, e1, h4, by show stM S + 1 ≤ 4; omega, fun b hb => ⟨(h6 b hb).1, (h6 b hb).2.fr (fun q q1 q2 => e q (by unfold bAt at *; omega) (by have hb : b < stN S := hb; unfold bAt sAt at *; omega)) (h6 b hb).1⟩, fun s hs => ?_⟩
  show (sxE (va_up (stS S) (stM S) (stub x) s)).length ≤ 60 ∧ sRep f' (sAt s) (va_up (stS S) (stM S) (stub x) s)
  have hs : s < stM S + 1 := hs
  by_cases eb : s = stM S
  · subst eb
    rw [va_up_s]
    refine ⟨Nat.zero_le _, hJ, c0 1 (by omega) (by omega), c0 2 (by omega) (by omega), c0 3 (by omega) (by omega), c0 4 (by omega) (by omega), c0 5 (by omega) (by omega), fun j hj => ?_, fun j hj => absurd hj (Nat.not_lt_zero _)⟩
    have hz : ∀ j, j < 5 → ([0, 0, 0, 0, 0] : List Int32).getD j 0 = 0 := by decide
    show rg f' (sAt (stM S) + 6 + j) = ([0, 0, 0, 0, 0] : List Int32).getD j 0
    rw [hz j hj, Nat.add_assoc]
    exact c0 (6 + j) (by omega) (by omega)
  · rw [va_up_n _ _ eb]
    exact ⟨(h7 s (by omega)).1, (h7 s (by omega)).2.fr (fun q q1 q2 => e q (by unfold sAt at *; omega) (by unfold sAt at *; omega)) (h7 s (by omega)).1⟩
/-- what the reference is after a reading -/
def pR (R : Rs) (l : List Int32) (x : Ps ⊕ Er) : Prop := match x with
  | .inl P => rL R l P.1 ∧ dR R P
  | .inr e => rF R l e.1 e.2
theorem b2i_vZ (b : Bool) : vZ (.int (b2i b)) = some b := vZ_b b
section
variable {M : Mem} {m : Nat} {R : Rs} {l : List Int32} {i : Nat} {c p : Int32} {P : Ps}
theorem lim24_F (h : rF R l c p) : ∃ R', f_X12_parseLimit_24 m (ov M m R) = some (ov M m R') ∧ rF R' l c p ∧ dk R R' := by
  have k1 := dk.S R (k := 16) (by omega) (b2i true)
  have h1 : rF (rsS R 16 (b2i true)) l c p := h.d k1 rfl rfl
  have s1 : sJ (ov M m (rsS R 16 (b2i true))) 1 (m + rowN (rsS R 16 (b2i true))) 0 (Int32.toInt64 1) = some (ov M m (rsR (rsS R 16 (b2i true)) (vp_updL (rowf (rsS R 16 (b2i true))) 0 (Int32.toInt64 1)))) := r_srow M m (rsS R 16 (b2i true)) (k := 0) (by omega) (Int32.toInt64 1)
  have k2 := dk.R (rsS R 16 (b2i true)) (vp_updL (rowf (rsS R 16 (b2i true))) 0 (Int32.toInt64 1))
  refine ⟨_, ?_, h1.d k2 rfl rfl, k1.trans k2⟩
  simp only [f_X12_parseLimit_24, r_p16, bso, X12_goOn_F h1, r_g3, X12_num_F h1, s1]
theorem lim12_F (h : rF R l c p) {b : Bool} (hb : R.1 16 = b2i b) : ∃ R', f_X12_parseLimit_12 m (ov M m R) = some (ov M m R') ∧ rF R' l c p ∧ dk R R' := by
  obtain ⟨R', e1, h1, k1⟩ := lim24_F (M := M) (m := m) h
  refine ⟨R', ?_, h1, k1⟩
  simp only [f_X12_parseLimit_12, r_g16, hb, b2i_vZ, bso]
  cases b with
  | true => simp only [cond_true, X12_errs_F h, bso]; exact e1
  | false => simp only [cond_false]; exact e1
theorem X12_limit_e (h : rL R l P.1) (hd : dR R P) : ∃ R', f_X12_parseLimit m (ov M m R) = some (ov M m R') ∧ pR R' l (pLim l P) ∧ dk R R' := by
  obtain ⟨d1, d2, d3, d4, d5, d6, d7, d8⟩ := id hd
  have hle : (nI (cntN P.2.1) ≤ 0) = (cntN P.2.1 ≤ 0) := leI (y := 0) (b := 0) rfl rfl (by omega) (by omega)
  simp only [f_X12_parseLimit, ov_ob, r_g17, d6, bso, hle]
  unfold pLim
  by_cases e : cntN P.2.1 ≤ 0
  · rw [if_pos e, if_neg (show ¬ (P.2.2.2 = true) by rw [d7, decide_eq_false (by omega)]; decide)]
    simp only [f_X12_parseLimit_12, r_g16, d5, b2i_vZ, bso]
    cases hl : P.2.2.1 with
    | true =>
      obtain ⟨R1, e1, h1, k1⟩ := X12_errs_L (M := M) (m := m) h (e := 3) (by decide)
      obtain ⟨R2, e2, h2, k2⟩ := lim24_F (M := M) (m := m) h1
      exact ⟨R2, by simp only [cond_true, e1, bso, e2], by simp only [if_true]; exact h2, k1.d.trans k2⟩
    | false =>
      simp only [cond_false, Bool.false_eq_true, if_false]
      have k1 := dk.S R (k := 16) (by omega) (b2i true)
      have h1 : rL (rsS R 16 (b2i true)) l P.1 := h.d k1 (fun q q1 q2 => va_up_n _ _ (by omega))
      obtain ⟨R2, e2, h2, k2⟩ := X12_goOn_L (M := M) (m := m) h1
      obtain ⟨x, R3, e3, k3, r3⟩ := X12_num_L (M := M) (m := m) h2 (lo := 1) (hi := 30) (by omega) (by omega)
      have e3 : f_X12_number m 1 30 (ov M m R2) = some (x, ov M m R3) := e3
      have hk23 := k2.trans k3
      have hrow : rowN R2 = rowN R3 := k3.d.rN.symm
      have s4 : sJ (ov M m R3) 1 (m + rowN R3) 0 (Int32.toInt64 x) = some (ov M m (rsR R3 (vp_updL (rowf R3) 0 (Int32.toInt64 x)))) := r_srow M m R3 (k := 0) (by omega) (Int32.toInt64 x)
      have k4 := dk.R R3 (vp_updL (rowf R3) 0 (Int32.toInt64 x))
      refine ⟨_, by simp only [f_X12_parseLimit_24, r_p16, bso, e2, r_g3, hrow, e3, s4], ?_, ((k1.trans k2.d).trans k3.d).trans k4⟩
      rcases r3 with ⟨n0, hx, h3⟩ | ⟨n0, h3⟩
      · rw [if_pos n0]
        refine ⟨h3.d k4 (fun _ _ _ => rfl), ?_⟩
        have hr3 : rowf R3 = rowf R := hk23.row
        have hI3 : R3.2.2.2 = R.2.2.2 := by rw [k3.1, k2.1]; rfl
        have f16 : R3.1 16 = b2i true := (hk23.2 16 (by omega)).trans rfl
        have f17 : R3.1 17 = nI (cntN P.2.1) := (hk23.2 17 (by omega)).trans d6
        have hq : ∀ q, 1 ≤ q → vp_updL (rowf R3) 0 (Int32.toInt64 x) q = rowf R q := fun q hq => by rw [pk_uLn (by omega), hr3]
        refine ⟨?_, ?_, ?_, ?_, f16, f17, d7, d8⟩
        · rw [rowf_R]
          exact d1.lim (v := nI (tkV (toks l (P.1 + 1)))) (by rw [rg_s, Int32.toInt32_toInt64, hx]) hq
        · show ∀ k, k < stM P.2.1 → R3.2.2.2 6 k = _ ∧ R3.2.2.2 7 k = _
          rw [hI3]; exact d2
        · rw [rowf_R]
          intro k k1 k2 j hj
          rw [hq _ (by unfold sAt; omega)]; exact d3 k k1 k2 j hj
        · rw [rowf_R]
          intro k k1 k2 j hj
          rw [hq _ (by unfold bAt; omega)]; exact d4 k k1 k2 j hj
      · rw [if_neg n0]
        exact h3.d k4 rfl rfl
  · rw [if_neg e, if_pos (show P.2.2.2 = true by rw [d7, decide_eq_true (by omega)])]
    obtain ⟨R1, e1, h1, k1⟩ := X12_errs_L (M := M) (m := m) h (e := 1) (by decide)
    obtain ⟨R2, e2, h2, k2⟩ := lim12_F (M := M) (m := m) h1 (b := P.2.2.1) ((k1.2 16 (by omega)).trans d5)
    exact ⟨R2, by simp only [e1, bso, e2], h2, k1.d.trans k2⟩
end
