/-! PURE: the reference, what a call begins with -/
/-- all but some scalars, rows and arrays is as it was -/
def kp (sc js is : List Nat) (R R' : Rs) : Prop := R'.2.1 = R.2.1 ∧ (∀ k, k ∉ sc → R'.1 k = R.1 k) ∧ (∀ a, a ∉ js → R'.2.2.1 a = R.2.2.1 a) ∧ ∀ a, a ∉ is → R'.2.2.2 a = R.2.2.2 a
theorem kp.rf (sc js is : List Nat) (R : Rs) : kp sc js is R R := ⟨rfl, fun _ _ => rfl, fun _ _ => rfl, fun _ _ => rfl⟩
theorem kp.trans {sc js is : List Nat} {R R1 R2 : Rs} (h : kp sc js is R R1) (g : kp sc js is R1 R2) : kp sc js is R R2 := ⟨g.1.trans h.1, fun k hk => (g.2.1 k hk).trans (h.2.1 k hk), fun a ha => (g.2.2.1 a ha).trans (h.2.2.1 a ha), fun a ha => (g.2.2.2 a ha).trans (h.2.2.2 a ha)⟩
theorem kp.up {sc js is sc' js' is' : List Nat} {R R' : Rs} (h : kp sc js is R R') (h1 : ∀ x ∈ sc, x ∈ sc') (h2 : ∀ x ∈ js, x ∈ js') (h3 : ∀ x ∈ is, x ∈ is') : kp sc' js' is' R R' := ⟨h.1, fun k hk => h.2.1 k (fun z => hk (h1 k z)), fun a ha => h.2.2.1 a (fun z => ha (h2 a z)), fun a ha => h.2.2.2 a (fun z => ha (h3 a z))⟩
theorem kp_S (R : Rs) (k : Nat) (v : Int32) : kp [k] [] [] R (rsS R k v) := ⟨rfl, fun j hj => va_up_n _ _ (fun z => hj (by rw [z]; exact List.mem_singleton.mpr rfl)), fun _ _ => rfl, fun _ _ => rfl⟩
theorem kp_J (R : Rs) (a : Nat) (f : Nat → Int64) : kp [] [a] [] R (rsJ R a f) := ⟨rfl, fun _ _ => rfl, fun j hj => va_up_n _ _ (fun z => hj (by rw [z]; exact List.mem_singleton.mpr rfl)), fun _ _ => rfl⟩
theorem kp_I (R : Rs) (a : Nat) (f : Nat → Int32) : kp [] [] [a] R (rsI R a f) := ⟨rfl, fun _ _ => rfl, fun _ _ => rfl, fun j hj => va_up_n _ _ (fun z => hj (by rw [z]; exact List.mem_singleton.mpr rfl))⟩
theorem row1 {R : Rs} (hw : R.2.1 = false) : rowN R = 1 := by rw [rowN, hw]; rfl
theorem kp_R {R : Rs} (hw : R.2.1 = false) (f : Nat → Int64) : kp [] [1] [] R (rsR R f) := by
  rw [rsR, row1 hw]; exact kp_J R 1 f
theorem kpT.kp {R R' : Rs} (h : kpT R R') (hw : R.2.1 = false) : kp [5] [1] [3] R R' := by
  refine ⟨h.1, fun k hk => h.2.1 k (fun z => hk (by rw [z]; exact List.mem_singleton.mpr rfl)), fun a ha => h.2.2.1 a (fun z => ha ?_), fun a ha => h.2.2.2 a (fun z => ha (by rw [z]; exact List.mem_singleton.mpr rfl))⟩
  rw [row1 hw] at z
  rw [z]; exact List.mem_singleton.mpr rfl
theorem kp.row {sc js is : List Nat} {R R' : Rs} (h : kp sc js is R R') (hw : R.2.1 = false) (hj : 1 ∉ js) : rowf R' = rowf R := by
  have h1 := row1 hw
  have h2 : rowN R' = 1 := row1 (h.1.trans hw)
  rw [rowf, rowf, h1, h2]
  exact h.2.2.1 1 hj
theorem kp.nt {sc js is : List Nat} {R R' : Rs} {ns : List Nt} (h : kp sc js is R R') (h5 : 5 ∉ sc) (h3 : 3 ∉ is) (hn : ntR R ns) : ntR R' ns := by
  refine ⟨(h.2.1 5 h5).trans hn.1, fun i hi => ?_⟩
  rw [h.2.2.2 3 h3]
  exact hn.2 i hi
theorem rsJ_J (R : Rs) (a : Nat) (f g : Nat → Int64) : rsJ (rsJ R a f) a g = rsJ R a g := by
  refine Prod.ext rfl (Prod.ext rfl (Prod.ext (funext fun j => ?_) rfl))
  show va_up (va_up R.2.2.1 a f) a g j = va_up R.2.2.1 a g j
  by_cases e : j = a
  · rw [e, va_up_s, va_up_s]
  · rw [va_up_n _ _ e, va_up_n _ _ e, va_up_n _ _ e]
theorem rsJ_at (R : Rs) (a : Nat) (f : Nat → Int64) : (rsJ R a f).2.2.1 a = f := va_up_s _ _ _
theorem rsJ_id (R : Rs) (a : Nat) : rsJ R a (R.2.2.1 a) = R := by
  refine Prod.ext rfl (Prod.ext rfl (Prod.ext (funext fun j => ?_) rfl))
  show va_up R.2.2.1 a (R.2.2.1 a) j = R.2.2.1 j
  by_cases e : j = a
  · rw [e, va_up_s]
  · rw [va_up_n _ _ e]
theorem nIm806 (c : Nat) : (806 : Int32) * nI c = nI (806 * c) := nI_mul 806 c
/-- which of three exceptions -/
def thr (a b c : Bool) : Int32 := bif a then (bif b then (bif c then 0 else 3) else 2) else 1
def cdo (s : Sx) : Bool := !decide (sxB s = -1) && !sxI s
section
variable {M : Mem} {m : Nat} {R : Rs} {S : St}
theorem X12_pass_e (a b c : Bool) : f_X12_passes3 m a b c (ov M m R) = some ((a && (b && c)), ov M m (rsS R 0 (thr a b c))) := by
  have key : ∀ v : Int32, f_X12_passes3_26 m m v (ov M m R) = some (decide (v = 0), ov M m (rsS R 0 v)) := by
    intro v
    simp only [f_X12_passes3_26, r_p0, bso, r_g0]
    have : (rsS R 0 v).1 0 = v := rsS_at _ _ _
    rw [this]
    by_cases e : v = 0 <;> simp [e]
  simp only [f_X12_passes3, ov_ob, key, thr]
  cases a <;> cases b <;> cases c <;> rfl
theorem X12_pass2_e (a b : Bool) : f_X12_passes2 m a b (ov M m R) = some ((a && b), ov M m (rsS R 0 (thr a b true))) := by
  simp only [f_X12_passes2, ov_ob, X12_pass_e, bso, Bool.and_true]
theorem X12_pass1_e (a : Bool) : f_X12_passes m a (ov M m R) = some (a, ov M m (rsS R 0 (thr a true true))) := by
  simp only [f_X12_passes, ov_ob, X12_pass_e, bso, Bool.and_true]
theorem X12_canDo_in (h : rep (rowf R) S) {s : Nat} (hs : s < stM S) : f_X12_canDo m (nI s) (ov M m R) = some (cdo (stS S s)) := by
  simp only [f_X12_canDo, ov_ob, X12_isSes_in h hs, X12_hasBox_e h hs, X12_idle_e h hs, bso, cond_true, cdo]
  by_cases e : sxB (stS S s) = -1
  · simp [e]
  · cases sxI (stS S s) <;> simp [e]
theorem X12_canDo_no (h : rep (rowf R) S) {i : Int32} (hi : ¬ ∃ k, k < stM S ∧ i = nI k) : f_X12_canDo m i (ov M m R) = some false := by
  simp only [f_X12_canDo, ov_ob, X12_isSes_no h hi, bso, cond_false]
theorem X12_canCh_in (h : rep (rowf R) S) {s : Nat} (hs : s < stM S) : f_X12_canChange m (nI s) (ov M m R) = some (cdo (stS S s) && !sxR (stS S s)) := by
  simp only [f_X12_canChange, ov_ob, X12_canDo_in h hs, X12_reads_e h hs, bso]
  cases cdo (stS S s) <;> cases sxR (stS S s) <;> simp
theorem X12_canCh_no (h : rep (rowf R) S) {i : Int32} (hi : ¬ ∃ k, k < stM S ∧ i = nI k) : f_X12_canChange m i (ov M m R) = some false := by
  simp only [f_X12_canChange, ov_ob, X12_canDo_no h hi, bso, cond_false]
/-- what can be undone, the latest first -/
def hsR (R : Rs) (cnt : Nat) (hk : Nat → St) : Prop := R.1 25 = nI cnt ∧ cnt ≤ 6 ∧ ∀ i, i < cnt → rep (fun q => R.2.2.1 10 (806 * (cnt - 1 - i) + q)) (hk i)
theorem rep.ext {f g : Nat → Int64} {S : St} (h : rep f S) (e : ∀ q, q < 806 → g q = f q) : rep g S := by
  obtain ⟨h1, h2, h3, h4, h5, h6, h7⟩ := h
  refine ⟨(rg_eq (e _ (by omega))).trans h1, (rg_eq (e _ (by omega))).trans h2, (rg_eq (e _ (by omega))).trans h3, h4, h5, fun b hb => ⟨(h6 b hb).1, (h6 b hb).2.fr (fun q q1 q2 => e q (by unfold bAt at *; omega)) (h6 b hb).1⟩, fun s hs => ⟨(h7 s hs).1, (h7 s hs).2.fr (fun q q1 q2 => e q (by unfold sAt at *; omega)) (h7 s hs).1⟩⟩
theorem X12_rem_loop {c : Nat} (hc : c ≤ 5) : ∀ (d k fu : Nat) (R : Rs), k + d = 806 → d < fu → R.1 25 = nI c → R.2.1 = false →
    ∃ p', f_X12_remember_54 fu m (nI k) (ov M m R) = some (ov M m (rsS (rsJ R 10 p') 25 (nI (c + 1)))) ∧ ∀ q, p' q = if 806 * c + k ≤ q ∧ q < 806 * c + 806 then rowf R (q - 806 * c) else R.2.2.1 10 q := by
  intro d
  induction d with
  | zero =>
    intro k fu R hk hf h25 hw
    obtain ⟨fu, rfl⟩ : ∃ m, fu = m + 1 := ⟨fu - 1, by omega⟩
    obtain rfl : k = 806 := by omega
    refine ⟨R.2.2.1 10, ?_, fun q => by rw [if_neg (by omega)]⟩
    rw [rsJ_id]
    simp only [f_X12_remember_54, r_g25, h25, bso, nI_1, r_p25]
    rw [if_pos (show (806 : Int32) ≤ nI 806 by decide)]
  | succ d ih =>
    intro k fu R hk hf h25 hw
    obtain ⟨fu, rfl⟩ : ∃ m, fu = m + 1 := ⟨fu - 1, by omega⟩
    obtain ⟨p', e', h'⟩ := ih (k + 1) fu (rsJ R 10 (vp_updL (R.2.2.1 10) (806 * c + k) (rowf R k))) (by omega) (by omega) h25 hw
    rw [rsJ_J] at e'
    have hrow : rowf (rsJ R 10 (vp_updL (R.2.2.1 10) (806 * c + k) (rowf R k))) = rowf R := (kp_J R 10 _).row hw (by decide)
    rw [hrow, rsJ_at] at h'
    refine ⟨p', ?_, fun q => ?_⟩
    · have hr := r_a1' (M := M) (m := m) hw (show k < 806 by omega)
      have hs := r_s10 M m R (k := 806 * c + k) (by omega) (rowf R k)
      simp only [f_X12_remember_54, r_g24, r_g25, r_g1, h25, bso, nI_1, nIm806, nI_add, hr, hs, e']
      rw [if_neg (show ¬ ((806 : Int32) ≤ nI k) from fun z => absurd ((nI_leI (a := 806) (by omega) (by omega)).mp z) (by omega))]
    · rw [h' q]
      by_cases e1 : 806 * c + (k + 1) ≤ q ∧ q < 806 * c + 806
      · rw [if_pos e1, if_pos ⟨by omega, e1.2⟩]
      · rw [if_neg e1]
        by_cases e2 : q = 806 * c + k
        · subst e2; rw [pk_uLs, if_pos ⟨by omega, by omega⟩, Nat.add_sub_cancel_left]
        · rw [pk_uLn e2, if_neg (by omega)]
theorem X12_shift_loop {hi : Nat} (hhi : hi = 4030) : ∀ (d j fu : Nat) (R : Rs), j + d = hi → d < fu → R.1 25 = nI 6 → R.2.1 = false →
    ∃ p', f_X12_remember_13 fu m (nI (j + 806)) (ov M m R) = f_X12_remember_52 m (ov M m (rsS (rsJ R 10 p') 25 (nI 5))) ∧ ∀ q, p' q = if j ≤ q ∧ q < hi then R.2.2.1 10 (q + 806) else R.2.2.1 10 q := by
  intro d
  induction d with
  | zero =>
    intro j fu R hj hf h25 hw
    obtain ⟨fu, rfl⟩ : ∃ m, fu = m + 1 := ⟨fu - 1, by omega⟩
    refine ⟨R.2.2.1 10, ?_, fun q => by rw [if_neg (by omega)]⟩
    rw [rsJ_id]
    simp only [f_X12_remember_13, r_g25, h25, bso, nI_pred, r_p25]
    rw [if_pos (show (4836 : Int32) ≤ nI (j + 806) from (nI_leI (a := 4836) (by omega) (by omega)).mpr (by omega))]
  | succ d ih =>
    intro j fu R hj hf h25 hw
    obtain ⟨fu, rfl⟩ : ∃ m, fu = m + 1 := ⟨fu - 1, by omega⟩
    obtain ⟨p', e', h'⟩ := ih (j + 1) fu (rsJ R 10 (vp_updL (R.2.2.1 10) j (R.2.2.1 10 (j + 806)))) (by omega) (by omega) h25 hw
    rw [rsJ_J] at e'
    rw [rsJ_at] at h'
    refine ⟨p', ?_, fun q => ?_⟩
    · have hr := r_a10 M m R (k := j + 806) (by omega)
      have hs := r_s10 M m R (k := j) (by omega) (R.2.2.1 10 (j + 806))
      have hsub : nI (j + 806) - 806 = nI j := by
        have := nI_sub (a := j + 806) (b := 806) (by omega)
        rw [Nat.add_sub_cancel] at this
        exact this
      have hnx : nI (j + 806 + 1) = nI (j + 1 + 806) := by rw [Nat.add_right_comm]
      simp only [f_X12_remember_13, r_g24, bso, nI_1, hr, hsub, hs, hnx, e']
      rw [if_neg (show ¬ ((4836 : Int32) ≤ nI (j + 806)) from fun z => absurd ((nI_leI (a := 4836) (by omega) (by omega)).mp z) (by omega))]
    · rw [h' q]
      by_cases e1 : j + 1 ≤ q ∧ q < hi
      · have e0 : q + 806 ≠ j := by omega
        have e3 : j ≤ q ∧ q < hi := ⟨by omega, e1.2⟩
        rw [if_pos e1, if_pos e3, pk_uLn e0]
      · rw [if_neg e1]
        by_cases e2 : q = j
        · have e3 : j ≤ q ∧ q < hi := ⟨by omega, by omega⟩
          rw [if_pos e3, e2, pk_uLs]
        · have e3 : ¬ (j ≤ q ∧ q < hi) := by omega
          rw [if_neg e3, pk_uLn e2]
theorem X12_rem_e (h : rep (rowf R) S) (hw : R.2.1 = false) {cnt : Nat} {hk : Nat → St} (hh : hsR R cnt hk) :
    ∃ R', f_X12_remember m (ov M m R) = some (ov M m R') ∧ hsR R' (if cnt < 6 then cnt + 1 else 6) (fun i => if i = 0 then S else hk (i - 1)) ∧ kp [25] [10] [] R R' := by
  obtain ⟨h25, h6, hr⟩ := hh
  by_cases e : cnt < 6
  · obtain ⟨p', e', h'⟩ := X12_rem_loop (M := M) (m := m) (c := cnt) (by omega) 806 0 FU R (by omega) (by rw [FU_eq]; omega) h25 hw
    have e' : f_X12_remember_54 FU m 0 (ov M m R) = some (ov M m (rsS (rsJ R 10 p') 25 (nI (cnt + 1)))) := e'
    refine ⟨rsS (rsJ R 10 p') 25 (nI (cnt + 1)), ?_, ⟨?_, by rw [if_pos e]; omega, fun i hi => ?_⟩, ((kp_J R 10 p').up (by simp) (by simp) (by simp)).trans ((kp_S _ 25 _).up (by simp) (by simp) (by simp))⟩
    · simp only [f_X12_remember, ov_ob, r_g25, h25, bso, f_X12_remember_52, e']
      rw [if_neg (show ¬ (nI cnt = 6) from fun z => absurd ((nI_eq (b := 6) (by omega) (by omega)).mp z) (by omega))]
    · rw [if_pos e]; exact rsS_at _ _ _
    · rw [if_pos e] at hi ⊢
      have hp : (rsS (rsJ R 10 p') 25 (nI (cnt + 1))).2.2.1 10 = p' := rsJ_at R 10 p'
      rw [hp]
      by_cases e0 : i = 0
      · subst e0
        refine h.ext (fun q hq => ?_)
        show p' (806 * (cnt + 1 - 1 - 0) + q) = rowf R q
        have e3 : 806 * cnt + 0 ≤ 806 * (cnt + 1 - 1 - 0) + q ∧ 806 * (cnt + 1 - 1 - 0) + q < 806 * cnt + 806 := ⟨by omega, by omega⟩
        rw [h' _, if_pos e3, show 806 * (cnt + 1 - 1 - 0) + q - 806 * cnt = q by omega]
      · show rep _ (if i = 0 then S else hk (i - 1))
        rw [if_neg e0]
        refine (hr (i - 1) (by omega)).ext (fun q hq => ?_)
        show p' (806 * (cnt + 1 - 1 - i) + q) = R.2.2.1 10 (806 * (cnt - 1 - (i - 1)) + q)
        have e3 : ¬ (806 * cnt + 0 ≤ 806 * (cnt + 1 - 1 - i) + q ∧ 806 * (cnt + 1 - 1 - i) + q < 806 * cnt + 806) := by omega
        rw [h' _, if_neg e3, show cnt + 1 - 1 - i = cnt - 1 - (i - 1) by omega]
  · obtain rfl : cnt = 6 := by omega
    obtain ⟨p1, e1, h1⟩ := X12_shift_loop (M := M) (m := m) (hi := 4030) rfl 4030 0 FU R (by omega) (by rw [FU_eq]; omega) h25 hw
    have e1 : f_X12_remember_13 FU m 806 (ov M m R) = f_X12_remember_52 m (ov M m (rsS (rsJ R 10 p1) 25 (nI 5))) := e1
    have hw1 : (rsS (rsJ R 10 p1) 25 (nI 5)).2.1 = false := hw
    have hk1 : kp [25] [10] [] R (rsS (rsJ R 10 p1) 25 (nI 5)) := ((kp_J R 10 p1).up (by simp) (by simp) (by simp)).trans ((kp_S _ 25 _).up (by simp) (by simp) (by simp))
    obtain ⟨p', e', h'⟩ := X12_rem_loop (M := M) (m := m) (c := 5) (by omega) 806 0 FU (rsS (rsJ R 10 p1) 25 (nI 5)) (by omega) (by rw [FU_eq]; omega) (rsS_at _ _ _) hw1
    have e' : f_X12_remember_54 FU m 0 (ov M m (rsS (rsJ R 10 p1) 25 (nI 5))) = some (ov M m (rsS (rsJ (rsS (rsJ R 10 p1) 25 (nI 5)) 10 p') 25 (nI 6))) := e'
    have hrow : rowf (rsS (rsJ R 10 p1) 25 (nI 5)) = rowf R := hk1.row hw (by decide)
    have hp1 : (rsS (rsJ R 10 p1) 25 (nI 5)).2.2.1 10 = p1 := rsJ_at R 10 p1
    rw [hrow, hp1] at h'
    refine ⟨rsS (rsJ (rsS (rsJ R 10 p1) 25 (nI 5)) 10 p') 25 (nI 6), ?_, ⟨?_, by rw [if_neg e]; omega, fun i hi => ?_⟩, hk1.trans (((kp_J _ 10 p').up (by simp) (by simp) (by simp)).trans ((kp_S _ 25 _).up (by simp) (by simp) (by simp)))⟩
    · simp only [f_X12_remember, ov_ob, r_g25, h25, bso]
      rw [if_pos (show nI 6 = 6 from rfl), e1, f_X12_remember_52, e']
    · rw [if_neg e]; exact rsS_at _ _ _
    · rw [if_neg e] at hi ⊢
      have hp : (rsS (rsJ (rsS (rsJ R 10 p1) 25 (nI 5)) 10 p') 25 (nI 6)).2.2.1 10 = p' := rsJ_at _ 10 p'
      rw [hp]
      by_cases e0 : i = 0
      · subst e0
        refine h.ext (fun q hq => ?_)
        show p' (806 * (6 - 1 - 0) + q) = rowf R q
        have e3 : 806 * 5 + 0 ≤ 806 * (6 - 1 - 0) + q ∧ 806 * (6 - 1 - 0) + q < 806 * 5 + 806 := ⟨by omega, by omega⟩
        have e4 : 806 * (6 - 1 - 0) + q - 806 * 5 = q := by omega
        rw [h' _, if_pos e3, e4]
      · show rep _ (if i = 0 then S else hk (i - 1))
        rw [if_neg e0]
        refine (hr (i - 1) (by omega)).ext (fun q hq => ?_)
        show p' (806 * (6 - 1 - i) + q) = R.2.2.1 10 (806 * (6 - 1 - (i - 1)) + q)
        have e3 : ¬ (806 * 5 + 0 ≤ 806 * (6 - 1 - i) + q ∧ 806 * (6 - 1 - i) + q < 806 * 5 + 806) := by omega
        have e5 : 0 ≤ 806 * (6 - 1 - i) + q ∧ 806 * (6 - 1 - i) + q < 4030 := ⟨by omega, by omega⟩
        have e4 : 806 * (6 - 1 - i) + q + 806 = 806 * (6 - 1 - (i - 1)) + q := by omega
        rw [h' _, if_neg e3, h1 _, if_pos e5, e4]
/-- a command begins -/
theorem X12_begins_e (h : rep (rowf R) S) (hw : R.2.1 = false) {cnt : Nat} {hk : Nat → St} (hh : hsR R cnt hk) {s : Nat} (hs : s < stM S) (hc : (sxC (stS S s)).length = 5) :
    ∃ R', f_X12_begins m (nI s) (ov M m R) = some (ov M m R') ∧ rep (rowf R') (setSx S s (incC (stS S s) 0)) ∧ hsR R' (if cnt < 6 then cnt + 1 else 6) (fun i => if i = 0 then S else hk (i - 1)) ∧ ntR R' [] ∧ kp [5, 25] [1, 10] [] R R' := by
  have h4 := h.2.2.2.2.1
  obtain ⟨R1, e1, g1, k1⟩ := X12_rem_e (M := M) (m := m) h hw hh
  have hw1 : R1.2.1 = false := k1.1.trans hw
  have hw2 : (rsS R1 5 0).2.1 = false := hw1
  have hrow1 : rowf R1 = rowf R := k1.row hw (by decide)
  have hk6 : sAt s + 6 < 806 := by unfold sAt; omega
  have a := r_a1' (M := M) (m := m) (R := rsS R1 5 0) hw2 hk6
  have b := r_s1' (M := M) (m := m) (R := rsS R1 5 0) hw2 hk6 (rowf R1 (sAt s + 6) + 1)
  rw [rowf_S] at a b
  have kR : kp [] [1] [] (rsS R1 5 0) (rsR (rsS R1 5 0) (vp_updL (rowf R1) (sAt s + 6) (rowf R1 (sAt s + 6) + 1))) := kp_R hw2 _
  refine ⟨_, ?_, ?_, ?_, ?_, (k1.up (by simp) (by simp) (by simp)).trans (((kp_S R1 5 0).up (by simp) (by simp) (by simp)).trans (kR.up (by simp) (by simp) (by simp)))⟩
  · simp only [f_X12_begins, ov_ob, e1, r_p5, r_g1, X12_sesAt_e, nI6, a, b, bso]
  · rw [rowf_R, hrow1]
    have := sRep_inc (h.sx hs) hc (k := 0) (by omega)
    rw [Nat.add_zero] at this
    exact h.setS hs (upd_off _ _ (by omega) (by omega)) this (h.ls hs)
  · refine ⟨(kR.2.1 25 (by simp)).trans g1.1, g1.2.1, fun i hi => ?_⟩
    have := kR.2.2.1 10 (by simp)
    rw [this]
    exact g1.2.2 i hi
  · exact ⟨(kR.2.1 5 (by simp)).trans (rsS_at _ _ _), fun i hi => absurd hi (Nat.not_lt_zero _)⟩
end
