/-! PURE: keep, restore, undo -/
theorem cntM_agr {S T : St} (g : agr S T) : cntM S = cntM T := by
  unfold cntM
  rw [g.2.1]
  exact fd_ext (hi := stN T) (stN T) 0 0 (Nat.zero_add _) (fun j _ hj a => by rw [g.2.2.2.1 j hj])
section
variable {M : Mem} {m : Nat} {R : Rs}
theorem keep_15_e {j : Nat} (hj : j < 2) : ∀ (d k fu : Nat) (R : Rs), k + d = 806 → d < fu → ∃ p', f_X12_keep_15 fu m (nI j) (nI k) (ov M m R) = f_X12_keep_15 1 m (nI j) 806 (ov M m (rsJ R 8 p')) ∧ ∀ q, p' q = if 806 * j + k ≤ q ∧ q < 806 * j + 806 then R.2.2.1 1 (q - 806 * j) else R.2.2.1 8 q := by
  intro d
  induction d with
  | zero =>
    intro k fu R hk hf
    obtain ⟨fu, rfl⟩ : ∃ x, fu = x + 1 := ⟨fu - 1, by omega⟩
    obtain rfl : k = 806 := by omega
    refine ⟨R.2.2.1 8, ?_, fun q => by rw [if_neg (by omega)]⟩
    rw [rsJ_id]
    simp only [f_X12_keep_15]
    rw [if_pos (show (806 : Int32) ≤ nI 806 by decide), if_pos (show (806 : Int32) ≤ 806 by decide)]
  | succ d ih =>
    intro k fu R hk hf
    obtain ⟨fu, rfl⟩ : ∃ x, fu = x + 1 := ⟨fu - 1, by omega⟩
    obtain ⟨p', e', h'⟩ := ih (k + 1) fu (rsJ R 8 (vp_updL (R.2.2.1 8) (806 * j + k) (R.2.2.1 1 k))) (by omega) (by omega)
    rw [rsJ_J] at e'
    have h1 : (rsJ R 8 (vp_updL (R.2.2.1 8) (806 * j + k) (R.2.2.1 1 k))).2.2.1 1 = R.2.2.1 1 := rfl
    rw [rsJ_at, h1] at h'
    refine ⟨p', ?_, fun q => ?_⟩
    · have hr := r_a1 M m R (show k < 806 by omega)
      have hs := r_s8 M m R (k := 806 * j + k) (by omega) (R.2.2.1 1 k)
      have n1 : ¬ ((806 : Int32) ≤ nI k) := fun z => absurd ((nI_leI (a := 806) (by omega) (by omega)).mp z) (by omega)
      rw [← e']
      simp only [f_X12_keep_15, r_g22, r_g1, bso, nI_1, nIm806, nI_add, hr, hs]
      rw [if_neg n1]
    · rw [h' q]
      by_cases e1 : 806 * j + (k + 1) ≤ q ∧ q < 806 * j + 806
      · rw [if_pos e1, if_pos ⟨by omega, e1.2⟩]
      · rw [if_neg e1]
        by_cases e2 : q = 806 * j + k
        · subst e2; rw [pk_uLs, if_pos ⟨by omega, by omega⟩, Nat.add_sub_cancel_left]
        · rw [pk_uLn e2, if_neg (by omega)]
theorem restore_45_e {j : Nat} (hj : j < 2) : ∀ (d k fu : Nat) (R : Rs), k + d = 806 → d < fu → R.2.1 = false → ∃ p', f_X12_restore_45 fu m (nI j) (nI k) (ov M m R) = f_X12_restore_45 1 m (nI j) 806 (ov M m (rsR R p')) ∧ ∀ q, p' q = if k ≤ q ∧ q < 806 then R.2.2.1 8 (806 * j + q) else rowf R q := by
  intro d
  induction d with
  | zero =>
    intro k fu R hk hf hw
    obtain ⟨fu, rfl⟩ : ∃ x, fu = x + 1 := ⟨fu - 1, by omega⟩
    obtain rfl : k = 806 := by omega
    refine ⟨rowf R, ?_, fun q => by rw [if_neg (by omega)]⟩
    rw [rsR_id]
    simp only [f_X12_restore_45]
    rw [if_pos (show (806 : Int32) ≤ nI 806 by decide), if_pos (show (806 : Int32) ≤ 806 by decide)]
  | succ d ih =>
    intro k fu R hk hf hw
    obtain ⟨fu, rfl⟩ : ∃ x, fu = x + 1 := ⟨fu - 1, by omega⟩
    obtain ⟨p', e', h'⟩ := ih (k + 1) fu (rsR R (vp_updL (rowf R) k (R.2.2.1 8 (806 * j + k)))) (by omega) (by omega) hw
    rw [rsR_R] at e'
    have h1 : (rsR R (vp_updL (rowf R) k (R.2.2.1 8 (806 * j + k)))).2.2.1 8 = R.2.2.1 8 := (kp_R hw _).2.2.1 8 (by simp)
    rw [rowf_R, h1] at h'
    refine ⟨p', ?_, fun q => ?_⟩
    · have hr := r_a8 M m R (k := 806 * j + k) (by omega)
      have hs := r_s1' (M := M) (m := m) hw (show k < 806 by omega) (R.2.2.1 8 (806 * j + k))
      have n1 : ¬ ((806 : Int32) ≤ nI k) := fun z => absurd ((nI_leI (a := 806) (by omega) (by omega)).mp z) (by omega)
      rw [← e']
      simp only [f_X12_restore_45, r_g22, r_g1, bso, nI_1, nIm806, nI_add, hr, hs]
      rw [if_neg n1]
    · rw [h' q]
      by_cases e1 : k + 1 ≤ q ∧ q < 806
      · rw [if_pos e1, if_pos ⟨by omega, e1.2⟩]
      · rw [if_neg e1]
        by_cases e2 : q = k
        · subst e2; rw [pk_uLs, if_pos ⟨Nat.le_refl _, by omega⟩]
        · rw [pk_uLn e2, if_neg (by omega)]
theorem undo_38_e {n : Nat} (hn : n < 6) : ∀ (d k fu : Nat) (R : Rs), k + d = 806 → d < fu → R.2.1 = false → R.1 25 = nI n → ∃ p', f_X12_undo_38 fu m (nI k) (ov M m R) = some (nI n, ov M m (rsR R p')) ∧ ∀ q, p' q = if k ≤ q ∧ q < 806 then R.2.2.1 10 (806 * n + q) else rowf R q := by
  intro d
  induction d with
  | zero =>
    intro k fu R hk hf hw h25
    obtain ⟨fu, rfl⟩ : ∃ x, fu = x + 1 := ⟨fu - 1, by omega⟩
    obtain rfl : k = 806 := by omega
    refine ⟨rowf R, ?_, fun q => by rw [if_neg (by omega)]⟩
    rw [rsR_id]
    simp only [f_X12_undo_38, r_g25, h25, bso]
    rw [if_pos (show (806 : Int32) ≤ nI 806 by decide)]
  | succ d ih =>
    intro k fu R hk hf hw h25
    obtain ⟨fu, rfl⟩ : ∃ x, fu = x + 1 := ⟨fu - 1, by omega⟩
    obtain ⟨p', e', h'⟩ := ih (k + 1) fu (rsR R (vp_updL (rowf R) k (R.2.2.1 10 (806 * n + k)))) (by omega) (by omega) hw h25
    rw [rsR_R] at e'
    have h1 : (rsR R (vp_updL (rowf R) k (R.2.2.1 10 (806 * n + k)))).2.2.1 10 = R.2.2.1 10 := (kp_R hw _).2.2.1 10 (by simp)
    rw [rowf_R, h1] at h'
    refine ⟨p', ?_, fun q => ?_⟩
    · have hr := r_a10 M m R (k := 806 * n + k) (by omega)
      have hs := r_s1' (M := M) (m := m) hw (show k < 806 by omega) (R.2.2.1 10 (806 * n + k))
      have n1 : ¬ ((806 : Int32) ≤ nI k) := fun z => absurd ((nI_leI (a := 806) (by omega) (by omega)).mp z) (by omega)
      rw [← e']
      simp only [f_X12_undo_38, r_g25, h25, r_g24, r_g1, bso, nI_1, nIm806, nI_add, hr, hs]
      rw [if_neg n1]
    · rw [h' q]
      by_cases e1 : k + 1 ≤ q ∧ q < 806
      · rw [if_pos e1, if_pos ⟨by omega, e1.2⟩]
      · rw [if_neg e1]
        by_cases e2 : q = k
        · subst e2; rw [pk_uLs, if_pos ⟨Nat.le_refl _, by omega⟩]
        · rw [pk_uLn e2, if_neg (by omega)]
end
def slR (j : Nat) : Nat := 224 + 59 * j
section
variable {M : Mem} {m : Nat} {R : Rs} {I O : List Int32} {S : St} {K : Nat → St} {B : Nat → Bool} {C : Nat} {H : Nat → St} {N : List Nt} {E : Er} {c : Nat}
theorem Cls.k (h : Cls M I O S K B C H N E) {j : Nat} (hj : j < 2) : stA M (slR j) (K j) := by
  obtain ⟨_, _, _, _, _, _, k0, k1, _⟩ := h
  match j, hj with
  | 0, _ => exact k0
  | 1, _ => exact k1
theorem Cls.mK {M' : Mem} {K' : Nat → St} {j : Nat} (hj : j < 2) (h : Cls M I O S K B C H N E) (e : ∀ i, i < 2 → i ≠ j → K' i = K i) (s : stA M' (slR j) (K' j)) (o : off M M' (slR j) 59) : Cls M' I O S K' B C H N E := by
  match j, hj with
  | 0, _ => exact h.mK0 (e 1 (by omega) (by omega)) s o
  | 1, _ => exact h.mK1 (e 0 (by omega) (by omega)) s o
theorem reqSlot_in (h : Cls M I O S K B C H N E) {j : Nat} (hj : j < 2) : f_X11_requireSlot 100 (nI j) M = some (.inl (slR j), M) := by
  have hob := @Cls.ob M I O S K B C H N E h
  have g4 := h.g4
  obtain ⟨_, _, _, _, _, ⟨f, hf, f0, f1⟩, _⟩ := h
  have n0 : ¬ (nI j < 0) := Int32.not_lt.mpr (nI_ge0 (by omega))
  have n1 : ¬ (nI 2 ≤ nI j) := by rw [nI_leI (by omega) (by omega)]; omega
  have q := aQ_h hf (i := nI j) (inR_n hj (by omega))
  rw [nI_clamp (by omega)] at q
  have fj : f j = some (slR j) := by
    match j, hj with
    | 0, _ => exact f0
    | 1, _ => exact f1
  rw [f_X11_requireSlot, hob, if_neg n0]
  simp only [g4, aL_h hf, bso]
  rw [if_neg n1, q, fj]
  rfl
theorem reqSlot_no (h : Cls M I O S K B C H N E) {a : Int32} (ha : ¬ ∃ j, j < 2 ∧ a = nI j) : f_X11_requireSlot 100 a M = some (.inr "java/lang/IndexOutOfBoundsException", mskip M) := by
  have hob := @Cls.ob M I O S K B C H N E h
  have g4 := h.g4
  obtain ⟨_, _, _, _, _, ⟨f, hf, f0, f1⟩, _⟩ := h
  rw [f_X11_requireSlot, hob]
  rcases notin (by omega) ha with z | z
  · rw [if_pos z]; rfl
  · by_cases s : a < 0
    · rw [if_pos s]; rfl
    · rw [if_neg s]
      simp only [g4, aL_h hf, bso]
      rw [if_pos z]; rfl
theorem markKept_in (h : Cls M I O S K B C H N E) {j : Nat} (hj : j < 2) : ∃ M', f_X11_markKept 100 (nI j) M = some M' ∧ Cls M' I O S K (va_up B j true) C H N E ∧ off M M' 100 616 := by
  have h' := h
  obtain ⟨_, _, _, _, _, _, _, _, ⟨g, hg, hg2⟩, _⟩ := h'
  have n0 : ¬ (nI j < 0) := Int32.not_lt.mpr (nI_ge0 (by omega))
  have n1 : ¬ (nI 2 ≤ nI j) := by rw [nI_leI (by omega) (by omega)]; omega
  have s := sI_h hg (i := nI j) (inR_n hj (by omega)) (b2i true)
  rw [nI_clamp (by omega)] at s
  refine ⟨mset M 342 (.inl (3, (2, .inl (upd g j (b2i true))))), ?_, h.mB (g' := upd g j (b2i true)) (mset_at _ _ _) (fun i hi => ?_) (off_set _ _ _), (off_set _ _ _).wide (by omega) (by omega)⟩
  · rw [f_X11_markKept, h.ob, if_neg n0]
    simp only [h.g5, aL_h hg, bso]
    rw [if_neg n1, s]
    rfl
  · by_cases e : i = j
    · subst e; rw [upd_s, va_up_s]
    · rw [upd_n _ _ e, va_up_n _ _ e]; exact hg2 i hi
theorem isKept_in (h : Cls M I O S K B C H N E) {j : Nat} (hj : j < 2) : f_X11_isKept 100 (nI j) M = some (B j) := by
  have h' := h
  obtain ⟨_, _, _, _, _, _, _, _, ⟨g, hg, hg2⟩, _⟩ := h'
  have n0 : ¬ (nI j < 0) := Int32.not_lt.mpr (nI_ge0 (by omega))
  have n1 : ¬ (nI 2 ≤ nI j) := by rw [nI_leI (by omega) (by omega)]; omega
  have s : aZ M 3 342 (nI j) = some (B j) := by
    unfold aZ
    rw [aI_h hg (inR_n hj (by omega)), nI_clamp (by omega), hg2 j hj]
    exact vZ_b _
  rw [f_X11_isKept, h.ob, if_neg n0]
  simp only [h.g5, aL_h hg, bso]
  rw [if_neg n1, s]
  cases B j <;> rfl
theorem Ref.upK {R' : Rs} {K' : Nat → St} {B' : Nat → Bool} (h : Ref R I O S K B C H N E) (k : kp [0] [8] [9] R R') (b : ∀ j, j < 2 → R'.2.2.2 9 j = b2i (B' j) ∧ (B' j = true → rep (fun q => R'.2.2.1 8 (806 * j + q)) (K' j))) : Ref R' I O S K' B' C H N E := by
  obtain ⟨a1, a2, a3, a4, ⟨a5, a6⟩, ⟨a7, a8⟩, ⟨a9, b1⟩, b2⟩ := h
  have hrow := k.row a1 (by decide)
  obtain ⟨k1, k2, k3, k4⟩ := k
  have i5 := k4 5 (by simp)
  have i11 := k4 11 (by simp)
  have i3 := k4 3 (by simp)
  exact ⟨k1.trans a1, by rw [hrow]; exact a2, a3.cg (k2 25 (by simp)) (k3 10 (by simp)), ⟨(k2 5 (by simp)).trans a4.1, by rw [i3]; exact a4.2⟩, ⟨(k2 8 (by simp)).trans a5, by rw [i5]; exact a6⟩, ⟨(k2 27 (by simp)).trans a7, by rw [i11]; exact a8⟩, ⟨(k2 14 (by simp)).trans a9, (k2 15 (by simp)).trans b1⟩, b⟩
theorem X12_isSlot_e (a : Int32) (M2 : Mem) : f_X12_isSlot a M2 = some (!decide (a < 0) && !decide (1 < a)) := by
  simp only [f_X12_isSlot, X12_in_e, bso]; exact congrArg some (btw_c a 0 1)
theorem slot_in {j : Nat} (hj : j < 2) : (!decide (nI j < 0) && !decide (1 < nI j)) = true := by
  match j, hj with
  | 0, _ => rfl
  | 1, _ => rfl
theorem slot_no {a : Int32} (ha : ¬ ∃ j, j < 2 ∧ a = nI j) : (!decide (a < 0) && !decide (1 < a)) = false := by
  rcases notin (by omega) ha with z | z
  · rw [decide_eq_true z]; rfl
  · have : 1 < a := Int32.lt_of_lt_of_le (show (1 : Int32) < nI 2 by decide) z
    rw [decide_eq_true this, Bool.and_comm]; rfl
theorem cs_keep (h : Cls M I O S K B C H N E) (hr : Ref R I O S K B C H N E) (w : okW c I O S K B C H N) (a : Int32) : Both (f_X11_keep 100 a M) (f_X12_keep 716 a) M R [("java/lang/IndexOutOfBoundsException", 1)] (c + 1) E := by
  by_cases hx : ∃ j, j < 2 ∧ a = nI j
  · obtain ⟨j, hj, rfl⟩ := hx
    obtain ⟨M1, S', e1, s1, o1, g1⟩ := X8_take_e (r := slR j) (r2 := 105) (by unfold slR; omega) (h.k hj) h.s
    have c1 : Cls M1 I O S (va_up K j S') B C H N E := h.mK hj (K' := va_up K j S') (fun i _ hi => va_up_n _ _ hi) (by rw [va_up_s]; exact s1) o1
    obtain ⟨M2, e2, c2, o2⟩ := markKept_in c1 hj
    have ct : f_X8_countMessages 105 M2 = some (cntM S) := X8_count_e c2.s
    have ow : okW (c + 1) I O S (va_up K j S') (va_up B j true) C H N := by
      have w' := w.up (Nat.le_succ c)
      refine ⟨w'.1, w'.2.1, w'.2.2.1, fun i hi hB => ?_, w'.2.2.2.2⟩
      by_cases e : i = j
      · subst e; rw [va_up_s]; exact w'.2.2.1.agr g1.sy
      · rw [va_up_n _ _ e] at hB ⊢; exact w'.2.2.2.1 i hi hB
    refine Both.gn (v := cntM S) (by rw [f_X11_keep, h.ob, bX_l (reqSlot_in h hj)]; simp only [h.g2, e1, e2, c2.g2, ct, bso]) ((o1.wide (by unfold slR; omega) (by unfold slR; omega)).trans o2) c2 ow (fun M2 => ?_)
    obtain ⟨p', f1, q1⟩ := keep_15_e (M := M2) (m := 716) hj 806 0 FU (rsS R 0 0) (by omega) (by rw [FU_eq]; omega)
    have f1 : f_X12_keep_15 FU 716 (nI j) 0 (ov M2 716 (rsS R 0 0)) = f_X12_keep_15 1 716 (nI j) 806 (ov M2 716 (rsJ (rsS R 0 0) 8 p')) := f1
    obtain ⟨R1, hR1⟩ : ∃ R1, R1 = rsJ (rsS R 0 0) 8 p' := ⟨_, rfl⟩
    rw [← hR1] at f1
    have k1 : kp [0] [8] [9] R R1 := by
      rw [hR1]
      exact ((kp_S R 0 0).up (by simp) (by simp) (by simp) : kp [0] [8] [9] R (rsS R 0 0)).trans ((kp_J _ 8 p').up (by simp) (by simp) (by simp))
    have s9 : sI (ov M2 716 R1) 3 (716 + 9) (nI j) 1 = some (ov M2 716 (rsI R1 9 (upd (R1.2.2.2 9) j 1))) := r_s9 M2 716 R1 hj 1
    obtain ⟨R2, hR2⟩ : ∃ R2, R2 = rsI R1 9 (upd (R1.2.2.2 9) j 1) := ⟨_, rfl⟩
    rw [← hR2] at s9
    have k2 : kp [0] [8] [9] R R2 := by
      rw [hR2]
      exact k1.trans ((kp_I R1 9 _).up (by simp) (by simp) (by simp))
    have p : f_X12_passes 716 true (ov M2 716 R) = some (true, ov M2 716 (rsS R 0 0)) := X12_pass1_e true
    have hrow : rowf R2 = rowf R := k2.row hr.1 (by decide)
    have all := X12_allM_e (M := M2) (m := 716) (R := R2) (S := S) (by rw [hrow]; exact hr.2.1)
    have h8 : R2.2.2.1 8 = p' := by rw [hR2, hR1]; exact rsJ_at (rsS R 0 0) 8 p'
    have h9 : R2.2.2.2 9 = upd (R.2.2.2 9) j 1 := by
      have : R1.2.2.2 9 = R.2.2.2 9 := by rw [hR1]; rfl
      rw [hR2, rsI_at, this]
    refine ⟨R2, ?_, by rw [hR2, hR1]; rfl, hr.upK k2 (fun i hi => ?_)⟩
    · simp only [f_X12_keep, ov_ob, X12_isSlot_e, slot_in hj, bso, p, cond_true, f1]
      rw [f_X12_keep_15]
      dsimp only
      rw [if_pos (show (806 : Int32) ≤ 806 by decide)]
      simp only [r_g23, bso, b2i_t, s9, all]
    · rw [h8, h9]
      obtain ⟨b1, b2⟩ := hr.2.2.2.2.2.2.2 i hi
      by_cases e : i = j
      · subst e
        rw [upd_s, va_up_s, va_up_s]
        refine ⟨rfl, fun _ => ?_⟩
        refine (hr.2.1.agr g1.sy).ext (fun q hq => ?_)
        show p' (806 * i + q) = rowf R q
        have e3 : 806 * i + 0 ≤ 806 * i + q ∧ 806 * i + q < 806 * i + 806 := ⟨by omega, by omega⟩
        rw [q1 _, if_pos e3, Nat.add_sub_cancel_left]
        have : rowN R = 1 := by rw [rowN, hr.1]; rfl
        unfold rowf; rw [this]; rfl
      · rw [upd_n _ _ e, va_up_n _ _ e, va_up_n _ _ e]
        refine ⟨b1, fun hB => ((b2 hB).ext (fun q hq => ?_))⟩
        show p' (806 * i + q) = R.2.2.1 8 (806 * i + q)
        rw [q1 _, if_neg (by omega)]; rfl
  · refine Both.no h hr w (by rw [f_X11_keep, h.ob, bX_r (reqSlot_no h hx)]) (hf1 _ _ _) (by decide) (fun M2 => ?_)
    have p : f_X12_passes 716 false (ov M2 716 R) = some (false, ov M2 716 (rsS R 0 1)) := X12_pass1_e false
    simp only [f_X12_keep, ov_ob, X12_isSlot_e, slot_no hx, bso, p, cond_false]
theorem cs_restore (h : Cls M I O S K B C H N E) (hr : Ref R I O S K B C H N E) (w : okW c I O S K B C H N) (a : Int32) : Both (f_X11_restore 100 a M) (f_X12_restore 716 a) M R [("java/lang/IndexOutOfBoundsException", 1), ("java/lang/IllegalStateException", 2)] (c + 1) E := by
  by_cases hx : ∃ j, j < 2 ∧ a = nI j
  · obtain ⟨j, hj, rfl⟩ := hx
    obtain ⟨b1, b2⟩ := hr.2.2.2.2.2.2.2 j hj
    have z9 : ∀ M2, aZ (ov M2 716 R) 3 (716 + 9) (nI j) = some (B j) := fun M2 => by
      unfold aZ
      rw [r_a9 M2 716 R hj, b1]
      exact vZ_b _
    cases hB : B j with
    | true =>
      obtain ⟨M1, S0, e1, g0, c1, o1⟩ := beginAct_e h
      obtain ⟨M2', S', e2, s2, o2, g2⟩ := X8_take_e (r := 105) (r2 := slR j) (by unfold slR; omega) c1.s (c1.k hj)
      have c2 := c1.mS s2 o2
      have ct : f_X8_countMessages 105 M2' = some (cntM (K j)) := by rw [X8_count_e c2.s, cntM_agr g2]
      have okK := (w.2.2.2.1 j hj hB)
      refine Both.yes (v := cntM (K j)) hr w (by rw [f_X11_restore, h.ob, bX_l (reqSlot_in h hj)]; simp only [isKept_in h hj, hB, bso, cond_true, e1, c1.g2, e2, c2.g2, ct]) (o1.trans (o2.wide (by omega) (by omega))) c2 g0 ((okK.agr g2.sy).up (Nat.le_succ c)) ⟨by show 0 ≤ 244; omega, fun x hx => nomatch hx⟩ (fun M2 => ?_)
      obtain ⟨R1, f1, q1, q2, q3, k1, w1⟩ := ref_act hr M2
      obtain ⟨Ra, hRa⟩ : ∃ Ra, Ra = rsS R1 5 0 := ⟨_, rfl⟩
      rw [← hRa] at q1 q2 q3 k1 w1
      obtain ⟨p', f2, r2⟩ := restore_45_e (M := M2) (m := 716) hj 806 0 FU Ra (by omega) (by rw [FU_eq]; omega) w1
      have f2 : f_X12_restore_45 FU 716 (nI j) 0 (ov M2 716 Ra) = f_X12_restore_45 1 716 (nI j) 806 (ov M2 716 (rsR Ra p')) := f2
      have kR := kp_R w1 p'
      have h8 : Ra.2.2.1 8 = R.2.2.1 8 := k1.2.2.1 8 (by simp)
      have hrep : rep p' (K j) := (b2 hB).ext (fun q hq => by rw [r2 q, if_pos ⟨Nat.zero_le _, hq⟩, h8])
      have all := X12_allM_e (M := M2) (m := 716) (R := rsR Ra p') (S := K j) (by rw [rowf_R]; exact hrep)
      have p : f_X12_passes2 716 true true (ov M2 716 R) = some (true, ov M2 716 (rsS R 0 0)) := X12_pass2_e true true
      refine ⟨rsR Ra p', ?_, kp.trans k1 (kR.up (by simp) (by simp) (by simp)), by rw [rowf_R]; exact hrep.agr g2.sy, q2.cg rfl (kR.2.2.1 10 (by simp)), q3⟩
      simp only [f_X12_restore, ov_ob, X12_isSlot_e, slot_in hj, bso, cond_true, r_g23, z9, hB, f_X12_restore_21, f_X12_restore_26, p, f1, r_p5, ← hRa, f2]
      rw [f_X12_restore_45]
      dsimp only
      rw [if_pos (show (806 : Int32) ≤ 806 by decide), all]
      rfl
    | false =>
      refine Both.no h hr w (by rw [f_X11_restore, h.ob, bX_l (reqSlot_in h hj)]; simp only [isKept_in h hj, hB, bso, cond_false]) (hf2 neS _ _ _) (by decide) (fun M2 => ?_)
      have p : f_X12_passes2 716 true false (ov M2 716 R) = some (false, ov M2 716 (rsS R 0 2)) := X12_pass2_e true false
      simp only [f_X12_restore, ov_ob, X12_isSlot_e, slot_in hj, bso, cond_true, r_g23, z9, hB, cond_false, f_X12_restore_26, p]
  · refine Both.no h hr w (by rw [f_X11_restore, h.ob, bX_r (reqSlot_no h hx)]) (hf1 _ _ _) (by decide) (fun M2 => ?_)
    have p : f_X12_passes2 716 false true (ov M2 716 R) = some (false, ov M2 716 (rsS R 0 1)) := X12_pass2_e false true
    simp only [f_X12_restore, ov_ob, X12_isSlot_e, slot_no hx, bso, cond_false, f_X12_restore_21, f_X12_restore_26, p]
theorem Ref.upU {R' : Rs} {S' : St} {C' : Nat} {H' : Nat → St} {N' : List Nt} (h : Ref R I O S K B C H N E) (k : kp [0, 5, 25] [1] [] R R') (hr : rep (rowf R') S') (hh : hsR R' C' H') (hn : ntR R' N') : Ref R' I O S' K B C' H' N' E := by
  obtain ⟨a1, a2, a3, a4, ⟨a5, a6⟩, ⟨a7, a8⟩, ⟨a9, b1⟩, b2⟩ := h
  obtain ⟨k1, k2, k3, k4⟩ := k
  have i5 := k4 5 (by simp)
  have i9 := k4 9 (by simp)
  have i11 := k4 11 (by simp)
  have j8 := k3 8 (by simp)
  exact ⟨k1.trans a1, hr, hh, hn, ⟨(k2 8 (by simp)).trans a5, by rw [i5]; exact a6⟩, ⟨(k2 27 (by simp)).trans a7, by rw [i11]; exact a8⟩, ⟨(k2 14 (by simp)).trans a9, (k2 15 (by simp)).trans b1⟩, fun j hj => by rw [i9, j8]; exact b2 j hj⟩
theorem cs_undo (h : Cls M I O S K B C H N E) (hr : Ref R I O S K B C H N E) (w : okW c I O S K B C H N) : Both (f_X11_undo 100 M) (f_X12_undo 716) M R [("java/lang/IllegalStateException", 1)] (c + 1) E := by
  have sz : f_X2_size 343 M = some (nI C) := X2_size_e h.h
  have hC6 := hr.2.2.1.2.1
  have g25 : ∀ M2, gI (ov M2 716 R) 11 25 716 = some (nI C) := fun M2 => by rw [r_g25, hr.2.2.1.1]
  have lt0 : (0 < nI C) = (0 < C) := ltI (x := 0) (a := 0) rfl rfl (by omega) (by omega)
  have le0 : (nI C ≤ 0) = (C ≤ 0) := leI (y := 0) (b := 0) rfl rfl (by omega) (by omega)
  by_cases e : 0 < C
  · obtain ⟨M1, S', e1, g1, s1, h1, o1⟩ := X2_back_e h.h e (r2 := 105) h.s (by omega)
    have c1 : Cls M1 I O S' K B (C - 1) (fun i => H (i + 1)) N E := h.mSH s1 h1 o1
    obtain ⟨M2', e2, n2, o2⟩ := X4_clear_e c1.n
    have c2 := c1.mN n2 o2
    have sz2 : f_X2_size 343 M2' = some (nI (C - 1)) := X2_size_e c2.h
    have okH := w.2.2.2.2.1 0 e
    have w' := w.up (Nat.le_succ c)
    have o1' : off M M1 100 616 := ⟨o1.1, fun q hq => o1.2 q (by omega) (by omega)⟩
    refine Both.gn (v := nI (C - 1)) (by rw [f_X11_undo, h.ob]; simp only [h.g6, sz, bso]; rw [if_pos (by rw [lt0]; exact e)]; simp only [h.g6, h.g2, e1, bso, c1.g7, e2, c2.g6, sz2]) (o1'.trans (o2.wide (by omega) (by omega))) c2 ⟨w'.1, w'.2.1, (okH.agr g1.sy).up (Nat.le_succ c), w'.2.2.2.1, fun i hi => w'.2.2.2.2.1 (i + 1) (by omega), by show 0 ≤ 244; omega, fun x hx => nomatch hx⟩ (fun M2 => ?_)
    have p : f_X12_passes 716 true (ov M2 716 R) = some (true, ov M2 716 (rsS R 0 0)) := X12_pass1_e true
    obtain ⟨Ra, hRa⟩ : ∃ Ra, Ra = rsS (rsS (rsS R 0 0) 25 (nI C - 1)) 5 0 := ⟨_, rfl⟩
    have hC1 : nI C - 1 = nI (C - 1) := by
      obtain ⟨n, rfl⟩ : ∃ n, C = n + 1 := ⟨C - 1, by omega⟩
      exact nI_pred n
    have ka : kp [0, 5, 25] [1] [] R Ra := by
      rw [hRa]
      exact (((kp_S R 0 0).up (by simp) (by simp) (by simp) : kp [0, 5, 25] [1] [] R (rsS R 0 0)).trans ((kp_S _ 25 _).up (by simp) (by simp) (by simp))).trans ((kp_S _ 5 0).up (by simp) (by simp) (by simp))
    have wa : Ra.2.1 = false := ka.1.trans hr.1
    have a25 : Ra.1 25 = nI (C - 1) := by rw [hRa, ← hC1]; rfl
    obtain ⟨p', f1, q1⟩ := undo_38_e (M := M2) (m := 716) (n := C - 1) (by omega) 806 0 FU Ra (by omega) (by rw [FU_eq]; omega) wa a25
    have f1 : f_X12_undo_38 FU 716 0 (ov M2 716 Ra) = some (nI (C - 1), ov M2 716 (rsR Ra p')) := f1
    have kR := kp_R wa p'
    have a10 : Ra.2.2.1 10 = R.2.2.1 10 := by rw [hRa]; rfl
    have hrep : rep p' (H 0) := (hr.2.2.1.2.2 0 e).ext (fun q hq => by rw [q1 q, if_pos ⟨Nat.zero_le _, hq⟩, a10, Nat.sub_zero])
    refine ⟨rsR Ra p', ?_, by rw [hRa]; rfl, hr.upU (ka.trans (kR.up (by simp) (by simp) (by simp))) (by rw [rowf_R]; exact hrep.agr g1.sy) ⟨a25, by omega, fun i hi => ?_⟩ ⟨by rw [hRa]; rfl, fun i hi => absurd hi (Nat.not_lt_zero i)⟩⟩
    · simp only [f_X12_undo, ov_ob, g25, bso]
      rw [if_neg (by rw [le0]; omega)]
      have g25' : gI (ov M2 716 (rsS R 0 0)) 11 25 716 = some (nI C) := by rw [r_g25]; exact congrArg some hr.2.2.1.1
      simp only [f_X12_undo_13, p, bso, cond_true, g25', r_p25, r_p5, ← hRa, f1]
    · have := hr.2.2.1.2.2 (i + 1) (by omega)
      rw [kR.2.2.1 10 (by simp), a10, show C - 1 - 1 - i = C - 1 - (i + 1) by omega]
      exact this
  · refine Both.no h hr w (by rw [f_X11_undo, h.ob]; simp only [h.g6, sz, bso]; rw [if_neg (by rw [lt0]; exact e)]) (hf1 _ _ _) (by decide) (fun M2 => ?_)
    have p : f_X12_passes 716 false (ov M2 716 R) = some (false, ov M2 716 (rsS R 0 1)) := X12_pass1_e false
    simp only [f_X12_undo, ov_ob, g25, bso]
    rw [if_pos (by rw [le0]; omega)]
    simp only [f_X12_undo_13, p, bso, cond_false]
end
