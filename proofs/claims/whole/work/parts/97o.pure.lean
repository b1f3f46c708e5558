/-! PURE: findBox, findSession, load -/
theorem byte_let {x : Int32} (h : -128 ≤ x.toInt ∧ x.toInt ≤ 127) {d : Nat} (h1 : x &&& 255 = nI d) (h2 : 97 ≤ d) (h3 : d ≤ 122) : x = nI d := by
  have hd : nI d &&& 255 = nI d := by
    have : ∀ d, d < 256 → nI d &&& 255 = nI d := by decide +kernel
    exact this d (by omega)
  have hl : lets [nI d] := ⟨Nat.zero_lt_one, by show 1 ≤ 6; omega, fun x hx => by
    rw [List.mem_singleton] at hx
    exact ⟨d, h2, h3, hx⟩⟩
  have e : cnm [nI d] = cnm [x] := by
    unfold cnm
    rw [if_neg (by simp), if_neg (by simp)]
    show nstp 1 (nI d) = nstp 1 x
    unfold nstp
    rw [hd, h1]
  have := nm_raw hl (v := [x]) (fun y hy => by rw [List.mem_singleton] at hy; rw [hy]; exact h) e
  exact (List.cons.inj this).1
theorem okI.by {I : List Int32} (h : okI I) : byR I := by
  intro k hk hL
  obtain ⟨d, hd, hch⟩ := ch_in hk
  rw [hch] at hL ⊢
  obtain ⟨a, b⟩ := (isL_n hd).mp hL
  have : ch I k = I.getD k 0 &&& 255 := if_pos hk
  rw [hch] at this
  refine byte_let (h.2 _ ?_) this.symm a b
  rw [List.getD_eq_getElem?_getD, List.getElem?_eq_getElem hk]; exact List.getElem_mem hk
theorem isL_iff (x : Int32) : isL x = true ↔ ∃ d : Nat, 97 ≤ d ∧ d ≤ 122 ∧ x = nI d := by
  unfold isL
  rw [Bool.and_eq_true, Bool.not_eq_true', Bool.not_eq_true', decide_eq_false_iff_not, decide_eq_false_iff_not]
  constructor
  · rintro ⟨h1, h2⟩
    rcases i_cases x with hx | ⟨j, hj, rfl⟩
    · exact absurd (Int32.lt_trans hx (by decide)) h1
    · have a : ¬ (nI j < nI 97) := h1
      have b : ¬ (nI 122 < nI j) := h2
      rw [nI_ltI hj (by omega)] at a
      rw [nI_ltI (by omega) hj] at b
      exact ⟨j, by omega, by omega, rfl⟩
  · rintro ⟨d, h1, h2, rfl⟩
    have a : ¬ (nI d < nI 97) := by rw [nI_ltI (by omega) (by omega)]; omega
    have b : ¬ (nI 122 < nI d) := by rw [nI_ltI (by omega) (by omega)]; omega
    exact ⟨a, b⟩
def wOk (l : List Int32) : Bool := (!decide (nI l.length < 1) && !decide (6 < nI l.length)) && l.all isL
theorem wOk_iff {l : List Int32} (hl : l.length ≤ 700) : wOk l = true ↔ lets l := by
  have e1 : (nI l.length < 1) = (l.length < 1) := ltI (y := 1) (b := 1) rfl rfl (by omega) (by omega)
  have e2 : (6 < nI l.length) = (6 < l.length) := ltI (x := 6) (a := 6) rfl rfl (by omega) (by omega)
  unfold wOk lets
  rw [Bool.and_eq_true, Bool.and_eq_true, Bool.not_eq_true', Bool.not_eq_true', decide_eq_false_iff_not, decide_eq_false_iff_not, e1, e2, List.all_eq_true]
  constructor
  · rintro ⟨⟨a, b⟩, c⟩
    exact ⟨by omega, by omega, fun x hx => (isL_iff x).mp (c x hx)⟩
  · rintro ⟨a, b, c⟩
    exact ⟨⟨by omega, by omega⟩, fun x hx => (isL_iff x).mpr (c x hx)⟩
theorem bnm_no {S : St} {J : Int64} (h : ∀ k, k < stN S → (stB S k).1 ≠ J) : bnm S J = -1 := by
  unfold bnm
  refine lp_res _ _ (fun x => x = -1) (stN S) 0 () (fun _ => rfl) (fun j a b _ hj hb => ?_)
  rw [if_neg (h j (by omega))] at hb; cases hb
theorem snm_no {S : St} {J : Int64} (h : ∀ k, k < stM S → (stS S k).1 ≠ J) : snm S J = -1 := by
  unfold snm
  refine lp_res _ _ (fun x => x = -1) (stM S) 0 () (fun _ => rfl) (fun j a b _ hj hb => ?_)
  rw [if_neg (h j (by omega))] at hb; cases hb
section
variable {M : Mem} {m : Nat} {R : Rs}
theorem whole_15_e {l : List Int32} (h8 : R.1 8 = nI l.length) (hl : l.length ≤ 700) (h5 : ∀ k, k < l.length → R.2.2.2 5 k = l.getD k 0) : ∀ (n k fu : Nat) (b : Bool), k + n = l.length → n < fu → f_X12_wholeName_15 fu m b (nI k) (ov M m R) = f_X12_wholeName_50 m (b && (l.drop k).all isL) (ov M m R) := by
  intro n
  induction n with
  | zero =>
    intro k fu b hk hf
    obtain ⟨fu, rfl⟩ : ∃ x, fu = x + 1 := ⟨fu - 1, by omega⟩
    have hd : l.drop k = [] := List.drop_eq_nil_of_le (by omega)
    rw [hd, List.all_nil, Bool.and_true]
    simp only [f_X12_wholeName_15, r_g8, h8, bso]
    rw [if_pos (by rw [nI_leI (by omega) (by omega)]; omega)]
  | succ n ih =>
    intro k fu b hk hf
    obtain ⟨fu, rfl⟩ : ∃ x, fu = x + 1 := ⟨fu - 1, by omega⟩
    have hd : l.drop k = l.getD k 0 :: l.drop (k + 1) := by
      rw [List.drop_eq_getElem_cons (show k < l.length by omega), List.getD_eq_getElem?_getD, List.getElem?_eq_getElem (show k < l.length by omega)]; rfl
    have ha := r_a5 M m R (show k < 700 by omega)
    rw [h5 k (by omega)] at ha
    have n1 : ¬ (nI l.length ≤ nI k) := by rw [nI_leI (by omega) (by omega)]; omega
    have ih' := ih (k + 1) fu (isL (l.getD k 0)) (by omega) (by omega)
    rw [hd, List.all_cons]
    simp only [f_X12_wholeName_15, r_g8, h8, bso]
    rw [if_neg n1]
    cases b with
    | true => simp only [cond_true, r_g7, ha, bso, in_L, nI_1, ih', Bool.true_and]
    | false => simp only [cond_false, Bool.false_and]
theorem X12_whole_e {l : List Int32} (h8 : R.1 8 = nI l.length) (hl : l.length ≤ 700) (h5 : ∀ k, k < l.length → R.2.2.2 5 k = l.getD k 0) : f_X12_wholeName m (ov M m R) = some (bif wOk l then rnm l else 0, ov M m (rsS R 8 0)) := by
  have hin : f_X12_in (Int32.toInt64 (nI l.length)) 1 6 (ov M m R) = some (!decide (nI l.length < 1) && !decide (6 < nI l.length)) := by
    rw [X12_in_e]; exact congrArg some (btw_c (nI l.length) 1 6)
  have hw := whole_15_e (M := M) (m := m) h8 hl h5 l.length 0 FU (!decide (nI l.length < 1) && !decide (6 < nI l.length)) (Nat.zero_add _) (by rw [FU_eq]; omega)
  rw [List.drop_zero] at hw
  have hw : f_X12_wholeName_15 FU m (!decide (nI l.length < 1) && !decide (6 < nI l.length)) 0 (ov M m R) = f_X12_wholeName_50 m (wOk l) (ov M m R) := hw
  have hn : f_X12_nameOf (m + 5) 0 (nI l.length) (ov M m R) = some (rnm l) := by
    have := nameOf_loop (M := M) (m := m) hl h5 (Nat.le_refl l.length) l.length 0 FU 0 (Nat.zero_add _) (by rw [FU_eq]; omega)
    rw [List.take_length, List.drop_zero] at this
    exact this
  simp only [f_X12_wholeName, ov_ob, r_g8, h8, bso, hin, hw]
  cases wOk l with
  | true => simp only [f_X12_wholeName_50, cond_true, r_g7, r_g8, h8, bso, hn, f_X12_wholeName_70, r_p8]
  | false => simp only [f_X12_wholeName_50, cond_false, f_X12_wholeName_70, r_p8, bso]
end
/-- both sides of a call that never throws -/
def BothN (fX gX : Mem → Option (Int32 × Mem)) (M : Mem) (R : Rs) (c : Nat) : Prop :=
  ∃ v I' O' S' K' B' C' H' N' E', (∃ M1, fX M = some (v, M1) ∧ off M M1 100 616 ∧ Cls M1 I' O' S' K' B' C' H' N' E') ∧ (∀ M2, ∃ R', gX (ov M2 716 R) = some (v, ov M2 716 R') ∧ Ref R' I' O' S' K' B' C' H' N' E') ∧ okW c I' O' S' K' B' C' H' N'
section
variable {M : Mem} {m : Nat} {R : Rs} {I O : List Int32} {S : St} {K : Nat → St} {B : Nat → Bool} {C : Nat} {H : Nat → St} {N : List Nt} {E : Er} {c : Nat}
theorem lg0 (x : Int64) : (lg_cmp x 0 = 0) = (x = 0) := propext (lg_cmp_eq x 0)
theorem cs_findBox (h : Cls M I O S K B C H N E) (hr : Ref R I O S K B C H N E) (w : okW c I O S K B C H N) : BothN (f_X11_findBox 100) (f_X12_findBox 716) M R (c + 1) := by
  have hI := w.1.1
  have sz : f_X1_size 101 M = some (nI I.length) := X1_size_e h.i
  have nm : f_X1_nameAt 101 0 (nI I.length) M = some (cnm I) := by
    have := X1_name_e h.i (a := 0) (b := I.length) (Nat.zero_le _) (Nat.le_refl _)
    rw [List.take_length, List.drop_zero] at this
    exact this
  obtain ⟨M1, e1, y1, o1⟩ := X1_clear_e h.i
  have c1 := h.mI y1 o1
  have bn : f_X8_boxNamed 105 (cnm I) M1 = some (bnm S (cnm I)) := X8_boxNamed_e c1.s _
  refine ⟨bnm S (cnm I), [], O, S, K, B, C, H, N, E, ⟨M1, ?_, o1.wide (by omega) (by omega), c1⟩, fun M2 => ?_, ⟨⟨Nat.zero_le _, fun x hx => nomatch hx⟩, (w.up (Nat.le_succ c)).2⟩⟩
  · simp only [f_X11_findBox, h.ob, h.g0, sz, nm, e1, c1.g2, bn, bso]
  · have hr5 := hr.2.2.2.2.1
    have wn := X12_whole_e (M := M2) (m := 716) (R := rsS R 0 0) (l := I) hr5.1 hI hr5.2
    have k : kp [0, 8] [] [5] R (rsS (rsS R 0 0) 8 0) := ((kp_S R 0 0).up (by simp) (by simp) (by simp) : kp [0, 8] [] [5] R (rsS R 0 0)).trans ((kp_S _ 8 0).up (by simp) (by simp) (by simp))
    refine ⟨rsS (rsS R 0 0) 8 0, ?_, hr.upI k rfl (fun x hx => absurd hx (Nat.not_lt_zero x))⟩
    simp only [f_X12_findBox, ov_ob, r_p0, bso, wn, lg0]
    cases hw : wOk I with
    | true =>
      have hl := (wOk_iff hI).mp hw
      rw [cond_true, if_neg (rnm_ne0 hl)]
      have := X12_boxNm_e (M := M2) (m := 716) (R := rsS (rsS R 0 0) 8 0) (S := S) hr.2.1 (J := cnm I) (j := rnm I) ⟨I, hl, rfl, rfl⟩
      simp only [this, bso]
    | false =>
      rw [cond_false, if_pos rfl]
      refine congrArg (fun z => some (z, ov M2 716 (rsS (rsS R 0 0) 8 0))) (bnm_no (fun k hk z => ?_)).symm
      obtain ⟨v, v1, v2, v3⟩ := (hr.2.1.bx hk).1
      rw [v2] at z
      rw [nm_raw v1 w.1.2 z, (wOk_iff (by have := v1.2.1; omega)).mpr v1] at hw
      cases hw
theorem cs_findSession (h : Cls M I O S K B C H N E) (hr : Ref R I O S K B C H N E) (w : okW c I O S K B C H N) : BothN (f_X11_findSession 100) (f_X12_findSession 716) M R (c + 1) := by
  have hI := w.1.1
  have sz : f_X1_size 101 M = some (nI I.length) := X1_size_e h.i
  have nm : f_X1_nameAt 101 0 (nI I.length) M = some (cnm I) := by
    have := X1_name_e h.i (a := 0) (b := I.length) (Nat.zero_le _) (Nat.le_refl _)
    rw [List.take_length, List.drop_zero] at this
    exact this
  obtain ⟨M1, e1, y1, o1⟩ := X1_clear_e h.i
  have c1 := h.mI y1 o1
  have bn : f_X8_sessionNamed 105 (cnm I) M1 = some (snm S (cnm I)) := X8_sesNamed_e c1.s _
  refine ⟨snm S (cnm I), [], O, S, K, B, C, H, N, E, ⟨M1, ?_, o1.wide (by omega) (by omega), c1⟩, fun M2 => ?_, ⟨⟨Nat.zero_le _, fun x hx => nomatch hx⟩, (w.up (Nat.le_succ c)).2⟩⟩
  · simp only [f_X11_findSession, h.ob, h.g0, sz, nm, e1, c1.g2, bn, bso]
  · have hr5 := hr.2.2.2.2.1
    have wn := X12_whole_e (M := M2) (m := 716) (R := rsS R 0 0) (l := I) hr5.1 hI hr5.2
    have k : kp [0, 8] [] [5] R (rsS (rsS R 0 0) 8 0) := ((kp_S R 0 0).up (by simp) (by simp) (by simp) : kp [0, 8] [] [5] R (rsS R 0 0)).trans ((kp_S _ 8 0).up (by simp) (by simp) (by simp))
    refine ⟨rsS (rsS R 0 0) 8 0, ?_, hr.upI k rfl (fun x hx => absurd hx (Nat.not_lt_zero x))⟩
    simp only [f_X12_findSession, ov_ob, r_p0, bso, wn, lg0]
    cases hw : wOk I with
    | true =>
      have hl := (wOk_iff hI).mp hw
      rw [cond_true, if_neg (rnm_ne0 hl)]
      have := X12_sesNm_e (M := M2) (m := 716) (R := rsS (rsS R 0 0) 8 0) (S := S) hr.2.1 (J := cnm I) (j := rnm I) ⟨I, hl, rfl, rfl⟩
      simp only [this, bso]
    | false =>
      rw [cond_false, if_pos rfl]
      refine congrArg (fun z => some (z, ov M2 716 (rsS (rsS R 0 0) 8 0))) (snm_no (fun k hk z => ?_)).symm
      obtain ⟨v, v1, v2, v3⟩ := (hr.2.1.sx hk).1
      rw [v2] at z
      rw [nm_raw v1 w.1.2 z, (wOk_iff (by have := v1.2.1; omega)).mpr v1] at hw
      cases hw
/-- a command begins; the loaded state stands -/
theorem beginAct_l (h : Cls M I O S K B C H N E) {T : St} (hT : stA M 164 T) : ∃ M' S', f_X11_beginAct 100 M = some M' ∧ agr S' S ∧ Cls M' I O S K B (upC C) (push S' H) [] E ∧ off M M' 100 616 ∧ stA M' 164 T := by
  obtain ⟨M1, S', e1, g1, h1, o1⟩ := X2_rem_e h.h h.s (by omega)
  have c1 := h.mH h1 o1
  obtain ⟨M2, e2, n2, o2⟩ := X4_clear_e c1.n
  exact ⟨M2, S', by simp only [f_X11_beginAct, h.ob, h.g6, h.g2, e1, c1.g7, e2, bso], g1, c1.mN n2 o2, (o1.wide (by omega) (by omega)).trans (o2.wide (by omega) (by omega)), (hT.sm (o1.same (by omega))).sm (o2.same (by omega))⟩
theorem entR.agr {T S' : St} (h : entR T S') : agr S' (entS T) :=
  ⟨h.1, h.2.1, h.2.2.1, fun k _ => by rw [h.2.2.2.1]; rfl, fun k hk => h.2.2.2.2 k hk⟩
theorem cntM_N (S : St) : cntM S = nI (cntN S) := by
  unfold cntM cntN
  have : ∀ n : Nat, fd (fun k a => a + nI (stB S k).2.2.length) 0 n 0 = nI (fd (fun k a => a + (stB S k).2.2.length) 0 n 0) := by
    intro n
    induction n with
    | zero => rfl
    | succ n ih => rw [fd_snoc, fd_snoc, ih, nI_add]
  exact this (stN S)
theorem finish_e (h : Cls M I O S K B C H N E) {T : St} (hT : stA M 164 T) {x y : Int32} (hx : gI M 9 13 708 = some x) (hy : ∀ M', off M M' 100 1 → gI M' 9 14 708 = some y) : ∃ M', f_X11_finishReading 100 M = some M' ∧ Cls M' [] O S K B C H N (x, y) ∧ off M M' 100 616 ∧ stA M' 164 T := by
  obtain ⟨M1, e1, c1, o1⟩ := h.p11 x
  obtain ⟨M2, e2, c2, o2⟩ := c1.p12 y
  obtain ⟨M3, e3, y3, o3⟩ := X1_clear_e c2.i
  refine ⟨M3, ?_, c2.mI y3 o3, ((o1.wide (by omega) (by omega)).trans (o2.wide (by omega) (by omega))).trans (o3.wide (by omega) (by omega)), ((hT.sm (o1.same (by omega))).sm (o2.same (by omega))).sm (o3.same (by omega))⟩
  simp only [f_X11_finishReading, h.ob, h.g8, hx, e1, c1.g8, hy M1 o1, e2, c2.g0, e3, bso]
theorem tkM_13 {X : Tx} {A : Ta} (h : tkM M 708 101 X A) : gI M 9 13 708 = some X.2.2.2.2.2.2.2.1 := by rw [gI_h h.1]; rfl
theorem tkM_14 {X : Tx} {A : Ta} (h : tkM M 708 101 X A) {M' : Mem} (o : off M M' 100 1) : gI M' 9 14 708 = some X.2.2.2.2.2.2.2.2 := by rw [gI_h ((o.2 708 (by omega)).trans h.1)]; rfl
theorem cs_load (h : Cls M I O S K B C H N E) (hr : Ref R I O S K B C H N E) (w : okW c I O S K B C H N) : BothN (f_X11_load 100) (f_X12_load 716) M R (c + 1) := by
  have hI := w.1.1
  have w' := w.up (Nat.le_succ c)
  have hq := h
  obtain ⟨-, hy, -, -, ⟨Sl, hl⟩, -, -, -, -, -, -, ht, hp, -⟩ := hq
  obtain ⟨M1, T, e1, p1, wf1, en, o1⟩ := X9_into_e (rp := 714) (tk := 708) (rt := 101) (rl := 164) (by unfold apt; omega) (S := Sl) (l := I) ⟨hp, ht, hl, hy⟩
  have c1 := h.mP p1 o1
  have hT : stA M1 164 T := p1.2.2.1
  have o1' : off M M1 100 616 := ⟨o1.1, fun q hq => o1.2 q (by omega) (by omega)⟩
  have hr5 := hr.2.2.2.2.1
  have ref := fun M2 => X12_load_e (M := M2) (m := 716) (S := Sl) hr.2.1 hr.1 hr.2.2.1 hr5.1 hI hr5.2 w.1.by
  cases hP : pTxt I (clr Sl) with
  | inl P =>
    rw [hP] at en
    obtain ⟨⟨X, A, n, hX, -, -, -, -, -, -, -, -, -, -, -, -, x13, x14⟩, hE⟩ := en
    obtain ⟨M2, e2, c2, o2, hT2⟩ := finish_e c1 hT ((tkM_13 hX).trans (congrArg some x13)) (fun M' o => (tkM_14 hX o).trans (congrArg some x14))
    obtain ⟨M3, S0, e3, g3, c3, o3, hT3⟩ := beginAct_l c2 hT2
    obtain ⟨M4, S4, e4, s4, o4, g4⟩ := X8_take_e (r := 105) (r2 := 164) (by omega) c3.s hT3
    have c4 := c3.mS s4 o4
    have ga : agr S4 (entS P.2.1) := ⟨g4.1.trans hE.agr.1, g4.2.1.trans hE.agr.2.1, g4.2.2.1.trans hE.agr.2.2.1, fun k hk => (g4.2.2.2.1 k (by rw [hE.agr.2.1]; exact hk)).trans (hE.agr.2.2.2.1 k hk), fun k hk => (g4.2.2.2.2 k (by rw [hE.agr.2.2.1]; exact hk)).trans (hE.agr.2.2.2.2 k hk)⟩
    have ct : f_X8_countMessages 105 M4 = some (nI (cntN P.2.1)) := by
      rw [X8_count_e c4.s, cntM_agr ga]
      exact congrArg some (cntM_N P.2.1)
    obtain ⟨hL, hpk⟩ := pTxt_pOK hP (clr_pOK Sl).2 (clr_pOK Sl).1
    have oks : okS (c + 1) S4 := ((entS_ok hL hpk).agr ga.sy).up (Nat.zero_le _)
    refine ⟨nI (cntN P.2.1), [], O, S4, K, B, upC C, push S0 H, [], (0, -1), ⟨M4, ?_, ((o1'.trans o2).trans o3).trans (o4.wide (by omega) (by omega)), c4⟩, fun M5 => ?_, ⟨⟨Nat.zero_le _, fun x hx => nomatch hx⟩, (okW_fin (N3 := []) w g3 oks ⟨by show 0 ≤ 244; omega, fun x hx => nomatch hx⟩).2⟩⟩
    · have g11 : gI M2 10 11 100 = some 0 := c2.g11
      simp only [f_X11_load, h.ob, h.g9, h.g3, e1, e2, g11, bso, if_true, e3, c3.g2, c3.g3, e4, c4.g2, ct]
    · obtain ⟨v, R', f1, r1, ⟨r2, r3, r4⟩, r5, r6, r7⟩ := ref M5
      rw [hP] at r7
      obtain ⟨rfl, q1, q2, q3, q4, q5⟩ := r7
      refine ⟨R', f1, r1, q4.agr ga.sy, ?_, ⟨q3, fun i hi => absurd hi (Nat.not_lt_zero i)⟩, ⟨r3, fun k hk => absurd hk (Nat.not_lt_zero k)⟩, ⟨r4.trans hr.2.2.2.2.2.1.1, by rw [r5 11 (by decide) (by decide)]; exact hr.2.2.2.2.2.1.2⟩, ⟨q1, q2⟩, fun j hj => by rw [r5 9 (by decide) (by decide), r6]; exact hr.2.2.2.2.2.2.2 j hj⟩
      have q5 : hsR R' (upC C) (push S H) := q5
      refine q5.agr (fun i hi => ?_)
      show agr (if i = 0 then S else H (i - 1)) (if i = 0 then S0 else H (i - 1))
      by_cases e : i = 0
      · rw [if_pos e, if_pos e]; exact g3.sy
      · rw [if_neg e, if_neg e]; exact agr.rf _
  | inr e =>
    rw [hP] at en
    obtain ⟨X, A, hX, -, -, x13, x14, x0⟩ := en
    obtain ⟨M2, e2, c2, o2, hT2⟩ := finish_e c1 hT ((tkM_13 hX).trans (congrArg some x13)) (fun M' o => (tkM_14 hX o).trans (congrArg some x14))
    refine ⟨-4, [], O, S, K, B, C, H, N, (e.1, e.2), ⟨M2, ?_, o1'.trans o2, c2⟩, fun M5 => ?_, ⟨⟨Nat.zero_le _, fun x hx => nomatch hx⟩, w'.2⟩⟩
    · have g11 : gI M2 10 11 100 = some e.1 := c2.g11
      simp only [f_X11_load, h.ob, h.g9, h.g3, e1, e2, g11, bso, if_neg x0]
    · obtain ⟨v, R', f1, r1, ⟨r2, r3, r4⟩, r5, r6, r7⟩ := ref M5
      rw [hP] at r7
      obtain ⟨rfl, q1, q2, q3, q4, q5, q6⟩ := r7
      have n3 : R'.2.2.2 3 = R.2.2.2 3 := r5 3 (by decide) (by decide)
      exact ⟨R', f1, r1, by rw [q5]; exact hr.2.1, q6, ⟨q4.trans hr.2.2.2.1.1, by rw [n3]; exact hr.2.2.2.1.2⟩, ⟨r3, fun k hk => absurd hk (Nat.not_lt_zero k)⟩, ⟨r4.trans hr.2.2.2.2.2.1.1, by rw [r5 11 (by decide) (by decide)]; exact hr.2.2.2.2.2.1.2⟩, ⟨q1, q2⟩, fun j hj => by rw [r5 9 (by decide) (by decide), r6]; exact hr.2.2.2.2.2.2.2 j hj⟩
end
