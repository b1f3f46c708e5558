/-! PURE: commands begin and end, on both sides -/
def push (S : St) (H : Nat → St) : Nat → St := fun i => if i = 0 then S else H (i - 1)
def upC (C : Nat) : Nat := if C < 6 then C + 1 else 6
section
variable {M : Mem} {m : Nat} {R : Rs} {I O : List Int32} {S : St} {K : Nat → St} {B : Nat → Bool} {C : Nat} {H : Nat → St} {N : List Nt} {E : Er} {c : Nat}
theorem beginAct_e (h : Cls M I O S K B C H N E) : ∃ M' S', f_X11_beginAct 100 M = some M' ∧ agr S' S ∧ Cls M' I O S K B (upC C) (push S' H) [] E ∧ off M M' 100 616 := by
  obtain ⟨M1, S', e1, g1, h1, o1⟩ := X2_rem_e h.h h.s (by omega)
  have c1 := h.mH h1 o1
  obtain ⟨M2, e2, n2, o2⟩ := X4_clear_e c1.n
  exact ⟨M2, S', by simp only [f_X11_beginAct, h.ob, h.g6, h.g2, e1, c1.g7, e2, bso], g1, c1.mN n2 o2, (o1.wide (by omega) (by omega)).trans (o2.wide (by omega) (by omega))⟩
theorem begCmd_e (h : Cls M I O S K B C H N E) {k : Nat} (hk : k < stM S) : ∃ M' S', f_X11_beginCommand 100 (sesR 105 k) M = some M' ∧ agr S' S ∧ Cls M' I O (setSx S k (incC (stS S k) 0)) K B (upC C) (push S' H) [] E ∧ off M M' 100 616 := by
  obtain ⟨M1, S', e1, g1, c1, o1⟩ := beginAct_e h
  have hk4 := c1.s.m4
  have hx := c1.sx hk
  obtain ⟨M2, e2, x2, o2⟩ := X7_count_e hx (k := 0) (by omega) 1
  have e2' : f_X5_increase (sesR 105 k + 5) 0 1 M1 = some M2 := e2
  have gC := sA.gC hx
  have s2 := c1.s.setS (k := k) (by omega) (b := incC (stS S k) 0) x2 (fun q _ _ q3 => o2.2 q q3)
  have o2' : off M1 M2 105 59 := o2.wide (by unfold sesR; omega) (by unfold sesR; omega)
  exact ⟨M2, S', by simp only [f_X11_beginCommand, h.ob, e1, gC, e2', bso], g1, c1.mS s2 o2', o1.trans (o2'.wide (by omega) (by omega))⟩
theorem endCmd_e (h : Cls M I O S K B C H N E) {k : Nat} (hk : k < stM S) (ok : okS c S) (al : Bool) (hc : (endS al S k N).2.length ≤ 244) : ∃ M', f_X11_endCommand 100 (nI k) al M = some (nI (tlK al S k).2.length, M') ∧ Cls M' I O (endS al S k N).1 K B C H (endS al S k N).2 E ∧ off M M' 100 616 := by
  have hl := tlI_len (stM S) 0 (setSx S k (tlK al S k).1, N ++ (tlK al S k).2)
  have hl : (N ++ (tlK al S k).2).length ≤ (endS al S k N).2.length := hl
  rw [List.length_append] at hl
  obtain ⟨M1, e1, s1, n1, o1⟩ := X8_tell_e al (r := 105) (rn := 699) (by omega) h.s h.n hk (ok.wf k hk) (by omega)
  have c1 := h.mSN s1 n1 o1
  obtain ⟨M2, e2, s2, n2, o2⟩ := X8_idle_e (r := 105) (rn := 699) (by omega) c1.s c1.n (ok.tell hk al).wf hc
  exact ⟨M2, by simp only [f_X11_endCommand, h.ob, h.g2, h.g7, e1, c1.g2, c1.g7, e2, bso], c1.mSN s2 n2 o2, (o1.one (by omega) (by omega)).trans (o2.one (by omega) (by omega))⟩
theorem tellIdle_e (h : Cls M I O S K B C H N E) (ok : okS c S) (hc : (tlI (stM S) 0 (S, N)).2.length ≤ 244) : ∃ M', f_X8_tellIdle 105 699 M = some M' ∧ Cls M' I O (tlI (stM S) 0 (S, N)).1 K B C H (tlI (stM S) 0 (S, N)).2 E ∧ off M M' 100 616 := by
  obtain ⟨M2, e2, s2, n2, o2⟩ := X8_idle_e (r := 105) (rn := 699) (by omega) h.s h.n ok.wf hc
  exact ⟨M2, e2, h.mSN s2 n2 o2, o2.one (by omega) (by omega)⟩
/-- the reference's end -/
theorem ref_fin {R2 : Rs} {S3 S0 : St} {N3 : List Nt} (hr : Ref R I O S K B C H N E) (k : kpC (rsS R 0 0) R2) (q1 : rep (rowf R2) S3) (q2 : hsR R2 (upC C) (push S H)) (q3 : ntR R2 N3) (g : agr S0 S) : R2.1 0 = 0 ∧ Ref R2 I O S3 K B (upC C) (push S0 H) N3 E := by
  refine ⟨(k.2.1 0 (by simp)).trans (rsS_at _ _ _), ((hr.t 0).up k q1 q2 q3).aH (fun i hi => ?_)⟩
  show agr (if i = 0 then S else H (i - 1)) (if i = 0 then S0 else H (i - 1))
  by_cases e : i = 0
  · rw [if_pos e, if_pos e]; exact g.sy
  · rw [if_neg e, if_neg e]; exact agr.rf _
theorem okW_fin {S3 S0 : St} {N3 : List Nt} (w : okW c I O S K B C H N) (g : agr S0 S) (s : okS (c + 1) S3) (n : N3.length ≤ 244 ∧ ∀ x ∈ N3, okNt x) : okW (c + 1) I O S3 K B (upC C) (push S0 H) N3 := by
  obtain ⟨w1, w2, w3, w4, w5, w6⟩ := w
  refine ⟨w1, w2, s, fun j hj hB => (w4 j hj hB).up (by omega), fun i hi => ?_, n⟩
  show okS (c + 1) (if i = 0 then S0 else H (i - 1))
  by_cases e : i = 0
  · rw [if_pos e]; exact (w3.agr g.sy).up (by omega)
  · rw [if_neg e]
    unfold upC at hi
    refine (w5 (i - 1) ?_).up (by omega)
    by_cases z : C < 6
    · rw [if_pos z] at hi; omega
    · rw [if_neg z] at hi; omega
theorem cmd_kp {R0 R1 R2 : Rs} (k1 : kp [5, 25] [1, 10] [] R0 R1) (k2 : kpT R1 R2) (hw : R1.2.1 = false) : kpC R0 R2 := (k1.up (by simp) (by simp) (by simp)).trans ((k2.kp hw).up (by simp) (by simp) (by simp))
/-- what a session must be -/
theorem cdo_t {s : Sx} (h : cdo s = true) : sxB s ≠ -1 ∧ sxI s = false := by
  unfold cdo at h
  by_cases e : sxB s = -1
  · rw [decide_eq_true e] at h; cases h
  · rw [decide_eq_false e] at h
    cases hi : sxI s with
    | true => rw [hi] at h; cases h
    | false => exact ⟨e, rfl⟩
theorem reqAwk_in (h : Cls M I O S K B C H N E) {k : Nat} (hk : k < stM S) (hd : cdo (stS S k) = true) (ok : okB S (sxB (stS S k))) : ∃ b, b < stN S ∧ sxB (stS S k) = nI b ∧ f_X11_requireAwake 100 (sesR 105 k) M = some (.inl (boxR 105 b), M) := by
  obtain ⟨d1, d2⟩ := cdo_t hd
  rcases ok with e | ⟨b, hb, e⟩
  · exact absurd e d1
  · have q1 := X7_hasBox_e (h.sx hk)
    have q2 := sA.gI (h.sx hk)
    have q3 := X8_boxOf_in h.s (h.sx hk) hb e
    have q1 : f_X7_hasBox (sesR 105 k) M = some (!decide (sxB (stS S k) = -1)) := q1
    have q2 : gZ M 6 3 (sesR 105 k) = some (sxI (stS S k)) := q2
    refine ⟨b, hb, e, ?_⟩
    simp only [f_X11_requireAwake, h.ob, q1, q2, d2, bso, h.g2, q3, cond_false]
    rw [decide_eq_false d1]; rfl
theorem reqAwk_no (h : Cls M I O S K B C H N E) {k : Nat} (hk : k < stM S) (hd : cdo (stS S k) = false) : f_X11_requireAwake 100 (sesR 105 k) M = some (.inr "java/lang/IllegalStateException", mskip M) := by
  have q1 : f_X7_hasBox (sesR 105 k) M = some (!decide (sxB (stS S k) = -1)) := X7_hasBox_e (h.sx hk)
  have q2 : gZ M 6 3 (sesR 105 k) = some (sxI (stS S k)) := sA.gI (h.sx hk)
  unfold cdo at hd
  simp only [f_X11_requireAwake, h.ob, q1, q2, bso, f_X11_requireAwake_14]
  cases z : !decide (sxB (stS S k) = -1) with
  | false => rfl
  | true =>
    rw [z, Bool.true_and] at hd
    cases z2 : sxI (stS S k) with
    | true => rfl
    | false => rw [z2] at hd; cases hd
theorem reqWri_in (h : Cls M I O S K B C H N E) {k : Nat} (hk : k < stM S) (hd : (cdo (stS S k) && !sxR (stS S k)) = true) (ok : okB S (sxB (stS S k))) : ∃ b, b < stN S ∧ sxB (stS S k) = nI b ∧ f_X11_requireWriting 100 (sesR 105 k) M = some (.inl (boxR 105 b), M) := by
  obtain ⟨z1, z2⟩ := Bool.and_eq_true_iff.mp hd
  obtain ⟨b, hb, e, er⟩ := reqAwk_in h hk z1 ok
  have q2 : gZ M 6 2 (sesR 105 k) = some (sxR (stS S k)) := sA.gR (h.sx hk)
  refine ⟨b, hb, e, ?_⟩
  have z3 : sxR (stS S k) = false := by
    cases z : sxR (stS S k) with
    | false => rfl
    | true => rw [z] at z2; cases z2
  rw [f_X11_requireWriting, h.ob, bX_l er, q2, bso, z3]
  rfl
theorem reqWri_no (h : Cls M I O S K B C H N E) {k : Nat} (hk : k < stM S) (hd : (cdo (stS S k) && !sxR (stS S k)) = false) (ok : okB S (sxB (stS S k))) : f_X11_requireWriting 100 (sesR 105 k) M = some (.inr "java/lang/IllegalStateException", mskip M) := by
  cases z1 : cdo (stS S k) with
  | false => rw [f_X11_requireWriting, h.ob, bX_r (reqAwk_no h hk z1)]
  | true =>
    obtain ⟨b, hb, e, er⟩ := reqAwk_in h hk z1 ok
    have q2 : gZ M 6 2 (sesR 105 k) = some (sxR (stS S k)) := sA.gR (h.sx hk)
    have z3 : sxR (stS S k) = true := by
      cases z : sxR (stS S k) with
      | true => rfl
      | false => rw [z1, z] at hd; cases hd
    rw [f_X11_requireWriting, h.ob, bX_l er, q2, bso, z3]
    rfl
/-- a session with another count -/
theorem okE_inc {k : Nat} {s : Sx} (h : okE S s) : okE S (incC s k) := by
  obtain ⟨h1, h2, h3, h4, h5⟩ := h
  exact ⟨h1, by show ((sxC s).set k _).length = 5; rw [List.length_set]; exact h2, h3, h4, h5⟩
theorem okS.inc (h : okS c S) {k : Nat} (hk : k < stM S) (j : Nat) : okS c (setSx S k (incC (stS S k) j)) := h.setS (okE_inc (h.2.2.2 k hk))
def idS (s : Sx) (v : Bool) : Sx := (s.1, sxB s, sxR s, v, sxH s, sxE s, sxC s)
theorem okE_id {s : Sx} (h : okE S s) (v : Bool) : okE S (idS s v) := h
theorem X12_setI (h : rep (rowf R) S) (hw : R.2.1 = false) {k : Nat} (hk : k < stM S) (v : Bool) : ∃ f', sJ (ov M m R) 1 (m + 1) (nI (sAt k + 3)) (Int32.toInt64 (b2i v)) = some (ov M m (rsR R f')) ∧ rep f' (setSx S k (idS (stS S k) v)) := by
  have h4 := h.2.2.2.2.1
  have h3 : sAt k + 3 < 806 := by unfold sAt; omega
  refine ⟨_, r_s1' hw h3 _, h.setS hk (upd_off _ _ (by omega) (by omega)) ?_ (h.ls hk)⟩
  obtain ⟨a1, a2, a3, a4, a5, a6, a7, a8⟩ := h.sx hk
  refine ⟨by rw [pk_uLn (by omega)]; exact a1, by rw [rg_n _ _ (by omega)]; exact a2, by rw [rg_n _ _ (by omega)]; exact a3, by rw [rg_s, Int32.toInt32_toInt64]; rfl, by rw [rg_n _ _ (by omega)]; exact a5, by rw [rg_n _ _ (by omega)]; exact a6, fun j hj => by rw [rg_n _ _ (by omega)]; exact a7 j hj, fun j hj => ?_⟩
  obtain ⟨q1, q2⟩ := a8 j hj
  exact ⟨by rw [rg_n _ _ (by omega)]; exact q1, by rw [rg_n _ _ (by omega)]; exact q2⟩
end
