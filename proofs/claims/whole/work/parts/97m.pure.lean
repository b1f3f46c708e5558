/-! PURE: append, truncate, errors, undoCount -/
theorem byt_rng (x : Int32) : -128 ≤ (byt x).toInt ∧ (byt x).toInt ≤ 127 := by
  have e : byt x = (x.toInt8.toInt32).toInt8.toInt32 := rfl
  rw [e, Int8.toInt_toInt32]
  have h1 := Int8.le_toInt (x.toInt8.toInt32).toInt8
  have h2 := Int8.toInt_lt (x.toInt8.toInt32).toInt8
  exact ⟨h1, by omega⟩
theorem four_rng (v : Int32) : ∀ x ∈ four v, -128 ≤ x.toInt ∧ x.toInt ≤ 127 := by
  intro x hx
  unfold four at hx
  simp only [List.mem_cons, List.not_mem_nil, or_false] at hx
  rcases hx with rfl | rfl | rfl | rfl <;> exact byt_rng _
section
variable {M : Mem} {m : Nat} {R : Rs}
theorem ap_step {l : List Int32} (h8 : R.1 8 = nI l.length) (hl : l.length < 700) (h5 : ∀ k, k < l.length → R.2.2.2 5 k = l.getD k 0) (v s : Int32) (hs : ¬ s < 0) (fu : Nat) :
    ∃ R1, f_X12_appendFour_3 (fu + 1) m v s (ov M m R) = f_X12_appendFour_3 fu m v (s + (-8)) (ov M m R1) ∧ R1.1 8 = nI (l ++ [byt (v >>> (s &&& 31))]).length ∧ (∀ k, k < (l ++ [byt (v >>> (s &&& 31))]).length → R1.2.2.2 5 k = (l ++ [byt (v >>> (s &&& 31))]).getD k 0) ∧ kp [8] [] [5] R R1 := by
  obtain ⟨y, hy⟩ : ∃ y, y = byt (v >>> (s &&& 31)) := ⟨_, rfl⟩
  rw [← hy]
  obtain ⟨Ra, hRa⟩ : ∃ Ra, Ra = rsI R 5 (upd (R.2.2.2 5) l.length y) := ⟨_, rfl⟩
  have s5 : sI (ov M m R) 2 (m + 5) (nI l.length) (vp_nar .byte ((Int32.toInt8 (v >>> (s &&& 31))).toInt32)) = some (ov M m Ra) := by rw [hRa, hy]; exact r_s5 M m R hl _
  have g8 : gI (ov M m R) 11 8 m = some (nI l.length) := by rw [r_g8, h8]
  have g8' : gI (ov M m Ra) 11 8 m = some (nI l.length) := by rw [r_g8, hRa]; exact congrArg some h8
  refine ⟨rsS Ra 8 (nI (l.length + 1)), ?_, ?_, ?_, ?_⟩
  · simp only [f_X12_appendFour_3, if_neg hs, r_g7, g8, s5, g8', bso, nI_1, r_p8]
  · rw [rsS_at, List.length_append]; rfl
  · intro k hk
    show Ra.2.2.2 5 k = _
    rw [hRa, rsI_at]
    rw [List.length_append, List.length_singleton] at hk
    by_cases e : k = l.length
    · subst e; rw [upd_s]; simp [List.getD_eq_getElem?_getD]
    · rw [upd_n _ _ e, h5 k (by omega)]; simp [List.getD_eq_getElem?_getD, List.getElem?_append_left (show k < l.length by omega)]
  · rw [hRa]; exact ((kp_I R 5 _).up (by simp) (by simp) (by simp)).trans ((kp_S _ 8 _).up (by simp) (by simp) (by simp))
theorem X12_four_e {l : List Int32} (h8 : R.1 8 = nI l.length) (hl : l.length + 4 ≤ 700) (h5 : ∀ k, k < l.length → R.2.2.2 5 k = l.getD k 0) (v : Int32) :
    ∃ R', f_X12_appendFour m v (ov M m R) = some (ov M m R') ∧ R'.1 8 = nI (l ++ four v).length ∧ (∀ k, k < (l ++ four v).length → R'.2.2.2 5 k = (l ++ four v).getD k 0) ∧ kp [8] [] [5] R R' := by
  obtain ⟨fu, hfu⟩ : ∃ fu, FU = fu + 1 + 1 + 1 + 1 + 1 := ⟨5995, FU_eq⟩
  obtain ⟨R1, e1, a1, b1, k1⟩ := ap_step (M := M) (m := m) h8 (by omega) h5 v 24 (by decide) (fu + 1 + 1 + 1 + 1)
  obtain ⟨R2, e2, a2, b2, k2⟩ := ap_step (M := M) (m := m) a1 (by simp; omega) b1 v 16 (by decide) (fu + 1 + 1 + 1)
  obtain ⟨R3, e3, a3, b3, k3⟩ := ap_step (M := M) (m := m) a2 (by simp; omega) b2 v 8 (by decide) (fu + 1 + 1)
  obtain ⟨R4, e4, a4, b4, k4⟩ := ap_step (M := M) (m := m) a3 (by simp; omega) b3 v 0 (by decide) (fu + 1)
  have hz : byt (v >>> ((0 : Int32) &&& 31)) = byt v := by rw [show (0 : Int32) &&& 31 = 0 from by decide, Int32.shiftRight_zero]
  have hL : l ++ [byt (v >>> ((24 : Int32) &&& 31))] ++ [byt (v >>> ((16 : Int32) &&& 31))] ++ [byt (v >>> ((8 : Int32) &&& 31))] ++ [byt (v >>> ((0 : Int32) &&& 31))] = l ++ four v := by
    rw [hz, four]; simp
  rw [hL] at a4 b4
  rw [show (24 : Int32) + (-8) = 16 from by decide] at e1
  rw [show (16 : Int32) + (-8) = 8 from by decide] at e2
  rw [show (8 : Int32) + (-8) = 0 from by decide] at e3
  rw [show (0 : Int32) + (-8) = -8 from by decide] at e4
  refine ⟨R4, ?_, a4, b4, ((k1.trans k2).trans k3).trans k4⟩
  simp only [f_X12_appendFour, ov_ob, hfu, e1, e2, e3, e4]
  rw [f_X12_appendFour_3]
  rfl
end
section
variable {M : Mem} {m : Nat} {R : Rs} {I O : List Int32} {S : St} {K : Nat → St} {B : Nat → Bool} {C : Nat} {H : Nat → St} {N : List Nt} {E : Er} {c : Nat}
theorem Both.gn {fX : Option ((Int32 ⊕ String) × Mem)} {gX : Mem → Option (Int32 × Mem)} {hs : List (String × Int32)} {v : Int32} {M1 : Mem} {I' O' : List Int32} {S' : St} {K' : Nat → St} {B' : Nat → Bool} {C' : Nat} {H' : Nat → St} {N' : List Nt} {c' : Nat}
    (e1 : fX = some (.inl v, M1)) (o1 : off M M1 100 616) (c1 : Cls M1 I' O' S' K' B' C' H' N' E) (w : okW c' I' O' S' K' B' C' H' N')
    (e4 : ∀ M2, ∃ R2, gX (ov M2 716 R) = some (v, ov M2 716 R2) ∧ R2.1 0 = 0 ∧ Ref R2 I' O' S' K' B' C' H' N' E) : Both fX gX M R hs c' E := by
  refine ⟨0, v, I', O', S', K', B', C', H', N', ⟨.inl v, M1, e1, o1, c1, .inl ⟨v, rfl, rfl, rfl⟩⟩, fun M2 => ?_, w⟩
  obtain ⟨R2, f2, z1, z2⟩ := e4 M2
  exact ⟨v, R2, f2, z1, fun _ => rfl, z2⟩
theorem Ref.upI {R' : Rs} {I' : List Int32} (h : Ref R I O S K B C H N E) (k : kp [0, 8] [] [5] R R') (e8 : R'.1 8 = nI I'.length) (e5 : ∀ x, x < I'.length → R'.2.2.2 5 x = I'.getD x 0) : Ref R' I' O S K B C H N E := by
  obtain ⟨a1, a2, a3, a4, ⟨a5, a6⟩, ⟨a7, a8⟩, ⟨a9, b1⟩, b2⟩ := h
  have hrow := k.row a1 (by decide)
  obtain ⟨k1, k2, k3, k4⟩ := k
  have i9 := k4 9 (by simp)
  have i11 := k4 11 (by simp)
  have i3 := k4 3 (by simp)
  have j8 := k3 8 (by simp)
  exact ⟨k1.trans a1, by rw [hrow]; exact a2, a3.cg (k2 25 (by simp)) (k3 10 (by simp)), ⟨(k2 5 (by simp)).trans a4.1, by rw [i3]; exact a4.2⟩, ⟨e8, e5⟩, ⟨(k2 27 (by simp)).trans a7, by rw [i11]; exact a8⟩, ⟨(k2 14 (by simp)).trans a9, (k2 15 (by simp)).trans b1⟩, fun j hj => by rw [i9, j8]; exact b2 j hj⟩
theorem cls_four (h : Cls M I O S K B C H N E) (v : Int32) (hl : I.length + 4 ≤ 700) : ∃ M', f_X1_addFour 101 v M = some M' ∧ Cls M' (I ++ four v) O S K B C H N E ∧ off M M' 100 616 := by
  obtain ⟨M', e, y, o⟩ := X1_four_e h.i v hl
  exact ⟨M', e, h.mI y o, o.wide (by omega) (by omega)⟩
theorem four_len (v : Int32) : (four v).length = 4 := rfl
theorem cs_append (h : Cls M I O S K B C H N E) (hr : Ref R I O S K B C H N E) (w : okW c I O S K B C H N) (v1 v2 v3 v4 v5 : Int32) : Both (f_X11_append 100 v1 v2 v3 v4 v5 M) (f_X12_append 716 v1 v2 v3 v4 v5) M R [("java/lang/IllegalStateException", 1)] (c + 1) E := by
  have hI := w.1.1
  have sz : f_X1_size 101 M = some (nI I.length) := X1_size_e h.i
  have le1 : (nI I.length + 20 ≤ 700) = (I.length + 20 ≤ 700) := leI (show nI I.length + 20 = nI (I.length + 20) from nI_add _ 20) (show (700 : Int32) = nI 700 from rfl) (by omega) (by omega)
  have lt1 : (700 < nI I.length + 20) = (700 < I.length + 20) := ltI (show (700 : Int32) = nI 700 from rfl) (show nI I.length + 20 = nI (I.length + 20) from nI_add _ 20) (by omega) (by omega)
  have g8 : ∀ M2, gI (ov M2 716 R) 11 8 716 = some (nI I.length) := fun M2 => by rw [r_g8, hr.2.2.2.2.1.1]
  by_cases e : I.length + 20 ≤ 700
  · obtain ⟨M1, e1, c1, o1⟩ := cls_four h v1 (by omega)
    obtain ⟨M2, e2, c2, o2⟩ := cls_four c1 v2 (by simp [four_len]; omega)
    obtain ⟨M3, e3, c3, o3⟩ := cls_four c2 v3 (by simp [four_len]; omega)
    obtain ⟨M4, e4, c4, o4⟩ := cls_four c3 v4 (by simp [four_len]; omega)
    obtain ⟨M5, e5, c5, o5⟩ := cls_four c4 v5 (by simp [four_len]; omega)
    obtain ⟨I', hI'⟩ : ∃ I', I' = I ++ four v1 ++ four v2 ++ four v3 ++ four v4 ++ four v5 := ⟨_, rfl⟩
    rw [← hI'] at c5
    have sz5 : f_X1_size 101 M5 = some (nI I'.length) := X1_size_e c5.i
    have ok' : okI I' := by
      refine ⟨by rw [hI']; simp [four_len]; omega, fun x hx => ?_⟩
      rw [hI'] at hx
      simp only [List.mem_append] at hx
      rcases hx with ((((hx | hx) | hx) | hx) | hx) | hx
      · exact w.1.2 x hx
      · exact four_rng _ x hx
      · exact four_rng _ x hx
      · exact four_rng _ x hx
      · exact four_rng _ x hx
      · exact four_rng _ x hx
    refine Both.gn (v := nI I'.length) (I' := I') (by rw [f_X11_append, h.ob]; simp only [h.g0, sz, bso]; rw [if_pos (by rw [le1]; exact e)]; simp only [e1, bso, c1.g0, e2, c2.g0, e3, c3.g0, e4, c4.g0, e5, c5.g0, sz5]) ((((o1.trans o2).trans o3).trans o4).trans o5) c5 ⟨ok', (w.up (Nat.le_succ c)).2⟩ (fun Mx => ?_)
    obtain ⟨R0, hR0⟩ : ∃ R0, R0 = rsS R 0 0 := ⟨_, rfl⟩
    have hr5 := hr.2.2.2.2.1
    obtain ⟨R1, f1, a1, b1, k1⟩ := X12_four_e (M := Mx) (m := 716) (R := R0) (l := I) (by rw [hR0]; exact hr5.1) (by omega) (by rw [hR0]; exact hr5.2) v1
    obtain ⟨R2, f2, a2, b2, k2⟩ := X12_four_e (M := Mx) (m := 716) a1 (by simp [four_len]; omega) b1 v2
    obtain ⟨R3, f3, a3, b3, k3⟩ := X12_four_e (M := Mx) (m := 716) a2 (by simp [four_len]; omega) b2 v3
    obtain ⟨R4, f4, a4, b4, k4⟩ := X12_four_e (M := Mx) (m := 716) a3 (by simp [four_len]; omega) b3 v4
    obtain ⟨R5, f5, a5, b5, k5⟩ := X12_four_e (M := Mx) (m := 716) a4 (by simp [four_len]; omega) b4 v5
    rw [← hI'] at a5 b5
    have kk : kp [8] [] [5] R0 R5 := (((k1.trans k2).trans k3).trans k4).trans k5
    have p : f_X12_passes 716 true (ov Mx 716 R) = some (true, ov Mx 716 R0) := by rw [hR0]; exact X12_pass1_e true
    refine ⟨R5, ?_, (kk.2.1 0 (by simp)).trans (by rw [hR0]; exact rsS_at R 0 0), hr.upI (kp.trans ((by rw [hR0]; exact (kp_S R 0 0).up (by simp) (by simp) (by simp)) : kp [0, 8] [] [5] R R0) (kk.up (by simp) (by simp) (by simp))) a5 b5⟩
    have g85 : gI (ov Mx 716 R5) 11 8 716 = some (nI I'.length) := by rw [r_g8, a5]
    simp only [f_X12_append, ov_ob, g8, bso]
    rw [if_neg (by rw [lt1]; omega)]
    simp only [f_X12_append_19, p, bso, cond_true, f1, f2, f3, f4, f5, g85]
  · refine Both.no h hr w (by rw [f_X11_append, h.ob]; simp only [h.g0, sz, bso]; rw [if_neg (by rw [le1]; exact e)]) (hf1 _ _ _) (by decide) (fun M2 => ?_)
    have p : f_X12_passes 716 false (ov M2 716 R) = some (false, ov M2 716 (rsS R 0 1)) := X12_pass1_e false
    simp only [f_X12_append, ov_ob, g8, bso]
    rw [if_pos (by rw [lt1]; omega)]
    simp only [f_X12_append_19, p, bso, cond_false]
/-- truncate, of either side -/
theorem cs_truncate (h : Cls M I O S K B C H N E) (hr : Ref R I O S K B C H N E) (w : okW c I O S K B C H N) (a : Int32) :
    ∃ t I', (∃ o M1, f_X11_truncate 100 a M = some (o, M1) ∧ off M M1 100 616 ∧ Cls M1 I' O S K B C H N E ∧ ((o = .inl () ∧ t = 0) ∨ ∃ Ex, o = .inr Ex ∧ hFind Ex [("java/lang/IllegalArgumentException", 1)] = some t ∧ t ≠ 0)) ∧
      (∀ M2, ∃ R', f_X12_truncate 716 a (ov M2 716 R) = some (ov M2 716 R') ∧ R'.1 0 = t ∧ Ref R' I' O S K B C H N E) ∧ okW (c + 1) I' O S K B C H N := by
  have hI := w.1.1
  have sz : f_X1_size 101 M = some (nI I.length) := X1_size_e h.i
  have g8 : ∀ M2, gI (ov M2 716 R) 11 8 716 = some (nI I.length) := fun M2 => by rw [r_g8, hr.2.2.2.2.1.1]
  have hin : ∀ M2 : Mem, f_X12_in (Int32.toInt64 a) 0 (Int32.toInt64 (nI I.length)) M2 = some (!decide (a < 0) && !decide (nI I.length < a)) := fun M2 => by
    rw [X12_in_e]; exact congrArg some (btw_c a 0 (nI I.length))
  have bad : (!decide (a < 0) && !decide (nI I.length < a)) = false → f_X11_truncate 100 a M = some (.inr "java/lang/IllegalArgumentException", mskip M) → ∃ t I', (∃ o M1, f_X11_truncate 100 a M = some (o, M1) ∧ off M M1 100 616 ∧ Cls M1 I' O S K B C H N E ∧ ((o = .inl () ∧ t = 0) ∨ ∃ Ex, o = .inr Ex ∧ hFind Ex [("java/lang/IllegalArgumentException", 1)] = some t ∧ t ≠ 0)) ∧
      (∀ M2, ∃ R', f_X12_truncate 716 a (ov M2 716 R) = some (ov M2 716 R') ∧ R'.1 0 = t ∧ Ref R' I' O S K B C H N E) ∧ okW (c + 1) I' O S K B C H N := by
    intro z e1
    refine ⟨1, I, ⟨_, _, e1, ⟨rfl, fun _ _ => rfl⟩, h.skip, .inr ⟨_, rfl, hf1 _ _ _, by decide⟩⟩, fun M2 => ⟨rsS R 0 1, ?_, rsS_at _ _ _, hr.t 1⟩, w.up (Nat.le_succ c)⟩
    have p : f_X12_passes 716 false (ov M2 716 R) = some (false, ov M2 716 (rsS R 0 1)) := X12_pass1_e false
    simp only [f_X12_truncate, ov_ob, g8, bso, hin, z, p, cond_false]
  by_cases s1 : a < 0
  · exact bad (by rw [decide_eq_true s1]; rfl) (by rw [f_X11_truncate, h.ob, if_pos s1]; rfl)
  · by_cases s2 : a ≤ nI I.length
    · have s2' : ¬ nI I.length < a := Int32.not_lt.mpr s2
      have z : (!decide (a < 0) && !decide (nI I.length < a)) = true := by rw [decide_eq_false s1, decide_eq_false s2']; rfl
      rcases i_cases a with hn | ⟨n, hn, rfl⟩
      · exact absurd hn s1
      · rw [nI_leI hn (by omega)] at s2
        obtain ⟨M1, e1, y1, o1⟩ := X1_cut_e h.i (n := n) s2
        refine ⟨0, I.take n, ⟨.inl (), M1, ?_, o1.wide (by omega) (by omega), h.mI y1 o1, .inl ⟨rfl, rfl⟩⟩, fun M2 => ?_, ⟨⟨by rw [List.length_take]; omega, fun x hx => w.1.2 x (List.mem_of_mem_take hx)⟩, (w.up (Nat.le_succ c)).2⟩⟩
        · rw [f_X11_truncate, h.ob, if_neg s1]
          simp only [h.g0, sz, bso]
          rw [if_pos (by rw [nI_leI hn (by omega)]; exact s2)]
          simp only [e1, bso]
        · have p : f_X12_passes 716 true (ov M2 716 R) = some (true, ov M2 716 (rsS R 0 0)) := X12_pass1_e true
          refine ⟨rsS (rsS R 0 0) 8 (nI n), ?_, rfl, hr.upI (((kp_S R 0 0).up (by simp) (by simp) (by simp) : kp [0, 8] [] [5] R (rsS R 0 0)).trans ((kp_S _ 8 _).up (by simp) (by simp) (by simp))) ?_ ?_⟩
          · simp only [f_X12_truncate, ov_ob, g8, bso, hin, z, p, cond_true, r_p8]
          · rw [rsS_at, List.length_take, Nat.min_eq_left s2]
          · intro x hx
            rw [List.length_take] at hx
            show R.2.2.2 5 x = _
            rw [hr.2.2.2.2.1.2 x (by omega)]
            simp [List.getD_eq_getElem?_getD, List.getElem?_take, show x < n by omega]
    · exact bad (by rw [decide_eq_true (Int32.not_le.mp s2), Bool.and_comm]; rfl) (by
        rw [f_X11_truncate, h.ob, if_neg s1]
        simp only [h.g0, sz, bso]
        rw [if_neg s2]; rfl)
theorem cs_errorCode (h : Cls M I O S K B C H N E) (hr : Ref R I O S K B C H N E) : f_X11_errorCode 100 M = some E.1 ∧ ∀ M2, f_X12_errorCode 716 (ov M2 716 R) = some (E.1, ov M2 716 (rsS R 0 0)) := by
  refine ⟨by rw [f_X11_errorCode, h.ob, h.g11]; rfl, fun M2 => ?_⟩
  have g : gI (ov M2 716 (rsS R 0 0)) 11 14 716 = some E.1 := by rw [r_g14]; exact congrArg some hr.2.2.2.2.2.2.1.1
  simp only [f_X12_errorCode, ov_ob, r_p0, bso, g]
theorem cs_errorPos (h : Cls M I O S K B C H N E) (hr : Ref R I O S K B C H N E) : f_X11_errorPosition 100 M = some E.2 ∧ ∀ M2, f_X12_errorPosition 716 (ov M2 716 R) = some (E.2, ov M2 716 (rsS R 0 0)) := by
  refine ⟨by rw [f_X11_errorPosition, h.ob, h.g12]; rfl, fun M2 => ?_⟩
  have g : gI (ov M2 716 (rsS R 0 0)) 11 15 716 = some E.2 := by rw [r_g15]; exact congrArg some hr.2.2.2.2.2.2.1.2
  simp only [f_X12_errorPosition, ov_ob, r_p0, bso, g]
theorem cs_undoCount (h : Cls M I O S K B C H N E) (hr : Ref R I O S K B C H N E) : f_X11_undoCount 100 M = some (nI C) ∧ ∀ M2, f_X12_undoCount 716 (ov M2 716 R) = some (nI C, ov M2 716 (rsS R 0 0)) := by
  have s2 : f_X2_size 343 M = some (nI C) := X2_size_e h.h
  refine ⟨by rw [f_X11_undoCount, h.ob, h.g6]; simp only [s2, bso], fun M2 => ?_⟩
  have g : gI (ov M2 716 (rsS R 0 0)) 11 25 716 = some (nI C) := by rw [r_g25]; exact congrArg some hr.2.2.1.1
  simp only [f_X12_undoCount, ov_ob, r_p0, bso, g]
end
