/-! PURE: writeNotices -/
theorem sym_if {α : Type} (x : Int32) (A : Int32 → α) : (if x = 0 then A 45 else (if x = 1 then A 61 else A 43)) = A (if x = 0 then 45 else if x = 1 then 61 else 43) := by
  by_cases h0 : x = 0
  · rw [if_pos h0, if_pos h0]
  · rw [if_neg h0, if_neg h0]
    by_cases h1 : x = 1
    · rw [if_pos h1, if_pos h1]
    · rw [if_neg h1, if_neg h1]
section
variable {M : Mem} {m : Nat} {R : Rs} {I O : List Int32} {S : St} {K : Nat → St} {B : Nat → Bool} {C : Nat} {H : Nat → St} {N : List Nt} {E : Er} {c : Nat}
theorem ng_mem {k : Nat} (hk : k < N.length) : ng N k ∈ N := by rw [ng, List.getD_eq_getElem?_getD, List.getElem?_eq_getElem hk]; exact List.getElem_mem hk
theorem cls_wn_loop (hN : okN N) : ∀ (n k fu : Nat) (M : Mem) (O : List Int32), k + n = N.length → n < fu → Cls M I O S K B C H N E → O.length + 11 * n ≤ 4000 →
    ∃ M', f_X11_writeNotices_10 fu 100 (nI k) M = some (nI ((N.drop k).foldl wNt O).length, M') ∧ Cls M' I ((N.drop k).foldl wNt O) S K B C H N E ∧ off M M' 100 616 := by
  intro n
  induction n with
  | zero =>
    intro k fu M O hk hf h hl
    obtain ⟨fu, rfl⟩ : ∃ x, fu = x + 1 := ⟨fu - 1, by omega⟩
    have l244 := hN.1
    have sz : f_X1_size 103 M = some (nI O.length) := X1_size_e h.o
    have zz : f_X4_size 699 M = some (nI N.length) := X4_size_e h.n
    have hd : N.drop k = [] := List.drop_eq_nil_of_le (by omega)
    rw [hd]
    refine ⟨M, ?_, h, off.rf _ _ _⟩
    simp only [f_X11_writeNotices_10, h.g7, zz, bso]
    rw [if_pos (by rw [nI_leI (by omega) (by omega)]; omega)]
    simp only [h.g1, sz, bso, List.foldl_nil]
  | succ n ih =>
    intro k fu M O hk hf h hl
    obtain ⟨fu, rfl⟩ : ∃ x, fu = x + 1 := ⟨fu - 1, by omega⟩
    have l244 := hN.1
    have hkl : k < N.length := by omega
    have hd : N.drop k = ng N k :: N.drop (k + 1) := by
      rw [List.drop_eq_getElem_cons hkl, ng, List.getD_eq_getElem?_getD, List.getElem?_eq_getElem hkl]; rfl
    obtain ⟨p0, p2⟩ := hN.2 _ (ng_mem hkl)
    have s6 := wNt_len O p0 p2
    obtain ⟨zz, -, ⟨b1', b2⟩, -, -⟩ := cls_nt h hkl
    obtain ⟨x, hx⟩ : ∃ x, x = ng N k := ⟨_, rfl⟩
    rw [← hx] at hd p0 p2 s6 b2
    obtain ⟨a, ha, ea⟩ := p0
    obtain ⟨b, hb, eb⟩ := p2
    have s1 := sep_len O
    have s2 := num1 a ha
    have s3 := num2 b hb
    have s4 := flB_len (n3 x)
    have h0p : 0 ≤ n0 x := by rw [ea]; exact nI_ge0 (by omega)
    have h2p : 0 ≤ n2 x := by rw [eb]; exact nI_ge0 (by omega)
    have na : nN (n0 x) = a := by rw [ea]; exact nN_n (by omega)
    have nb : nN (n2 x) = b := by rw [eb]; exact nN_n (by omega)
    obtain ⟨M1, e1, c1, o1⟩ := cls_sep h (by omega)
    obtain ⟨-, ⟨t1, t2⟩, -, -, -⟩ := cls_nt c1 hkl
    rw [← hx] at t2
    obtain ⟨M2, e2, c2, o2⟩ := cls_num c1 (by omega) h0p
    rw [na] at c2
    obtain ⟨sy, hsy⟩ : ∃ sy : Int32, sy = if n1 x = 0 then 45 else if n1 x = 1 then 61 else 43 := ⟨_, rfl⟩
    obtain ⟨M3, e3, c3, o3⟩ := cls_byte c2 (v := sy) (by rw [List.length_append]; omega) (by rw [hsy]; exact (sym_b _).1)
    obtain ⟨-, -, -, ⟨u1, u2⟩, -⟩ := cls_nt c3 hkl
    rw [← hx] at u2
    obtain ⟨M4, e4, c4, o4⟩ := cls_num c3 (by simp only [List.length_append, List.length_singleton]; omega) h2p
    rw [nb] at c4
    have last : ∃ M6, (if n1 x = 1 then ((gR M4 10 1 100).bind fun x29 => (f_X1_addByte x29 58 M4).bind fun M31 => (gR M31 10 1 100).bind fun x32 => (gR M31 10 7 100).bind fun x33 => (gR M31 3 3 x33).bind fun x34 => (f_X5_get x34 (nI k) M31).bind fun x35 => (f_X1_addFlags x32 x35 M31).bind fun M37 => f_X11_writeNotices_136 (f_X11_writeNotices_10 fu) 100 (nI k) M37) else f_X11_writeNotices_136 (f_X11_writeNotices_10 fu) 100 (nI k) M4) = f_X11_writeNotices_10 fu 100 (nI (k + 1)) M6 ∧ Cls M6 I (wNt O x) S K B C H N E ∧ off M4 M6 100 616 := by
      unfold wNt
      rw [na, nb, ← hsy]
      by_cases h1 : n1 x = 1
      · rw [if_pos h1, if_pos h1]
        obtain ⟨M5, e5, c5, o5⟩ := cls_byte c4 (by simp only [List.length_append, List.length_singleton]; omega) byt_c.2.1
        obtain ⟨-, -, -, -, ⟨v1, v2⟩⟩ := cls_nt c5 hkl
        rw [← hx] at v2
        obtain ⟨M6, e6, c6, o6⟩ := cls_flg c5 (by simp only [List.length_append, List.length_singleton]; omega) (n3 x)
        rw [List.append_assoc] at c6
        refine ⟨M6, ?_, c6, o5.trans o6⟩
        simp only [c4.g1, e5, c5.g1, c5.g7, v1, v2, e6, bso, f_X11_writeNotices_136, nI_1]
      · rw [if_neg h1, if_neg h1]
        refine ⟨M4, ?_, by rw [List.append_nil]; exact c4, off.rf _ _ _⟩
        simp only [f_X11_writeNotices_136, nI_1]
    obtain ⟨M6, e6, c6, o6⟩ := last
    obtain ⟨M7, e7, c7, o7⟩ := ih (k + 1) fu M6 _ (by omega) (by omega) c6 (by omega)
    rw [hd, List.foldl_cons]
    refine ⟨M7, ?_, c7, (((((o1.trans o2).trans o3).trans o4)).trans o6).trans o7⟩
    simp only [f_X11_writeNotices_10, h.g7, zz, bso]
    rw [if_neg (by rw [nI_leI (by omega) (by omega)]; omega)]
    simp only [b1', b2, h.g1, e1, c1.g1, c1.g7, t1, t2, e2, c2.g1, bso]
    rw [sym_if (n1 x) (fun y => f_X11_writeNotices_83 (f_X11_writeNotices_10 fu) 100 (nI k) (n1 x) 103 y M2), ← hsy]
    simp only [f_X11_writeNotices_83, e3, c3.g1, c3.g7, u1, u2, e4, bso]
    rw [e6, e7]
theorem ref_wn_loop (hN : okN N) : ∀ (n k fu : Nat) (R : Rs) (O : List Int32), k + n = N.length → n < fu → ntR R N → outR R O → O.length + 11 * n ≤ 4000 →
    ∃ R', f_X12_writeNotices_12 fu m (nI k) (ov M m R) = some (nI ((N.drop k).foldl wNt O).length, ov M m R') ∧ outR R' ((N.drop k).foldl wNt O) ∧ kp [27] [] [11] R R' := by
  intro n
  induction n with
  | zero =>
    intro k fu R O hk hf hn ho hl
    obtain ⟨fu, rfl⟩ : ∃ x, fu = x + 1 := ⟨fu - 1, by omega⟩
    have l244 := hN.1
    have hd : N.drop k = [] := List.drop_eq_nil_of_le (by omega)
    rw [hd]
    refine ⟨R, ?_, ho, kp.rf _ _ _ _⟩
    simp only [f_X12_writeNotices_12, r_g5, hn.1, bso]
    rw [if_pos (by rw [nI_leI (by omega) (by omega)]; omega)]
    simp only [r_g27, ho.1, bso, List.foldl_nil]
  | succ n ih =>
    intro k fu R O hk hf hn ho hl
    obtain ⟨fu, rfl⟩ : ∃ x, fu = x + 1 := ⟨fu - 1, by omega⟩
    have l244 := hN.1
    have hkl : k < N.length := by omega
    have hd : N.drop k = ng N k :: N.drop (k + 1) := by
      rw [List.drop_eq_getElem_cons hkl, ng, List.getD_eq_getElem?_getD, List.getElem?_eq_getElem hkl]; rfl
    obtain ⟨p0, p2⟩ := hN.2 _ (ng_mem hkl)
    have s6 := wNt_len O p0 p2
    obtain ⟨x, hx⟩ : ∃ x, x = ng N k := ⟨_, rfl⟩
    have hq := hn.2 k hkl
    rw [← hx] at hd p0 p2 s6 hq
    obtain ⟨a, ha, ea⟩ := p0
    obtain ⟨b, hb, eb⟩ := p2
    have s1 := sep_len O
    have s2 := num1 a ha
    have s3 := num2 b hb
    have s4 := flB_len (n3 x)
    have na : nN (n0 x) = a := by rw [ea]; exact nN_n (by omega)
    have nb : nN (n2 x) = b := by rw [eb]; exact nN_n (by omega)
    have cell : ∀ {R1 : Rs} (i : Nat), i < 4 → kp [27] [] [11] R R1 → aI (ov M m R1) 0 (m + 3) (nI (4 * k + i)) = some (R.2.2.2 3 (4 * k + i)) := fun {R1} i hi kk => by
      rw [r_a3 M m R1 (show 4 * k + i < 4000 by omega), kk.2.2.2 3 (by simp)]
    have nts : ∀ {R1 : Rs}, kp [27] [] [11] R R1 → ntR R1 N := fun kk => ⟨(kk.2.1 5 (by simp)).trans hn.1, by rw [kk.2.2.2 3 (by simp)]; exact hn.2⟩
    have i1 : (4 * nI k) + 1 = nI (4 * k + 1) := by rw [nIm4]; exact nI_add _ 1
    have i2 : (4 * nI k) + 2 = nI (4 * k + 2) := by rw [nIm4]; exact nI_add _ 2
    have i3 : (4 * nI k) + 3 = nI (4 * k + 3) := by rw [nIm4]; exact nI_add _ 3
    obtain ⟨R1, e1, o1, k1⟩ := X12_gap_e (M := M) (m := m) ho (by omega)
    have c0 : aI (ov M m R1) 0 (m + 3) (nI (4 * k)) = some (n0 x) := by rw [← hq.1]; exact cell 0 (by omega) k1
    obtain ⟨R2, e2, o2, k2⟩ := X12_num_e (M := M) (m := m) o1 (v := a) (by omega) (by omega)
    rw [← ea] at e2
    have k2 := k1.trans k2
    have c1 : aI (ov M m R2) 0 (m + 3) (nI (4 * k + 1)) = some (n1 x) := by rw [← hq.2.1]; exact cell 1 (by omega) k2
    obtain ⟨sy, hsy⟩ : ∃ sy : Int32, sy = if n1 x = 0 then 45 else if n1 x = 1 then 61 else 43 := ⟨_, rfl⟩
    obtain ⟨R3, e3, o3, k3⟩ := X12_wr_e (M := M) (m := m) o2 (by rw [List.length_append]; omega) sy
    rw [show byt sy = sy by rw [hsy]; exact (sym_b _).1] at o3
    have k3 := k2.trans k3
    have c2 : aI (ov M m R3) 0 (m + 3) (nI (4 * k + 2)) = some (n2 x) := by rw [← hq.2.2.1]; exact cell 2 (by omega) k3
    obtain ⟨R4, e4, o4, k4⟩ := X12_num_e (M := M) (m := m) o3 (v := b) (by omega) (by simp only [List.length_append, List.length_singleton]; omega)
    rw [← eb] at e4
    have k4 := k3.trans k4
    have last : ∃ R6, (if n1 x = 1 then ((f_X12_write m 58 (ov M m R4)).bind fun M20 => (gR M20 11 4 m).bind fun x21 => (aI M20 0 x21 ((4 * nI k) + 3)).bind fun x22 => (f_X12_writeFlags m x22 M20).bind fun M24 => f_X12_writeNotices_114 (f_X12_writeNotices_12 fu) m (nI k) M24) else f_X12_writeNotices_114 (f_X12_writeNotices_12 fu) m (nI k) (ov M m R4)) = f_X12_writeNotices_12 fu m (nI (k + 1)) (ov M m R6) ∧ outR R6 (wNt O x) ∧ kp [27] [] [11] R R6 := by
      unfold wNt
      rw [na, nb, ← hsy]
      by_cases h1 : n1 x = 1
      · rw [if_pos h1, if_pos h1]
        obtain ⟨R5, e5, o5, k5⟩ := X12_wr_e (M := M) (m := m) o4 (by simp only [List.length_append, List.length_singleton]; omega) 58
        rw [byt_c.2.1] at o5
        have k5 := k4.trans k5
        have c3 : aI (ov M m R5) 0 (m + 3) (nI (4 * k + 3)) = some (n3 x) := by rw [← hq.2.2.2]; exact cell 3 (by omega) k5
        obtain ⟨R6, e6, o6, k6⟩ := X12_flags_e (M := M) (m := m) o5 (by simp only [List.length_append, List.length_singleton]; omega) (n3 x)
        rw [List.append_assoc] at o6
        refine ⟨R6, ?_, o6, k5.trans k6⟩
        simp only [e5, r_g4, i3, c3, e6, bso, f_X12_writeNotices_114, nI_1]
      · rw [if_neg h1, if_neg h1]
        refine ⟨R4, ?_, by rw [List.append_nil]; exact o4, k4⟩
        simp only [f_X12_writeNotices_114, nI_1]
    obtain ⟨R6, e6, o6, k6⟩ := last
    obtain ⟨R7, e7, o7, k7⟩ := ih (k + 1) fu R6 _ (by omega) (by omega) (nts k6) o6 (by omega)
    rw [hd, List.foldl_cons]
    refine ⟨R7, ?_, o7, k6.trans k7⟩
    simp only [f_X12_writeNotices_12, r_g5, hn.1, bso]
    rw [if_neg (by rw [nI_leI (by omega) (by omega)]; omega)]
    simp only [e1, r_g4, nIm4, c0, e2, bso]
    simp only [show nI (4 * k) + 1 = nI (4 * k + 1) from nI_add _ 1, c1, bso]
    rw [sym_if (n1 x) (fun y => f_X12_writeNotices_69 (f_X12_writeNotices_12 fu) m (nI k) (n1 x) m y (ov M m R2)), ← hsy]
    simp only [f_X12_writeNotices_69, e3, r_g4, i2, c2, e4, bso]
    rw [e6, e7]
theorem fold_len2 (xs : List Nt) (h : ∀ x ∈ xs, (∃ a : Nat, a < 4 ∧ n0 x = nI a) ∧ ∃ b : Nat, b < 100 ∧ n2 x = nI b) : ∀ (l : List Int32), (xs.foldl wNt l).length ≤ l.length + 11 * xs.length := by
  induction xs with
  | nil => intro l; exact Nat.le_refl _
  | cons x t ih =>
    intro l
    have h1 := wNt_len l (h x List.mem_cons_self).1 (h x List.mem_cons_self).2
    have h2 := ih (fun y hy => h y (List.mem_cons_of_mem _ hy)) (wNt l x)
    rw [List.foldl_cons, List.length_cons, Nat.mul_succ]
    omega
theorem cs_writeNotices (h : Cls M I O S K B C H N E) (hr : Ref R I O S K B C H N E) (w : okW c I O S K B C H N) : BothN (f_X11_writeNotices 100) (f_X12_writeNotices 716) M R (c + 1) := by
  have hN := w.2.2.2.2.2
  have l244 := hN.1
  obtain ⟨M1, e1, c1, o1⟩ := cls_clr h
  obtain ⟨M2, e2, c2, o2⟩ := cls_wn_loop (I := I) hN N.length 0 FU M1 [] (Nat.zero_add _) (by rw [FU_eq]; omega) c1 (by simp; omega)
  have e2 : f_X11_writeNotices_10 FU 100 0 M1 = _ := e2
  rw [List.drop_zero] at e2 c2
  obtain ⟨O', hO'⟩ : ∃ O', O' = N.foldl wNt [] := ⟨_, rfl⟩
  have hlen := fold_len2 N hN.2 []
  have hoB := fold_oB wNt (fun l x hl => wNt_oB hl x) N [] oB_nil
  rw [← hO'] at e2 c2 hlen hoB
  have w' := w.up (Nat.le_succ c)
  refine ⟨nI O'.length, I, O', S, K, B, C, H, N, E, ⟨M2, by rw [f_X11_writeNotices, h.ob]; simp only [h.g1, e1, e2, bso], o1.trans o2, c2⟩, fun Mx => ?_, ⟨w'.1, ⟨by simp at hlen; omega, hoB⟩, w'.2.2⟩⟩
  have hn : ntR (rsS (rsS R 0 0) 27 0) N := hr.2.2.2.1
  obtain ⟨R2, f2, q2, k2⟩ := ref_wn_loop (M := Mx) (m := 716) hN N.length 0 FU (rsS (rsS R 0 0) 27 0) [] (Nat.zero_add _) (by rw [FU_eq]; omega) hn ⟨rfl, fun k hk => absurd hk (Nat.not_lt_zero k)⟩ (by simp; omega)
  have f2 : f_X12_writeNotices_12 FU 716 0 (ov Mx 716 (rsS (rsS R 0 0) 27 0)) = _ := f2
  rw [List.drop_zero, ← hO'] at f2 q2
  have kk : kp [0, 27] [] [11] R R2 := (((kp_S R 0 0).up (by simp) (by simp) (by simp) : kp [0, 27] [] [11] R (rsS R 0 0)).trans ((kp_S _ 27 0).up (by simp) (by simp) (by simp))).trans (k2.up (by simp) (by simp) (by simp))
  refine ⟨R2, ?_, hr.upO kk q2⟩
  simp only [f_X12_writeNotices, ov_ob, r_p0, r_p27, bso, f2]
end
