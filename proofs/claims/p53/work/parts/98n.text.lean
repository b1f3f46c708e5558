/-! PURE, p53: the class takes a text and reads it -/
section
variable {M : Mem} {I O : List Int32} {S : St} {K : Nat → St} {B : Nat → Bool} {C : Nat} {H : Nat → St} {N : List Nt} {E : Er}
theorem c_trunc (h : Cls M I O S K B C H N E) (hI : I.length ≤ 700) {n : Nat} (s2 : n ≤ I.length) : ∃ M', f_X11_truncate 100 (nI n) M = some (.inl (), M') ∧ Cls M' (I.take n) O S K B C H N E ∧ off M M' 100 616 := by
  have sz : f_X1_size 101 M = some (nI I.length) := X1_size_e h.i
  obtain ⟨M1, e1, y1, o1⟩ := X1_cut_e h.i (n := n) s2
  refine ⟨M1, ?_, h.mI y1 o1, o1.wide (by omega) (by omega)⟩
  rw [f_X11_truncate, h.ob, if_neg (Int32.not_lt.mpr (nI_ge0 (by omega)))]
  simp only [h.g0, sz, bso]
  rw [if_pos (by rw [nI_leI (by omega) (by omega)]; exact s2)]
  simp only [e1, bso]
theorem c_append (h : Cls M I O S K B C H N E) (e : I.length + 20 ≤ 700) (v1 v2 v3 v4 v5 : Int32) : ∃ M', f_X11_append 100 v1 v2 v3 v4 v5 M = some (.inl (nI (I.length + 20)), M') ∧ Cls M' (I ++ (four v1 ++ (four v2 ++ (four v3 ++ (four v4 ++ four v5))))) O S K B C H N E ∧ off M M' 100 616 := by
  have sz : f_X1_size 101 M = some (nI I.length) := X1_size_e h.i
  have le1 : (nI I.length + 20 ≤ 700) = (I.length + 20 ≤ 700) := leI (show nI I.length + 20 = nI (I.length + 20) from nI_add _ 20) (show (700 : Int32) = nI 700 from rfl) (by omega) (by omega)
  obtain ⟨M1, e1, c1, o1⟩ := cls_four h v1 (by omega)
  obtain ⟨M2, e2, c2, o2⟩ := cls_four c1 v2 (by simp [four_len]; omega)
  obtain ⟨M3, e3, c3, o3⟩ := cls_four c2 v3 (by simp [four_len]; omega)
  obtain ⟨M4, e4, c4, o4⟩ := cls_four c3 v4 (by simp [four_len]; omega)
  obtain ⟨M5, e5, c5, o5⟩ := cls_four c4 v5 (by simp [four_len]; omega)
  have eI : I ++ four v1 ++ four v2 ++ four v3 ++ four v4 ++ four v5 = I ++ (four v1 ++ (four v2 ++ (four v3 ++ (four v4 ++ four v5)))) := by simp only [List.append_assoc]
  rw [eI] at c5
  have hlen : (I ++ (four v1 ++ (four v2 ++ (four v3 ++ (four v4 ++ four v5))))).length = I.length + 20 := by simp [four_len]
  have sz5 : f_X1_size 101 M5 = some (nI (I.length + 20)) := by rw [← hlen]; exact X1_size_e c5.i
  refine ⟨M5, ?_, c5, (((o1.trans o2).trans o3).trans o4).trans o5⟩
  rw [f_X11_append, h.ob]
  simp only [h.g0, sz, bso]
  rw [if_pos (by rw [le1]; exact e)]
  simp only [e1, bso, c1.g0, e2, c2.g0, e3, c3.g0, e4, c4.g0, e5, c5.g0, sz5]
theorem c_load (h : Cls M I O S K B C H N E) {Q : St → Prop} (hP : ∀ Sl : St, ∃ P, pTxt I (clr Sl) = .inl P ∧ Q P.2.1) :
    ∃ M' S' C' H' T, f_X11_load 100 M = some (nI (cntN T), M') ∧ Cls M' [] O S' K B C' H' [] (0, -1) ∧ off M M' 100 616 ∧ okS 0 S' ∧ agr S' (entS T) ∧ pOK T ∧ Q T := by
  have hq := h
  obtain ⟨-, hy, -, -, ⟨Sl, hl⟩, -, -, -, -, -, -, ht, hp, -⟩ := hq
  obtain ⟨M1, T, e1, p1, wf1, en, o1⟩ := X9_into_e (rp := 714) (tk := 708) (rt := 101) (rl := 164) (by unfold apt; omega) (S := Sl) (l := I) ⟨hp, ht, hl, hy⟩
  have c1 := h.mP p1 o1
  have hT : stA M1 164 T := p1.2.2.1
  have o1' : off M M1 100 616 := ⟨o1.1, fun q hq => o1.2 q (by omega) (by omega)⟩
  obtain ⟨P, hP, hQ⟩ := hP Sl
  rw [hP] at en
  obtain ⟨⟨X, A, n, hX, -, -, -, -, -, -, -, -, -, -, -, -, x13, x14⟩, hE⟩ := en
  obtain ⟨M2, e2, c2, o2, hT2⟩ := finish_e c1 hT ((tkM_13 hX).trans (congrArg some x13)) (fun M' o => (tkM_14 hX o).trans (congrArg some x14))
  obtain ⟨M3, S0, e3, g3, c3, o3, hT3⟩ := beginAct_l c2 hT2
  obtain ⟨M4, S4, e4, s4, o4, g4⟩ := X8_take_e (r := 105) (r2 := 164) (by omega) c3.s hT3
  have c4 := c3.mS s4 o4
  have ga : agr S4 (entS P.2.1) := ⟨g4.1.trans hE.agr.1, g4.2.1.trans hE.agr.2.1, g4.2.2.1.trans hE.agr.2.2.1, fun k hk => (g4.2.2.2.1 k (by rw [hE.agr.2.1]; exact hk)).trans (hE.agr.2.2.2.1 k hk), fun k hk => (g4.2.2.2.2 k (by rw [hE.agr.2.2.1]; exact hk)).trans (hE.agr.2.2.2.2 k hk)⟩
  have ct : f_X8_countMessages 105 M4 = some (nI (cntN P.2.1)) := by
    rw [X8_count_e c4.s, cntM_agr ga]
    exact congrArg some (cntM_N P.2.1)
  obtain ⟨hL, hpk⟩ := pTxt_pOK hP (clr_pOK Sl).2 (clr_pOK Sl).1
  have oks : okS 0 S4 := (entS_ok hL hpk).agr ga.sy
  refine ⟨M4, S4, upC C, push S0 H, P.2.1, ?_, c4, ((o1'.trans o2).trans o3).trans (o4.wide (by omega) (by omega)), oks, ga, hpk, hQ⟩
  have g11 : gI M2 10 11 100 = some 0 := c2.g11
  simp only [f_X11_load, h.ob, h.g9, h.g3, e1, e2, g11, bso, if_true, e3, c3.g2, c3.g3, e4, c4.g2, ct]
end
