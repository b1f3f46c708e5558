/-! PURE: the law's calls, 4 -/
theorem blk_2869 : Step f_L_law_2869 := by
  intro rc c k L xs M hc hk hL hM hR
  obtain ⟨R, I, O, S, K, B, C, H, N, E, hrA, h, hr, w, hA⟩ := hR
  obtain ⟨t, M2, v, M3, e1, m2, e2, e3, e4, m3, r3⟩ := (cs_setLimit h hr w (xs (k + 1))).go hrA hA
  have e1 : f_L_setLimit 100 (xs (k + 1)) 728 M = some (t, M2) := e1
  have a1 := sc_at (i := 1) hM (show k + 1 < L by omega) hL
  have b1 := sc_at (i := 1) (m2.trans hM) (show k + 1 < L by omega) hL
  have a1 : sC M 42 (nI k + 1) = _ := a1
  have b1 : sC M2 42 (nI k + 1) = _ := b1
  refine ⟨M3, ?_, m3.trans hM, r3⟩
  simp only [f_L_law_2869, a1, b1, e1, e2, e3, bso, if_true]
  exact fin_L e4
theorem blk_2925 : Step f_L_law_2925 := by
  intro rc c k L xs M hc hk hL hM hR
  obtain ⟨R, I, O, S, K, B, C, H, N, E, hrA, h, hr, w, hA⟩ := hR
  obtain ⟨t, M2, v, M3, e1, m2, e2, e3, e4, m3, r3⟩ := (cs_keep h hr w (xs (k + 1))).go hrA hA
  have e1 : f_L_keep 100 (xs (k + 1)) 728 M = some (t, M2) := e1
  have a1 := sc_at (i := 1) hM (show k + 1 < L by omega) hL
  have b1 := sc_at (i := 1) (m2.trans hM) (show k + 1 < L by omega) hL
  have a1 : sC M 42 (nI k + 1) = _ := a1
  have b1 : sC M2 42 (nI k + 1) = _ := b1
  refine ⟨M3, ?_, m3.trans hM, r3⟩
  simp only [f_L_law_2925, a1, b1, e1, e2, e3, bso, if_true]
  exact fin_L e4
theorem blk_2981 : Step f_L_law_2981 := by
  intro rc c k L xs M hc hk hL hM hR
  obtain ⟨R, I, O, S, K, B, C, H, N, E, hrA, h, hr, w, hA⟩ := hR
  obtain ⟨t, M2, v, M3, e1, m2, e2, e3, e4, m3, r3⟩ := (cs_restore h hr w (xs (k + 1))).go hrA hA
  have e1 : f_L_restore 100 (xs (k + 1)) 728 M = some (t, M2) := e1
  have a1 := sc_at (i := 1) hM (show k + 1 < L by omega) hL
  have b1 := sc_at (i := 1) (m2.trans hM) (show k + 1 < L by omega) hL
  have a1 : sC M 42 (nI k + 1) = _ := a1
  have b1 : sC M2 42 (nI k + 1) = _ := b1
  refine ⟨M3, ?_, m3.trans hM, r3⟩
  simp only [f_L_law_2981, a1, b1, e1, e2, e3, bso, if_true]
  exact fin_L e4
theorem blk_3037 : Step f_L_law_3037 := by
  intro rc c k L xs M hc hk hL hM hR
  obtain ⟨R, I, O, S, K, B, C, H, N, E, hrA, h, hr, w, hA⟩ := hR
  obtain ⟨t, M2, v, M3, e1, m2, e2, e3, e4, m3, r3⟩ := (cs_undo h hr w ).go hrA hA
  have e1 : f_L_undo 100  728 M = some (t, M2) := e1
  refine ⟨M3, ?_, m3.trans hM, r3⟩
  simp only [f_L_law_3037, e1, e2, e3, bso, if_true]
  exact fin_L e4
theorem blk_3081 : Step f_L_law_3081 := by
  intro rc c k L xs M hc hk hL hM hR
  obtain ⟨R, I, O, S, K, B, C, H, N, E, hrA, h, hr, w, hA⟩ := hR
  obtain ⟨e1, e2⟩ := cs_undoCount h hr
  obtain ⟨M3, e3, m3, r3⟩ := ask_go hrA hA h hr w e2
  refine ⟨M3, ?_, m3.trans hM, r3⟩
  simp only [f_L_law_3081, e1, e3, bso, if_true]
  rfl
theorem blk_3094 : Step f_L_law_3094 := by
  intro rc c k L xs M hc hk hL hM hR
  obtain ⟨R, I, O, S, K, B, C, H, N, E, hrA, h, hr, w, hA⟩ := hR
  obtain ⟨t, M2, v, M3, e1, m2, e2, e3, e4, m3, r3⟩ := (cs_writeBox h hr w (xs (k + 1))).go hrA hA
  have e1 : f_L_writeBox 100 (xs (k + 1)) 728 M = some (t, M2) := e1
  have a1 := sc_at (i := 1) hM (show k + 1 < L by omega) hL
  have b1 := sc_at (i := 1) (m2.trans hM) (show k + 1 < L by omega) hL
  have a1 : sC M 42 (nI k + 1) = _ := a1
  have b1 : sC M2 42 (nI k + 1) = _ := b1
  refine ⟨M3, ?_, m3.trans hM, r3⟩
  simp only [f_L_law_3094, a1, b1, e1, e2, e3, bso, if_true]
  exact fin_L e4
theorem blk_3150 : Step f_L_law_3150 := by
  intro rc c k L xs M hc hk hL hM hR
  obtain ⟨R, I, O, S, K, B, C, H, N, E, hrA, h, hr, w, hA⟩ := hR
  obtain ⟨t, M2, v, M3, e1, m2, e2, e3, e4, m3, r3⟩ := (cs_writeView h hr w (xs (k + 1))).go hrA hA
  have e1 : f_L_writeView 100 (xs (k + 1)) 728 M = some (t, M2) := e1
  have a1 := sc_at (i := 1) hM (show k + 1 < L by omega) hL
  have b1 := sc_at (i := 1) (m2.trans hM) (show k + 1 < L by omega) hL
  have a1 : sC M 42 (nI k + 1) = _ := a1
  have b1 : sC M2 42 (nI k + 1) = _ := b1
  refine ⟨M3, ?_, m3.trans hM, r3⟩
  simp only [f_L_law_3150, a1, b1, e1, e2, e3, bso, if_true]
  exact fin_L e4
theorem blk_3206 : Step f_L_law_3206 := by
  intro rc c k L xs M hc hk hL hM hR
  obtain ⟨R, I, O, S, K, B, C, H, N, E, hrA, h, hr, w, hA⟩ := hR
  obtain ⟨v, M2, M3, e1, e2, m3, r3⟩ := (cs_writeNotices h hr w).go hrA hA
  refine ⟨M3, ?_, m3.trans hM, r3⟩
  simp only [f_L_law_3206, e1, e2, bso, if_true]
  rfl
theorem blk_3219 : Step f_L_law_3219 := by
  intro rc c k L xs M hc hk hL hM hR
  obtain ⟨R, I, O, S, K, B, C, H, N, E, hrA, h, hr, w, hA⟩ := hR
  obtain ⟨t, M2, v, M3, e1, m2, e2, e3, e4, m3, r3⟩ := (cs_outputByte h hr w (xs (k + 1))).go hrA hA
  have e1 : f_L_outputByte 100 (xs (k + 1)) 728 M = some (t, M2) := e1
  have a1 := sc_at (i := 1) hM (show k + 1 < L by omega) hL
  have b1 := sc_at (i := 1) (m2.trans hM) (show k + 1 < L by omega) hL
  have a1 : sC M 42 (nI k + 1) = _ := a1
  have b1 : sC M2 42 (nI k + 1) = _ := b1
  refine ⟨M3, ?_, m3.trans hM, r3⟩
  simp only [f_L_law_3219, a1, b1, e1, e2, e3, bso, if_true]
  exact fin_L e4
