/-! PURE: the law's calls, 3 -/
theorem blk_1844 : Step f_L_law_1844 := by
  intro rc c k L xs M hc hk hL hM hR
  obtain ⟨R, I, O, S, K, B, C, H, N, E, hrA, h, hr, w, hA⟩ := hR
  obtain ⟨t, M2, v, M3, e1, m2, e2, e3, e4, m3, r3⟩ := (cs_noop h hr w (xs (k + 1))).go hrA hA
  have e1 : f_L_noop 100 (xs (k + 1)) 728 M = some (t, M2) := e1
  have a1 := sc_at (i := 1) hM (show k + 1 < L by omega) hL
  have b1 := sc_at (i := 1) (m2.trans hM) (show k + 1 < L by omega) hL
  have a1 : sC M 42 (nI k + 1) = _ := a1
  have b1 : sC M2 42 (nI k + 1) = _ := b1
  refine ⟨M3, ?_, m3.trans hM, r3⟩
  simp only [f_L_law_1844, a1, b1, e1, e2, e3, bso, if_true]
  exact fin_L e4
theorem blk_1900 : Step f_L_law_1900 := by
  intro rc c k L xs M hc hk hL hM hR
  obtain ⟨R, I, O, S, K, B, C, H, N, E, hrA, h, hr, w, hA⟩ := hR
  obtain ⟨t, M2, v, M3, e1, m2, e2, e3, e4, m3, r3⟩ := (cs_startIdle h hr w (xs (k + 1))).go hrA hA
  have e1 : f_L_startIdle 100 (xs (k + 1)) 728 M = some (t, M2) := e1
  have a1 := sc_at (i := 1) hM (show k + 1 < L by omega) hL
  have b1 := sc_at (i := 1) (m2.trans hM) (show k + 1 < L by omega) hL
  have a1 : sC M 42 (nI k + 1) = _ := a1
  have b1 : sC M2 42 (nI k + 1) = _ := b1
  refine ⟨M3, ?_, m3.trans hM, r3⟩
  simp only [f_L_law_1900, a1, b1, e1, e2, e3, bso, if_true]
  exact fin_L e4
theorem blk_1956 : Step f_L_law_1956 := by
  intro rc c k L xs M hc hk hL hM hR
  obtain ⟨R, I, O, S, K, B, C, H, N, E, hrA, h, hr, w, hA⟩ := hR
  obtain ⟨t, M2, v, M3, e1, m2, e2, e3, e4, m3, r3⟩ := (cs_stopIdle h hr w (xs (k + 1))).go hrA hA
  have e1 : f_L_stopIdle 100 (xs (k + 1)) 728 M = some (t, M2) := e1
  have a1 := sc_at (i := 1) hM (show k + 1 < L by omega) hL
  have b1 := sc_at (i := 1) (m2.trans hM) (show k + 1 < L by omega) hL
  have a1 : sC M 42 (nI k + 1) = _ := a1
  have b1 : sC M2 42 (nI k + 1) = _ := b1
  refine ⟨M3, ?_, m3.trans hM, r3⟩
  simp only [f_L_law_1956, a1, b1, e1, e2, e3, bso, if_true]
  exact fin_L e4
theorem blk_2012 : Step f_L_law_2012 := by
  intro rc c k L xs M hc hk hL hM hR
  obtain ⟨R, I, O, S, K, B, C, H, N, E, hrA, h, hr, w, hA⟩ := hR
  by_cases z : xs (k + 4) = 0
  · skip
    obtain ⟨t, M2, v, M3, e1, m2, e2, e3, e4, m3, r3⟩ := (cs_fetch h hr w (xs (k + 1)) (xs (k + 2)) (xs (k + 3)) false).go hrA hA
    have e1 : f_L_fetch 100 (xs (k + 1)) (xs (k + 2)) (xs (k + 3)) false 728 M = some (t, M2) := e1
    have a1 := sc_at (i := 1) hM (show k + 1 < L by omega) hL
    have a2 := sc_at (i := 2) hM (show k + 2 < L by omega) hL
    have a3 := sc_at (i := 3) hM (show k + 3 < L by omega) hL
    have a4 := sc_at (i := 4) hM (show k + 4 < L by omega) hL
    have b1 := sc_at (i := 1) (m2.trans hM) (show k + 1 < L by omega) hL
    have b2 := sc_at (i := 2) (m2.trans hM) (show k + 2 < L by omega) hL
    have b3 := sc_at (i := 3) (m2.trans hM) (show k + 3 < L by omega) hL
    have b4 := sc_at (i := 4) (m2.trans hM) (show k + 4 < L by omega) hL
    have a1 : sC M 42 (nI k + 1) = _ := a1
    have a2 : sC M 42 (nI k + 2) = _ := a2
    have a3 : sC M 42 (nI k + 3) = _ := a3
    have a4 : sC M 42 (nI k + 4) = _ := a4
    have b1 : sC M2 42 (nI k + 1) = _ := b1
    have b2 : sC M2 42 (nI k + 2) = _ := b2
    have b3 : sC M2 42 (nI k + 3) = _ := b3
    have b4 : sC M2 42 (nI k + 4) = _ := b4
    refine ⟨M3, ?_, m3.trans hM, r3⟩
    simp only [f_L_law_2012, f_L_law_2045, f_L_law_2084, a1, a2, a3, a4, b1, b2, b3, b4, e1, e2, e3, bso, if_true, if_pos z]
    exact fin_L e4
  · skip
    obtain ⟨t, M2, v, M3, e1, m2, e2, e3, e4, m3, r3⟩ := (cs_fetch h hr w (xs (k + 1)) (xs (k + 2)) (xs (k + 3)) true).go hrA hA
    have e1 : f_L_fetch 100 (xs (k + 1)) (xs (k + 2)) (xs (k + 3)) true 728 M = some (t, M2) := e1
    have a1 := sc_at (i := 1) hM (show k + 1 < L by omega) hL
    have a2 := sc_at (i := 2) hM (show k + 2 < L by omega) hL
    have a3 := sc_at (i := 3) hM (show k + 3 < L by omega) hL
    have a4 := sc_at (i := 4) hM (show k + 4 < L by omega) hL
    have b1 := sc_at (i := 1) (m2.trans hM) (show k + 1 < L by omega) hL
    have b2 := sc_at (i := 2) (m2.trans hM) (show k + 2 < L by omega) hL
    have b3 := sc_at (i := 3) (m2.trans hM) (show k + 3 < L by omega) hL
    have b4 := sc_at (i := 4) (m2.trans hM) (show k + 4 < L by omega) hL
    have a1 : sC M 42 (nI k + 1) = _ := a1
    have a2 : sC M 42 (nI k + 2) = _ := a2
    have a3 : sC M 42 (nI k + 3) = _ := a3
    have a4 : sC M 42 (nI k + 4) = _ := a4
    have b1 : sC M2 42 (nI k + 1) = _ := b1
    have b2 : sC M2 42 (nI k + 2) = _ := b2
    have b3 : sC M2 42 (nI k + 3) = _ := b3
    have b4 : sC M2 42 (nI k + 4) = _ := b4
    refine ⟨M3, ?_, m3.trans hM, r3⟩
    simp only [f_L_law_2012, f_L_law_2045, f_L_law_2084, a1, a2, a3, a4, b1, b2, b3, b4, e1, e2, e3, bso, if_true, if_neg z]
    exact fin_L e4
theorem blk_2120 : Step f_L_law_2120 := by
  intro rc c k L xs M hc hk hL hM hR
  obtain ⟨R, I, O, S, K, B, C, H, N, E, hrA, h, hr, w, hA⟩ := hR
  by_cases z : xs (k + 6) = 0
  · skip
    obtain ⟨t, M2, v, M3, e1, m2, e2, e3, e4, m3, r3⟩ := (cs_store h hr w (xs (k + 1)) (xs (k + 2)) (xs (k + 3)) (xs (k + 4)) (xs (k + 5)) false).go hrA hA
    have e1 : f_L_store 100 (xs (k + 1)) (xs (k + 2)) (xs (k + 3)) (xs (k + 4)) (xs (k + 5)) false 728 M = some (t, M2) := e1
    have a1 := sc_at (i := 1) hM (show k + 1 < L by omega) hL
    have a2 := sc_at (i := 2) hM (show k + 2 < L by omega) hL
    have a3 := sc_at (i := 3) hM (show k + 3 < L by omega) hL
    have a4 := sc_at (i := 4) hM (show k + 4 < L by omega) hL
    have a5 := sc_at (i := 5) hM (show k + 5 < L by omega) hL
    have a6 := sc_at (i := 6) hM (show k + 6 < L by omega) hL
    have b1 := sc_at (i := 1) (m2.trans hM) (show k + 1 < L by omega) hL
    have b2 := sc_at (i := 2) (m2.trans hM) (show k + 2 < L by omega) hL
    have b3 := sc_at (i := 3) (m2.trans hM) (show k + 3 < L by omega) hL
    have b4 := sc_at (i := 4) (m2.trans hM) (show k + 4 < L by omega) hL
    have b5 := sc_at (i := 5) (m2.trans hM) (show k + 5 < L by omega) hL
    have b6 := sc_at (i := 6) (m2.trans hM) (show k + 6 < L by omega) hL
    have a1 : sC M 42 (nI k + 1) = _ := a1
    have a2 : sC M 42 (nI k + 2) = _ := a2
    have a3 : sC M 42 (nI k + 3) = _ := a3
    have a4 : sC M 42 (nI k + 4) = _ := a4
    have a5 : sC M 42 (nI k + 5) = _ := a5
    have a6 : sC M 42 (nI k + 6) = _ := a6
    have b1 : sC M2 42 (nI k + 1) = _ := b1
    have b2 : sC M2 42 (nI k + 2) = _ := b2
    have b3 : sC M2 42 (nI k + 3) = _ := b3
    have b4 : sC M2 42 (nI k + 4) = _ := b4
    have b5 : sC M2 42 (nI k + 5) = _ := b5
    have b6 : sC M2 42 (nI k + 6) = _ := b6
    refine ⟨M3, ?_, m3.trans hM, r3⟩
    simp only [f_L_law_2120, f_L_law_2166, f_L_law_2218, a1, a2, a3, a4, a5, a6, b1, b2, b3, b4, b5, b6, e1, e2, e3, bso, if_true, if_pos z]
    exact fin_L e4
  · skip
    obtain ⟨t, M2, v, M3, e1, m2, e2, e3, e4, m3, r3⟩ := (cs_store h hr w (xs (k + 1)) (xs (k + 2)) (xs (k + 3)) (xs (k + 4)) (xs (k + 5)) true).go hrA hA
    have e1 : f_L_store 100 (xs (k + 1)) (xs (k + 2)) (xs (k + 3)) (xs (k + 4)) (xs (k + 5)) true 728 M = some (t, M2) := e1
    have a1 := sc_at (i := 1) hM (show k + 1 < L by omega) hL
    have a2 := sc_at (i := 2) hM (show k + 2 < L by omega) hL
    have a3 := sc_at (i := 3) hM (show k + 3 < L by omega) hL
    have a4 := sc_at (i := 4) hM (show k + 4 < L by omega) hL
    have a5 := sc_at (i := 5) hM (show k + 5 < L by omega) hL
    have a6 := sc_at (i := 6) hM (show k + 6 < L by omega) hL
    have b1 := sc_at (i := 1) (m2.trans hM) (show k + 1 < L by omega) hL
    have b2 := sc_at (i := 2) (m2.trans hM) (show k + 2 < L by omega) hL
    have b3 := sc_at (i := 3) (m2.trans hM) (show k + 3 < L by omega) hL
    have b4 := sc_at (i := 4) (m2.trans hM) (show k + 4 < L by omega) hL
    have b5 := sc_at (i := 5) (m2.trans hM) (show k + 5 < L by omega) hL
    have b6 := sc_at (i := 6) (m2.trans hM) (show k + 6 < L by omega) hL
    have a1 : sC M 42 (nI k + 1) = _ := a1
    have a2 : sC M 42 (nI k + 2) = _ := a2
    have a3 : sC M 42 (nI k + 3) = _ := a3
    have a4 : sC M 42 (nI k + 4) = _ := a4
    have a5 : sC M 42 (nI k + 5) = _ := a5
    have a6 : sC M 42 (nI k + 6) = _ := a6
    have b1 : sC M2 42 (nI k + 1) = _ := b1
    have b2 : sC M2 42 (nI k + 2) = _ := b2
    have b3 : sC M2 42 (nI k + 3) = _ := b3
    have b4 : sC M2 42 (nI k + 4) = _ := b4
    have b5 : sC M2 42 (nI k + 5) = _ := b5
    have b6 : sC M2 42 (nI k + 6) = _ := b6
    refine ⟨M3, ?_, m3.trans hM, r3⟩
    simp only [f_L_law_2120, f_L_law_2166, f_L_law_2218, a1, a2, a3, a4, a5, a6, b1, b2, b3, b4, b5, b6, e1, e2, e3, bso, if_true, if_neg z]
    exact fin_L e4
theorem blk_2254 : Step f_L_law_2254 := by
  intro rc c k L xs M hc hk hL hM hR
  obtain ⟨R, I, O, S, K, B, C, H, N, E, hrA, h, hr, w, hA⟩ := hR
  obtain ⟨t, M2, v, M3, e1, m2, e2, e3, e4, m3, r3⟩ := (cs_uidStore h hr w (xs (k + 1)) (xs (k + 2)) (xs (k + 3)) (xs (k + 4)) (xs (k + 5))).go hrA hA
  have e1 : f_L_uidStore 100 (xs (k + 1)) (xs (k + 2)) (xs (k + 3)) (xs (k + 4)) (xs (k + 5)) 728 M = some (t, M2) := e1
  have a1 := sc_at (i := 1) hM (show k + 1 < L by omega) hL
  have a2 := sc_at (i := 2) hM (show k + 2 < L by omega) hL
  have a3 := sc_at (i := 3) hM (show k + 3 < L by omega) hL
  have a4 := sc_at (i := 4) hM (show k + 4 < L by omega) hL
  have a5 := sc_at (i := 5) hM (show k + 5 < L by omega) hL
  have b1 := sc_at (i := 1) (m2.trans hM) (show k + 1 < L by omega) hL
  have b2 := sc_at (i := 2) (m2.trans hM) (show k + 2 < L by omega) hL
  have b3 := sc_at (i := 3) (m2.trans hM) (show k + 3 < L by omega) hL
  have b4 := sc_at (i := 4) (m2.trans hM) (show k + 4 < L by omega) hL
  have b5 := sc_at (i := 5) (m2.trans hM) (show k + 5 < L by omega) hL
  have a1 : sC M 42 (nI k + 1) = _ := a1
  have a2 : sC M 42 (nI k + 2) = _ := a2
  have a3 : sC M 42 (nI k + 3) = _ := a3
  have a4 : sC M 42 (nI k + 4) = _ := a4
  have a5 : sC M 42 (nI k + 5) = _ := a5
  have b1 : sC M2 42 (nI k + 1) = _ := b1
  have b2 : sC M2 42 (nI k + 2) = _ := b2
  have b3 : sC M2 42 (nI k + 3) = _ := b3
  have b4 : sC M2 42 (nI k + 4) = _ := b4
  have b5 : sC M2 42 (nI k + 5) = _ := b5
  refine ⟨M3, ?_, m3.trans hM, r3⟩
  simp only [f_L_law_2254, a1, a2, a3, a4, a5, b1, b2, b3, b4, b5, e1, e2, e3, bso, if_true]
  exact fin_L e4
theorem blk_2413 : Step f_L_law_2413 := by
  intro rc c k L xs M hc hk hL hM hR
  obtain ⟨R, I, O, S, K, B, C, H, N, E, hrA, h, hr, w, hA⟩ := hR
  obtain ⟨t, M2, v, M3, e1, m2, e2, e3, e4, m3, r3⟩ := (cs_expunge h hr w (xs (k + 1))).go hrA hA
  have e1 : f_L_expunge 100 (xs (k + 1)) 728 M = some (t, M2) := e1
  have a1 := sc_at (i := 1) hM (show k + 1 < L by omega) hL
  have b1 := sc_at (i := 1) (m2.trans hM) (show k + 1 < L by omega) hL
  have a1 : sC M 42 (nI k + 1) = _ := a1
  have b1 : sC M2 42 (nI k + 1) = _ := b1
  refine ⟨M3, ?_, m3.trans hM, r3⟩
  simp only [f_L_law_2413, a1, b1, e1, e2, e3, bso, if_true]
  exact fin_L e4
theorem blk_2469 : Step f_L_law_2469 := by
  intro rc c k L xs M hc hk hL hM hR
  obtain ⟨R, I, O, S, K, B, C, H, N, E, hrA, h, hr, w, hA⟩ := hR
  obtain ⟨t, M2, v, M3, e1, m2, e2, e3, e4, m3, r3⟩ := (cs_uidExpunge h hr w (xs (k + 1)) (xs (k + 2)) (xs (k + 3))).go hrA hA
  have e1 : f_L_uidExpunge 100 (xs (k + 1)) (xs (k + 2)) (xs (k + 3)) 728 M = some (t, M2) := e1
  have a1 := sc_at (i := 1) hM (show k + 1 < L by omega) hL
  have a2 := sc_at (i := 2) hM (show k + 2 < L by omega) hL
  have a3 := sc_at (i := 3) hM (show k + 3 < L by omega) hL
  have b1 := sc_at (i := 1) (m2.trans hM) (show k + 1 < L by omega) hL
  have b2 := sc_at (i := 2) (m2.trans hM) (show k + 2 < L by omega) hL
  have b3 := sc_at (i := 3) (m2.trans hM) (show k + 3 < L by omega) hL
  have a1 : sC M 42 (nI k + 1) = _ := a1
  have a2 : sC M 42 (nI k + 2) = _ := a2
  have a3 : sC M 42 (nI k + 3) = _ := a3
  have b1 : sC M2 42 (nI k + 1) = _ := b1
  have b2 : sC M2 42 (nI k + 2) = _ := b2
  have b3 : sC M2 42 (nI k + 3) = _ := b3
  refine ⟨M3, ?_, m3.trans hM, r3⟩
  simp only [f_L_law_2469, a1, a2, a3, b1, b2, b3, e1, e2, e3, bso, if_true]
  exact fin_L e4
theorem blk_2549 : Step f_L_law_2549 := by
  intro rc c k L xs M hc hk hL hM hR
  obtain ⟨R, I, O, S, K, B, C, H, N, E, hrA, h, hr, w, hA⟩ := hR
  obtain ⟨t, M2, v, M3, e1, m2, e2, e3, e4, m3, r3⟩ := (cs_copy h hr w (show c ≤ 1000 by omega) (xs (k + 1)) (xs (k + 2)) (xs (k + 3)) (xs (k + 4))).go hrA hA
  have e1 : f_L_copy 100 (xs (k + 1)) (xs (k + 2)) (xs (k + 3)) (xs (k + 4)) 728 M = some (t, M2) := e1
  have a1 := sc_at (i := 1) hM (show k + 1 < L by omega) hL
  have a2 := sc_at (i := 2) hM (show k + 2 < L by omega) hL
  have a3 := sc_at (i := 3) hM (show k + 3 < L by omega) hL
  have a4 := sc_at (i := 4) hM (show k + 4 < L by omega) hL
  have b1 := sc_at (i := 1) (m2.trans hM) (show k + 1 < L by omega) hL
  have b2 := sc_at (i := 2) (m2.trans hM) (show k + 2 < L by omega) hL
  have b3 := sc_at (i := 3) (m2.trans hM) (show k + 3 < L by omega) hL
  have b4 := sc_at (i := 4) (m2.trans hM) (show k + 4 < L by omega) hL
  have a1 : sC M 42 (nI k + 1) = _ := a1
  have a2 : sC M 42 (nI k + 2) = _ := a2
  have a3 : sC M 42 (nI k + 3) = _ := a3
  have a4 : sC M 42 (nI k + 4) = _ := a4
  have b1 : sC M2 42 (nI k + 1) = _ := b1
  have b2 : sC M2 42 (nI k + 2) = _ := b2
  have b3 : sC M2 42 (nI k + 3) = _ := b3
  have b4 : sC M2 42 (nI k + 4) = _ := b4
  refine ⟨M3, ?_, m3.trans hM, r3⟩
  simp only [f_L_law_2549, a1, a2, a3, a4, b1, b2, b3, b4, e1, e2, e3, bso, if_true]
  exact fin_L e4
theorem blk_2641 : Step f_L_law_2641 := by
  intro rc c k L xs M hc hk hL hM hR
  obtain ⟨R, I, O, S, K, B, C, H, N, E, hrA, h, hr, w, hA⟩ := hR
  obtain ⟨t, M2, v, M3, e1, m2, e2, e3, e4, m3, r3⟩ := (cs_move h hr w (show c ≤ 1000 by omega) (xs (k + 1)) (xs (k + 2)) (xs (k + 3)) (xs (k + 4))).go hrA hA
  have e1 : f_L_move 100 (xs (k + 1)) (xs (k + 2)) (xs (k + 3)) (xs (k + 4)) 728 M = some (t, M2) := e1
  have a1 := sc_at (i := 1) hM (show k + 1 < L by omega) hL
  have a2 := sc_at (i := 2) hM (show k + 2 < L by omega) hL
  have a3 := sc_at (i := 3) hM (show k + 3 < L by omega) hL
  have a4 := sc_at (i := 4) hM (show k + 4 < L by omega) hL
  have b1 := sc_at (i := 1) (m2.trans hM) (show k + 1 < L by omega) hL
  have b2 := sc_at (i := 2) (m2.trans hM) (show k + 2 < L by omega) hL
  have b3 := sc_at (i := 3) (m2.trans hM) (show k + 3 < L by omega) hL
  have b4 := sc_at (i := 4) (m2.trans hM) (show k + 4 < L by omega) hL
  have a1 : sC M 42 (nI k + 1) = _ := a1
  have a2 : sC M 42 (nI k + 2) = _ := a2
  have a3 : sC M 42 (nI k + 3) = _ := a3
  have a4 : sC M 42 (nI k + 4) = _ := a4
  have b1 : sC M2 42 (nI k + 1) = _ := b1
  have b2 : sC M2 42 (nI k + 2) = _ := b2
  have b3 : sC M2 42 (nI k + 3) = _ := b3
  have b4 : sC M2 42 (nI k + 4) = _ := b4
  refine ⟨M3, ?_, m3.trans hM, r3⟩
  simp only [f_L_law_2641, a1, a2, a3, a4, b1, b2, b3, b4, e1, e2, e3, bso, if_true]
  exact fin_L e4
theorem blk_2733 : Step f_L_law_2733 := by
  intro rc c k L xs M hc hk hL hM hR
  obtain ⟨R, I, O, S, K, B, C, H, N, E, hrA, h, hr, w, hA⟩ := hR
  obtain ⟨t, M2, v, M3, e1, m2, e2, e3, e4, m3, r3⟩ := (cs_close h hr w (xs (k + 1))).go hrA hA
  have e1 : f_L_close 100 (xs (k + 1)) 728 M = some (t, M2) := e1
  have a1 := sc_at (i := 1) hM (show k + 1 < L by omega) hL
  have b1 := sc_at (i := 1) (m2.trans hM) (show k + 1 < L by omega) hL
  have a1 : sC M 42 (nI k + 1) = _ := a1
  have b1 : sC M2 42 (nI k + 1) = _ := b1
  refine ⟨M3, ?_, m3.trans hM, r3⟩
  simp only [f_L_law_2733, a1, b1, e1, e2, e3, bso, if_true]
  exact fin_L e4
theorem blk_2789 : Step f_L_law_2789 := by
  intro rc c k L xs M hc hk hL hM hR
  obtain ⟨R, I, O, S, K, B, C, H, N, E, hrA, h, hr, w, hA⟩ := hR
  obtain ⟨t, M2, v, M3, e1, m2, e2, e3, e4, m3, r3⟩ := (cs_deliver h hr w (show c ≤ 1000 by omega) (xs (k + 1)) (xs (k + 2)) (xs (k + 3))).go hrA hA
  have e1 : f_L_deliver 100 (xs (k + 1)) (xs (k + 2)) (xs (k + 3)) 728 M = some (t, M2) := e1
  have a1 := sc_at (i := 1) hM (show k + 1 < L by omega) hL
  have a2 := sc_at (i := 2) hM (show k + 2 < L by omega) hL
  have a3 := sc_at (i := 3) hM (show k + 3 < L by omega) hL
  have b1 := sc_at (i := 1) (m2.trans hM) (show k + 1 < L by omega) hL
  have b2 := sc_at (i := 2) (m2.trans hM) (show k + 2 < L by omega) hL
  have b3 := sc_at (i := 3) (m2.trans hM) (show k + 3 < L by omega) hL
  have a1 : sC M 42 (nI k + 1) = _ := a1
  have a2 : sC M 42 (nI k + 2) = _ := a2
  have a3 : sC M 42 (nI k + 3) = _ := a3
  have b1 : sC M2 42 (nI k + 1) = _ := b1
  have b2 : sC M2 42 (nI k + 2) = _ := b2
  have b3 : sC M2 42 (nI k + 3) = _ := b3
  refine ⟨M3, ?_, m3.trans hM, r3⟩
  simp only [f_L_law_2789, a1, a2, a3, b1, b2, b3, e1, e2, e3, bso, if_true]
  exact fin_L e4
