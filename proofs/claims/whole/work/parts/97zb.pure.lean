/-! PURE: the law's calls, 2 -/
theorem blk_885 : Step f_L_law_885 := by
  intro rc c k L xs M hc hk hL hM hR
  obtain ⟨R, I, O, S, K, B, C, H, N, E, hrA, h, hr, w, hA⟩ := hR
  obtain ⟨t, M2, v, M3, e1, m2, e2, e3, e4, m3, r3⟩ := (Both.old w (cs_numberOf h hr (xs (k + 1)) (xs (k + 2)))).go hrA hA
  have e1 : f_L_numberOf 100 (xs (k + 1)) (xs (k + 2)) 728 M = some (t, M2) := e1
  have a1 := sc_at (i := 1) hM (show k + 1 < L by omega) hL
  have a2 := sc_at (i := 2) hM (show k + 2 < L by omega) hL
  have b1 := sc_at (i := 1) (m2.trans hM) (show k + 1 < L by omega) hL
  have b2 := sc_at (i := 2) (m2.trans hM) (show k + 2 < L by omega) hL
  have a1 : sC M 42 (nI k + 1) = _ := a1
  have a2 : sC M 42 (nI k + 2) = _ := a2
  have b1 : sC M2 42 (nI k + 1) = _ := b1
  have b2 : sC M2 42 (nI k + 2) = _ := b2
  refine ⟨M3, ?_, m3.trans hM, r3⟩
  simp only [f_L_law_885, a1, a2, b1, b2, e1, e2, e3, bso, if_true]
  exact fin_L e4
theorem blk_953 : Step f_L_law_953 := by
  intro rc c k L xs M hc hk hL hM hR
  obtain ⟨R, I, O, S, K, B, C, H, N, E, hrA, h, hr, w, hA⟩ := hR
  obtain ⟨t, M2, v, M3, e1, m2, e2, e3, e4, m3, r3⟩ := (cs_numberThen h hr w (xs (k + 1)) (xs (k + 2))).go hrA hA
  have e1 : f_L_numberThen 100 (xs (k + 1)) (xs (k + 2)) 728 M = some (t, M2) := e1
  have a1 := sc_at (i := 1) hM (show k + 1 < L by omega) hL
  have a2 := sc_at (i := 2) hM (show k + 2 < L by omega) hL
  have b1 := sc_at (i := 1) (m2.trans hM) (show k + 1 < L by omega) hL
  have b2 := sc_at (i := 2) (m2.trans hM) (show k + 2 < L by omega) hL
  have a1 : sC M 42 (nI k + 1) = _ := a1
  have a2 : sC M 42 (nI k + 2) = _ := a2
  have b1 : sC M2 42 (nI k + 1) = _ := b1
  have b2 : sC M2 42 (nI k + 2) = _ := b2
  refine ⟨M3, ?_, m3.trans hM, r3⟩
  simp only [f_L_law_953, a1, a2, b1, b2, e1, e2, e3, bso, if_true]
  exact fin_L e4
theorem blk_1021 : Step f_L_law_1021 := by
  intro rc c k L xs M hc hk hL hM hR
  obtain ⟨R, I, O, S, K, B, C, H, N, E, hrA, h, hr, w, hA⟩ := hR
  obtain ⟨t, M2, v, M3, e1, m2, e2, e3, e4, m3, r3⟩ := (Both.old w (cs_pending h hr (fun k hk => (w.2.2.1.2.2.2 k hk).1) (xs (k + 1)))).go hrA hA
  have e1 : f_L_pending 100 (xs (k + 1)) 728 M = some (t, M2) := e1
  have a1 := sc_at (i := 1) hM (show k + 1 < L by omega) hL
  have b1 := sc_at (i := 1) (m2.trans hM) (show k + 1 < L by omega) hL
  have a1 : sC M 42 (nI k + 1) = _ := a1
  have b1 : sC M2 42 (nI k + 1) = _ := b1
  refine ⟨M3, ?_, m3.trans hM, r3⟩
  simp only [f_L_law_1021, a1, b1, e1, e2, e3, bso, if_true]
  exact fin_L e4
theorem blk_1140 : Step f_L_law_1140 := by
  intro rc c k L xs M hc hk hL hM hR
  obtain ⟨R, I, O, S, K, B, C, H, N, E, hrA, h, hr, w, hA⟩ := hR
  obtain ⟨t, M2, v, M3, e1, m2, e2, e3, e4, m3, r3⟩ := (Both.old w (cs_firstUnseen h hr (xs (k + 1)))).go hrA hA
  have e1 : f_L_firstUnseen 100 (xs (k + 1)) 728 M = some (t, M2) := e1
  have a1 := sc_at (i := 1) hM (show k + 1 < L by omega) hL
  have b1 := sc_at (i := 1) (m2.trans hM) (show k + 1 < L by omega) hL
  have a1 : sC M 42 (nI k + 1) = _ := a1
  have b1 : sC M2 42 (nI k + 1) = _ := b1
  refine ⟨M3, ?_, m3.trans hM, r3⟩
  simp only [f_L_law_1140, a1, b1, e1, e2, e3, bso, if_true]
  exact fin_L e4
theorem blk_1196 : Step f_L_law_1196 := by
  intro rc c k L xs M hc hk hL hM hR
  obtain ⟨R, I, O, S, K, B, C, H, N, E, hrA, h, hr, w, hA⟩ := hR
  obtain ⟨t, M2, v, M3, e1, m2, e2, e3, e4, m3, r3⟩ := (Both.old w (cs_largest h hr (fun k hk => (w.2.2.1.2.2.2 k hk).1) (xs (k + 1)))).go hrA hA
  have e1 : f_L_largest 100 (xs (k + 1)) 728 M = some (t, M2) := e1
  have a1 := sc_at (i := 1) hM (show k + 1 < L by omega) hL
  have b1 := sc_at (i := 1) (m2.trans hM) (show k + 1 < L by omega) hL
  have a1 : sC M 42 (nI k + 1) = _ := a1
  have b1 : sC M2 42 (nI k + 1) = _ := b1
  refine ⟨M3, ?_, m3.trans hM, r3⟩
  simp only [f_L_law_1196, a1, b1, e1, e2, e3, bso, if_true]
  exact fin_L e4
theorem blk_1252 : Step f_L_law_1252 := by
  intro rc c k L xs M hc hk hL hM hR
  obtain ⟨R, I, O, S, K, B, C, H, N, E, hrA, h, hr, w, hA⟩ := hR
  obtain ⟨t, M2, v, M3, e1, m2, e2, e3, e4, m3, r3⟩ := (Both.old w (cs_common h hr (xs (k + 1)) (xs (k + 2)))).go hrA hA
  have e1 : f_L_common 100 (xs (k + 1)) (xs (k + 2)) 728 M = some (t, M2) := e1
  have a1 := sc_at (i := 1) hM (show k + 1 < L by omega) hL
  have a2 := sc_at (i := 2) hM (show k + 2 < L by omega) hL
  have b1 := sc_at (i := 1) (m2.trans hM) (show k + 1 < L by omega) hL
  have b2 := sc_at (i := 2) (m2.trans hM) (show k + 2 < L by omega) hL
  have a1 : sC M 42 (nI k + 1) = _ := a1
  have a2 : sC M 42 (nI k + 2) = _ := a2
  have b1 : sC M2 42 (nI k + 1) = _ := b1
  have b2 : sC M2 42 (nI k + 2) = _ := b2
  refine ⟨M3, ?_, m3.trans hM, r3⟩
  simp only [f_L_law_1252, a1, a2, b1, b2, e1, e2, e3, bso, if_true]
  exact fin_L e4
theorem blk_1320 : Step f_L_law_1320 := by
  intro rc c k L xs M hc hk hL hM hR
  obtain ⟨R, I, O, S, K, B, C, H, N, E, hrA, h, hr, w, hA⟩ := hR
  obtain ⟨t, M2, v, M3, e1, m2, e2, e3, e4, m3, r3⟩ := (Both.old w (cs_holders h hr (xs (k + 1)) (xs (k + 2)))).go hrA hA
  have e1 : f_L_holders 100 (xs (k + 1)) (xs (k + 2)) 728 M = some (t, M2) := e1
  have a1 := sc_at (i := 1) hM (show k + 1 < L by omega) hL
  have a2 := sc_at (i := 2) hM (show k + 2 < L by omega) hL
  have b1 := sc_at (i := 1) (m2.trans hM) (show k + 1 < L by omega) hL
  have b2 := sc_at (i := 2) (m2.trans hM) (show k + 2 < L by omega) hL
  have a1 : sC M 42 (nI k + 1) = _ := a1
  have a2 : sC M 42 (nI k + 2) = _ := a2
  have b1 : sC M2 42 (nI k + 1) = _ := b1
  have b2 : sC M2 42 (nI k + 2) = _ := b2
  refine ⟨M3, ?_, m3.trans hM, r3⟩
  simp only [f_L_law_1320, a1, a2, b1, b2, e1, e2, e3, bso, if_true]
  exact fin_L e4
theorem blk_1388 : Step f_L_law_1388 := by
  intro rc c k L xs M hc hk hL hM hR
  obtain ⟨R, I, O, S, K, B, C, H, N, E, hrA, h, hr, w, hA⟩ := hR
  obtain ⟨e1, e2⟩ := cs_stale h hr (fun k hk => (w.2.2.1.2.2.2 k hk).1)
  obtain ⟨M3, e3, m3, r3⟩ := ask_go hrA hA h hr w e2
  refine ⟨M3, ?_, m3.trans hM, r3⟩
  simp only [f_L_law_1388, e1, e3, bso, if_true]
  rfl
theorem blk_1556 : Step f_L_law_1556 := by
  intro rc c k L xs M hc hk hL hM hR
  obtain ⟨R, I, O, S, K, B, C, H, N, E, hrA, h, hr, w, hA⟩ := hR
  obtain ⟨t, M2, v, M3, e1, m2, e2, e3, e4, m3, r3⟩ := (cs_account h hr w (xs (k + 1)) (xs (k + 2))).go hrA hA
  have e1 : f_L_account 100 (xs (k + 1)) (xs (k + 2)) 728 M = some (t, M2) := e1
  have a1 := sc_at (i := 1) hM (show k + 1 < L by omega) hL
  have a2 := sc_at (i := 2) hM (show k + 2 < L by omega) hL
  have b1 := sc_at (i := 1) (m2.trans hM) (show k + 1 < L by omega) hL
  have b2 := sc_at (i := 2) (m2.trans hM) (show k + 2 < L by omega) hL
  have a1 : sC M 42 (nI k + 1) = _ := a1
  have a2 : sC M 42 (nI k + 2) = _ := a2
  have b1 : sC M2 42 (nI k + 1) = _ := b1
  have b2 : sC M2 42 (nI k + 2) = _ := b2
  refine ⟨M3, ?_, m3.trans hM, r3⟩
  simp only [f_L_law_1556, a1, a2, b1, b2, e1, e2, e3, bso, if_true]
  exact fin_L e4
theorem blk_1624 : Step f_L_law_1624 := by
  intro rc c k L xs M hc hk hL hM hR
  obtain ⟨R, I, O, S, K, B, C, H, N, E, hrA, h, hr, w, hA⟩ := hR
  obtain ⟨t, M2, v, M3, e1, m2, e2, e3, e4, m3, r3⟩ := (cs_notice h hr w (xs (k + 1)) (xs (k + 2))).go hrA hA
  have e1 : f_L_notice 100 (xs (k + 1)) (xs (k + 2)) 728 M = some (t, M2) := e1
  have a1 := sc_at (i := 1) hM (show k + 1 < L by omega) hL
  have a2 := sc_at (i := 2) hM (show k + 2 < L by omega) hL
  have b1 := sc_at (i := 1) (m2.trans hM) (show k + 1 < L by omega) hL
  have b2 := sc_at (i := 2) (m2.trans hM) (show k + 2 < L by omega) hL
  have a1 : sC M 42 (nI k + 1) = _ := a1
  have a2 : sC M 42 (nI k + 2) = _ := a2
  have b1 : sC M2 42 (nI k + 1) = _ := b1
  have b2 : sC M2 42 (nI k + 2) = _ := b2
  refine ⟨M3, ?_, m3.trans hM, r3⟩
  simp only [f_L_law_1624, a1, a2, b1, b2, e1, e2, e3, bso, if_true]
  exact fin_L e4
theorem blk_1692 : Step f_L_law_1692 := by
  intro rc c k L xs M hc hk hL hM hR
  obtain ⟨R, I, O, S, K, B, C, H, N, E, hrA, h, hr, w, hA⟩ := hR
  obtain ⟨E', bb⟩ := cs_searchBox h hr w (xs (k + 1))
  obtain ⟨t, M2, v, M3, e1, m2, e2, e3, e4, m3, r3⟩ := bb.go hrA hA
  have e1 : f_L_searchBox 100 (xs (k + 1)) 728 M = some (t, M2) := e1
  have a1 := sc_at (i := 1) hM (show k + 1 < L by omega) hL
  have b1 := sc_at (i := 1) (m2.trans hM) (show k + 1 < L by omega) hL
  have a1 : sC M 42 (nI k + 1) = _ := a1
  have b1 : sC M2 42 (nI k + 1) = _ := b1
  refine ⟨M3, ?_, m3.trans hM, r3⟩
  simp only [f_L_law_1692, a1, b1, e1, e2, e3, bso, if_true]
  exact fin_L e4
theorem blk_1748 : Step f_L_law_1748 := by
  intro rc c k L xs M hc hk hL hM hR
  obtain ⟨R, I, O, S, K, B, C, H, N, E, hrA, h, hr, w, hA⟩ := hR
  by_cases z : xs (k + 3) = 0
  · skip
    obtain ⟨t, M2, v, M3, e1, m2, e2, e3, e4, m3, r3⟩ := (cs_select h hr w (show c ≤ 1000 by omega) (xs (k + 1)) (xs (k + 2)) false).go hrA hA
    have e1 : f_L_select 100 (xs (k + 1)) (xs (k + 2)) false 728 M = some (t, M2) := e1
    have a1 := sc_at (i := 1) hM (show k + 1 < L by omega) hL
    have a2 := sc_at (i := 2) hM (show k + 2 < L by omega) hL
    have a3 := sc_at (i := 3) hM (show k + 3 < L by omega) hL
    have b1 := sc_at (i := 1) (m2.trans hM) (show k + 1 < L by omega) hL
    have b2 := sc_at (i := 2) (m2.trans hM) (show k + 2 < L by omega) hL
    have b3 := sc_at (i := 3) (m2.trans hM) (show k + 3 < L by omega) hL
    have a1 : sC M 42 (nI k + 1) = _ := a1
    have a2 : sC M 42 (nI k + 2) = _ := a2
    have a3 : sC M 42 (nI k + 3) = _ := a3
    have b1 : sC M2 42 (nI k + 1) = _ := b1
    have b2 : sC M2 42 (nI k + 2) = _ := b2
    have b3 : sC M2 42 (nI k + 3) = _ := b3
    refine ⟨M3, ?_, m3.trans hM, r3⟩
    simp only [f_L_law_1748, f_L_law_1775, f_L_law_1808, a1, a2, a3, b1, b2, b3, e1, e2, e3, bso, if_true, if_pos z]
    exact fin_L e4
  · skip
    obtain ⟨t, M2, v, M3, e1, m2, e2, e3, e4, m3, r3⟩ := (cs_select h hr w (show c ≤ 1000 by omega) (xs (k + 1)) (xs (k + 2)) true).go hrA hA
    have e1 : f_L_select 100 (xs (k + 1)) (xs (k + 2)) true 728 M = some (t, M2) := e1
    have a1 := sc_at (i := 1) hM (show k + 1 < L by omega) hL
    have a2 := sc_at (i := 2) hM (show k + 2 < L by omega) hL
    have a3 := sc_at (i := 3) hM (show k + 3 < L by omega) hL
    have b1 := sc_at (i := 1) (m2.trans hM) (show k + 1 < L by omega) hL
    have b2 := sc_at (i := 2) (m2.trans hM) (show k + 2 < L by omega) hL
    have b3 := sc_at (i := 3) (m2.trans hM) (show k + 3 < L by omega) hL
    have a1 : sC M 42 (nI k + 1) = _ := a1
    have a2 : sC M 42 (nI k + 2) = _ := a2
    have a3 : sC M 42 (nI k + 3) = _ := a3
    have b1 : sC M2 42 (nI k + 1) = _ := b1
    have b2 : sC M2 42 (nI k + 2) = _ := b2
    have b3 : sC M2 42 (nI k + 3) = _ := b3
    refine ⟨M3, ?_, m3.trans hM, r3⟩
    simp only [f_L_law_1748, f_L_law_1775, f_L_law_1808, a1, a2, a3, b1, b2, b3, e1, e2, e3, bso, if_true, if_neg z]
    exact fin_L e4
