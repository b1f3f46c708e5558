/-! PURE: the reference reads a box's statement -/
theorem cntN_box {S : St} {J : Int64} (h : stN S < 3) : cntN (addBx S J) = cntN S := by
  obtain ⟨L, n, q, B, Z⟩ := S
  have h : n < 3 := h
  have h3 : n = 0 ∨ n = 1 ∨ n = 2 := by omega
  rcases h3 with rfl | rfl | rfl <;> simp [cntN, fd, addBx, stN, stB, va_up]
theorem cntN_msg {S : St} {k : Nat} {sz fl : Int32} (h : stN S ≤ 3) (hk : k < stN S) : cntN (addMs S k sz fl) = cntN S + 1 := by
  obtain ⟨L, n, q, B, Z⟩ := S
  have h : n ≤ 3 := h
  have hk : k < n := hk
  have h3 : n = 1 ∨ n = 2 ∨ n = 3 := by omega
  have k3 : k = 0 ∨ k = 1 ∨ k = 2 := by omega
  rcases h3 with rfl | rfl | rfl <;> rcases k3 with rfl | rfl | rfl <;> first | omega | (simp [cntN, fd, addMs, setBx, stN, stB, va_up]; omega) | simp [cntN, fd, addMs, setBx, stN, stB, va_up]
section
variable {M : Mem} {m : Nat} {R : Rs} {l : List Int32} {i : Nat} {c p : Int32} {P : Ps}
theorem box45_F (h : rF R l c p) (x : Int32) (y : Int64) : f_X12_parseBox_45 m x y (ov M m R) = some (ov M m R) := by
  simp only [f_X12_parseBox_45, X12_good_F h, bso, cond_false]
theorem box15_F (h : rF R l c p) (x : Int32) : f_X12_parseBox_15 m x (ov M m R) = some (ov M m R) := by
  simp only [f_X12_parseBox_15, X12_goOn_F h, bso, X12_nameHere_F h, X12_good_F h, cond_false, box45_F h]
theorem box45_L {n : Nat} {j : Int64} (h : rL R l i) (hn : n < 3) : ∃ f' R', f_X12_parseBox_45 m (nI n) j (ov M m R) = some (ov M m R') ∧ rL R' l (i + 1) ∧ rk (rsR R f') R' ∧ f' (bAt n) = j ∧ f' (bAt n + 2) = 1 ∧ f' 1 = rowf R 1 + 1 ∧ ∀ q, q ≠ 1 → q ≠ bAt n → q ≠ bAt n + 2 → f' q = rowf R q := by
  have hb : bAt n + 2 < 806 := by unfold bAt; omega
  have hb3 : 3 ≤ bAt n := by unfold bAt; omega
  obtain ⟨f1, hf1⟩ : ∃ f1, f1 = vp_updL (rowf R) (bAt n) j := ⟨_, rfl⟩
  obtain ⟨f2, hf2⟩ : ∃ f2, f2 = vp_updL f1 (bAt n + 2) 1 := ⟨_, rfl⟩
  obtain ⟨f3, hf3⟩ : ∃ f3, f3 = vp_updL f2 1 (f2 1 + 1) := ⟨_, rfl⟩
  have s1 := r_srow M m R (show bAt n < 806 by omega) j
  rw [← hf1] at s1
  have s2 := r_srow M m (rsR R f1) hb 1
  rw [rowf_R, rsR_R, ← hf2] at s2
  have a3 : aJ (ov M m (rsR R f2)) 1 (m + rowN (rsR R f2)) 1 = some (rowf (rsR R f2) 1) := r_row M m (rsR R f2) (k := 1) (by omega)
  rw [rowf_R] at a3
  have s3 : sJ (ov M m (rsR R f2)) 1 (m + rowN (rsR R f2)) 1 (f2 1 + 1) = some (ov M m (rsR (rsR R f2) (vp_updL (rowf (rsR R f2)) 1 (f2 1 + 1)))) := r_srow M m (rsR R f2) (k := 1) (by omega) (f2 1 + 1)
  rw [rowf_R, rsR_R, ← hf3] at s3
  simp only [rowN_R] at s2 a3 s3
  have h3 : rL (rsR R f3) l i := h.d (dk.R R f3) (fun _ _ _ => rfl)
  obtain ⟨R', e', h', k'⟩ := X12_goOn_L (M := M) (m := m) h3
  refine ⟨f3, R', ?_, h', k', ?_, ?_, ?_, fun q q1 q2 q3 => ?_⟩
  · simp only [f_X12_parseBox_45, X12_good_L h, bso, cond_true, r_g3, rowN_R, X12_boxAt_e, nI0', s1, nI2, s2, a3, s3, e']
  · rw [hf3, pk_uLn (by omega), hf2, pk_uLn (by omega), hf1, pk_uLs]
  · rw [hf3, pk_uLn (by omega), hf2, pk_uLs]
  · rw [hf3, pk_uLs, hf2, pk_uLn (by omega), hf1, pk_uLn (by omega)]
  · rw [hf3, pk_uLn q1, hf2, pk_uLn q3, hf1, pk_uLn q2]
theorem X12_box_e (h : rL R l P.1) (hd : dR R P) : ∃ R', f_X12_parseBox m (ov M m R) = some (ov M m R') ∧ pR R' l (pBox l P) ∧ dk R R' := by
  obtain ⟨d1, d2, d3, d4, d5, d6, d7, d8⟩ := id hd
  have hn3 : stN P.2.1 ≤ 3 := d1.2.2.2.1
  have hq : (nI (stN P.2.1) = 3) = (stN P.2.1 = 3) := eqI (b := 3) rfl rfl (by omega) (by omega)
  have hbx : f_X12_boxes m (ov M m R) = some (nI (stN P.2.1)) := X12_boxes_e (S := stb P.2.1) d1
  simp only [f_X12_parseBox, ov_ob, hbx, bso, hq]
  unfold pBox
  by_cases e : stN P.2.1 = 3
  · rw [if_pos e, if_pos e]
    obtain ⟨R1, e1, h1, k1⟩ := X12_errs_L (M := M) (m := m) h (e := 4) (by decide)
    exact ⟨R1, by simp only [e1, bso, box15_F h1], h1, k1.d⟩
  · rw [if_neg e, if_neg e]
    obtain ⟨R1, e1, h1, k1⟩ := X12_goOn_L (M := M) (m := m) h
    have hd1 := hd.rk k1
    obtain ⟨x, R2, e2, k2, r2⟩ := X12_nameHere_L (M := M) (m := m) h1
    simp only [f_X12_parseBox_15, e1, bso, e2]
    rcases r2 with ⟨hN, rfl, hJ⟩ | ⟨hN, hF⟩
    · have hbn : f_X12_boxNamed m x (ov M m R2) = some (bnm P.2.1 (nmOf l (toks l (P.1 + 1)))) := X12_boxNm_e (S := stb P.2.1) hd1.1 hJ
      simp only [X12_good_L h1, bso, cond_true, hbn, hN, Bool.true_eq_false, if_false]
      by_cases eb : bnm P.2.1 (nmOf l (toks l (P.1 + 1))) = -1
      · rw [if_pos eb, if_pos eb]
        obtain ⟨f', R3, e3, h3, k3, g1, g2, g3, g4⟩ := box45_L (M := M) (m := m) (j := x) h1 (show stN P.2.1 < 3 by omega)
        have hr1 : rowf R2 = rowf R := k1.row
        have hr3 : rowf R3 = f' := k3.row.trans (rowf_R _ _)
        have hI3 : R3.2.2.2 = R.2.2.2 := by rw [k3.1, ← show R2.2.2.2 = R.2.2.2 by rw [k1.1]]; rfl
        rw [hr1] at g3 g4
        have hbA : 3 ≤ bAt (stN P.2.1) ∧ bAt (stN P.2.1) + 93 ≤ 282 := by unfold bAt; omega
        refine ⟨R3, e3, ⟨h3, ?_, ?_, ?_, ?_, ?_, ?_, ?_, ?_⟩, (k1.d.trans (dk.R R2 f')).trans k3.d⟩
        · rw [hr3]
          refine rep.addB (S := stb P.2.1) d1 (show stN P.2.1 < 3 by omega) (J := nmOf l (toks l (P.1 + 1))) ?_ ?_ ?_ ?_ (fun q q1 q2 => ?_)
          · show nmR _ (f' (bAt (stN P.2.1)))
            rw [g1]; exact hJ
          · show Int64.toInt32 (f' (bAt (stN P.2.1) + 1)) = 0
            rw [g4 _ (by omega) (by omega) (by omega), d4 _ (Nat.le_refl _) (by omega) 1 (by omega)]; rfl
          · show Int64.toInt32 (f' (bAt (stN P.2.1) + 2)) = 1
            rw [g2]; rfl
          · show Int64.toInt32 (f' 1) = nI (stN P.2.1 + 1)
            rw [g3, Int64.toInt32_add, show Int64.toInt32 (rowf R 1) = nI (stN P.2.1) from d1.2.1, ← nI_1]; rfl
          · have q2 : q < bAt (stN P.2.1) ∨ bAt (stN P.2.1) + 93 ≤ q := q2
            exact g4 q q1 (by omega) (by omega)
        · show ∀ k, k < stM P.2.1 → R3.2.2.2 6 k = _ ∧ R3.2.2.2 7 k = _
          rw [hI3]; exact d2
        · rw [hr3]
          intro k a1 a2 j hj
          have : 282 ≤ sAt k := by unfold sAt; omega
          rw [g4 _ (by omega) (by omega) (by omega)]; exact d3 k a1 a2 j hj
        · rw [hr3]
          intro k a1 a2 j hj
          have a1 : stN P.2.1 + 1 ≤ k := a1
          have : bAt (stN P.2.1) + 93 ≤ bAt k := by unfold bAt; omega
          rw [g4 _ (by omega) (by omega) (by omega)]; exact d4 k (by omega) a2 j hj
        · exact (k3.2 16 (by omega)).trans ((k1.2 16 (by omega)).trans d5)
        · show R3.1 17 = nI (cntN (addBx P.2.1 _))
          rw [cntN_box (by omega)]
          exact (k3.2 17 (by omega)).trans ((k1.2 17 (by omega)).trans d6)
        · show P.2.2.2 = decide (0 < cntN (addBx P.2.1 _))
          rw [cntN_box (by omega)]; exact d7
        · show cntN (addBx P.2.1 _) ≤ 90
          rw [cntN_box (by omega)]; exact d8
      · rw [if_neg eb, if_neg eb]
        obtain ⟨R3, e3, h3, k3⟩ := X12_errs_L (M := M) (m := m) h1 (e := 3) (by decide)
        exact ⟨R3, by simp only [e3, bso, box45_F h3], h3, (k1.trans k3).d⟩
    · simp only [X12_good_F hF, bso, cond_false, hN, if_true, box45_F hF]
      exact ⟨R2, rfl, hF, (k1.trans k2).d⟩
end
