/-! PURE: the reference, what it asks of a session -/
def okV (S : St) (s : Sx) : Prop := okB S (sxB s) ∧ (sxB s = -1 → sxE s = [])
theorem okV.box {S : St} {s : Sx} (h : okV S s) {k : Nat} (hk : k < (sxE s).length) (h3 : stN S ≤ 3) : ∃ b, b < stN S ∧ sxB s = nI b ∧ bof S (sxB s) = (stB S b).2.2 := by
  rcases h.1 with h1 | ⟨b, hb, h1⟩
  · rw [h.2 h1] at hk
    exact absurd hk (Nat.not_lt_zero _)
  · exact ⟨b, hb, h1, by rw [h1, bof_in (by omega)]⟩
theorem nd1 {b : Nat} (h : b < 2 ^ 31) : (!decide (nI b = -1)) = true := by
  rw [decide_eq_false (by rw [nI_m1 h]; exact id)]; rfl
theorem FU_s : ∃ n, FU = n + 1 := ⟨FU - 1, by rw [FU_eq]⟩
theorem b2i_t : b2i true = 1 := rfl
theorem b2i_f : b2i false = 0 := rfl
section
variable {M : Mem} {m : Nat} {R : Rs} {S : St}
theorem X12_msgOf_e (h : rep (rowf R) S) {s k : Nat} (hs : s < stM S) (hw : okV S (stS S s)) (hk : k < (sxE (stS S s)).length) : f_X12_messageOf m (nI s) (nI (k + 1)) (ov M m R) = some (oI (mix (bof S (sxB (stS S s))) (eU (eg (sxE (stS S s)) k)))) := by
  obtain ⟨b, hb, h1, h2⟩ := hw.box hk h.2.2.2.1
  rw [h2]
  simp only [f_X12_messageOf, ov_ob, X12_boxOf_e h hs, h1, (X12_ofE_e h hs hk).1, bso, X12_withUid_e h hb]
theorem oI_m1 {ms : Ms} {u : Int32} (hl : ms.length ≤ 30) : (oI (mix ms u) = -1) = (mix ms u = none) := by
  cases e : mix ms u with
  | none => simp [oI]
  | some k =>
    have := mix_lt e
    simp only [oI, nI_m1 (show k < 2 ^ 31 by omega), reduceCtorEq]
theorem bof_len (h : rep (rowf R) S) {s : Nat} (hw : okB S (sxB (stS S s))) : (bof S (sxB (stS S s))).length ≤ 30 := by
  rcases hw with hw | ⟨b, hb, hw⟩
  · rw [hw, bof_no]; exact Nat.zero_le _
  · have h3 := h.2.2.2.1
    rw [hw, bof_in (by omega)]
    exact h.lb hb
theorem X12_isGone_e (h : rep (rowf R) S) {s k : Nat} (hs : s < stM S) (hw : okV S (stS S s)) (hk : k < (sxE (stS S s)).length) : f_X12_isGone m (nI s) (nI (k + 1)) (ov M m R) = some (gone (bof S (sxB (stS S s))) (eg (sxE (stS S s)) k)) := by
  simp only [f_X12_isGone, ov_ob, X12_msgOf_e h hs hw hk, bso, oI_m1 (bof_len h hw.1), gone]
  cases mix (bof S (sxB (stS S s))) (eU (eg (sxE (stS S s)) k)) <;> simp
theorem X12_flagsOf_e (h : rep (rowf R) S) {s k : Nat} (hs : s < stM S) (hw : okV S (stS S s)) (hk : k < (sxE (stS S s)).length) (hg : gone (bof S (sxB (stS S s))) (eg (sxE (stS S s)) k) = false) : f_X12_flagsOf m (nI s) (nI (k + 1)) (ov M m R) = some (flg (bof S (sxB (stS S s))) (eg (sxE (stS S s)) k)) := by
  obtain ⟨b, hb, h1, h2⟩ := hw.box hk h.2.2.2.1
  have hm := X12_msgOf_e (M := M) (m := m) h hs hw hk
  rw [h2] at hm hg ⊢
  simp only [f_X12_flagsOf, ov_ob, X12_boxOf_e h hs, h1, hm, bso, flg]
  cases e : mix (stB S b).2.2 (eU (eg (sxE (stS S s)) k)) with
  | none => rw [gone, e] at hg; cases hg
  | some j => simp only [oI, (X12_ofM_e h hb (mix_lt e)).2.2, bso]
theorem X12_isOther_e (h : rep (rowf R) S) {s k : Nat} (hs : s < stM S) (hw : okV S (stS S s)) (hk : k < (sxE (stS S s)).length) : f_X12_isOther m (nI s) (nI (k + 1)) (ov M m R) = some (chg (bof S (sxB (stS S s))) (eg (sxE (stS S s)) k)) := by
  simp only [f_X12_isOther, ov_ob, X12_isGone_e h hs hw hk, bso]
  cases hg : gone (bof S (sxB (stS S s))) (eg (sxE (stS S s)) k) with
  | true =>
    simp only [cond_true, chg]
    cases e : mix (bof S (sxB (stS S s))) (eU (eg (sxE (stS S s)) k)) with
    | none => rfl
    | some j => rw [gone, e] at hg; cases hg
  | false =>
    simp only [cond_false, X12_flagsOf_e h hs hw hk hg, (X12_ofE_e h hs hk).2, bso, chg, flg]
    cases e : mix (bof S (sxB (stS S s))) (eU (eg (sxE (stS S s)) k)) with
    | none => rw [gone, e] at hg; cases hg
    | some j =>
      simp only
      by_cases e2 : mF (mg (bof S (sxB (stS S s))) j) = eT (eg (sxE (stS S s)) k) <;> simp [e2]
theorem X12_goneM_e (h : rep (rowf R) S) {s : Nat} (hs : s < stM S) (hw : okV S (stS S s)) : f_X12_goneMany m (nI s) (ov M m R) = some (nI ((sxE (stS S s)).countP (gone (bof S (sxB (stS S s)))))) := by
  have hl := h.ls hs
  have := fd_run (fun fu k a => f_X12_goneMany_4 fu m (nI s) a (nI (k + 1)) (ov M m R)) (fun k a => if gone (bof S (sxB (stS S s))) ((sxE (stS S s)).getD k (0, 0)) = true then a + 1 else a) (fun a => a) 0 (sxE (stS S s)).length
    (fun fu a => by simp only [f_X12_goneMany_4, X12_ents_e h hs, bso, ltT rfl rfl (Nat.lt_succ_self (sxE (stS S s)).length) (show (sxE (stS S s)).length + 1 < 2 ^ 31 by omega), if_true])
    (fun fu k a _ hk => by
      simp only [f_X12_goneMany_4, X12_ents_e h hs, bso, ltF rfl rfl (show k + 1 ≤ (sxE (stS S s)).length by omega) (show (sxE (stS S s)).length < 2 ^ 31 by omega), if_false, X12_isGone_e h hs hw hk, f_X12_goneMany_28, nI_1, eg]
      cases gone (bof S (sxB (stS S s))) ((sxE (stS S s)).getD k (0, 0)) <;> simp [b2i])
    (sxE (stS S s)).length 0 0 FU (Nat.zero_add _) (Nat.le_refl _) (by rw [FU_eq]; omega)
  rw [fd_cnt (0, 0) _ _ _ 0 0 (Nat.zero_add _), List.drop_zero, Int32.zero_add] at this
  simp only [f_X12_goneMany, ov_ob]
  exact this
theorem X12_otherM_e (h : rep (rowf R) S) {s : Nat} (hs : s < stM S) (hw : okV S (stS S s)) : f_X12_otherMany m (nI s) (ov M m R) = some (nI ((sxE (stS S s)).countP (chg (bof S (sxB (stS S s)))))) := by
  have hl := h.ls hs
  have := fd_run (fun fu k a => f_X12_otherMany_4 fu m (nI s) a (nI (k + 1)) (ov M m R)) (fun k a => if chg (bof S (sxB (stS S s))) ((sxE (stS S s)).getD k (0, 0)) = true then a + 1 else a) (fun a => a) 0 (sxE (stS S s)).length
    (fun fu a => by simp only [f_X12_otherMany_4, X12_ents_e h hs, bso, ltT rfl rfl (Nat.lt_succ_self (sxE (stS S s)).length) (show (sxE (stS S s)).length + 1 < 2 ^ 31 by omega), if_true])
    (fun fu k a _ hk => by
      simp only [f_X12_otherMany_4, X12_ents_e h hs, bso, ltF rfl rfl (show k + 1 ≤ (sxE (stS S s)).length by omega) (show (sxE (stS S s)).length < 2 ^ 31 by omega), if_false, X12_isOther_e h hs hw hk, f_X12_otherMany_28, nI_1, eg]
      cases chg (bof S (sxB (stS S s))) ((sxE (stS S s)).getD k (0, 0)) <;> simp [b2i])
    (sxE (stS S s)).length 0 0 FU (Nat.zero_add _) (Nat.le_refl _) (by rw [FU_eq]; omega)
  rw [fd_cnt (0, 0) _ _ _ 0 0 (Nat.zero_add _), List.drop_zero, Int32.zero_add] at this
  simp only [f_X12_otherMany, ov_ob]
  exact this
theorem X12_newM_e (h : rep (rowf R) S) {s : Nat} (hs : s < stM S) (hw : okB S (sxB (stS S s))) : f_X12_newMany m (nI s) (ov M m R) = some (nI ((bof S (sxB (stS S s))).countP (newer (sxH (stS S s))))) := by
  have h3 := h.2.2.2.1
  simp only [f_X12_newMany, ov_ob]
  rcases hw with hw | ⟨b, hb, hw⟩
  · rw [hw, bof_no]
    obtain ⟨n, hn⟩ := FU_s
    rw [hn]
    simp only [f_X12_newMany_4, X12_hasBox_e h hs, hw, decide_true, Bool.not_true, bso, cond_false, List.countP_nil, nI_0]
  · rw [hw, bof_in (by omega)]
    have hl := h.lb hb
    have hhb : f_X12_hasBox m (nI s) (ov M m R) = some true := by rw [X12_hasBox_e h hs, hw, nd1 (by omega)]
    have hbo : f_X12_boxOf m (nI s) (ov M m R) = some (nI b) := by rw [X12_boxOf_e h hs, hw]
    have := fd_run (fun fu k a => f_X12_newMany_4 fu m (nI s) a (nI k) (ov M m R)) (fun k a => if newer (sxH (stS S s)) ((stB S b).2.2.getD k (0, 0, 0)) = true then a + 1 else a) (fun a => a) 0 (stB S b).2.2.length
      (fun fu a => by simp only [f_X12_newMany_4, hhb, hbo, cond_true, X12_many_e h hb, bso, leT rfl rfl (Nat.le_refl (stB S b).2.2.length) (show (stB S b).2.2.length < 2 ^ 31 by omega), if_true])
      (fun fu k a _ hk => by
        simp only [f_X12_newMany_4, hhb, hbo, cond_true, X12_many_e h hb, bso, leF rfl rfl hk (show (stB S b).2.2.length < 2 ^ 31 by omega), if_false, (X12_ofM_e h hb hk).1, X12_sesAt_e, nI5, X12_ses_f h hs (show 5 < 11 by omega), (h.sx hs).2.2.2.2.2.1, f_X12_newMany_55, nI_1, newer, mg]
        by_cases e : mU ((stB S b).2.2.getD k (0, 0, 0)) ≤ sxH (stS S s) <;> simp only [e, if_true, if_false, decide_true, decide_false, Bool.not_true, Bool.not_false, Bool.false_eq_true, b2i_t, b2i_f, Int32.add_zero])
      (stB S b).2.2.length 0 0 FU (Nat.zero_add _) (Nat.le_refl _) (by rw [FU_eq]; omega)
    rw [fd_cnt (0, 0, 0) _ _ _ 0 0 (Nat.zero_add _), List.drop_zero, Int32.zero_add] at this
    exact this
theorem X12_pend_e (h : rep (rowf R) S) {s : Nat} (hs : s < stM S) (hw : okV S (stS S s)) : f_X12_pendingOf m (nI s) (ov M m R) = some (nI (pndS S (stS S s))) := by
  have hl := h.ls hs
  have hlb := bof_len h hw.1
  have hg : (sxE (stS S s)).countP (gone (bof S (sxB (stS S s)))) ≤ (sxE (stS S s)).length := List.countP_le_length
  have hn : (bof S (sxB (stS S s))).countP (newer (sxH (stS S s))) ≤ (bof S (sxB (stS S s))).length := List.countP_le_length
  simp only [f_X12_pendingOf, ov_ob, X12_goneM_e h hs hw, X12_otherM_e h hs hw, X12_newM_e h hs hw.1, X12_ents_e h hs, bso, nI_sub hg, pndS, pend]
  by_cases e2 : 0 < (bof S (sxB (stS S s))).countP (newer (sxH (stS S s)))
  · rw [if_neg (nI_nle e2 (by omega))]
    by_cases e : (sxE (stS S s)).length - (sxE (stS S s)).countP (gone (bof S (sxB (stS S s)))) < 60
    · rw [if_neg (show ¬ ((60 : Int32) ≤ nI ((sxE (stS S s)).length - (sxE (stS S s)).countP (gone (bof S (sxB (stS S s)))))) from fun z => absurd ((nI_leI (a := 60) (by omega) (by omega)).mp z) (by omega)), if_pos ⟨e, e2⟩, nI_add, nI_1]
    · rw [if_pos (show (60 : Int32) ≤ nI ((sxE (stS S s)).length - (sxE (stS S s)).countP (gone (bof S (sxB (stS S s))))) from (nI_leI (a := 60) (by omega) (by omega)).mpr (by omega)), if_neg (fun z => e z.1), nI_add, Int32.add_zero]; rfl
  · rw [if_pos (show nI ((bof S (sxB (stS S s))).countP (newer (sxH (stS S s)))) ≤ 0 by rw [show (bof S (sxB (stS S s))).countP (newer (sxH (stS S s))) = 0 by omega]; decide), if_neg (fun z => e2 z.2), nI_add, Int32.add_zero]; rfl
end
