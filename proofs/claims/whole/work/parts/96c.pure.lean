/-! PURE: questions, the reference's loops -/
theorem nu1_n (x : Option Nat) : nu1 x = match x with
  | none => -1
  | some k => nI (k + 1) := by cases x <;> rfl
section
variable {M : Mem} {m : Nat} {R : Rs} {S : St}
theorem X12_allM_e (h : rep (rowf R) S) : f_X12_allMessages m (ov M m R) = some (cntM S) := by
  have h3 := h.2.2.2.1
  simp only [f_X12_allMessages, ov_ob]
  refine fd_run (fun fu k a => f_X12_allMessages_4 fu m a (nI k) (ov M m R)) (fun k a => a + nI (stB S k).2.2.length) (fun a => a) 0 (stN S) ?_ ?_ (stN S) 0 0 FU (Nat.zero_add _) (Nat.le_refl _) (by rw [FU_eq]; omega)
  · intro fu a
    simp only [f_X12_allMessages_4, X12_boxes_e h, bso, leT rfl rfl (Nat.le_refl (stN S)) (show stN S < 2 ^ 31 by omega), if_true]
  · intro fu k a _ hk
    simp only [f_X12_allMessages_4, X12_boxes_e h, bso, leF rfl rfl hk (show stN S < 2 ^ 31 by omega), if_false, X12_many_e h hk, nI_1]
theorem X12_sizes_e (h : rep (rowf R) S) {b : Nat} (hb : b < stN S) : f_X12_sizesOf m (nI b) (ov M m R) = some (sumS (stB S b).2.2) := by
  have hl := h.lb hb
  simp only [f_X12_sizesOf, ov_ob]
  refine fd_run (fun fu k a => f_X12_sizesOf_4 fu m (nI b) a (nI k) (ov M m R)) (fun k a => a + mS (mg (stB S b).2.2 k)) (fun a => a) 0 (stB S b).2.2.length ?_ ?_ (stB S b).2.2.length 0 0 FU (Nat.zero_add _) (Nat.le_refl _) (by rw [FU_eq]; omega)
  · intro fu a
    simp only [f_X12_sizesOf_4, X12_many_e h hb, bso, leT rfl rfl (Nat.le_refl (stB S b).2.2.length) (show (stB S b).2.2.length < 2 ^ 31 by omega), if_true]
  · intro fu k a _ hk
    simp only [f_X12_sizesOf_4, X12_many_e h hb, bso, leF rfl rfl hk (show (stB S b).2.2.length < 2 ^ 31 by omega), if_false, (X12_ofM_e h hb hk).2.1, nI_1]
theorem X12_flagd_e (h : rep (rowf R) S) {b : Nat} (hb : b < stN S) (fl : Int32) : f_X12_flaggedMany m (nI b) fl (ov M m R) = some (nI ((stB S b).2.2.countP (pF fl))) := by
  have hl := h.lb hb
  simp only [f_X12_flaggedMany, ov_ob]
  have := fd_run (fun fu k a => f_X12_flaggedMany_5 fu m (nI b) fl a (nI k) (ov M m R)) (fun k a => if pF fl ((stB S b).2.2.getD k (0, 0, 0)) = true then a + 1 else a) (fun a => a) 0 (stB S b).2.2.length
    (fun fu a => by simp only [f_X12_flaggedMany_5, X12_many_e h hb, bso, leT rfl rfl (Nat.le_refl (stB S b).2.2.length) (show (stB S b).2.2.length < 2 ^ 31 by omega), if_true])
    (fun fu k a _ hk => by
      simp only [f_X12_flaggedMany_5, X12_many_e h hb, bso, leF rfl rfl hk (show (stB S b).2.2.length < 2 ^ 31 by omega), if_false, (X12_ofM_e h hb hk).2.2, f_X12_flaggedMany_34, nI_1]
      show _ = f_X12_flaggedMany_5 fu m (nI b) fl (if pF fl (mg (stB S b).2.2 k) = true then a + 1 else a) (nI (k + 1)) (ov M m R)
      by_cases e : mF (mg (stB S b).2.2 k) &&& fl = 0
      · have hp : pF fl (mg (stB S b).2.2 k) = false := by unfold pF; rw [decide_eq_true e]; rfl
        rw [if_pos e, hp]
        simp only [b2i_f, Int32.add_zero, Bool.false_eq_true, if_false]
      · have hp : pF fl (mg (stB S b).2.2 k) = true := by unfold pF; rw [decide_eq_false e]; rfl
        rw [if_neg e, hp]
        simp only [b2i_t, if_true])
    (stB S b).2.2.length 0 0 FU (Nat.zero_add _) (Nat.le_refl _) (by rw [FU_eq]; omega)
  refine this.trans (congrArg some ?_)
  refine (fd_cnt (0, 0, 0) (pF fl) (stB S b).2.2 _ 0 0 (Nat.zero_add _)).trans ?_
  rw [List.drop_zero, Int32.zero_add]
theorem X12_selg_e (h : rep (rowf R) S) (bx : Int32) : f_X12_selecting m bx (ov M m R) = some (selS S bx) := by
  have h4 := h.2.2.2.2.1
  simp only [f_X12_selecting, ov_ob]
  refine fd_run (fun fu k a => f_X12_selecting_4 fu m bx a (nI k) (ov M m R)) (fun k a => if sxB (stS S k) = bx then a ||| b1 k else a) (fun a => a) 0 (stM S) ?_ ?_ (stM S) 0 0 FU (Nat.zero_add _) (Nat.le_refl _) (by rw [FU_eq]; omega)
  · intro fu a
    simp only [f_X12_selecting_4, X12_sess_e h, bso, leT rfl rfl (Nat.le_refl (stM S)) (show stM S < 2 ^ 31 by omega), if_true]
  · intro fu k a _ hk
    simp only [f_X12_selecting_4, X12_sess_e h, bso, leF rfl rfl hk (show stM S < 2 ^ 31 by omega), if_false, X12_boxOf_e h hk, f_X12_selecting_29, nI_1, Int32.or_zero]
    by_cases e : sxB (stS S k) = bx
    · rw [if_pos e, if_pos e]; rfl
    · rw [if_neg e, if_neg e]
theorem X12_entW_e (h : rep (rowf R) S) {s : Nat} (hs : s < stM S) (u : Int32) : f_X12_entryWith m (nI s) u (ov M m R) = some (nu1 (eix (sxE (stS S s)) u)) := by
  have hl := h.ls hs
  simp only [f_X12_entryWith, ov_ob]
  have key : ∀ (n k fu : Nat), k + n = (sxE (stS S s)).length → n < fu → (∀ j, j < k → ((sxE (stS S s)).map eU).getD j 0 ≠ u) → f_X12_entryWith_2 fu m (nI s) u (nI (k + 1)) (ov M m R) = some (nu1 (eix (sxE (stS S s)) u)) := by
    intro n
    induction n with
    | zero =>
      intro k fu hk hf hn
      obtain ⟨fu, rfl⟩ : ∃ x, fu = x + 1 := ⟨fu - 1, by omega⟩
      have hx : eix (sxE (stS S s)) u = none := ixl_no (fun j hj => hn j (by rw [List.length_map] at hj; omega))
      simp only [f_X12_entryWith_2, X12_ents_e h hs, bso, hx]
      rw [if_pos (by rw [ltT rfl rfl (show (sxE (stS S s)).length < k + 1 by omega) (by omega)]; trivial)]
      rfl
    | succ n ih =>
      intro k fu hk hf hn
      obtain ⟨fu, rfl⟩ : ∃ x, fu = x + 1 := ⟨fu - 1, by omega⟩
      have hkl : k < (sxE (stS S s)).length := by omega
      have hg : ((sxE (stS S s)).map eU).getD k 0 = eU (eg (sxE (stS S s)) k) := mapG (0, 0) eU rfl _ k
      simp only [f_X12_entryWith_2, X12_ents_e h hs, bso, (X12_ofE_e h hs hkl).1]
      rw [if_neg (by rw [ltF rfl rfl (show k + 1 ≤ (sxE (stS S s)).length by omega) (by omega)]; exact id)]
      by_cases e : eU (eg (sxE (stS S s)) k) = u
      · have hx : eix (sxE (stS S s)) u = some k := ixl_is (by rw [List.length_map]; exact hkl) (hg.trans e) hn
        rw [if_pos e, hx]; rfl
      · rw [if_neg e, nI_1]
        refine ih (k + 1) fu (by omega) (by omega) (fun j hj => ?_)
        by_cases ej : j = k
        · rw [ej, hg]; exact e
        · exact hn j (by omega)
  exact key (sxE (stS S s)).length 0 FU (Nat.zero_add _) (by rw [FU_eq]; omega) (fun j hj => absurd hj (Nat.not_lt_zero j))
theorem X12_fUns_e (h : rep (rowf R) S) {s : Nat} (hs : s < stM S) : f_X12_firstUnseen_16 FU m (nI s) 1 (ov M m R) = some (fns (sxE (stS S s)), ov M m R) := by
  have hl := h.ls hs
  have := lp_run (fun fu k (_ : Unit) => f_X12_firstUnseen_16 fu m (nI s) (nI (k + 1)) (ov M m R)) (fun k (_ : Unit) => if eT (eg (sxE (stS S s)) k) &&& 1 = 0 then (.inr (nI (k + 1), ov M m R) : Unit ⊕ (Int32 × Mem)) else .inl ()) (fun _ => (-1, ov M m R)) 0 (sxE (stS S s)).length
    (fun fu _ => by
      simp only [f_X12_firstUnseen_16, X12_ents_e h hs, bso, ltT rfl rfl (Nat.lt_succ_self (sxE (stS S s)).length) (show (sxE (stS S s)).length + 1 < 2 ^ 31 by omega), if_true])
    (fun fu k _ _ hk => by
      simp only [f_X12_firstUnseen_16, X12_ents_e h hs, bso, ltF rfl rfl (show k + 1 ≤ (sxE (stS S s)).length by omega) (show (sxE (stS S s)).length < 2 ^ 31 by omega), if_false, (X12_ofE_e h hs hk).2, nI_1]
      by_cases e : eT (eg (sxE (stS S s)) k) &&& 1 = 0
      · rw [if_pos e, if_pos e]
      · rw [if_neg e, if_neg e])
    (sxE (stS S s)).length 0 () FU (Nat.zero_add _) (Nat.le_refl _) (by rw [FU_eq]; omega)
  refine this.trans (congrArg some ?_)
  have hp : ∀ (n k : Nat), lp (fun k (_ : Unit) => if eT (eg (sxE (stS S s)) k) &&& 1 = 0 then (.inr (nI (k + 1), ov M m R) : Unit ⊕ (Int32 × Mem)) else .inl ()) (fun _ => (-1, ov M m R)) k n () = (lp (fun k (_ : Unit) => if eT (eg (sxE (stS S s)) k) &&& 1 = 0 then (.inr (nI (k + 1)) : Unit ⊕ Int32) else .inl ()) (fun _ => -1) k n (), ov M m R) := by
    intro n
    induction n with
    | zero => intro k; rfl
    | succ n ih =>
      intro k
      rw [lp, lp]
      by_cases e : eT (eg (sxE (stS S s)) k) &&& 1 = 0
      · simp only [e, if_true]
      · simp only [e, if_false]; exact ih (k + 1)
  exact hp _ 0
theorem X12_largest_e (h : rep (rowf R) S) {s : Nat} (hs : s < stM S) (hw : okV S (stS S s)) : f_X12_largest_21 FU m (nI s) (-1) 0 1 (ov M m R) = some ((lrg (sxE (stS S s)) (bof S (sxB (stS S s)))).1, ov M m R) := by
  have hl := h.ls hs
  refine fd_run (fun fu k (a : Int32 × Int32) => f_X12_largest_21 fu m (nI s) a.1 a.2 (nI (k + 1)) (ov M m R)) (fun k (a : Int32 × Int32) => if esz (bof S (sxB (stS S s))) (eg (sxE (stS S s)) k) ≤ a.2 then a else (nI (k + 1), esz (bof S (sxB (stS S s))) (eg (sxE (stS S s)) k))) (fun a => (a.1, ov M m R)) 0 (sxE (stS S s)).length ?_ ?_ (sxE (stS S s)).length 0 (-1, 0) FU (Nat.zero_add _) (Nat.le_refl _) (by rw [FU_eq]; omega)
  · intro fu a
    simp only [f_X12_largest_21, X12_ents_e h hs, bso, ltT rfl rfl (Nat.lt_succ_self (sxE (stS S s)).length) (show (sxE (stS S s)).length + 1 < 2 ^ 31 by omega), if_true]
  · intro fu k a _ hk
    have key : ∀ z, z = esz (bof S (sxB (stS S s))) (eg (sxE (stS S s)) k) → f_X12_largest_62 (f_X12_largest_21 fu) m (nI s) a.1 a.2 (nI (k + 1)) z (ov M m R) = f_X12_largest_21 fu m (nI s) (if esz (bof S (sxB (stS S s))) (eg (sxE (stS S s)) k) ≤ a.2 then a else (nI (k + 1), esz (bof S (sxB (stS S s))) (eg (sxE (stS S s)) k))).1 (if esz (bof S (sxB (stS S s))) (eg (sxE (stS S s)) k) ≤ a.2 then a else (nI (k + 1), esz (bof S (sxB (stS S s))) (eg (sxE (stS S s)) k))).2 (nI (k + 1 + 1)) (ov M m R) := by
      intro z hz
      rw [← hz]
      by_cases e : z ≤ a.2
      · rw [if_pos e]
        simp only [f_X12_largest_62, f_X12_largest_79, nI_1]
        rw [if_neg (Int32.not_lt.mpr e)]
      · rw [if_neg e]
        simp only [f_X12_largest_62, f_X12_largest_79, nI_1]
        rw [if_pos (Int32.not_le.mp e)]
    simp only [f_X12_largest_21, X12_ents_e h hs, bso, ltF rfl rfl (show k + 1 ≤ (sxE (stS S s)).length by omega) (show (sxE (stS S s)).length < 2 ^ 31 by omega), if_false, X12_isGone_e h hs hw hk]
    cases hg : gone (bof S (sxB (stS S s))) (eg (sxE (stS S s)) k) with
    | true =>
      simp only [cond_true]
      refine key 0 ?_
      unfold gone at hg
      unfold esz
      cases hm : mix (bof S (sxB (stS S s))) (eU (eg (sxE (stS S s)) k)) with
      | none => rfl
      | some j => rw [hm] at hg; cases hg
    | false =>
      simp only [cond_false]
      obtain ⟨b, hb, b1, b2⟩ := hw.box hk h.2.2.2.1
      rw [X12_boxOf_e h hs, bso, X12_msgOf_e h hs hw hk, bso]
      cases hm : mix (bof S (sxB (stS S s))) (eU (eg (sxE (stS S s)) k)) with
      | none => rw [gone, hm] at hg; cases hg
      | some j =>
        have hj : j < (stB S b).2.2.length := by have := mix_lt hm; rw [b2] at this; exact this
        rw [b1, oI_s, (X12_ofM_e h hb hj).2.1, bso]
        rw [← b1]
        refine key _ ?_
        unfold esz
        rw [hm, b2]
theorem X12_common_e (h : rep (rowf R) S) {s o : Nat} (hs : s < stM S) (ho : o < stM S) : f_X12_common_56 FU m (nI s) (nI o) 0 1 (ov M m R) = some (nI ((sxE (stS S s)).countP (fun e => (eix (sxE (stS S o)) (eU e)).isSome)), ov M m R) := by
  have hl := h.ls hs
  have hlo := h.ls ho
  have := fd_run (fun fu k a => f_X12_common_56 fu m (nI s) (nI o) a (nI (k + 1)) (ov M m R)) (fun k a => if (fun e => (eix (sxE (stS S o)) (eU e)).isSome) ((sxE (stS S s)).getD k (0, 0)) = true then a + 1 else a) (fun a => (a, ov M m R)) 0 (sxE (stS S s)).length
    (fun fu a => by simp only [f_X12_common_56, X12_ents_e h hs, bso, ltT rfl rfl (Nat.lt_succ_self (sxE (stS S s)).length) (show (sxE (stS S s)).length + 1 < 2 ^ 31 by omega), if_true])
    (fun fu k a _ hk => by
      simp only [f_X12_common_56, X12_ents_e h hs, bso, ltF rfl rfl (show k + 1 ≤ (sxE (stS S s)).length by omega) (show (sxE (stS S s)).length < 2 ^ 31 by omega), if_false, (X12_ofE_e h hs hk).1, X12_entW_e h ho, f_X12_common_89, nI_1]
      show _ = f_X12_common_56 fu m (nI s) (nI o) (if (eix (sxE (stS S o)) (eU (eg (sxE (stS S s)) k))).isSome = true then a + 1 else a) (nI (k + 1 + 1)) (ov M m R)
      by_cases e : nu1 (eix (sxE (stS S o)) (eU (eg (sxE (stS S s)) k))) = -1
      · have h2 := (nu1_iff hlo).mp e
        rw [if_pos e, h2]
        simp only [b2i_f, Int32.add_zero, Bool.false_eq_true, if_false]
      · have h2 : (eix (sxE (stS S o)) (eU (eg (sxE (stS S s)) k))).isSome = true := by
          cases z : (eix (sxE (stS S o)) (eU (eg (sxE (stS S s)) k))).isSome with
          | true => rfl
          | false => exact absurd ((nu1_iff hlo).mpr z) e
        rw [if_neg e, h2]
        simp only [b2i_t, if_true])
    (sxE (stS S s)).length 0 0 FU (Nat.zero_add _) (Nat.le_refl _) (by rw [FU_eq]; omega)
  refine this.trans ?_
  have hc := fd_cnt ((0, 0) : En) (fun e => (eix (sxE (stS S o)) (eU e)).isSome) (sxE (stS S s)) _ 0 0 (Nat.zero_add _)
  rw [List.drop_zero, Int32.zero_add] at hc
  exact congrArg (fun x => some (x, ov M m R)) hc
theorem X12_hold_e (h : rep (rowf R) S) (bx u : Int32) : f_X12_holders_19 FU m bx u 0 0 (ov M m R) = some (hldS S bx u, ov M m R) := by
  have h4 := h.2.2.2.2.1
  refine fd_run (fun fu k a => f_X12_holders_19 fu m bx u a (nI k) (ov M m R)) (fun k a => if sxB (stS S k) = bx ∧ (eix (sxE (stS S k)) u).isSome = true then a ||| b1 k else a) (fun a => (a, ov M m R)) 0 (stM S) ?_ ?_ (stM S) 0 0 FU (Nat.zero_add _) (Nat.le_refl _) (by rw [FU_eq]; omega)
  · intro fu a
    simp only [f_X12_holders_19, X12_sess_e h, bso, leT rfl rfl (Nat.le_refl (stM S)) (show stM S < 2 ^ 31 by omega), if_true]
  · intro fu k a _ hk
    have hlk := h.ls hk
    simp only [f_X12_holders_19, X12_sess_e h, bso, leF rfl rfl hk (show stM S < 2 ^ 31 by omega), if_false, X12_boxOf_e h hk, X12_entW_e h hk, f_X12_holders_57, f_X12_holders_58, nI_1, Int32.or_zero]
    by_cases e : sxB (stS S k) = bx
    · rw [if_pos e]
      by_cases e2 : nu1 (eix (sxE (stS S k)) u) = -1
      · have := (nu1_iff hlk).mp e2
        rw [if_pos e2, if_neg (fun z => by rw [this] at z; cases z.2)]
      · have h2 : (eix (sxE (stS S k)) u).isSome = true := by
          cases z : (eix (sxE (stS S k)) u).isSome with
          | true => rfl
          | false => exact absurd ((nu1_iff hlk).mpr z) e2
        rw [if_neg e2, if_pos ⟨e, h2⟩]; rfl
    · rw [if_neg e, if_neg (fun z => e z.1)]
theorem X12_upto_e (h : rep (rowf R) S) {s : Nat} (hs : s < stM S) (hw : okV S (stS S s)) : f_X12_isUpToDate m (nI s) (ov M m R) = some (!decide (sxB (stS S s) = -1) && decide (pndS S (stS S s) = 0)) := by
  have hl := h.ls hs
  have hp : pndS S (stS S s) ≤ 121 := pend_lt _ hl
  have hq : (nI (pndS S (stS S s)) = 0) = (pndS S (stS S s) = 0) := eqI (b := 0) rfl rfl (by omega) (by omega)
  simp only [f_X12_isUpToDate, ov_ob, X12_hasBox_e h hs, bso, X12_pend_e h hs hw, hq]
  cases decide (sxB (stS S s) = -1) with
  | true => rfl
  | false =>
    by_cases e : pndS S (stS S s) = 0
    · simp [e]
    · simp [e]
theorem pnd_0 {S : St} {s : Sx} (h : okV S s) (hb : sxB s = -1) : pndS S s = 0 := by
  unfold pndS
  rw [hb, bof_no, h.2 hb]
  rfl
theorem X12_stale_e (h : rep (rowf R) S) (hw : ∀ k, k < stM S → okV S (stS S k)) : f_X12_stale_9 FU m 0 0 (ov M m R) = some (stl S, ov M m R) := by
  have h4 := h.2.2.2.2.1
  refine fd_run (fun fu k a => f_X12_stale_9 fu m a (nI k) (ov M m R)) (fun k a => if 0 < pndS S (stS S k) then a ||| b1 k else a) (fun a => (a, ov M m R)) 0 (stM S) ?_ ?_ (stM S) 0 0 FU (Nat.zero_add _) (Nat.le_refl _) (by rw [FU_eq]; omega)
  · intro fu a
    simp only [f_X12_stale_9, X12_sess_e h, bso, leT rfl rfl (Nat.le_refl (stM S)) (show stM S < 2 ^ 31 by omega), if_true]
  · intro fu k a _ hk
    simp only [f_X12_stale_9, X12_sess_e h, bso, leF rfl rfl hk (show stM S < 2 ^ 31 by omega), if_false, X12_hasBox_e h hk, X12_upto_e h hk (hw k hk), f_X12_stale_40, f_X12_stale_41, nI_1, Int32.or_zero]
    by_cases e : sxB (stS S k) = -1
    · have h0 := pnd_0 (hw k hk) e
      rw [decide_eq_true e, if_neg (by omega)]
      rfl
    · rw [decide_eq_false e]
      by_cases e2 : pndS S (stS S k) = 0
      · rw [decide_eq_true e2, if_neg (by omega)]; rfl
      · rw [decide_eq_false e2, if_pos (by omega)]; rfl
end
