/-! PURE: bits of a mask; the reference reads names and flags -/
theorem sh_amt : ∀ j, j < 32 → ((nI j &&& 31).toBitVec.smod 32).toNat = j := by decide +kernel
theorem b1_v : ∀ j, j < 32 → (b1 j).toBitVec = BitVec.twoPow 32 j := by decide +kernel
theorem and1 (y : BitVec 32) : y &&& 1#32 = if y.getLsbD 0 = true then 1#32 else 0#32 := by
  have h := BitVec.and_twoPow (x := y) (i := 0)
  have h1 : BitVec.twoPow 32 0 = 1#32 := by decide
  rw [h1] at h
  exact h
theorem sh_bit (x : Int32) {j : Nat} (hj : j < 32) : ((x >>> (nI j &&& 31)) &&& 1).toBitVec = if x.toBitVec.getLsbD j = true then 1#32 else 0#32 := by
  rw [Int32.toBitVec_and, Int32.toBitVec_shiftRight]
  show x.toBitVec.sshiftRight (((nI j &&& 31).toBitVec.smod 32).toNat) &&& 1#32 = _
  rw [sh_amt j hj, and1, BitVec.getLsbD_sshiftRight]
  simp only [Nat.add_zero, hj, if_true, show ¬ (32 ≤ 0) by decide, decide_false, Bool.not_false, Bool.true_and]
theorem bit_1 (x : Int32) {j : Nat} (hj : j < 32) : ((x >>> (nI j &&& 31)) &&& 1 = 1) = (x.toBitVec.getLsbD j = true) := by
  refine propext ⟨fun h => ?_, fun h => Int32.toBitVec_inj.mp ?_⟩
  · have := congrArg Int32.toBitVec h
    rw [sh_bit x hj] at this
    by_cases e : x.toBitVec.getLsbD j = true
    · exact e
    · rw [if_neg e] at this; exact absurd this (by decide)
  · rw [sh_bit x hj, if_pos h]; rfl
theorem bit_0 (x : Int32) {j : Nat} (hj : j < 32) : ((x >>> (nI j &&& 31)) &&& 1 = 0) = (x.toBitVec.getLsbD j = false) := by
  refine propext ⟨fun h => ?_, fun h => Int32.toBitVec_inj.mp ?_⟩
  · have := congrArg Int32.toBitVec h
    rw [sh_bit x hj] at this
    cases e : x.toBitVec.getLsbD j with
    | false => rfl
    | true => rw [if_pos e] at this; exact absurd this (by decide)
  · rw [sh_bit x hj, if_neg (by rw [h]; decide)]; rfl
theorem msk_0 (x : Int32) {j : Nat} (hj : j < 32) : (x &&& b1 j = 0) = (x.toBitVec.getLsbD j = false) := by
  have hv : (x &&& b1 j).toBitVec = if x.toBitVec.getLsbD j = true then BitVec.twoPow 32 j else 0#32 := by
    rw [Int32.toBitVec_and, b1_v j hj, BitVec.and_twoPow]
  refine propext ⟨fun h => ?_, fun h => Int32.toBitVec_inj.mp ?_⟩
  · have := congrArg Int32.toBitVec h
    rw [hv] at this
    cases e : x.toBitVec.getLsbD j with
    | false => rfl
    | true =>
      rw [if_pos e] at this
      have hn : ∀ j, j < 32 → BitVec.twoPow 32 j ≠ (0 : Int32).toBitVec := by decide +kernel
      exact absurd this (hn j hj)
  · rw [hv, if_neg (by rw [h]; decide)]; rfl
theorem X12_has_e (x : Int32) {j : Nat} (hj : j < 32) (M : Mem) : f_X12_has x (nI j) M = some (!decide (x &&& b1 j = 0)) := by
  simp only [f_X12_has, bit_1 x hj, msk_0 x hj]
  cases x.toBitVec.getLsbD j <;> rfl
theorem toks_ge {l : List Int32} : ∀ i, tkK (toks l i) ≠ 0 → i ≤ tkS (toks l i) := by
  intro i
  induction i with
  | zero => intro _; exact Nat.zero_le _
  | succ i ih =>
    intro h
    have h0 : tkK (toks l i) ≠ 0 := by
      intro z
      rw [toks_after z (i + 1) (by omega)] at h
      exact h rfl
    have a1 := ih h0
    have a2 : tkS (toks l i) < tkE (toks l i) := by
      cases i with
      | zero => exact (tkAt_E.2 h0).2.1
      | succ i => exact (tkAt_E.2 h0).2.1
    have a3 := (tkAt_E (l := l) (p := tkE (toks l i)).2 h).2.2
    have a3 : tkE (toks l i) ≤ tkS (toks l (i + 1)) := a3
    omega
theorem toks_far {l : List Int32} {i : Nat} (h : l.length ≤ i) : tkK (toks l i) = 0 := by
  by_cases e : tkK (toks l i) = 0
  · exact e
  · have h1 := toks_ge i e
    have h2 := toks_le l i
    have h3 : tkS (toks l i) < tkE (toks l i) := by
      cases i with
      | zero => exact (tkAt_E.2 e).2.1
      | succ i => exact (tkAt_E.2 e).2.1
    omega
section
variable {M : Mem} {m : Nat} {R : Rs} {l : List Int32} {i : Nat} {c p : Int32}
theorem nameOf_loop (hl : l.length ≤ 700) (hR : ∀ k, k < l.length → R.2.2.2 5 k = l.getD k 0) {e : Nat} (he : e ≤ l.length) : ∀ (n j fu : Nat) (a : Int64), j + n = e → n < fu →
    f_X12_nameOf_5 fu (m + 5) (nI e) a (nI j) (ov M m R) = some (((l.take e).drop j).foldl rstp a) := by
  intro n
  induction n with
  | zero =>
    intro j fu a hj hf
    obtain ⟨fu, rfl⟩ : ∃ x, fu = x + 1 := ⟨fu - 1, by omega⟩
    simp only [f_X12_nameOf_5]
    rw [if_pos (by rw [leT rfl rfl (show e ≤ j by omega) (by omega)]; trivial), List.drop_eq_nil_of_le (by rw [List.length_take]; omega)]
    rfl
  | succ n ih =>
    intro j fu a hj hf
    obtain ⟨fu, rfl⟩ : ∃ x, fu = x + 1 := ⟨fu - 1, by omega⟩
    have hj2 : j < (l.take e).length := by rw [List.length_take]; omega
    have ha : aI (ov M m R) 2 (m + 5) (nI j) = some (l.getD j 0) := by rw [r_a5 M m R (show j < 700 by omega), hR j (by omega)]
    simp only [f_X12_nameOf_5]
    rw [if_neg (by rw [leF rfl rfl (show j < e by omega) (by omega)]; exact id), ha]
    simp only [bso, nI_1]
    rw [ih (j + 1) fu _ (by omega) (by omega), List.drop_eq_getElem_cons hj2, List.foldl_cons]
    have hg : (l.take e)[j] = l.getD j 0 := by
      rw [List.getElem_take, List.getD_eq_getElem?_getD, List.getElem?_eq_getElem (show j < l.length by omega)]; rfl
    rw [hg]
    rfl
/-- the token's bytes, as they are held -/
def twd (l : List Int32) (t : Tk) : List Int32 := (l.take (tkE t)).drop (tkS t)
theorem twd_lets (hy : byR l) (hn : tName l (toks l i) = true) : lets (twd l (toks l i)) := by
  have hn' := of_decide_eq_true hn
  obtain ⟨k1, -, k6⟩ := hn'
  obtain ⟨hse, hlet⟩ := toks_word k1
  have hE := toks_le l i
  have hlt : tkS (toks l i) < tkE (toks l i) := by
    cases i with
    | zero => exact (tkAt_E.2 (by rw [show tkAt l 0 = toks l 0 from rfl, k1]; decide)).2.1
    | succ i => exact (tkAt_E.2 (by rw [show tkAt l (tkE (toks l i)) = toks l (i + 1) from rfl, k1]; decide)).2.1
  have hlen : (twd l (toks l i)).length = tkE (toks l i) - tkS (toks l i) := by rw [twd, List.length_drop, List.length_take]; omega
  refine ⟨by omega, by omega, fun x hx => ?_⟩
  obtain ⟨j, hj, rfl⟩ := List.getElem_of_mem hx
  have hg? : (twd l (toks l i))[j]? = some (l.getD (tkS (toks l i) + j) 0) := by
    unfold twd
    rw [List.getElem?_drop, List.getElem?_take, if_pos (by omega), List.getD_eq_getElem?_getD, List.getElem?_eq_getElem (show tkS (toks l i) + j < l.length by omega)]; rfl
  have hg : (twd l (toks l i))[j] = l.getD (tkS (toks l i) + j) 0 := Option.some.inj ((List.getElem?_eq_getElem hj).symm.trans hg?)
  have hL := hlet (tkS (toks l i) + j) (by omega) (by omega)
  obtain ⟨d, hd, hch⟩ := ch_in (l := l) (k := tkS (toks l i) + j) (by omega)
  rw [hg, hy _ (by omega) hL, hch]
  rw [hch] at hL
  have := (isL_n hd).mp hL
  exact ⟨d, this.1, this.2, rfl⟩
theorem nmOf_R (hy : byR l) (hn : tName l (toks l i) = true) : nmR (nmOf l (toks l i)) (rnm (twd l (toks l i))) := by
  refine ⟨_, twd_lets hy hn, ?_, rfl⟩
  rw [nmOf, if_pos (of_decide_eq_true hn).1]
  rfl
theorem X12_nameHere_L (h : rL R l i) : ∃ x R', f_X12_nameHere m (ov M m R) = some (x, ov M m R') ∧ rk R R' ∧ ((tName l (toks l i) = true ∧ R' = R ∧ nmR (nmOf l (toks l i)) x) ∨ (tName l (toks l i) = false ∧ rF R' l 1 (nI (tkS (toks l i))))) := by
  simp only [f_X12_nameHere, ov_ob, X12_isName_L h, bso]
  cases e : tName l (toks l i) with
  | true =>
    have g10 : gI (ov M m R) 11 10 m = some (nI (tkE (toks l i))) := by rw [r_g10, h.2.1]
    have g11 : gI (ov M m R) 11 11 m = some (nI (tkS (toks l i))) := by rw [r_g11, h.2.2.1]
    have hse := (toks_word (of_decide_eq_true e).1).1
    have hlen := h.1.1.2.1
    have hE := toks_le l i
    have hn : f_X12_nameOf (m + 5) (nI (tkS (toks l i))) (nI (tkE (toks l i))) (ov M m R) = some (rnm (twd l (toks l i))) := nameOf_loop hlen h.1.1.2.2 hE (tkE (toks l i) - tkS (toks l i)) (tkS (toks l i)) FU 0 (by omega) (by rw [FU_eq]; omega)
    exact ⟨_, R, by simp only [cond_true, f_X12_nameHere_12, X12_good_L h, bso, r_g7, g10, g11, hn], rk.rf R, .inl ⟨rfl, rfl, nmOf_R h.1.2 e⟩⟩
  | false =>
    obtain ⟨R1, e1, h1, k1⟩ := X12_errs_L (M := M) (m := m) h (e := 1) (by decide)
    exact ⟨0, R1, by simp only [cond_false, e1, bso, f_X12_nameHere_12, X12_good_F h1], k1, .inr ⟨rfl, h1⟩⟩
theorem X12_nameHere_F (h : rF R l c p) : f_X12_nameHere m (ov M m R) = some (0, ov M m R) := by
  simp only [f_X12_nameHere, ov_ob, X12_isName_F h, bso, cond_false, X12_errs_F h, f_X12_nameHere_12, X12_good_F h]
variable {S : St}
theorem X12_boxNm_e (h : rep (rowf R) S) {J j : Int64} (hJ : nmR J j) : f_X12_boxNamed m j (ov M m R) = some (bnm S J) := by
  have h3 := h.2.2.2.1
  simp only [f_X12_boxNamed, ov_ob]
  refine lp_run (fun fu k _ => f_X12_boxNamed_2 fu m j (nI k) (ov M m R)) _ _ 0 (stN S) ?_ ?_ (stN S) 0 () FU (Nat.zero_add _) (Nat.le_refl _) (by rw [FU_eq]; omega)
  · intro fu _
    simp only [f_X12_boxNamed_2, X12_boxes_e h, bso, leT rfl rfl (Nat.le_refl (stN S)) (show stN S < 2 ^ 31 by omega), if_true]
  · intro fu k _ _ hk
    have hb : nmR (stB S k).1 (rowf R (bAt k)) := (h.bx hk).1
    have hi := nmR_iff hb hJ
    simp only [f_X12_boxNamed_2, X12_boxes_e h, bso, leF rfl rfl hk (show stN S < 2 ^ 31 by omega), if_false, r_g3, X12_boxAt_e, nI0', r_row M m R (show bAt k < 806 by unfold bAt; omega), lg_cmp_eq, nI_1]
    by_cases e : (stB S k).1 = J
    · rw [if_pos e, if_pos (hi.mp e)]
    · rw [if_neg e, if_neg (fun z => e (hi.mpr z))]
theorem X12_sesNm_e (h : rep (rowf R) S) {J j : Int64} (hJ : nmR J j) : f_X12_sessionNamed m j (ov M m R) = some (snm S J) := by
  have h3 := h.2.2.2.2.1
  simp only [f_X12_sessionNamed, ov_ob]
  refine lp_run (fun fu k _ => f_X12_sessionNamed_2 fu m j (nI k) (ov M m R)) _ _ 0 (stM S) ?_ ?_ (stM S) 0 () FU (Nat.zero_add _) (Nat.le_refl _) (by rw [FU_eq]; omega)
  · intro fu _
    simp only [f_X12_sessionNamed_2, X12_sess_e h, bso, leT rfl rfl (Nat.le_refl (stM S)) (show stM S < 2 ^ 31 by omega), if_true]
  · intro fu k _ _ hk
    have hb : nmR (stS S k).1 (rowf R (sAt k)) := (h.sx hk).1
    have hi := nmR_iff hb hJ
    simp only [f_X12_sessionNamed_2, X12_sess_e h, bso, leF rfl rfl hk (show stM S < 2 ^ 31 by omega), if_false, r_g3, X12_sesAt_e, nI0', r_row M m R (show sAt k < 806 by unfold sAt; omega), lg_cmp_eq, nI_1]
    by_cases e : (stS S k).1 = J
    · rw [if_pos e, if_pos (hi.mp e)]
    · rw [if_neg e, if_neg (fun z => e (hi.mpr z))]
end
