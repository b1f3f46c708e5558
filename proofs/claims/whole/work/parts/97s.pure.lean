/-! PURE: readers -/
theorem sel_in {j n : Nat} (hj : j ≤ n) (hn : n < 2 ^ 31) : (!decide (nI j < 0) && !decide (nI n < nI j)) = true := by
  have a : ¬ (nI j < 0) := Int32.not_lt.mpr (nI_ge0 (by omega))
  have b : ¬ (nI n < nI j) := by rw [nI_ltI hn (by omega)]; omega
  rw [decide_eq_false a, decide_eq_false b]; rfl
theorem sel_ex (a : Int32) {n : Nat} (hn : n < 2 ^ 31) : (∃ j, j ≤ n ∧ a = nI j) ∨ ((!decide (a < 0) && !decide (nI n < a)) = false ∧ ∀ j, j ≤ n → a ≠ nI j) := by
  rcases i_cases a with h | ⟨j, hj, rfl⟩
  · refine .inr ⟨by rw [decide_eq_true h]; rfl, fun j hj z => ?_⟩
    rw [z] at h
    exact Int32.not_lt.mpr (nI_ge0 (by omega)) h
  · by_cases e : j ≤ n
    · exact .inl ⟨j, e, rfl⟩
    · have b : nI n < nI j := by rw [nI_ltI hn hj]; omega
      refine .inr ⟨by rw [decide_eq_true b, Bool.and_comm]; rfl, fun i hi z => ?_⟩
      have := (nI_eq hj (by omega)).mp z
      omega
theorem idx_in {j n : Nat} (hj : j < n) (hn : n < 2 ^ 31) : (!decide (nI j < 0) && !decide (nI n - 1 < nI j)) = true := by
  obtain ⟨k, rfl⟩ : ∃ k, n = k + 1 := ⟨n - 1, by omega⟩
  rw [nI_pred]
  exact sel_in (by omega) (by omega)
theorem idx_no {a : Int32} {n : Nat} (hn : n < 2 ^ 31) (h : ¬ ∃ j, j < n ∧ a = nI j) : (!decide (a < 0) && !decide (nI n - 1 < a)) = false := by
  by_cases e : n = 0
  · subst e
    by_cases s : a < 0
    · rw [decide_eq_true s]; rfl
    · have : nI 0 - 1 < a := Int32.lt_of_lt_of_le (show nI 0 - 1 < (0 : Int32) by decide) (Int32.not_lt.mp s)
      rw [decide_eq_true this, Bool.and_comm]; rfl
  · obtain ⟨k, rfl⟩ : ∃ k, n = k + 1 := ⟨n - 1, by omega⟩
    rw [nI_pred]
    rcases sel_ex a (n := k) (by omega) with ⟨j, hj, z⟩ | ⟨z, -⟩
    · exact absurd ⟨j, by omega, z⟩ h
    · exact z
section
variable {M : Mem} {m : Nat} {R : Rs} {I O : List Int32} {S : St} {K : Nat → St} {B : Nat → Bool} {C : Nat} {H : Nat → St} {N : List Nt} {E : Er} {c : Nat}
theorem Both.rd {fX : Option ((Int32 ⊕ String) × Mem)} {gX : Mem → Option (Int32 × Mem)} {hs : List (String × Int32)} {v : Int32} (h : Cls M I O S K B C H N E) (hr : Ref R I O S K B C H N E) (w : okW c I O S K B C H N)
    (e1 : fX = some (.inl v, M)) (e4 : ∀ M2, gX (ov M2 716 R) = some (v, ov M2 716 (rsS R 0 0))) : Both fX gX M R hs (c + 1) E :=
  ⟨0, v, I, O, S, K, B, C, H, N, ClsO.rd e1 h, fun M2 => RefO.rd (e4 M2) (fun _ => rfl) (hr.t 0), w.up (Nat.le_succ c)⟩
theorem in_e (a : Int32) (n : Nat) (M : Mem) : f_X12_in (Int32.toInt64 a) 0 (Int32.toInt64 (nI n)) M = some (!decide (a < 0) && !decide (nI n < a)) := by
  rw [X12_in_e]; exact congrArg some (btw_c a 0 (nI n))
theorem in_x (a b : Int32) (M : Mem) : f_X12_in (Int32.toInt64 a) 0 (Int32.toInt64 b) M = some (!decide (a < 0) && !decide (b < a)) := by
  rw [X12_in_e]; exact congrArg some (btw_c a 0 b)
theorem p2_11 (M2 : Mem) : f_X12_passes2 716 true true (ov M2 716 R) = some (true, ov M2 716 (rsS R 0 0)) := X12_pass2_e true true
theorem p2_10 (M2 : Mem) : f_X12_passes2 716 true false (ov M2 716 R) = some (false, ov M2 716 (rsS R 0 2)) := X12_pass2_e true false
theorem p2_0 (M2 : Mem) (b : Bool) : f_X12_passes2 716 false b (ov M2 716 R) = some (false, ov M2 716 (rsS R 0 1)) := X12_pass2_e false b
theorem p1_1 (M2 : Mem) : f_X12_passes 716 true (ov M2 716 R) = some (true, ov M2 716 (rsS R 0 0)) := X12_pass1_e true
theorem p1_0 (M2 : Mem) : f_X12_passes 716 false (ov M2 716 R) = some (false, ov M2 716 (rsS R 0 1)) := X12_pass1_e false
theorem cs_box (h : Cls M I O S K B C H N E) (hr : Ref R I O S K B C H N E) (w : okW c I O S K B C H N) (a s : Int32) : Both (f_X11_box 100 a s M) (f_X12_box 716 a s) M R [("java/lang/IndexOutOfBoundsException", 1), ("java/lang/IllegalArgumentException", 2)] (c + 1) E := by
  have hin : ∀ M2, f_X12_in (Int32.toInt64 s) 0 5 M2 = some (!decide (s < 0) && !decide (nI 5 < s)) := in_e s 5
  by_cases hx : ∃ k, k < stN S ∧ a = nI k
  · obtain ⟨b, hb, rfl⟩ := hx
    have hbx := h.bx hb
    have hq : rep (rowf (rsS R 0 0)) S := hr.2.1
    have l30 : (stB S b).2.2.length ≤ 30 := bA.len hbx
    rcases sel_ex s (n := 5) (by omega) with ⟨j, hj, rfl⟩ | ⟨z, zn⟩
    · have si := sel_in hj (show 5 < 2 ^ 31 by omega)
      have h01 : ∀ k, f_X0_withFlag (boxR 105 b) k M = some (setB (pF k) (stB S b).2.2) := fun k => X0_withFlag_e hbx k
      have hsz : f_X0_size (boxR 105 b) M = some (nI (stB S b).2.2.length) := X0_size_e hbx
      have hsm : f_X0_sumOfSizes (boxR 105 b) M = some (sumS (stB S b).2.2) := X0_sum_e hbx
      have hgN : gI M 0 1 (boxR 105 b) = some (stB S b).2.1 := bA.gN hbx
      have hse : f_X8_sessionsOf 105 (nI b) M = some (selS S (nI b)) := X8_sesOf_e h.s (nI b)
      have bc := fun p => bitc_setB p l30
      have g2 : ∀ M2, f_X12_get 716 (nI (bAt b) + 2) (ov M2 716 (rsS R 0 0)) = some (stB S b).2.1 := fun M2 => by
        rw [nI2, X12_get_e (show bAt b + 2 < 806 by have := hq.2.2.2.1; unfold bAt; omega)]
        exact congrArg some (hq.bx hb).2.2.1
      have : j = 0 ∨ j = 1 ∨ j = 2 ∨ j = 3 ∨ j = 4 ∨ j = 5 := by omega
      rcases this with rfl | rfl | rfl | rfl | rfl | rfl
      · refine Both.rd h hr w (v := nI (stB S b).2.2.length) (by rw [f_X11_box, h.ob, bX_l (reqBox_in h hb), if_pos (show nI 0 = 0 by decide)]; simp only [hsz, bso]) (fun M2 => ?_)
        simp only [f_X12_box, ov_ob, X12_isBox_in hr.2.1 hb, hin, si, bso, p2_11, cond_true, X12_many_e hq hb]
        rw [if_pos (show nI 0 = 0 by decide)]
      · refine Both.rd h hr w (v := (stB S b).2.1) (by rw [f_X11_box, h.ob, bX_l (reqBox_in h hb), if_neg (show ¬ (nI 1 = 0) by decide), if_pos (show nI 1 = 1 by decide)]; simp only [hgN, bso]) (fun M2 => ?_)
        simp only [f_X12_box, ov_ob, X12_isBox_in hr.2.1 hb, hin, si, bso, p2_11, cond_true, X12_boxAt_e, g2]
        rw [if_neg (show ¬ (nI 1 = 0) by decide), if_pos (show nI 1 = 1 by decide)]
      · refine Both.rd h hr w (v := sumS (stB S b).2.2) (by rw [f_X11_box, h.ob, bX_l (reqBox_in h hb), if_neg (show ¬ (nI 2 = 0) by decide), if_neg (show ¬ (nI 2 = 1) by decide), if_pos (show nI 2 = 2 by decide)]; simp only [hsm, bso]) (fun M2 => ?_)
        simp only [f_X12_box, ov_ob, X12_isBox_in hr.2.1 hb, hin, si, bso, p2_11, cond_true, X12_sizes_e hq hb]
        rw [if_neg (show ¬ (nI 2 = 0) by decide), if_neg (show ¬ (nI 2 = 1) by decide), if_pos (show nI 2 = 2 by decide)]
      · refine Both.rd h hr w (v := nI (stB S b).2.2.length - nI ((stB S b).2.2.countP (pF 1))) (by rw [f_X11_box, h.ob, bX_l (reqBox_in h hb), if_neg (show ¬ (nI 3 = 0) by decide), if_neg (show ¬ (nI 3 = 1) by decide), if_neg (show ¬ (nI 3 = 2) by decide), if_pos (show nI 3 = 3 by decide)]; simp only [hsz, h01, bc, bso]) (fun M2 => ?_)
        simp only [f_X12_box, ov_ob, X12_isBox_in hr.2.1 hb, hin, si, bso, p2_11, cond_true, X12_many_e hq hb, X12_flagd_e hq hb]
        rw [if_neg (show ¬ (nI 3 = 0) by decide), if_neg (show ¬ (nI 3 = 1) by decide), if_neg (show ¬ (nI 3 = 2) by decide), if_pos (show nI 3 = 3 by decide)]
      · refine Both.rd h hr w (v := nI ((stB S b).2.2.countP (pF 8))) (by rw [f_X11_box, h.ob, bX_l (reqBox_in h hb), if_neg (show ¬ (nI 4 = 0) by decide), if_neg (show ¬ (nI 4 = 1) by decide), if_neg (show ¬ (nI 4 = 2) by decide), if_neg (show ¬ (nI 4 = 3) by decide), if_pos (show nI 4 = 4 by decide)]; simp only [h01, bc, bso]) (fun M2 => ?_)
        simp only [f_X12_box, ov_ob, X12_isBox_in hr.2.1 hb, hin, si, bso, p2_11, cond_true, X12_flagd_e hq hb]
        rw [if_neg (show ¬ (nI 4 = 0) by decide), if_neg (show ¬ (nI 4 = 1) by decide), if_neg (show ¬ (nI 4 = 2) by decide), if_neg (show ¬ (nI 4 = 3) by decide), if_pos (show nI 4 = 4 by decide)]
      · refine Both.rd h hr w (v := selS S (nI b)) (by rw [f_X11_box, h.ob, bX_l (reqBox_in h hb), if_neg (show ¬ (nI 5 = 0) by decide), if_neg (show ¬ (nI 5 = 1) by decide), if_neg (show ¬ (nI 5 = 2) by decide), if_neg (show ¬ (nI 5 = 3) by decide), if_neg (show ¬ (nI 5 = 4) by decide), if_pos (show nI 5 = 5 by decide)]; simp only [h.g2, hse, bso]) (fun M2 => ?_)
        simp only [f_X12_box, ov_ob, X12_isBox_in hr.2.1 hb, hin, si, bso, p2_11, cond_true, X12_selg_e hq]
        rw [if_neg (show ¬ (nI 5 = 0) by decide), if_neg (show ¬ (nI 5 = 1) by decide), if_neg (show ¬ (nI 5 = 2) by decide), if_neg (show ¬ (nI 5 = 3) by decide), if_neg (show ¬ (nI 5 = 4) by decide)]
    · refine Both.no h hr w (by rw [f_X11_box, h.ob, bX_l (reqBox_in h hb), if_neg (show ¬ (s = 0) from zn 0 (by omega)), if_neg (show ¬ (s = 1) from zn 1 (by omega)), if_neg (show ¬ (s = 2) from zn 2 (by omega)), if_neg (show ¬ (s = 3) from zn 3 (by omega)), if_neg (show ¬ (s = 4) from zn 4 (by omega)), if_neg (show ¬ (s = 5) from zn 5 (by omega))]) (hf2 neA _ _ _) (by decide) (fun M2 => ?_)
      simp only [f_X12_box, ov_ob, X12_isBox_in hr.2.1 hb, hin, z, bso, p2_10, cond_false]
  · refine Both.no h hr w (by rw [f_X11_box, h.ob, bX_r (reqBox_no h hx)]) (hf1 _ _ _) (by decide) (fun M2 => ?_)
    simp only [f_X12_box, ov_ob, X12_isBox_no hr.2.1 hx, hin, bso, p2_0, cond_false]
theorem cs_message (h : Cls M I O S K B C H N E) (hr : Ref R I O S K B C H N E) (w : okW c I O S K B C H N) (a i s : Int32) : Both (f_X11_message 100 a i s M) (f_X12_message 716 a i s) M R [("java/lang/IndexOutOfBoundsException", 1), ("java/lang/IllegalArgumentException", 2)] (c + 1) E := by
  have hin : ∀ M2, f_X12_in (Int32.toInt64 s) 0 2 M2 = some (!decide (s < 0) && !decide (nI 2 < s)) := in_e s 2
  have f30 : ∀ M2, f_X12_message_30 716 a i s 716 (ov M2 716 R) = some (0, ov M2 716 (rsS R 0 1)) := fun M2 => by
    simp only [f_X12_message_30, f_X12_message_31, hin, bso, p2_0, cond_false]
  by_cases hx : ∃ k, k < stN S ∧ a = nI k
  · obtain ⟨b, hb, rfl⟩ := hx
    have hbx := h.bx hb
    have hq : rep (rowf (rsS R 0 0)) S := hr.2.1
    have l30 : (stB S b).2.2.length ≤ 30 := bA.len hbx
    have hsz : f_X0_size (boxR 105 b) M = some (nI (stB S b).2.2.length) := X0_size_e hbx
    have hi2 : ∀ M2, f_X12_in (Int32.toInt64 i) 0 (Int32.toInt64 (nI (stB S b).2.2.length - 1)) M2 = some (!decide (i < 0) && !decide (nI (stB S b).2.2.length - 1 < i)) := in_x i _
    by_cases hy : ∃ j, j < (stB S b).2.2.length ∧ i = nI j
    · obtain ⟨j, hj, rfl⟩ := hy
      have n0 : ¬ (nI j < 0) := Int32.not_lt.mpr (nI_ge0 (by omega))
      have n1 : nI j < nI (stB S b).2.2.length := by rw [nI_ltI (by omega) (by omega)]; exact hj
      have io := idx_in hj (by omega)
      have hX : f_X11_message 100 (nI b) (nI j) s M = if s = 0 then ((gR M 0 2 (boxR 105 b)).bind fun x4 => (f_X5_get x4 (nI j) M).bind fun x5 => some (.inl x5, M)) else if s = 1 then ((gR M 0 3 (boxR 105 b)).bind fun x6 => (f_X5_get x6 (nI j) M).bind fun x7 => some (.inl x7, M)) else if s = 2 then ((gR M 0 4 (boxR 105 b)).bind fun x8 => (f_X5_get x8 (nI j) M).bind fun x9 => some (.inl x9, M)) else (some (.inr "java/lang/IllegalArgumentException", mskip M)) := by
        rw [f_X11_message, h.ob, bX_l (reqBox_in h hb), if_neg n0]
        simp only [hsz, bso]
        rw [if_pos n1]
      have gU : gR M 0 2 (boxR 105 b) = some (boxR 105 b + 1) := bA.gU hbx
      have gS : gR M 0 3 (boxR 105 b) = some (boxR 105 b + 3) := bA.gS hbx
      have gF : gR M 0 4 (boxR 105 b) = some (boxR 105 b + 5) := bA.gF hbx
      have u1 : f_X5_get (boxR 105 b + 1) (nI j) M = some (mU (mg (stB S b).2.2 j)) := by
        have : f_X5_get (boxR 105 b + 1) (nI j) M = some (lgt ((stB S b).2.2.map mU) (nI j)) := X5_get_e hbx.2.1 _
        rw [this, lgt_n _ (by omega), mapD _ hj]
      have u2 : f_X5_get (boxR 105 b + 3) (nI j) M = some (mS (mg (stB S b).2.2 j)) := by
        have : f_X5_get (boxR 105 b + 3) (nI j) M = some (lgt ((stB S b).2.2.map mS) (nI j)) := X5_get_e hbx.2.2.1 _
        rw [this, lgt_n _ (by omega), mapD _ hj]
      have u3 : f_X5_get (boxR 105 b + 5) (nI j) M = some (mF (mg (stB S b).2.2 j)) := by
        have : f_X5_get (boxR 105 b + 5) (nI j) M = some (lgt ((stB S b).2.2.map mF) (nI j)) := X5_get_e hbx.2.2.2 _
        rw [this, lgt_n _ (by omega), mapD _ hj]
      obtain ⟨v0, v1, v2⟩ := X12_ofM_e (M := M) (m := 716) hq hb hj
      have o3 := fun M2 => X12_ofM_e (M := M2) (m := 716) hq hb hj
      rcases sel_ex s (n := 2) (by omega) with ⟨q, hqq, rfl⟩ | ⟨z, zn⟩
      · have si := sel_in hqq (show 2 < 2 ^ 31 by omega)
        have : q = 0 ∨ q = 1 ∨ q = 2 := by omega
        rcases this with rfl | rfl | rfl
        · refine Both.rd h hr w (v := mU (mg (stB S b).2.2 j)) (by rw [hX, if_pos (show nI 0 = 0 by decide)]; simp only [gU, u1, bso]) (fun M2 => ?_)
          have := (o3 M2).1
          have this : f_X12_ofMessage 716 (nI b) (nI j) (nI 0) (ov M2 716 (rsS R 0 0)) = _ := this
          simp only [f_X12_message, ov_ob, X12_isBox_in hr.2.1 hb, X12_many_e hr.2.1 hb, hi2, io, hin, si, bso, f_X12_message_31, p2_11, cond_true, this]
        · refine Both.rd h hr w (v := mS (mg (stB S b).2.2 j)) (by rw [hX, if_neg (show ¬ (nI 1 = 0) by decide), if_pos (show nI 1 = 1 by decide)]; simp only [gS, u2, bso]) (fun M2 => ?_)
          have := (o3 M2).2.1
          have this : f_X12_ofMessage 716 (nI b) (nI j) (nI 1) (ov M2 716 (rsS R 0 0)) = _ := this
          simp only [f_X12_message, ov_ob, X12_isBox_in hr.2.1 hb, X12_many_e hr.2.1 hb, hi2, io, hin, si, bso, f_X12_message_31, p2_11, cond_true, this]
        · refine Both.rd h hr w (v := mF (mg (stB S b).2.2 j)) (by rw [hX, if_neg (show ¬ (nI 2 = 0) by decide), if_neg (show ¬ (nI 2 = 1) by decide), if_pos (show nI 2 = 2 by decide)]; simp only [gF, u3, bso]) (fun M2 => ?_)
          have := (o3 M2).2.2
          have this : f_X12_ofMessage 716 (nI b) (nI j) (nI 2) (ov M2 716 (rsS R 0 0)) = _ := this
          simp only [f_X12_message, ov_ob, X12_isBox_in hr.2.1 hb, X12_many_e hr.2.1 hb, hi2, io, hin, si, bso, f_X12_message_31, p2_11, cond_true, this]
      · refine Both.no h hr w (by rw [hX, if_neg (show ¬ (s = 0) from zn 0 (by omega)), if_neg (show ¬ (s = 1) from zn 1 (by omega)), if_neg (show ¬ (s = 2) from zn 2 (by omega))]) (hf2 neA _ _ _) (by decide) (fun M2 => ?_)
        simp only [f_X12_message, ov_ob, X12_isBox_in hr.2.1 hb, X12_many_e hr.2.1 hb, hi2, io, hin, z, bso, f_X12_message_31, p2_10, cond_true, cond_false]
    · refine Both.no h hr w ?_ (hf1 _ _ _) (by decide) (fun M2 => ?_)
      · rw [f_X11_message, h.ob, bX_l (reqBox_in h hb)]
        by_cases n0 : i < 0
        · rw [if_pos n0]; rfl
        · rw [if_neg n0]
          simp only [hsz, bso]
          rcases notin (by omega) hy with z | z
          · exact absurd z n0
          · rw [if_neg (Int32.not_lt.mpr z)]; rfl
      · simp only [f_X12_message, ov_ob, X12_isBox_in hr.2.1 hb, X12_many_e hr.2.1 hb, hi2, idx_no (show (stB S b).2.2.length < 2 ^ 31 by omega) hy, bso, cond_true, cond_false, f30]
  · refine Both.no h hr w (by rw [f_X11_message, h.ob, bX_r (reqBox_no h hx)]) (hf1 _ _ _) (by decide) (fun M2 => ?_)
    simp only [f_X12_message, ov_ob, X12_isBox_no hr.2.1 hx, bso, cond_false, f30]
end
