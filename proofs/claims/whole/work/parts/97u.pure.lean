/-! PURE: notice, outputByte, isCurrent, unseen, mean -/
def BothG {α : Type} (fX : Option ((α ⊕ String) × Mem)) (gX : Mem → Option (α × Mem)) (M : Mem) (R : Rs) (hs : List (String × Int32)) (c : Nat) (Q : α → Prop) : Prop :=
  ∃ t v I' O' S' K' B' C' H' N' E', (∃ o M1, fX = some (o, M1) ∧ off M M1 100 616 ∧ Cls M1 I' O' S' K' B' C' H' N' E' ∧ ((o = .inl v ∧ t = 0 ∧ Q v) ∨ ∃ Ex, o = .inr Ex ∧ hFind Ex hs = some t ∧ t ≠ 0)) ∧
    (∀ M2, ∃ b R', gX (ov M2 716 R) = some (b, ov M2 716 R') ∧ R'.1 0 = t ∧ (t = 0 → b = v) ∧ Ref R' I' O' S' K' B' C' H' N' E') ∧ okW c I' O' S' K' B' C' H' N'
def nn32 (x : UInt32) : Prop := x &&& 0x7fffffff ≤ 0x7f800000
def nn64 (x : UInt64) : Prop := x &&& 0x7fffffffffffffff ≤ 0x7ff0000000000000
/-- what floats give -/
def FLq : Prop := (∀ a b : Int32, 0 < b.toInt → b.toInt < 1000 → nn32 (FP.fdiv (FP.i2f a) (FP.i2f b))) ∧ (∀ a b : Int32, 0 < b.toInt → nn64 (FP.ddiv (FP.i2d a) (FP.i2d b))) ∧ (∀ x, nn32 x → nn64 (FP.f2d x)) ∧ ∀ x, nn64 x → FP.dcmp x x = some .eq
section
variable {M : Mem} {m : Nat} {R : Rs} {I O : List Int32} {S : St} {K : Nat → St} {B : Nat → Bool} {C : Nat} {H : Nat → St} {N : List Nt} {E : Er} {c : Nat}
theorem BothG.rd {α : Type} {fX : Option ((α ⊕ String) × Mem)} {gX : Mem → Option (α × Mem)} {hs : List (String × Int32)} {Q : α → Prop} {v : α} (h : Cls M I O S K B C H N E) (hr : Ref R I O S K B C H N E) (w : okW c I O S K B C H N)
    (e1 : fX = some (.inl v, M)) (q : Q v) (e4 : ∀ M2, gX (ov M2 716 R) = some (v, ov M2 716 (rsS R 0 0))) : BothG fX gX M R hs (c + 1) Q :=
  ⟨0, v, I, O, S, K, B, C, H, N, E, ⟨_, M, e1, off.rf _ _ _, h, .inl ⟨rfl, rfl, q⟩⟩, fun M2 => ⟨v, _, e4 M2, rsS_at _ _ _, fun _ => rfl, hr.t 0⟩, w.up (Nat.le_succ c)⟩
theorem BothG.no {α : Type} {fX : Option ((α ⊕ String) × Mem)} {gX : Mem → Option (α × Mem)} {hs : List (String × Int32)} {Q : α → Prop} {Ex : String} {t : Int32} {v : α} (h : Cls M I O S K B C H N E) (hr : Ref R I O S K B C H N E) (w : okW c I O S K B C H N)
    (e1 : fX = some (.inr Ex, mskip M)) (e2 : hFind Ex hs = some t) (e3 : t ≠ 0) (e4 : ∀ M2, gX (ov M2 716 R) = some (v, ov M2 716 (rsS R 0 t))) : BothG fX gX M R hs (c + 1) Q :=
  ⟨t, v, I, O, S, K, B, C, H, N, E, ⟨_, _, e1, off_skip _ _ _, h.skip, .inr ⟨Ex, rfl, e2, e3⟩⟩, fun M2 => ⟨v, _, e4 M2, rsS_at _ _ _, fun z => absurd z e3, hr.t t⟩, w.up (Nat.le_succ c)⟩
theorem BothG.ofJ {fX : Option ((Int64 ⊕ String) × Mem)} {gX : Mem → Option (Int64 × Mem)} {hs : List (String × Int32)} (h : BothJ fX gX M R hs c) : BothG fX gX M R hs c (fun _ => True) := by
  obtain ⟨t, v, I', O', S', K', B', C', H', N', E', ⟨o, M1, a1, a2, a3, a4⟩, b, w⟩ := h
  exact ⟨t, v, I', O', S', K', B', C', H', N', E', ⟨o, M1, a1, a2, a3, a4.imp (fun z => ⟨z.1, z.2, trivial⟩) id⟩, b, w⟩
theorem cs_isCurrent (h : Cls M I O S K B C H N E) (hr : Ref R I O S K B C H N E) (w : okW c I O S K B C H N) (a : Int32) : BothG (f_X11_isCurrent 100 a M) (f_X12_isCurrent 716 a) M R [("java/lang/IndexOutOfBoundsException", 1)] (c + 1) (fun _ => True) := by
  by_cases hx : ∃ k, k < stM S ∧ a = nI k
  · obtain ⟨k, hk, rfl⟩ := hx
    have hsx := h.sx hk
    have hv : okV S (stS S k) := (w.2.2.1.2.2.2 k hk).1
    have hq : rep (rowf (rsS R 0 0)) S := hr.2.1
    obtain ⟨rb, Jb, nx, e, hb⟩ := h.bof hk hv.1
    have hp := X8_pend_e h.s hsx hv.1 e
    have hh : f_X7_hasBox (sesR 105 k) M = some (!decide (sxB (stS S k) = -1)) := X7_hasBox_e hsx
    have hlt : pndS S (stS S k) < 2 ^ 31 := by
      have a1 := hq.ls hk
      have a2 : (sxE (stS S k)).countP (gone (bof S (sxB (stS S k)))) ≤ (sxE (stS S k)).length := List.countP_le_length
      have a3 : (sxE (stS S k)).countP (chg (bof S (sxB (stS S k)))) ≤ (sxE (stS S k)).length := List.countP_le_length
      unfold pndS pend
      split <;> omega
    have z0 : (nI (pndS S (stS S k)) = 0) = (pndS S (stS S k) = 0) := propext (nI_eq (b := 0) hlt (by omega))
    refine BothG.rd (v := !decide (sxB (stS S k) = -1) && decide (pndS S (stS S k) = 0)) h hr w ?_ trivial (fun M2 => ?_)
    · rw [f_X11_isCurrent, h.ob, bX_l (reqSes_in h hk)]
      simp only [hh, h.g2, e, hp, bso, z0]
      by_cases e1 : sxB (stS S k) = -1
      · rw [decide_eq_true e1]; rfl
      · rw [decide_eq_false e1]
        by_cases e2 : pndS S (stS S k) = 0
        · rw [decide_eq_true e2]
          simp only [if_pos e2]; rfl
        · rw [decide_eq_false e2]
          simp only [if_neg e2]; rfl
    · simp only [f_X12_isCurrent, ov_ob, X12_isSes_in hr.2.1 hk, bso, p1_1, cond_true, X12_upto_e hq hk hv]
      cases (!decide (sxB (stS S k) = -1) && decide (pndS S (stS S k) = 0)) <;> rfl
  · refine BothG.no (v := false) h hr w (by rw [f_X11_isCurrent, h.ob, bX_r (reqSes_no h hx)]) (hf1 _ _ _) (by decide) (fun M2 => ?_)
    simp only [f_X12_isCurrent, ov_ob, X12_isSes_no hr.2.1 hx, bso, p1_0, cond_false]
theorem cs_unseen (fl : FLq) (h : Cls M I O S K B C H N E) (hr : Ref R I O S K B C H N E) (w : okW c I O S K B C H N) (a : Int32) : BothG (f_X11_unseen 100 a M) (f_X12_unseen 716 a) M R [("java/lang/IndexOutOfBoundsException", 1)] (c + 1) nn32 := by
  have hf0 : nn32 FP.fconst0 := by unfold nn32; decide +kernel
  by_cases hx : ∃ k, k < stN S ∧ a = nI k
  · obtain ⟨b, hb, rfl⟩ := hx
    have hbx := h.bx hb
    have hq : rep (rowf (rsS R 0 0)) S := hr.2.1
    have l30 : (stB S b).2.2.length ≤ 30 := bA.len hbx
    have hsz : f_X0_size (boxR 105 b) M = some (nI (stB S b).2.2.length) := X0_size_e hbx
    have h01 : f_X0_withFlag (boxR 105 b) 1 M = some (setB (pF 1) (stB S b).2.2) := X0_withFlag_e hbx 1
    have bc := bitc_setB (pF 1) l30
    have lt0 : (0 < nI (stB S b).2.2.length) = (0 < (stB S b).2.2.length) := ltI (x := 0) (a := 0) rfl rfl (by omega) (by omega)
    have eq0 : (nI (stB S b).2.2.length = 0) = ((stB S b).2.2.length = 0) := propext (nI_eq (b := 0) (by omega) (by omega))
    by_cases e : (stB S b).2.2.length = 0
    · refine BothG.rd (v := FP.fconst0) h hr w ?_ hf0 (fun M2 => ?_)
      · rw [f_X11_unseen, h.ob, bX_l (reqBox_in h hb)]
        simp only [hsz, bso]
        rw [if_neg (by rw [lt0]; omega)]
      · simp only [f_X12_unseen, ov_ob, X12_isBox_in hr.2.1 hb, bso, p1_1, cond_true, X12_many_e hq hb]
        rw [if_pos (by rw [eq0]; exact e)]
    · obtain ⟨x, hx⟩ : ∃ x, x = FP.fdiv (FP.i2f (nI (stB S b).2.2.length - nI ((stB S b).2.2.countP (pF 1)))) (FP.i2f (nI (stB S b).2.2.length)) := ⟨_, rfl⟩
      have hn : nn32 x := by rw [hx]; exact fl.1 _ _ (by rw [nI_toInt (by omega)]; omega) (by rw [nI_toInt (by omega)]; omega)
      refine BothG.rd (v := x) h hr w ?_ hn (fun M2 => ?_)
      · rw [f_X11_unseen, h.ob, bX_l (reqBox_in h hb)]
        simp only [hsz, bso, h01, bc]
        rw [if_pos (by rw [lt0]; omega), ← hx]
        unfold nf32
        exact if_pos hn
      · simp only [f_X12_unseen, ov_ob, X12_isBox_in hr.2.1 hb, bso, p1_1, cond_true, X12_many_e hq hb, X12_flagd_e hq hb]
        rw [if_neg (by rw [eq0]; exact e), ← hx]
        unfold nf32
        exact if_pos hn
  · refine BothG.no (v := FP.fconst0) h hr w (by rw [f_X11_unseen, h.ob, bX_r (reqBox_no h hx)]) (hf1 _ _ _) (by decide) (fun M2 => ?_)
    simp only [f_X12_unseen, ov_ob, X12_isBox_no hr.2.1 hx, bso, p1_0, cond_false]
theorem cs_mean (fl : FLq) (h : Cls M I O S K B C H N E) (hr : Ref R I O S K B C H N E) (w : okW c I O S K B C H N) (a : Int32) : BothG (f_X11_mean 100 a M) (f_X12_mean 716 a) M R [("java/lang/IndexOutOfBoundsException", 1)] (c + 1) nn64 := by
  have hf0 : nn64 FP.dconst0 := by unfold nn64; decide +kernel
  by_cases hx : ∃ k, k < stN S ∧ a = nI k
  · obtain ⟨b, hb, rfl⟩ := hx
    have hbx := h.bx hb
    have hq : rep (rowf (rsS R 0 0)) S := hr.2.1
    have l30 : (stB S b).2.2.length ≤ 30 := bA.len hbx
    have hsz : f_X0_size (boxR 105 b) M = some (nI (stB S b).2.2.length) := X0_size_e hbx
    have hsm : f_X0_sumOfSizes (boxR 105 b) M = some (sumS (stB S b).2.2) := X0_sum_e hbx
    have lt0 : (0 < nI (stB S b).2.2.length) = (0 < (stB S b).2.2.length) := ltI (x := 0) (a := 0) rfl rfl (by omega) (by omega)
    have eq0 : (nI (stB S b).2.2.length = 0) = ((stB S b).2.2.length = 0) := propext (nI_eq (b := 0) (by omega) (by omega))
    by_cases e : (stB S b).2.2.length = 0
    · refine BothG.rd (v := FP.dconst0) h hr w ?_ hf0 (fun M2 => ?_)
      · rw [f_X11_mean, h.ob, bX_l (reqBox_in h hb)]
        simp only [hsz, bso]
        rw [if_neg (by rw [lt0]; omega)]
      · simp only [f_X12_mean, ov_ob, X12_isBox_in hr.2.1 hb, bso, p1_1, cond_true, X12_many_e hq hb]
        rw [if_pos (by rw [eq0]; exact e)]
    · obtain ⟨x, hx⟩ : ∃ x, x = FP.ddiv (FP.i2d (sumS (stB S b).2.2)) (FP.i2d (nI (stB S b).2.2.length)) := ⟨_, rfl⟩
      have hn : nn64 x := by rw [hx]; exact fl.2.1 _ _ (by rw [nI_toInt (by omega)]; omega)
      refine BothG.rd (v := x) h hr w ?_ hn (fun M2 => ?_)
      · rw [f_X11_mean, h.ob, bX_l (reqBox_in h hb)]
        simp only [hsz, bso, hsm]
        rw [if_pos (by rw [lt0]; omega), ← hx]
        unfold nf64
        exact if_pos hn
      · simp only [f_X12_mean, ov_ob, X12_isBox_in hr.2.1 hb, bso, p1_1, cond_true, X12_many_e hq hb, X12_sizes_e hq hb]
        rw [if_neg (by rw [eq0]; exact e), ← hx]
        unfold nf64
        exact if_pos hn
  · refine BothG.no (v := FP.dconst0) h hr w (by rw [f_X11_mean, h.ob, bX_r (reqBox_no h hx)]) (hf1 _ _ _) (by decide) (fun M2 => ?_)
    simp only [f_X12_mean, ov_ob, X12_isBox_no hr.2.1 hx, bso, p1_0, cond_false]
theorem cs_outputByte (h : Cls M I O S K B C H N E) (hr : Ref R I O S K B C H N E) (w : okW c I O S K B C H N) (a : Int32) : Both (f_X11_outputByte 100 a M) (f_X12_outputByte 716 a) M R [("java/lang/IndexOutOfBoundsException", 1)] (c + 1) E := by
  have hO := w.2.1
  have hr6 := hr.2.2.2.2.2.1
  have sz : f_X1_size 103 M = some (nI O.length) := X1_size_e h.o
  have l40 := hO.1
  have g27 : ∀ M2, gI (ov M2 716 R) 11 27 716 = some (nI O.length) := fun M2 => by rw [r_g27, hr6.1]
  have hin : ∀ M2, f_X12_in (Int32.toInt64 a) 0 (Int32.toInt64 (nI O.length - 1)) M2 = some (!decide (a < 0) && !decide (nI O.length - 1 < a)) := in_x a _
  by_cases hx : ∃ k, k < O.length ∧ a = nI k
  · obtain ⟨k, hk, rfl⟩ := hx
    have n0 : ¬ (nI k < 0) := Int32.not_lt.mpr (nI_ge0 (by omega))
    have n1 : nI k < nI O.length := by rw [nI_ltI (by omega) (by omega)]; exact hk
    have ge : f_X1_get 103 (nI k) M = some (O.getD k 0) := by
      have := X1_get_in h.o hk
      rw [this, hO.2 _ (by rw [List.getD_eq_getElem?_getD, List.getElem?_eq_getElem hk]; exact List.getElem_mem hk)]
    refine Both.rd h hr w (v := O.getD k 0) (by rw [f_X11_outputByte, h.ob, if_neg n0]; simp only [h.g1, sz, bso]; rw [if_pos n1]; simp only [ge, bso]) (fun M2 => ?_)
    have ga : aI (ov M2 716 (rsS R 0 0)) 2 (716 + 11) (nI k) = some (O.getD k 0) := by
      rw [r_a11 M2 716 (rsS R 0 0) (show k < 12000 by omega)]
      exact congrArg some (hr6.2 k hk)
    simp only [f_X12_outputByte, ov_ob, g27, hin, idx_in hk (show O.length < 2 ^ 31 by omega), bso, p1_1, cond_true, r_g26, ga]
  · refine Both.no h hr w ?_ (hf1 _ _ _) (by decide) (fun M2 => ?_)
    · rw [f_X11_outputByte, h.ob]
      by_cases n0 : a < 0
      · rw [if_pos n0]; rfl
      · rw [if_neg n0]
        simp only [h.g1, sz, bso]
        rcases notin (by omega) hx with z | z
        · exact absurd z n0
        · rw [if_neg (Int32.not_lt.mpr z)]; rfl
    · simp only [f_X12_outputByte, ov_ob, g27, hin, idx_no (show O.length < 2 ^ 31 by omega) hx, bso, p1_0, cond_false]
theorem ng_map (f : Nt → Int32) {k : Nat} (hk : k < N.length) : (N.map f).getD k 0 = f (ng N k) := by
  simp [ng, List.getD_eq_getElem?_getD, List.getElem?_map, List.getElem?_eq_getElem hk]
theorem cs_notice (h : Cls M I O S K B C H N E) (hr : Ref R I O S K B C H N E) (w : okW c I O S K B C H N) (a s : Int32) : Both (f_X11_notice 100 a s M) (f_X12_notice 716 a s) M R [("java/lang/IllegalArgumentException", 1), ("java/util/NoSuchElementException", 2)] (c + 1) E := by
  have hN := h.n
  have l244 : N.length ≤ 244 := ntA.len hN
  have hr4 := hr.2.2.2.1
  have hin : ∀ M2, f_X12_in (Int32.toInt64 s) 0 3 M2 = some (!decide (s < 0) && !decide (nI 3 < s)) := in_e s 3
  have hin2 : ∀ M2, f_X12_in (Int32.toInt64 a) 0 (Int32.toInt64 (nI N.length - 1)) M2 = some (!decide (a < 0) && !decide (nI N.length - 1 < a)) := in_x a _
  have g5 : ∀ M2, gI (ov M2 716 R) 11 5 716 = some (nI N.length) := fun M2 => by rw [r_g5, hr4.1]
  have sz : f_X4_size 699 M = some (nI N.length) := X4_size_e hN
  rcases sel_ex s (n := 3) (by omega) with ⟨j, hj, rfl⟩ | ⟨z, zn⟩
  · have si := sel_in hj (show 3 < 2 ^ 31 by omega)
    have j0 : ¬ (nI j < 0) := Int32.not_lt.mpr (nI_ge0 (by omega))
    have j3 : nI j ≤ 3 := by
      have : (nI j ≤ nI 3) = (j ≤ 3) := propext (nI_leI (by omega) (by omega))
      show nI j ≤ nI 3
      rw [this]; exact hj
    by_cases hx : ∃ k, k < N.length ∧ a = nI k
    · obtain ⟨k, hk, rfl⟩ := hx
      have k0 : ¬ (nI k < 0) := Int32.not_lt.mpr (nI_ge0 (by omega))
      have k1 : nI k < nI N.length := by rw [nI_ltI (by omega) (by omega)]; exact hk
      obtain ⟨q0, q1, q2, q3⟩ := hr4.2 k hk
      obtain ⟨h0, a0, a1, a2, a3⟩ := id hN
      have gr : ∀ i, i < 4 → gR M 3 i 699 = some (699 + 1 + 2 * i) := fun i hi => by
        rw [gR_h h0]
        match i, hi with
        | 0, _ => rfl
        | 1, _ => rfl
        | 2, _ => rfl
        | 3, _ => rfl
      have ge : ∀ (r : Nat) (f : Nt → Int32), nA M r 244 (N.map f) → f_X5_get r (nI k) M = some (f (ng N k)) := fun r f hA => by
        have : f_X5_get r (nI k) M = some (lgt (N.map f) (nI k)) := X5_get_e hA _
        rw [this, lgt_n _ (by omega), ng_map f hk]
      have ra : ∀ M2 (i : Nat), i < 4 → aI (ov M2 716 (rsS R 0 0)) 0 (716 + 3) (4 * nI k + nI i) = some (R.2.2.2 3 (4 * k + i)) := fun M2 i hi => by
        rw [nIm4, nI_add, r_a3 M2 716 (rsS R 0 0) (show 4 * k + i < 4000 by omega)]; rfl
      have g0 := gr 0 (by omega)
      have g1 := gr 1 (by omega)
      have g2 := gr 2 (by omega)
      have g3 := gr 3 (by omega)
      have e0 := ge _ n0 a0
      have e1 := ge _ n1 a1
      have e2 := ge _ n2 a2
      have e3 := ge _ n3 a3
      have r0 := fun M2 => ra M2 0 (by omega)
      have r1 := fun M2 => ra M2 1 (by omega)
      have r2 := fun M2 => ra M2 2 (by omega)
      have r3 := fun M2 => ra M2 3 (by omega)
      have : j = 0 ∨ j = 1 ∨ j = 2 ∨ j = 3 := by omega
      rcases this with rfl | rfl | rfl | rfl
      · refine Both.rd h hr w (v := n0 (ng N k)) (by rw [f_X11_notice, h.ob, if_neg j0, if_pos j3, if_neg k0]; simp only [h.g7, sz, bso]; rw [if_pos k1, if_pos (show nI 0 = 0 by decide)]; simp only [g0, e0, bso]) (fun M2 => ?_)
        have qq := (r0 M2).trans (congrArg some q0)
        simp only [f_X12_notice, ov_ob, hin, si, g5, hin2, idx_in hk (show N.length < 2 ^ 31 by omega), bso, p2_11, cond_true, r_g4, qq]
      · refine Both.rd h hr w (v := n1 (ng N k)) (by rw [f_X11_notice, h.ob, if_neg j0, if_pos j3, if_neg k0]; simp only [h.g7, sz, bso]; rw [if_pos k1, if_neg (show ¬ (nI 1 = 0) by decide), if_pos (show nI 1 = 1 by decide)]; simp only [g1, e1, bso]) (fun M2 => ?_)
        have qq := (r1 M2).trans (congrArg some q1)
        simp only [f_X12_notice, ov_ob, hin, si, g5, hin2, idx_in hk (show N.length < 2 ^ 31 by omega), bso, p2_11, cond_true, r_g4, qq]
      · refine Both.rd h hr w (v := n2 (ng N k)) (by rw [f_X11_notice, h.ob, if_neg j0, if_pos j3, if_neg k0]; simp only [h.g7, sz, bso]; rw [if_pos k1, if_neg (show ¬ (nI 2 = 0) by decide), if_neg (show ¬ (nI 2 = 1) by decide), if_pos (show nI 2 = 2 by decide)]; simp only [g2, e2, bso]) (fun M2 => ?_)
        have qq := (r2 M2).trans (congrArg some q2)
        simp only [f_X12_notice, ov_ob, hin, si, g5, hin2, idx_in hk (show N.length < 2 ^ 31 by omega), bso, p2_11, cond_true, r_g4, qq]
      · refine Both.rd h hr w (v := n3 (ng N k)) (by rw [f_X11_notice, h.ob, if_neg j0, if_pos j3, if_neg k0]; simp only [h.g7, sz, bso]; rw [if_pos k1, if_neg (show ¬ (nI 3 = 0) by decide), if_neg (show ¬ (nI 3 = 1) by decide), if_neg (show ¬ (nI 3 = 2) by decide)]; simp only [g3, e3, bso]) (fun M2 => ?_)
        have qq := (r3 M2).trans (congrArg some q3)
        simp only [f_X12_notice, ov_ob, hin, si, g5, hin2, idx_in hk (show N.length < 2 ^ 31 by omega), bso, p2_11, cond_true, r_g4, qq]
    · refine Both.no h hr w ?_ (hf2 neNA _ _ _) (by decide) (fun M2 => ?_)
      · rw [f_X11_notice, h.ob, if_neg j0, if_pos j3]
        by_cases n0 : a < 0
        · rw [if_pos n0]; rfl
        · rw [if_neg n0]
          simp only [h.g7, sz, bso]
          rcases notin (by omega) hx with z | z
          · exact absurd z n0
          · rw [if_neg (Int32.not_lt.mpr z)]; rfl
      · simp only [f_X12_notice, ov_ob, hin, si, g5, hin2, idx_no (show N.length < 2 ^ 31 by omega) hx, bso, p2_10, cond_false]
  · refine Both.no h hr w ?_ (hf1 _ _ _) (by decide) (fun M2 => ?_)
    · rw [f_X11_notice, h.ob]
      by_cases n0 : s < 0
      · rw [if_pos n0]; rfl
      · rw [if_neg n0]
        have : ¬ (s ≤ 3) := fun z3 => by
          rcases i_cases s with hs | ⟨j, hj, rfl⟩
          · exact n0 hs
          · have z3 : nI j ≤ nI 3 := z3
            rw [nI_leI hj (by omega)] at z3
            exact zn j z3 rfl
        rw [if_neg this]; rfl
    · simp only [f_X12_notice, ov_ob, hin, z, g5, hin2, bso, p2_0, cond_false]
end
