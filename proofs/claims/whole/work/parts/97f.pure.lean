/-! PURE: deliver, setLimit -/
section
variable {M : Mem} {m : Nat} {R : Rs} {I O : List Int32} {S : St} {K : Nat → St} {B : Nat → Bool} {C : Nat} {H : Nat → St} {N : List Nt} {E : Er} {c : Nat}
theorem reqRoom_e (h : Cls M I O S K B C H N E) {b : Nat} (hb : b < stN S) {L : Nat} (hL : stL S = nI L) (hL2 : L ≤ 30) {k : Nat} (hk : k ≤ 60) : f_X11_requireRoom 100 (boxR 105 b) (nI k) M = if k = 0 ∨ (stB S b).2.2.length + k ≤ L then some (.inl (), M) else some (.inr "java/lang/IllegalStateException", mskip M) := by
  have hl : (stB S b).2.2.length ≤ 30 := bA.len (h.bx hb)
  have hs : f_X0_size (boxR 105 b) M = some (nI (stB S b).2.2.length) := X0_size_e (h.bx hb)
  have h0 : (nI k ≤ 0) = (k ≤ 0) := leI (y := 0) (b := 0) rfl rfl (by omega) (by omega)
  have h1 : (nI ((stB S b).2.2.length + k) ≤ nI L) = ((stB S b).2.2.length + k ≤ L) := leI rfl rfl (by omega) (by omega)
  rw [f_X11_requireRoom, h.ob]
  by_cases e : k = 0
  · rw [if_pos (by rw [h0]; omega), if_pos (.inl e)]
  · rw [if_neg (by rw [h0]; omega)]
    simp only [hs, h.g2, h.s.gL, hL, bso, nI_add]
    by_cases e2 : (stB S b).2.2.length + k ≤ L
    · rw [if_pos (by rw [h1]; exact e2), if_pos (.inr e2)]
    · rw [if_neg (by rw [h1]; exact e2), if_neg (fun z => by rcases z with z | z; exact e z; exact e2 z)]
theorem okS.add (h : okS c S) (hc : c ≤ 1000) {b : Nat} (hb : b < stN S) (hl : (stB S b).2.2.length < 30) (sz fl : Int32) (hz : 0 ≤ sz) : okS (c + 1) (setBx S b ((stB S b).1, (stB S b).2.1 + 1, (stB S b).2.2 ++ [((stB S b).2.1, sz, fl)])) := by
  obtain ⟨⟨n, n1, n2, n3⟩, hM, hl30⟩ := h.2.2.1 b hb
  rw [n1] at hM ⊢
  refine h.setB (by omega) (b := b) ⟨⟨n + 1, nI_1 n, by omega, by omega⟩, ?_, ?_⟩ ?_
  · show okM (nI n + 1) _
    rw [nI_1]
    exact okM_snoc hM (by omega) n2 sz fl hz
  · show ((stB S b).2.2 ++ [_]).length ≤ 30
    rw [List.length_append, List.length_singleton]; omega
  · show (stB S b).2.1 ≤ nI n + 1
    rw [n1, nI_1]
    exact of_eq_true (leT rfl rfl (Nat.le_succ n) (by omega))
theorem kpC.u {R0 R1 : Rs} {sc js is : List Nat} (k : kp sc js is R0 R1) (h1 : ∀ x ∈ sc, x ∈ [5, 25]) (h2 : ∀ x ∈ js, x ∈ [1, 10]) (h3 : ∀ x ∈ is, x ∈ [3, 4]) : kpC R0 R1 := k.up h1 h2 h3
/-- the reference remembers, and its notices begin -/
theorem ref_act (hr : Ref R I O S K B C H N E) (M2 : Mem) : ∃ R1, f_X12_remember 716 (ov M2 716 (rsS R 0 0)) = some (ov M2 716 R1) ∧ rep (rowf (rsS R1 5 0)) S ∧ hsR (rsS R1 5 0) (upC C) (push S H) ∧ ntR (rsS R1 5 0) [] ∧ kpC (rsS R 0 0) (rsS R1 5 0) ∧ (rsS R1 5 0).2.1 = false := by
  obtain ⟨R1, f1, q2, k1⟩ := X12_rem_e (M := M2) (m := 716) (R := rsS R 0 0) (S := S) hr.2.1 hr.1 (cnt := C) (hk := H) hr.2.2.1
  have hw1 : R1.2.1 = false := k1.1.trans hr.1
  have hrow : rowf R1 = rowf (rsS R 0 0) := k1.row hr.1 (by decide)
  refine ⟨R1, f1, ?_, q2.cg rfl rfl, ⟨rsS_at _ _ _, fun i hi => absurd hi (Nat.not_lt_zero i)⟩, kpC.u ((k1.up (by simp) (by simp) (by simp)).trans ((kp_S R1 5 0).up (by simp) (by simp) (by simp)) : kp [5, 25] [1, 10] [3, 4] _ _) (by simp) (by simp) (by simp), hw1⟩
  rw [rowf_S, hrow]; exact hr.2.1
theorem cs_deliver (h : Cls M I O S K B C H N E) (hr : Ref R I O S K B C H N E) (w : okW c I O S K B C H N) (hc : c ≤ 1000) (a sz fl : Int32) : Both (f_X11_deliver 100 a sz fl M) (f_X12_deliver 716 a sz fl) M R [("java/lang/IndexOutOfBoundsException", 1), ("java/lang/IllegalArgumentException", 2), ("java/lang/IllegalStateException", 3)] (c + 1) E := by
  have ok := w.2.2.1
  obtain ⟨L, l1, l2, l3⟩ := ok.1
  have hin : ∀ M2 : Mem, f_X12_in (Int32.toInt64 sz) 1 9999 M2 = some (!decide (sz < 1) && !decide (9999 < sz)) := fun M2 => by
    rw [X12_in_e]; exact congrArg some (btw_c sz 1 9999)
  have his : ∀ M2 : Mem, f_X12_isSet fl M2 = some (!decide (fl < 0) && !decide (31 < fl)) := fun M2 => by
    simp only [f_X12_isSet, X12_in_e, bso]; exact congrArg some (btw_c fl 0 31)
  by_cases hx : ∃ k, k < stN S ∧ a = nI k
  · obtain ⟨b, hb, rfl⟩ := hx
    have bad : (!decide (sz < 1) && !decide (9999 < sz)) = false ∨ (!decide (fl < 0) && !decide (31 < fl)) = false → f_X11_deliver 100 (nI b) sz fl M = some (.inr "java/lang/IllegalArgumentException", mskip M) → Both (f_X11_deliver 100 (nI b) sz fl M) (f_X12_deliver 716 (nI b) sz fl) M R [("java/lang/IndexOutOfBoundsException", 1), ("java/lang/IllegalArgumentException", 2), ("java/lang/IllegalStateException", 3)] (c + 1) E := by
      intro z e1
      have p : ∀ M2 q, f_X12_passes3 716 true false q (ov M2 716 R) = some (false, ov M2 716 (rsS R 0 2)) := fun M2 q => X12_pass_e true false q
      refine Both.no h hr w e1 (hf2 neA _ _ _) (by decide) (fun M2 => ?_)
      have hroom : f_X12_hasRoom 716 (nI b) 1 (ov M2 716 R) = some (decide (1 = 0 ∨ (stB S b).2.2.length + 1 ≤ L)) := X12_room_e (k := 1) hr.2.1 hb l1 (by omega) (by omega)
      have fin : f_X12_deliver_33 716 (nI b) sz fl true 716 true (ov M2 716 R) = some (0, ov M2 716 (rsS R 0 2)) := by
        simp only [f_X12_deliver_33, f_X12_deliver_34, hroom, bso, cond_true]
        cases decide (1 = 0 ∨ (stB S b).2.2.length + 1 ≤ L) with
        | true => simp only [cond_true, f_X12_deliver_53, p, bso, cond_false]
        | false => simp only [cond_false, f_X12_deliver_52, f_X12_deliver_53, p, bso]
      simp only [f_X12_deliver, ov_ob, X12_isBox_in hr.2.1 hb, hin, his, bso]
      rcases z with z | z
      · rw [z]; exact fin
      · rw [z]
        cases (!decide (sz < 1) && !decide (9999 < sz)) with
        | true => exact fin
        | false => exact fin
    by_cases s1 : sz < 1
    · exact bad (.inl (by rw [decide_eq_true s1]; rfl)) (by rw [f_X11_deliver, h.ob, bX_l (reqBox_in h hb), if_pos s1]; rfl)
    · by_cases s2 : 9999 < sz
      · exact bad (.inl (by rw [decide_eq_true s2, Bool.and_comm]; rfl)) (by rw [f_X11_deliver, h.ob, bX_l (reqBox_in h hb), if_neg s1, if_pos s2]; rfl)
      · by_cases s3 : fl < 0
        · exact bad (.inr (by rw [decide_eq_true s3]; rfl)) (by rw [f_X11_deliver, h.ob, bX_l (reqBox_in h hb), if_neg s1, if_neg s2, if_pos s3]; rfl)
        · by_cases s4 : fl ≤ 31
          · have s4' : ¬ 31 < fl := Int32.not_lt.mpr s4
            have z1 : (!decide (sz < 1) && !decide (9999 < sz)) = true := by rw [decide_eq_false s1, decide_eq_false s2]; rfl
            have z2 : (!decide (fl < 0) && !decide (31 < fl)) = true := by rw [decide_eq_false s3, decide_eq_false s4']; rfl
            have hX : f_X11_deliver 100 (nI b) sz fl M = bX (f_X11_requireRoom 100 (boxR 105 b) 1 M) fun _ M4 => (f_X11_beginAct 100 M4).bind fun M6 => (gI M6 0 1 (boxR 105 b)).bind fun x7 => (f_X0_addMessage (boxR 105 b) sz fl M6).bind fun M9 => (gR M9 10 2 100).bind fun x10 => (gR M9 10 7 100).bind fun x11 => (f_X8_tellIdle x10 x11 M9).bind fun M13 => some (.inl x7, M13) := by
              rw [f_X11_deliver, h.ob, bX_l (reqBox_in h hb), if_neg s1, if_neg s2, if_neg s3, if_pos s4]
            have hrm := reqRoom_e h hb l1 l3 (k := 1) (by omega)
            have hrm : f_X11_requireRoom 100 (boxR 105 b) 1 M = _ := hrm
            by_cases er : (stB S b).2.2.length + 1 ≤ L
            · rw [if_pos (.inr er)] at hrm
              have hlen : (stB S b).2.2.length < 30 := by omega
              obtain ⟨M1, S0, e1, g0, c1, o1⟩ := beginAct_e h
              have gn : gI M1 0 1 (boxR 105 b) = some (stB S b).2.1 := bA.gN (c1.bx hb)
              obtain ⟨M2', e2, x2, o2⟩ := X0_add_e (c1.bx hb) sz fl hlen
              obtain ⟨c2, o2'⟩ := c1.box hb (X := ((stB S b).1, (stB S b).2.1 + 1, (stB S b).2.2 ++ [((stB S b).2.1, sz, fl)])) x2 o2
              have hz : 0 ≤ sz := Int32.le_of_lt (Int32.lt_of_lt_of_le (show (0 : Int32) < 1 by decide) (Int32.not_lt.mp s1))
              have ok2 := ok.add hc hb hlen sz fl hz
              obtain ⟨V, hV⟩ : ∃ V, V = setBx S b ((stB S b).1, (stB S b).2.1 + 1, (stB S b).2.2 ++ [((stB S b).2.1, sz, fl)]) := ⟨_, rfl⟩
              rw [← hV] at c2 ok2
              obtain ⟨i1, i2, i3⟩ := ok2.idlOk
              obtain ⟨M3, e3, c3, o3⟩ := tellIdle_e c2 ok2 i2
              refine Both.yes (v := (stB S b).2.1) hr w (by rw [hX, bX_l hrm]; simp only [e1, gn, e2, c2.g2, c2.g7, e3, bso]) ((o1.trans o2').trans o3) c3 g0 i1 ⟨i2, i3⟩ (fun M2 => ?_)
              obtain ⟨R1, f1, q1, q2, q3, k1, w1⟩ := ref_act hr M2
              obtain ⟨f', f2, q4⟩ := X12_comes_e (M := M2) (m := 716) q1 hb hlen sz fl
              rw [← hV] at q4
              have kR := kp_R w1 f'
              have w2 : (rsR (rsS R1 5 0) f').2.1 = false := w1
              obtain ⟨R2, f3, q5, q6, k2, y1, y2⟩ := ref_idle (R1 := rsR (rsS R1 5 0) f') (S := V) (by rw [rowf_R]; exact q4) w2 ok2 q3 M2
              refine ⟨R2, ?_, (kp.trans k1 (kR.up (by simp) (by simp) (by simp))).trans k2, q5, q2.cg (y1.trans rfl) (y2.trans (kR.2.2.1 10 (by simp))), q6⟩
              have p : f_X12_passes3 716 true true true (ov M2 716 R) = some (true, ov M2 716 (rsS R 0 0)) := X12_pass_e true true true
              have hroom : f_X12_hasRoom 716 (nI b) 1 (ov M2 716 R) = some (decide (1 = 0 ∨ (stB S b).2.2.length + 1 ≤ L)) := X12_room_e (k := 1) hr.2.1 hb l1 (by omega) (by omega)
              rw [decide_eq_true (.inr er)] at hroom
              simp only [f_X12_deliver, ov_ob, X12_isBox_in hr.2.1 hb, hin, his, bso, z1, z2, cond_true, f_X12_deliver_34, hroom, f_X12_deliver_53, p, f1, r_p5, f2, f3]
            · rw [if_neg (fun z => by rcases z with z | z; exact absurd z (by decide); exact er z)] at hrm
              refine Both.no h hr w (by rw [hX, bX_r hrm]) (hf3 neS neSA _ _ _ _) (by decide) (fun M2 => ?_)
              have p : f_X12_passes3 716 true true false (ov M2 716 R) = some (false, ov M2 716 (rsS R 0 3)) := X12_pass_e true true false
              have hroom : f_X12_hasRoom 716 (nI b) 1 (ov M2 716 R) = some (decide (1 = 0 ∨ (stB S b).2.2.length + 1 ≤ L)) := X12_room_e (k := 1) hr.2.1 hb l1 (by omega) (by omega)
              rw [decide_eq_false (fun z => by rcases z with z | z; exact absurd z (by decide); exact er z)] at hroom
              simp only [f_X12_deliver, ov_ob, X12_isBox_in hr.2.1 hb, hin, his, bso, z1, z2, cond_true, f_X12_deliver_34, hroom, cond_false, f_X12_deliver_52, f_X12_deliver_53, p]
          · exact bad (.inr (by rw [decide_eq_true (Int32.not_le.mp s4), Bool.and_comm]; rfl)) (by rw [f_X11_deliver, h.ob, bX_l (reqBox_in h hb), if_neg s1, if_neg s2, if_neg s3, if_neg s4]; rfl)
  · refine Both.no h hr w (by rw [f_X11_deliver, h.ob, bX_r (reqBox_no h hx)]) (hf1 _ _ _) (by decide) (fun M2 => ?_)
    have p : ∀ q r, f_X12_passes3 716 false q r (ov M2 716 R) = some (false, ov M2 716 (rsS R 0 1)) := fun q r => X12_pass_e false q r
    simp only [f_X12_deliver, ov_ob, X12_isBox_no hr.2.1 hx, hin, his, bso, f_X12_deliver_33, f_X12_deliver_34, cond_false, f_X12_deliver_52, f_X12_deliver_53, p]
    cases (!decide (sz < 1) && !decide (9999 < sz)) <;> cases (!decide (fl < 0) && !decide (31 < fl)) <;> rfl
theorem cs_setLimit (h : Cls M I O S K B C H N E) (hr : Ref R I O S K B C H N E) (w : okW c I O S K B C H N) (a : Int32) : Both (f_X11_setLimit 100 a M) (f_X12_setLimit 716 a) M R [("java/lang/IllegalArgumentException", 1)] (c + 1) E := by
  have ok := w.2.2.1
  have hin : ∀ M2 : Mem, f_X12_in (Int32.toInt64 a) 1 30 M2 = some (!decide (a < 1) && !decide (30 < a)) := fun M2 => by
    rw [X12_in_e]; exact congrArg some (btw_c a 1 30)
  have bad : (!decide (a < 1) && !decide (30 < a)) = false → f_X11_setLimit 100 a M = some (.inr "java/lang/IllegalArgumentException", mskip M) → Both (f_X11_setLimit 100 a M) (f_X12_setLimit 716 a) M R [("java/lang/IllegalArgumentException", 1)] (c + 1) E := by
    intro z e1
    refine Both.no h hr w e1 (hf1 _ _ _) (by decide) (fun M2 => ?_)
    have p : f_X12_passes 716 false (ov M2 716 R) = some (false, ov M2 716 (rsS R 0 1)) := X12_pass1_e false
    simp only [f_X12_setLimit, ov_ob, hin, z, bso, p, cond_false]
  by_cases s1 : a < 1
  · exact bad (by rw [decide_eq_true s1]; rfl) (by rw [f_X11_setLimit, h.ob, if_pos s1]; rfl)
  · by_cases s2 : a ≤ 30
    · have z : (!decide (a < 1) && !decide (30 < a)) = true := by rw [decide_eq_false s1, decide_eq_false (Int32.not_lt.mpr s2)]; rfl
      obtain ⟨M1, S0, e1, g0, c1, o1⟩ := beginAct_e h
      obtain ⟨M2', e2, s2', o2⟩ := c1.s.pL a
      have c2 := c1.mS s2' (o2.wide (by omega) (by omega))
      have hL : ∃ L, a = nI L ∧ 1 ≤ L ∧ L ≤ 30 := by
        obtain ⟨L, hL, rfl⟩ := nI_of (x := a) (fun q => s1 (Int32.lt_trans q (by decide)))
        have q1 : ¬ (nI L < nI 1) := s1
        have q2 : nI L ≤ nI 30 := s2
        rw [nI_ltI hL (by omega)] at q1
        rw [nI_leI hL (by omega)] at q2
        exact ⟨L, rfl, by omega, q2⟩
      have ok2 : okS (c + 1) (a, stN S, stM S, stB S, stS S) := ⟨hL, ok.2.1, fun b hb => (ok.2.2.1 b hb).up (by omega), ok.2.2.2⟩
      have gl : gI M1 7 0 105 = some (stL S) := c1.s.gL
      refine Both.yes (v := stL S) hr w (by rw [f_X11_setLimit, h.ob, if_neg s1, if_pos s2]; simp only [e1, c1.g2, gl, e2, bso]) (o1.trans (o2.wide (by omega) (by omega))) c2 g0 ok2 ⟨by show 0 ≤ 244; omega, fun x hx => nomatch hx⟩ (fun M2 => ?_)
      obtain ⟨R1, f1, q1, q2, q3, k1, w1⟩ := ref_act hr M2
      have g0' : f_X12_get 716 0 (ov M2 716 (rsS R1 5 0)) = some (stL S) := by
        have := X12_get_e (M := M2) (m := 716) (R := rsS R1 5 0) (k := 0) (by omega)
        rw [q1.1] at this
        exact this
      have f2 : sJ (ov M2 716 (rsS R1 5 0)) 1 717 0 (Int32.toInt64 a) = some (ov M2 716 (rsR (rsS R1 5 0) (vp_updL (rowf (rsS R1 5 0)) 0 (Int32.toInt64 a)))) := r_s1' w1 (k := 0) (by omega) (Int32.toInt64 a)
      have kR := kp_R w1 (vp_updL (rowf (rsS R1 5 0)) 0 (Int32.toInt64 a))
      have p : f_X12_passes 716 true (ov M2 716 R) = some (true, ov M2 716 (rsS R 0 0)) := X12_pass1_e true
      refine ⟨rsR (rsS R1 5 0) (vp_updL (rowf (rsS R1 5 0)) 0 (Int32.toInt64 a)), ?_, kp.trans k1 (kR.up (by simp) (by simp) (by simp)), ?_, q2.cg rfl (kR.2.2.1 10 (by simp)), q3⟩
      · simp only [f_X12_setLimit, ov_ob, hin, z, bso, p, cond_true, f1, r_p5, g0', r_g1, f2]
      · rw [rowf_R]
        exact q1.lim (v := a) (by rw [rg_s, Int32.toInt32_toInt64]) (fun q hq => pk_uLn (by omega))
    · exact bad (by rw [decide_eq_true (Int32.not_le.mp s2), Bool.and_comm]; rfl) (by rw [f_X11_setLimit, h.ob, if_neg s1, if_neg s2]; rfl)
end
