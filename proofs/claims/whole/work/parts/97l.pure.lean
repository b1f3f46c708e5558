/-! PURE: move -/
section
variable {M : Mem} {m : Nat} {R : Rs} {I O : List Int32} {S : St} {K : Nat → St} {B : Nat → Bool} {C : Nat} {H : Nat → St} {N : List Nt} {E : Er} {c : Nat}
theorem cs_move (h : Cls M I O S K B C H N E) (hr : Ref R I O S K B C H N E) (w : okW c I O S K B C H N) (hc : c ≤ 1000) (a u v d : Int32) : Both (f_X11_move 100 a u v d M) (f_X12_move 716 a u v d) M R [("java/lang/IndexOutOfBoundsException", 1), ("java/lang/IllegalArgumentException", 2), ("java/lang/IllegalStateException", 3)] (c + 1) E := by
  have ok := w.2.2.1
  obtain ⟨L, l1, l2, l3⟩ := ok.1
  have bad1 : (∀ M2 q, f_X12_asksCopy 716 a u v d q (ov M2 716 R) = some (false, ov M2 716 (rsS R 0 1))) → f_X11_move 100 a u v d M = some (.inr "java/lang/IndexOutOfBoundsException", mskip M) → Both (f_X11_move 100 a u v d M) (f_X12_move 716 a u v d) M R [("java/lang/IndexOutOfBoundsException", 1), ("java/lang/IllegalArgumentException", 2), ("java/lang/IllegalStateException", 3)] (c + 1) E := by
    intro e2 e1
    refine Both.no h hr w e1 (hf1 _ _ _) (by decide) (fun M2 => ?_)
    obtain ⟨q, hq⟩ := canCh_ex hr a M2
    simp only [f_X12_move, ov_ob, hq, e2, bso, cond_false]
  by_cases hx : ∃ k, k < stM S ∧ a = nI k
  · obtain ⟨k, hk, rfl⟩ := hx
    have hl : (sxE (stS S k)).length ≤ 60 := (ok.2.2.2 k hk).2.2.1
    by_cases hi : ∃ i, i < (sxE (stS S k)).length ∧ u = nI (i + 1)
    · obtain ⟨i, hi, rfl⟩ := hi
      by_cases hj : ∃ i, i < (sxE (stS S k)).length ∧ v = nI (i + 1)
      · obtain ⟨j, hj, rfl⟩ := hj
        have are := fun M2 => areE_t (M := M2) (m := 716) hr.2.1 hk hi hj
        have ord : (nI (i + 1) ≤ nI (j + 1)) = (i ≤ j) := (leI rfl rfl (by omega) (by omega)).trans (by simp)
        have ord2 : (nI (j + 1) < nI (i + 1)) = (j < i) := (ltI rfl rfl (by omega) (by omega)).trans (by simp)
        by_cases hd : ∃ t, t < stN S ∧ d = nI t
        · obtain ⟨t, ht, rfl⟩ := hd
          have isb := fun M2 => X12_isBox_in (M := M2) (m := 716) hr.2.1 ht
          by_cases ho : i ≤ j
          · have n2 : ¬ (nI (j + 1) < nI (i + 1)) := by rw [ord2]; omega
            have hX : f_X11_move 100 (nI k) (nI (i + 1)) (nI (j + 1)) (nI t) M = bX (f_X11_requireWriting 100 (sesR 105 k) M) fun x11 M12 => (f_X7_countThere (sesR 105 k) x11 (nI (i + 1)) (nI (j + 1)) M12).bind fun x13 => bX (f_X11_requireRoom 100 (boxR 105 t) x13 M12) fun _ M15 => (f_X11_beginCommand 100 (sesR 105 k) M15).bind fun M17 => (f_X7_copyRange (sesR 105 k) x11 (nI (i + 1)) (nI (j + 1)) (boxR 105 t) M17).bind fun (x18, M19) => (f_X7_removeRange (sesR 105 k) x11 (nI (i + 1)) (nI (j + 1)) M19).bind fun M21 => (f_X11_endCommand 100 (nI k) true M21).bind fun (x22, M23) => some (.inl x18, M23) := by
              rw [f_X11_move, h.ob, bX_l (reqSes_in h hk), bX_l (reqEnt_in (h.sx hk) hi), bX_l (reqEnt_in (h.sx hk) hj), bX_l (reqBox_in h ht), bX_l (reqOrd_in (by rw [ord]; exact ho) M)]
            cases hd : (cdo (stS S k) && !sxR (stS S k)) with
            | false =>
              refine Both.no h hr w (by rw [hX, bX_r (reqWri_no h hk hd (ok.wf k hk))]) (hf3 neS neSA _ _ _ _) (by decide) (fun M2 => ?_)
              simp only [f_X12_move, ov_ob, X12_canCh_in hr.2.1 hk, hd, bso, asks_3 (are M2) (isb M2) n2, cond_false]
            | true =>
              obtain ⟨b, hb, hbx, er⟩ := reqWri_in h hk hd (ok.wf k hk)
              obtain ⟨l, hl'⟩ : ∃ l, l = cpy (stB S b).2.2 (rng (sxE (stS S k)) i (j + 1)) := ⟨_, rfl⟩
              have hl60 : l.length ≤ 60 := by
                rw [hl', cpy_len]
                exact Nat.le_trans (List.length_filter_le ..) (Nat.le_trans (rng_sub _ i (j + 1)).length_le hl)
              have cth : f_X7_countThere (sesR 105 k) (boxR 105 b) (nI (i + 1)) (nI (j + 1)) M = some (nI l.length) := by
                rw [hl', ← cp_cnt]
                exact X7_there_e (h.sx hk) (h.bx hb) (show i ≤ j + 1 by omega) (show j + 1 ≤ (sxE (stS S k)).length by omega)
              have rth : ∀ M2, f_X12_thereMany 716 (nI k) (nI (i + 1)) (nI (j + 1)) (ov M2 716 R) = some (nI l.length) := fun M2 => by
                rw [hl', ← cp_cnt, X12_there_e (M := M2) (m := 716) hr.2.1 hk (ok.2.2.2 k hk).1 (show i ≤ j + 1 by omega) (show j + 1 ≤ (sxE (stS S k)).length by omega), hbx, bof_in (by have := ok.2.1.1; omega)]
              have hrm := reqRoom_e h ht l1 l3 hl60
              have rrm : ∀ M2, f_X12_hasRoom 716 (nI t) (nI l.length) (ov M2 716 R) = some (decide (l.length = 0 ∨ (stB S t).2.2.length + l.length ≤ L)) := fun M2 => X12_room_e hr.2.1 ht l1 (by omega) hl60
              have asks := fun M2 => asks_r (are M2) (isb M2) n2 (rth M2) (rrm M2)
              by_cases er2 : l.length = 0 ∨ (stB S t).2.2.length + l.length ≤ L
              · rw [if_pos er2] at hrm
                rw [decide_eq_true er2] at asks
                have hl30 : (stB S t).2.2.length + l.length ≤ 30 := by
                  have := (ok.2.2.1 t ht).2.2
                  omega
                obtain ⟨M1, S0, e1, g0, c1, o1⟩ := begCmd_e h hk
                have ok1 := ok.inc hk 0
                obtain ⟨T, hT⟩ : ∃ T, T = setSx S k (incC (stS S k) 0) := ⟨_, rfl⟩
                have hkT : k < stM T := by rw [hT]; exact hk
                have hbT : b < stN T := by rw [hT]; exact hb
                have htT : t < stN T := by rw [hT]; exact ht
                have hxT : sxB (stS T k) = nI b := by rw [hT, stS_set]; exact hbx
                have hET : sxE (stS T k) = sxE (stS S k) := by rw [hT, stS_set]; rfl
                have hiT : sxI (stS T k) = false := by rw [hT, stS_set]; exact (cdo_t (Bool.and_eq_true_iff.mp hd).1).2
                have hlT : cpy (stB T b).2.2 (rng (sxE (stS T k)) i (j + 1)) = l := by rw [hET, hT]; exact hl'.symm
                have hl3T : (stB T t).2.2.length + (cpy (stB T b).2.2 (rng (sxE (stS T k)) i (j + 1))).length ≤ 30 := by rw [hlT, hT]; exact hl30
                rw [← hT] at c1 ok1
                have hjT : j < (sxE (stS T k)).length := by rw [hET]; exact hj
                obtain ⟨M2', e2, c2, o2⟩ := cls_cp c1 ok1 hc hkT hbT htT hxT ho hjT hl3T
                have ok2 := ok1.cp hc htT hl3T (cpy_sz (ok1.2.2.1 b hbT).2.1 _)
                rw [hlT] at e2 c2 ok2
                obtain ⟨V, hV⟩ : ∃ V, V = setBx T t (cpB (stB T t) l) := ⟨_, rfl⟩
                have hiV : sxI (stS V k) = false := by rw [hV]; exact hiT
                rw [← hV] at c2 ok2
                have hkV : k < stM V := by rw [hV]; exact hkT
                have hbV : b < stN V := by rw [hV]; exact hbT
                have hBV : (∀ x ∈ (stB V b).2.2, x ∈ (stB T b).2.2 ∨ ∃ i, i < l.length ∧ mU x = (stB T b).2.1 + nI i) ∧ ∀ x ∈ (stB T b).2.2, x ∈ (stB V b).2.2 := by
                  by_cases z : b = t
                  · subst z
                    have : stB V b = cpB (stB T b) l := by rw [hV, stB_set]
                    rw [this]
                    exact ⟨fun x hx => (List.mem_append.mp hx).imp id (adds_mem l _ x), fun x hx => List.mem_append.mpr (.inl hx)⟩
                  · have : stB V b = stB T b := by rw [hV]; exact va_up_n _ _ z
                    rw [this]
                    exact ⟨fun x hx => .inl hx, fun x hx => hx⟩
                have hgo : ∀ e ∈ rng (sxE (stS T k)) i (j + 1), gone (stB T b).2.2 e = true → mix (stB V b).2.2 (eU e) = none := by
                  intro e he hg
                  have hg : mix (stB T b).2.2 (eU e) = none := Option.isNone_iff_eq_none.mp hg
                  refine mix_non.mpr (fun x hx z => ?_)
                  rcases hBV.1 x hx with h1 | ⟨y, hy, h1⟩
                  · exact mix_non.mp hg x h1 z
                  · exact ok_hq ok1 hc hkT hbT hxT e ((rng_sub _ i (j + 1)).subset he) y (by omega) (by rw [← z, h1])
                obtain ⟨us, hus⟩ : ∃ us, us = (kept (stB T b).2.2 (rng (sxE (stS T k)) i (j + 1))).map eU := ⟨_, rfl⟩
                have hul : us.length = l.length := by rw [hus, List.length_map, ← cpy_len, hlT]
                have hnd : us.Nodup := by
                  have hs : us.Sublist ((sxE (stS T k)).map eU) := by
                    rw [hus]; exact ((List.filter_sublist ..).trans (rng_sub _ i (j + 1))).map eU
                  have hp : ((sxE (stS T k)).map eU).Pairwise (fun a b => a < b) := List.pairwise_map.mpr (ok1.2.2.2 k hkT).2.2.2.1.1
                  exact (hp.sublist hs).imp (fun z w => by rw [w] at z; exact Int32.lt_irrefl z)
                have hmx : ∀ u ∈ us, mix (stB V b).2.2 u ≠ none := by
                  intro u hu
                  rw [hus] at hu
                  obtain ⟨e, he, rfl⟩ := List.mem_map.mp hu
                  have hg : gone (stB T b).2.2 e = false := by
                    have := (List.mem_filter.mp he).2
                    simpa using this
                  have hg2 : mix (stB T b).2.2 (eU e) ≠ none := fun z => by
                    rw [gone, z] at hg; cases hg
                  obtain ⟨x, hx, z⟩ := mem_mix.mp hg2
                  exact mem_mix.mpr ⟨x, hBV.2 x hx, z⟩
                have hrU : rmvU (stB V b).2.2 us = rmv (stB V b).2.2 (rng (sxE (stS T k)) i (j + 1)) := by
                  rw [rmv_U, hus]
                  exact (rmvU_kept _ _ _ hgo).symm
                have hEV : sxE (stS V k) = sxE (stS T k) := by rw [hV]; rfl
                have hxV : sxB (stS V k) = nI b := by rw [hV]; exact hxT
                obtain ⟨M3, e3, x3, o3⟩ := X7_remove_e (M := M2') (r := sesR 105 k) (rb := boxR 105 b) (by have := c2.s.n3; have := c2.s.m4; unfold sesR boxR; omega) (a := i) (b := j + 1) (by omega) (show j + 1 ≤ (sxE (stS V k)).length by rw [hEV]; omega) (c2.sx hkV) (c2.bx hbV)
                obtain ⟨c3, o3'⟩ := c2.box hbV (X := setMs (stB V b) (rmv (stB V b).2.2 (rng (sxE (stS V k)) i (j + 1)))) x3 o3
                have hms := rmv_sub (rng (sxE (stS V k)) i (j + 1)) (stB V b).2.2
                have ok3 := ok2.setM hbV (okM_sub (ok2.2.2.1 b hbV).2.1 hms) (Nat.le_trans hms.length_le (ok2.2.2.1 b hbV).2.2)
                obtain ⟨W, hW⟩ : ∃ W, W = setBx V b (setMs (stB V b) (rmv (stB V b).2.2 (rng (sxE (stS V k)) i (j + 1)))) := ⟨_, rfl⟩
                have hiW : sxI (stS W k) = false := by rw [hW]; exact hiV
                rw [← hW] at c3 ok3
                have hkW : k < stM W := by rw [hW]; exact hkV
                have hle := ok3.end244 (k := k) hkW true (trm_awake hiW)
                obtain ⟨M4, e4, c4, o4⟩ := endCmd_e c3 (k := k) hkW ok3 true hle
                refine Both.yes (v := nI l.length) hr w (by rw [hX, bX_l er]; simp only [cth, bso]; rw [bX_l hrm]; simp only [e1, e2, e3, e4, bso]) (((o1.trans o2).trans o3').trans o4) c4 g0 (ok3.endOk (k := k) hkW true).1 ⟨hle, (ok3.endOk (k := k) hkW true).2⟩ (fun M2 => ?_)
                obtain ⟨R1, f1, q1, q2, q3, k1, w1⟩ := ref_beg hr ok hk M2
                rw [← hT] at q1
                obtain ⟨R3, f2, q4, q5, k3⟩ := ref_cp (M := M2) (m := 716) q1 w1 ok1 hc hkT hbT htT hxT ho hjT hl3T
                rw [hlT] at f2 q4
                rw [← hV] at q4
                have w2 : R3.2.1 = false := k3.1.trans w1
                have q3' : ntR R3 [] := ⟨(k3.2.1 5 (by simp)).trans q3.1, fun i hi => absurd hi (Nat.not_lt_zero i)⟩
                obtain ⟨f', f4, q8⟩ := X12_mv_loop (M := M2) (m := 716) (s := k) (b := b) (n := l.length) us 0 FU R3 V (by rw [hul, Nat.zero_add]) hl60 (by rw [hul, FU_eq]; omega) q4 w2 hkV hbV hxV (fun x hx => by
                  have hx' := hx
                  rw [hus, List.length_map] at hx'
                  rw [Nat.zero_add, q5 x hx', hus]
                  simp [eg, List.getD_eq_getElem?_getD, List.getElem?_map, List.getElem?_eq_getElem hx']) hnd hmx
                rw [hrU, ← hEV, ← hW] at q8
                have w3 : (rsR R3 f').2.1 = false := w2
                obtain ⟨R2, f3, q6, q7, k2⟩ := X12_done_e (M := M2) (m := 716) (R := rsR R3 f') (S := W) (by rw [rowf_R]; exact q8) w3 hkW ok3 (ns := []) q3' true hle (nI l.length)
                have kR := kp_R w2 f'
                have k13 : kp [5, 25] [1, 10] [4] (rsS R 0 0) (rsR R3 f') := ((k1.up (by simp) (by simp) (by simp)).trans (k3.up (by simp) (by simp) (by simp))).trans (kR.up (by simp) (by simp) (by simp))
                refine ⟨R2, ?_, (k13.up (by simp) (by simp) (by simp)).trans ((k2.kp w3).up (by simp) (by simp) (by simp)), q6, q2.cg ((k2.2.1 25 (by decide)).trans (k3.2.1 25 (by simp))) ((k2.2.2.1 10 (by rw [row1 w3]; decide)).trans ((kR.2.2.1 10 (by simp)).trans (k3.2.2.1 10 (by simp)))), q7⟩
                have f4 : f_X12_move_38 FU 716 (nI k) (nI l.length) 0 (ov M2 716 R3) = _ := f4
                simp only [f_X12_move, ov_ob, X12_canCh_in hr.2.1 hk, hd, bso, asks, cond_true, f1, f2, f4, f3]
              · rw [if_neg er2] at hrm
                rw [decide_eq_false er2] at asks
                refine Both.no h hr w (by rw [hX, bX_l er]; simp only [cth, bso]; rw [bX_r hrm]) (hf3 neS neSA _ _ _ _) (by decide) (fun M2 => ?_)
                simp only [f_X12_move, ov_ob, X12_canCh_in hr.2.1 hk, hd, bso, asks, cond_false]
          · refine Both.no h hr w (by rw [f_X11_move, h.ob, bX_l (reqSes_in h hk), bX_l (reqEnt_in (h.sx hk) hi), bX_l (reqEnt_in (h.sx hk) hj), bX_l (reqBox_in h ht), bX_r (reqOrd_no (by rw [ord]; exact ho) M)]) (hf2 neA _ _ _) (by decide) (fun M2 => ?_)
            obtain ⟨q, hq⟩ := canCh_ex hr (nI k) M2
            simp only [f_X12_move, ov_ob, hq, bso, asks_2 (are M2) (isb M2) (by rw [ord2]; omega), cond_false]
        · exact bad1 (fun M2 q => asks_b (are M2) (X12_isBox_no hr.2.1 hd) q) (by rw [f_X11_move, h.ob, bX_l (reqSes_in h hk), bX_l (reqEnt_in (h.sx hk) hi), bX_l (reqEnt_in (h.sx hk) hj), bX_r (reqBox_no h hd)])
      · exact bad1 (fun M2 q => asks_1 (areE_3 hr.2.1 hk hi hj) _ q) (by rw [f_X11_move, h.ob, bX_l (reqSes_in h hk), bX_l (reqEnt_in (h.sx hk) hi), bX_r (reqEnt_no (h.sx hk) hj)])
    · exact bad1 (fun M2 q => asks_1 (areE_2 hr.2.1 hk hi v) _ q) (by rw [f_X11_move, h.ob, bX_l (reqSes_in h hk), bX_r (reqEnt_no (h.sx hk) hi)])
  · exact bad1 (fun M2 q => asks_1 (areE_1 hr.2.1 hx u v) _ q) (by rw [f_X11_move, h.ob, bX_r (reqSes_no h hx)])
end
