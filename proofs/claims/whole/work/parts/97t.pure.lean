/-! PURE: readers of a session -/
section
variable {M : Mem} {m : Nat} {R : Rs} {I O : List Int32} {S : St} {K : Nat → St} {B : Nat → Bool} {C : Nat} {H : Nat → St} {N : List Nt} {E : Er} {c : Nat}
theorem cs_session (h : Cls M I O S K B C H N E) (hr : Ref R I O S K B C H N E) (w : okW c I O S K B C H N) (a s : Int32) : Both (f_X11_session 100 a s M) (f_X12_session 716 a s) M R [("java/lang/IndexOutOfBoundsException", 1), ("java/lang/IllegalArgumentException", 2)] (c + 1) E := by
  have hin : ∀ M2, f_X12_in (Int32.toInt64 s) 0 6 M2 = some (!decide (s < 0) && !decide (nI 6 < s)) := in_e s 6
  by_cases hx : ∃ k, k < stM S ∧ a = nI k
  · obtain ⟨k, hk, rfl⟩ := hx
    have hsx := h.sx hk
    have hv : okV S (stS S k) := (w.2.2.1.2.2.2 k hk).1
    have hq : rep (rowf (rsS R 0 0)) S := hr.2.1
    obtain ⟨rb, Jb, nx, e, hb⟩ := h.bof hk hv.1
    have hX : f_X11_session 100 (nI k) s M = if s = 0 then ((gI M 6 1 (sesR 105 k)).bind fun x5 => some (.inl x5, M)) else if s = 1 then ((gZ M 6 2 (sesR 105 k)).bind fun x6 => bif x6 then (some (.inl 1, M)) else (some (.inl 0, M))) else if s = 2 then ((gZ M 6 3 (sesR 105 k)).bind fun x7 => bif x7 then (some (.inl 1, M)) else (some (.inl 0, M))) else if s = 3 then ((f_X7_size (sesR 105 k) M).bind fun x8 => some (.inl x8, M)) else if s = 4 then ((f_X7_countGone (sesR 105 k) rb M).bind fun x9 => some (.inl x9, M)) else if s = 5 then ((f_X7_countChanged (sesR 105 k) rb M).bind fun x10 => some (.inl x10, M)) else if s = 6 then ((f_X7_countNew (sesR 105 k) rb M).bind fun x11 => some (.inl x11, M)) else (some (.inr "java/lang/IllegalArgumentException", mskip M)) := by
      rw [f_X11_session, h.ob, bX_l (reqSes_in h hk)]
      simp only [h.g2, e, bso]
    have q0 : gI M 6 1 (sesR 105 k) = some (sxB (stS S k)) := sA.gB hsx
    have q1 : gZ M 6 2 (sesR 105 k) = some (sxR (stS S k)) := sA.gR hsx
    have q2 : gZ M 6 3 (sesR 105 k) = some (sxI (stS S k)) := sA.gI hsx
    have q3 : f_X7_size (sesR 105 k) M = some (nI (sxE (stS S k)).length) := X7_size_e hsx
    have q4 : f_X7_countGone (sesR 105 k) rb M = some (nI ((sxE (stS S k)).countP (gone (bof S (sxB (stS S k)))))) := X7_gone_e hsx hb
    have q5 : f_X7_countChanged (sesR 105 k) rb M = some (nI ((sxE (stS S k)).countP (chg (bof S (sxB (stS S k)))))) := X7_chg_e hsx hb
    have q6 : f_X7_countNew (sesR 105 k) rb M = some (nI ((bof S (sxB (stS S k))).countP (newer (sxH (stS S k))))) := X7_new_e hsx hb
    rcases sel_ex s (n := 6) (by omega) with ⟨j, hj, rfl⟩ | ⟨z, zn⟩
    · have si := sel_in hj (show 6 < 2 ^ 31 by omega)
      have : j = 0 ∨ j = 1 ∨ j = 2 ∨ j = 3 ∨ j = 4 ∨ j = 5 ∨ j = 6 := by omega
      rcases this with rfl | rfl | rfl | rfl | rfl | rfl | rfl
      · refine Both.rd h hr w (v := sxB (stS S k)) (by rw [hX, if_pos (show nI 0 = 0 by decide)]; simp only [q0, bso]) (fun M2 => ?_)
        simp only [f_X12_session, ov_ob, X12_isSes_in hr.2.1 hk, hin, si, bso, p2_11, cond_true, X12_boxOf_e hq hk]
        rw [if_pos (show nI 0 = 0 by decide)]
      · refine Both.rd h hr w (v := bif sxR (stS S k) then 1 else 0) (by rw [hX, if_neg (show ¬ (nI 1 = 0) by decide), if_pos (show nI 1 = 1 by decide)]; simp only [q1, bso]; cases sxR (stS S k) <;> rfl) (fun M2 => ?_)
        simp only [f_X12_session, ov_ob, X12_isSes_in hr.2.1 hk, hin, si, bso, p2_11, cond_true, X12_reads_e hq hk]
        rw [if_neg (show ¬ (nI 1 = 0) by decide), if_pos (show nI 1 = 1 by decide)]
        cases sxR (stS S k) <;> rfl
      · refine Both.rd h hr w (v := bif sxI (stS S k) then 1 else 0) (by rw [hX, if_neg (show ¬ (nI 2 = 0) by decide), if_neg (show ¬ (nI 2 = 1) by decide), if_pos (show nI 2 = 2 by decide)]; simp only [q2, bso]; cases sxI (stS S k) <;> rfl) (fun M2 => ?_)
        simp only [f_X12_session, ov_ob, X12_isSes_in hr.2.1 hk, hin, si, bso, p2_11, cond_true, X12_idle_e hq hk]
        rw [if_neg (show ¬ (nI 2 = 0) by decide), if_neg (show ¬ (nI 2 = 1) by decide), if_pos (show nI 2 = 2 by decide)]
        cases sxI (stS S k) <;> rfl
      · refine Both.rd h hr w (v := nI (sxE (stS S k)).length) (by rw [hX, if_neg (show ¬ (nI 3 = 0) by decide), if_neg (show ¬ (nI 3 = 1) by decide), if_neg (show ¬ (nI 3 = 2) by decide), if_pos (show nI 3 = 3 by decide)]; simp only [q3, bso]) (fun M2 => ?_)
        simp only [f_X12_session, ov_ob, X12_isSes_in hr.2.1 hk, hin, si, bso, p2_11, cond_true, X12_ents_e hq hk]
        rw [if_neg (show ¬ (nI 3 = 0) by decide), if_neg (show ¬ (nI 3 = 1) by decide), if_neg (show ¬ (nI 3 = 2) by decide), if_pos (show nI 3 = 3 by decide)]
      · refine Both.rd h hr w (v := nI ((sxE (stS S k)).countP (gone (bof S (sxB (stS S k)))))) (by rw [hX, if_neg (show ¬ (nI 4 = 0) by decide), if_neg (show ¬ (nI 4 = 1) by decide), if_neg (show ¬ (nI 4 = 2) by decide), if_neg (show ¬ (nI 4 = 3) by decide), if_pos (show nI 4 = 4 by decide)]; simp only [q4, bso]) (fun M2 => ?_)
        simp only [f_X12_session, ov_ob, X12_isSes_in hr.2.1 hk, hin, si, bso, p2_11, cond_true, X12_goneM_e hq hk hv]
        rw [if_neg (show ¬ (nI 4 = 0) by decide), if_neg (show ¬ (nI 4 = 1) by decide), if_neg (show ¬ (nI 4 = 2) by decide), if_neg (show ¬ (nI 4 = 3) by decide), if_pos (show nI 4 = 4 by decide)]
      · refine Both.rd h hr w (v := nI ((sxE (stS S k)).countP (chg (bof S (sxB (stS S k)))))) (by rw [hX, if_neg (show ¬ (nI 5 = 0) by decide), if_neg (show ¬ (nI 5 = 1) by decide), if_neg (show ¬ (nI 5 = 2) by decide), if_neg (show ¬ (nI 5 = 3) by decide), if_neg (show ¬ (nI 5 = 4) by decide), if_pos (show nI 5 = 5 by decide)]; simp only [q5, bso]) (fun M2 => ?_)
        simp only [f_X12_session, ov_ob, X12_isSes_in hr.2.1 hk, hin, si, bso, p2_11, cond_true, X12_otherM_e hq hk hv]
        rw [if_neg (show ¬ (nI 5 = 0) by decide), if_neg (show ¬ (nI 5 = 1) by decide), if_neg (show ¬ (nI 5 = 2) by decide), if_neg (show ¬ (nI 5 = 3) by decide), if_neg (show ¬ (nI 5 = 4) by decide), if_pos (show nI 5 = 5 by decide)]
      · refine Both.rd h hr w (v := nI ((bof S (sxB (stS S k))).countP (newer (sxH (stS S k))))) (by rw [hX, if_neg (show ¬ (nI 6 = 0) by decide), if_neg (show ¬ (nI 6 = 1) by decide), if_neg (show ¬ (nI 6 = 2) by decide), if_neg (show ¬ (nI 6 = 3) by decide), if_neg (show ¬ (nI 6 = 4) by decide), if_neg (show ¬ (nI 6 = 5) by decide), if_pos (show nI 6 = 6 by decide)]; simp only [q6, bso]) (fun M2 => ?_)
        simp only [f_X12_session, ov_ob, X12_isSes_in hr.2.1 hk, hin, si, bso, p2_11, cond_true, X12_newM_e hq hk hv.1]
        rw [if_neg (show ¬ (nI 6 = 0) by decide), if_neg (show ¬ (nI 6 = 1) by decide), if_neg (show ¬ (nI 6 = 2) by decide), if_neg (show ¬ (nI 6 = 3) by decide), if_neg (show ¬ (nI 6 = 4) by decide), if_neg (show ¬ (nI 6 = 5) by decide)]
    · refine Both.no h hr w (by rw [hX, if_neg (show ¬ (s = 0) from zn 0 (by omega)), if_neg (show ¬ (s = 1) from zn 1 (by omega)), if_neg (show ¬ (s = 2) from zn 2 (by omega)), if_neg (show ¬ (s = 3) from zn 3 (by omega)), if_neg (show ¬ (s = 4) from zn 4 (by omega)), if_neg (show ¬ (s = 5) from zn 5 (by omega)), if_neg (show ¬ (s = 6) from zn 6 (by omega))]) (hf2 neA _ _ _) (by decide) (fun M2 => ?_)
      simp only [f_X12_session, ov_ob, X12_isSes_in hr.2.1 hk, hin, z, bso, p2_10, cond_false]
  · refine Both.no h hr w (by rw [f_X11_session, h.ob, bX_r (reqSes_no h hx)]) (hf1 _ _ _) (by decide) (fun M2 => ?_)
    simp only [f_X12_session, ov_ob, X12_isSes_no hr.2.1 hx, hin, bso, p2_0, cond_false]
theorem cs_entry (h : Cls M I O S K B C H N E) (hr : Ref R I O S K B C H N E) (w : okW c I O S K B C H N) (a i s : Int32) : Both (f_X11_entry 100 a i s M) (f_X12_entry 716 a i s) M R [("java/lang/IndexOutOfBoundsException", 1), ("java/lang/IllegalArgumentException", 2)] (c + 1) E := by
  have hin : ∀ M2, f_X12_in (Int32.toInt64 s) 0 4 M2 = some (!decide (s < 0) && !decide (nI 4 < s)) := in_e s 4
  by_cases hx : ∃ k, k < stM S ∧ a = nI k
  · obtain ⟨k, hk, rfl⟩ := hx
    have hsx := h.sx hk
    have hv : okV S (stS S k) := (w.2.2.1.2.2.2 k hk).1
    have hq : rep (rowf (rsS R 0 0)) S := hr.2.1
    have l60 := hr.2.1.ls hk
    by_cases hy : ∃ j, j < (sxE (stS S k)).length ∧ i = nI (j + 1)
    · obtain ⟨n, hn, rfl⟩ := hy
      obtain ⟨rb, Jb, nx, e, hb⟩ := h.bof hk hv.1
      obtain ⟨b, hb3, hbx, hbo⟩ := hv.box hn hr.2.1.2.2.2.1
      have l30 := hr.2.1.lb hb3
      obtain ⟨en, hen⟩ : ∃ en, en = eg (sxE (stS S k)) n := ⟨_, rfl⟩
      obtain ⟨ms, hms⟩ : ∃ ms, ms = bof S (sxB (stS S k)) := ⟨_, rfl⟩
      rw [← hms] at hb hbo
      have hu : f_X7_uidOf (sesR 105 k) (nI (n + 1)) M = some (eU en) := by rw [hen]; exact X7_uid_e hsx (show n < 2 ^ 31 by omega)
      have ht : f_X7_toldOf (sesR 105 k) (nI (n + 1)) M = some (eT en) := by rw [hen]; exact X7_told_e hsx (show n < 2 ^ 31 by omega)
      have hix : f_X0_indexOfUid rb (eU en) M = some (oI (mix ms (eU en))) := X0_ix hb _
      have hS3 : f_X5_get (rb + 3) (oI (mix ms (eU en))) M = some (esz ms en) := X0_sz_ix hb _
      have hF5 : f_X5_get (rb + 5) (oI (mix ms (eU en))) M = some (flg ms en) := X0_fl_ix hb _
      have m1 : (oI (mix ms (eU en)) = -1) = (mix ms (eU en) = none) := oI_m1 (by rw [hbo]; exact l30)
      have hX : f_X11_entry 100 (nI k) (nI (n + 1)) s M = if s = 0 then (some (.inl (eU en), M)) else if s = 1 then (some (.inl (eT en), M)) else if s = 2 then (if oI (mix ms (eU en)) = (-1) then (some (.inl 1, M)) else (some (.inl 0, M))) else if s = 3 then (some (.inl (esz ms en), M)) else if s = 4 then (some (.inl (flg ms en), M)) else (some (.inr "java/lang/IllegalArgumentException", mskip M)) := by
        rw [f_X11_entry, h.ob, bX_l (reqSes_in h hk), bX_l (reqEnt_in hsx hn)]
        simp only [h.g2, e, hu, ht, hix, hb.gS, hb.gF, hS3, hF5, bso]
      have r1 : ∀ M2, f_X12_isGone 716 (nI k) (nI (n + 1)) (ov M2 716 (rsS R 0 0)) = some (gone ms en) := fun M2 => by rw [hms, hen]; exact X12_isGone_e hq hk hv hn
      have r2 : ∀ M2, f_X12_ofEntry 716 (nI k) (nI (n + 1)) 0 (ov M2 716 (rsS R 0 0)) = some (eU en) := fun M2 => by rw [hen]; exact (X12_ofE_e hq hk hn).1
      have r3 : ∀ M2, f_X12_ofEntry 716 (nI k) (nI (n + 1)) 1 (ov M2 716 (rsS R 0 0)) = some (eT en) := fun M2 => by rw [hen]; exact (X12_ofE_e hq hk hn).2
      have r4 : ∀ M2, f_X12_messageOf 716 (nI k) (nI (n + 1)) (ov M2 716 (rsS R 0 0)) = some (oI (mix ms (eU en))) := fun M2 => by rw [hms, hen]; exact X12_msgOf_e hq hk hv hn
      have r5 : ∀ M2, f_X12_boxOf 716 (nI k) (ov M2 716 (rsS R 0 0)) = some (nI b) := fun M2 => by rw [X12_boxOf_e hq hk, hbx]
      have gz : gone ms en = (mix ms (eU en)).isNone := rfl
      have zb : ∀ M2, f_X12_isEntry 716 (nI k) (nI (n + 1)) (ov M2 716 R) = some true := fun M2 => X12_isEnt_in hr.2.1 hk hn
      rcases sel_ex s (n := 4) (by omega) with ⟨j, hj, rfl⟩ | ⟨z, zn⟩
      · have si := sel_in hj (show 4 < 2 ^ 31 by omega)
        have : j = 0 ∨ j = 1 ∨ j = 2 ∨ j = 3 ∨ j = 4 := by omega
        rcases this with rfl | rfl | rfl | rfl | rfl
        · refine Both.rd h hr w (v := eU en) (by rw [hX, if_pos (show nI 0 = 0 by decide)]) (fun M2 => ?_)
          simp only [f_X12_entry, ov_ob, zb, hin, si, bso, p2_11, cond_true, r1, r2]
          rw [if_pos (show nI 0 = 0 by decide)]
        · refine Both.rd h hr w (v := eT en) (by rw [hX, if_neg (show ¬ (nI 1 = 0) by decide), if_pos (show nI 1 = 1 by decide)]) (fun M2 => ?_)
          simp only [f_X12_entry, ov_ob, zb, hin, si, bso, p2_11, cond_true, r1, r3]
          rw [if_neg (show ¬ (nI 1 = 0) by decide), if_pos (show nI 1 = 1 by decide)]
        · refine Both.rd h hr w (v := if mix ms (eU en) = none then 1 else 0) (by rw [hX, if_neg (show ¬ (nI 2 = 0) by decide), if_neg (show ¬ (nI 2 = 1) by decide), if_pos (show nI 2 = 2 by decide)]; simp only [m1]; split <;> rfl) (fun M2 => ?_)
          simp only [f_X12_entry, ov_ob, zb, hin, si, bso, p2_11, cond_true, r1]
          rw [if_neg (show ¬ (nI 2 = 0) by decide), if_neg (show ¬ (nI 2 = 1) by decide), if_pos (show nI 2 = 2 by decide), gz]
          cases mix ms (eU en) <;> rfl
        · refine Both.rd h hr w (v := esz ms en) (by rw [hX, if_neg (show ¬ (nI 3 = 0) by decide), if_neg (show ¬ (nI 3 = 1) by decide), if_neg (show ¬ (nI 3 = 2) by decide), if_pos (show nI 3 = 3 by decide)]) (fun M2 => ?_)
          simp only [f_X12_entry, ov_ob, zb, hin, si, bso, p2_11, cond_true, r1]
          rw [if_neg (show ¬ (nI 3 = 0) by decide), if_neg (show ¬ (nI 3 = 1) by decide), if_neg (show ¬ (nI 3 = 2) by decide), if_pos (show nI 3 = 3 by decide), gz]
          have r4' := r4 M2
          unfold esz
          cases em : mix ms (eU en) with
          | none => rfl
          | some x =>
            rw [em] at r4'
            have hxl := mix_lt em
            rw [hbo] at hxl
            have := (X12_ofM_e (M := M2) (m := 716) hq hb3 hxl).2.1
            simp only [Option.isNone_some, cond_false, r5, r4', oI_s, this, bso, hbo]
        · refine Both.rd h hr w (v := flg ms en) (by rw [hX, if_neg (show ¬ (nI 4 = 0) by decide), if_neg (show ¬ (nI 4 = 1) by decide), if_neg (show ¬ (nI 4 = 2) by decide), if_neg (show ¬ (nI 4 = 3) by decide), if_pos (show nI 4 = 4 by decide)]) (fun M2 => ?_)
          simp only [f_X12_entry, ov_ob, zb, hin, si, bso, p2_11, cond_true, r1]
          rw [if_neg (show ¬ (nI 4 = 0) by decide), if_neg (show ¬ (nI 4 = 1) by decide), if_neg (show ¬ (nI 4 = 2) by decide), if_neg (show ¬ (nI 4 = 3) by decide)]
          cases eg' : gone ms en with
          | true =>
            have : mix ms (eU en) = none := Option.isNone_iff_eq_none.mp (gz ▸ eg')
            unfold flg
            rw [this]; rfl
          | false =>
            have := X12_flagsOf_e (M := M2) (m := 716) hq hk hv hn (by rw [← hms, ← hen]; exact eg')
            rw [← hms, ← hen] at this
            simp only [cond_false, this, bso]
      · refine Both.no h hr w (by rw [hX, if_neg (show ¬ (s = 0) from zn 0 (by omega)), if_neg (show ¬ (s = 1) from zn 1 (by omega)), if_neg (show ¬ (s = 2) from zn 2 (by omega)), if_neg (show ¬ (s = 3) from zn 3 (by omega)), if_neg (show ¬ (s = 4) from zn 4 (by omega))]) (hf2 neA _ _ _) (by decide) (fun M2 => ?_)
        simp only [f_X12_entry, ov_ob, zb, hin, z, bso, p2_10, cond_false]
    · refine Both.no h hr w (by rw [f_X11_entry, h.ob, bX_l (reqSes_in h hk), bX_r (reqEnt_no hsx hy)]) (hf1 _ _ _) (by decide) (fun M2 => ?_)
      simp only [f_X12_entry, ov_ob, X12_isEnt_no hr.2.1 hk hy, hin, bso, p2_0, cond_false]
  · refine Both.no h hr w (by rw [f_X11_entry, h.ob, bX_r (reqSes_no h hx)]) (hf1 _ _ _) (by decide) (fun M2 => ?_)
    simp only [f_X12_entry, ov_ob, X12_isEnt_nos hr.2.1 hx, hin, bso, p2_0, cond_false]
theorem num_sub {ms : Ms} {es : List En} {n : Nat} (hn : n < es.length) (hg : gone ms (eg es n) = false) : (rng es 0 (n + 1)).countP (fun e => !gone ms e) = (n + 1) - (es.take n).countP (gone ms) ∧ (es.take n).countP (gone ms) ≤ n + 1 := by
  have ht : es.take (n + 1) = es.take n ++ [eg es n] := by
    rw [List.take_succ_eq_append_getElem hn, eg, List.getD_eq_getElem?_getD, List.getElem?_eq_getElem hn]; rfl
  have h1 : rng es 0 (n + 1) = es.take (n + 1) := by rw [rng, List.drop_zero]
  have h2 := List.length_eq_countP_add_countP (p := gone ms) (l := es.take (n + 1))
  have h3 : (es.take (n + 1)).countP (gone ms) = (es.take n).countP (gone ms) := by
    rw [ht, List.countP_append, List.countP_singleton, if_neg (by rw [hg]; decide), Nat.add_zero]
  have h4 : (es.take (n + 1)).countP (fun a => decide ¬gone ms a = true) = (es.take (n + 1)).countP (fun e => !gone ms e) := by
    refine List.countP_congr (fun x _ => ?_)
    cases gone ms x <;> simp
  rw [List.length_take, Nat.min_eq_left (by omega)] at h2
  rw [h1]
  rw [h3, h4] at h2
  omega
theorem cs_numberThen (h : Cls M I O S K B C H N E) (hr : Ref R I O S K B C H N E) (w : okW c I O S K B C H N) (a i : Int32) : Both (f_X11_numberThen 100 a i M) (f_X12_numberThen 716 a i) M R [("java/lang/IndexOutOfBoundsException", 1)] (c + 1) E := by
  by_cases hx : ∃ k, k < stM S ∧ a = nI k
  · obtain ⟨k, hk, rfl⟩ := hx
    have hsx := h.sx hk
    have hv : okV S (stS S k) := (w.2.2.1.2.2.2 k hk).1
    have hq : rep (rowf (rsS R 0 0)) S := hr.2.1
    have l60 := hr.2.1.ls hk
    by_cases hy : ∃ j, j < (sxE (stS S k)).length ∧ i = nI (j + 1)
    · obtain ⟨n, hn, rfl⟩ := hy
      obtain ⟨rb, Jb, nx, e, hb⟩ := h.bof hk hv.1
      have c1 : f_X7_isGone (sesR 105 k) rb (nI (n + 1)) M = some (gone (bof S (sxB (stS S k))) (eg (sxE (stS S k)) n)) := X7_isGone_e hsx hb (show n < 2 ^ 31 by omega)
      have c2 : f_X7_countGoneBefore (sesR 105 k) rb (nI (n + 1)) M = some (nI (((sxE (stS S k)).take n).countP (gone (bof S (sxB (stS S k)))))) := X7_goneB_e hsx hb (show n ≤ (sxE (stS S k)).length by omega)
      have r1 : ∀ M2, f_X12_isGone 716 (nI k) (nI (n + 1)) (ov M2 716 (rsS R 0 0)) = some (gone (bof S (sxB (stS S k))) (eg (sxE (stS S k)) n)) := fun M2 => X12_isGone_e hq hk hv hn
      have r2 : ∀ M2, f_X12_thereMany 716 (nI k) 1 (nI (n + 1)) (ov M2 716 (rsS R 0 0)) = some (nI ((rng (sxE (stS S k)) 0 (n + 1)).countP (fun e => !gone (bof S (sxB (stS S k))) e))) := fun M2 => X12_there_e (a := 0) (b := n + 1) hq hk hv (by omega) (by omega)
      have zb : ∀ M2, f_X12_isEntry 716 (nI k) (nI (n + 1)) (ov M2 716 R) = some true := fun M2 => X12_isEnt_in hr.2.1 hk hn
      have hX : f_X11_numberThen 100 (nI k) (nI (n + 1)) M = bif gone (bof S (sxB (stS S k))) (eg (sxE (stS S k)) n) then (some (.inl (-1), M)) else (some (.inl (nI (n + 1) - nI (((sxE (stS S k)).take n).countP (gone (bof S (sxB (stS S k)))))), M)) := by
        rw [f_X11_numberThen, h.ob, bX_l (reqSes_in h hk), bX_l (reqEnt_in hsx hn)]
        simp only [h.g2, e, c1, c2, bso]
      cases hg : gone (bof S (sxB (stS S k))) (eg (sxE (stS S k)) n) with
      | true =>
        refine Both.rd h hr w (v := -1) (by rw [hX, hg]; rfl) (fun M2 => ?_)
        simp only [f_X12_numberThen, ov_ob, zb, bso, p1_1, cond_true, r1, hg]
      | false =>
        obtain ⟨s1, s2⟩ := num_sub hn hg
        refine Both.rd h hr w (v := nI (n + 1) - nI (((sxE (stS S k)).take n).countP (gone (bof S (sxB (stS S k)))))) (by rw [hX, hg]; rfl) (fun M2 => ?_)
        simp only [f_X12_numberThen, ov_ob, zb, bso, p1_1, cond_true, cond_false, r1, hg, r2]
        rw [s1, nI_sub s2]
    · refine Both.no h hr w (by rw [f_X11_numberThen, h.ob, bX_l (reqSes_in h hk), bX_r (reqEnt_no hsx hy)]) (hf1 _ _ _) (by decide) (fun M2 => ?_)
      simp only [f_X12_numberThen, ov_ob, X12_isEnt_no hr.2.1 hk hy, bso, p1_0, cond_false]
  · refine Both.no h hr w (by rw [f_X11_numberThen, h.ob, bX_r (reqSes_no h hx)]) (hf1 _ _ _) (by decide) (fun M2 => ?_)
    simp only [f_X12_numberThen, ov_ob, X12_isEnt_nos hr.2.1 hx, bso, p1_0, cond_false]
theorem cs_account (h : Cls M I O S K B C H N E) (hr : Ref R I O S K B C H N E) (w : okW c I O S K B C H N) (a s : Int32) : Both (f_X11_account 100 a s M) (f_X12_account 716 a s) M R [("java/lang/IndexOutOfBoundsException", 1), ("java/lang/IllegalArgumentException", 2)] (c + 1) E := by
  have hin : ∀ M2, f_X12_in (Int32.toInt64 s) 0 4 M2 = some (!decide (s < 0) && !decide (nI 4 < s)) := in_e s 4
  by_cases hx : ∃ k, k < stM S ∧ a = nI k
  · obtain ⟨k, hk, rfl⟩ := hx
    have hsx := h.sx hk
    have hq : rep (rowf (rsS R 0 0)) S := hr.2.1
    have m4 := hr.2.1.2.2.2.2.1
    rcases sel_ex s (n := 4) (by omega) with ⟨j, hj, rfl⟩ | ⟨z, zn⟩
    · have n0 : ¬ (nI j < 0) := Int32.not_lt.mpr (nI_ge0 (by omega))
      have n5 : nI j < 5 := by
        have : (nI j < nI 5) = (j < 5) := propext (nI_ltI (by omega) (by omega))
        show nI j < nI 5
        rw [this]; omega
      have gC : gR M 6 7 (sesR 105 k) = some (sesR 105 k + 5) := sA.gC hsx
      have g5 : f_X5_get (sesR 105 k + 5) (nI j) M = some ((sxC (stS S k)).getD j 0) := by
        have : f_X5_get (sesR 105 k + 5) (nI j) M = some (lgt (sxC (stS S k)) (nI j)) := X5_get_e hsx.2.2.2 _
        rw [this, lgt_n _ (by omega)]
      refine Both.rd h hr w (v := (sxC (stS S k)).getD j 0) (by rw [f_X11_account, h.ob, bX_l (reqSes_in h hk), if_neg n0, if_pos n5]; simp only [gC, g5, bso]) (fun M2 => ?_)
      have gg : f_X12_get 716 (nI (sAt k) + 6 + nI j) (ov M2 716 (rsS R 0 0)) = some ((sxC (stS S k)).getD j 0) := by
        rw [nI6, nI_add, X12_get_e (show sAt k + 6 + j < 806 by unfold sAt; omega)]
        exact congrArg some ((hq.sx hk).2.2.2.2.2.2.1 j (by omega))
      simp only [f_X12_account, ov_ob, X12_isSes_in hr.2.1 hk, hin, sel_in hj (show 4 < 2 ^ 31 by omega), bso, p2_11, cond_true, X12_sesAt_e, gg]
    · refine Both.no h hr w ?_ (hf2 neA _ _ _) (by decide) (fun M2 => ?_)
      · rw [f_X11_account, h.ob, bX_l (reqSes_in h hk)]
        by_cases n0 : s < 0
        · rw [if_pos n0]; rfl
        · rw [if_neg n0]
          have : ¬ (s < 5) := fun z5 => by
            rcases i_cases s with hs | ⟨j, hj, rfl⟩
            · exact n0 hs
            · have z5 : nI j < nI 5 := z5
              rw [nI_ltI hj (by omega)] at z5
              exact zn j (by omega) rfl
          rw [if_neg this]; rfl
      · simp only [f_X12_account, ov_ob, X12_isSes_in hr.2.1 hk, hin, z, bso, p2_10, cond_false]
  · refine Both.no h hr w (by rw [f_X11_account, h.ob, bX_r (reqSes_no h hx)]) (hf1 _ _ _) (by decide) (fun M2 => ?_)
    simp only [f_X12_account, ov_ob, X12_isSes_no hr.2.1 hx, hin, bso, p2_0, cond_false]
end
