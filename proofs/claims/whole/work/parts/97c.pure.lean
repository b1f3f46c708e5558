/-! PURE: noop, startIdle, stopIdle -/
section
variable {M : Mem} {m : Nat} {R : Rs} {I O : List Int32} {S : St} {K : Nat → St} {B : Nat → Bool} {C : Nat} {H : Nat → St} {N : List Nt} {E : Er} {c : Nat}
/-- both sides of a command -/
def Both (fX : Option ((Int32 ⊕ String) × Mem)) (gX : Mem → Option (Int32 × Mem)) (M : Mem) (R : Rs) (hs : List (String × Int32)) (c : Nat) (E : Er) : Prop :=
  ∃ t v I' O' S' K' B' C' H' N', ClsO fX M hs t v (fun M1 => Cls M1 I' O' S' K' B' C' H' N' E) ∧ (∀ M2, RefO (gX (ov M2 716 R)) M2 t v (fun R' => Ref R' I' O' S' K' B' C' H' N' E)) ∧ okW c I' O' S' K' B' C' H' N'
theorem Both.no {fX : Option ((Int32 ⊕ String) × Mem)} {gX : Mem → Option (Int32 × Mem)} {hs : List (String × Int32)} {Ex : String} {t : Int32} (h : Cls M I O S K B C H N E) (hr : Ref R I O S K B C H N E) (w : okW c I O S K B C H N)
    (e1 : fX = some (.inr Ex, mskip M)) (e2 : hFind Ex hs = some t) (e3 : t ≠ 0) (e4 : ∀ M2, gX (ov M2 716 R) = some (0, ov M2 716 (rsS R 0 t))) : Both fX gX M R hs (c + 1) E :=
  ⟨t, 0, I, O, S, K, B, C, H, N, ClsO.th e1 e2 e3 h.skip, fun M2 => RefO.rd (e4 M2) (fun z => absurd z e3) (hr.t t), w.up (by omega)⟩
theorem Both.yes {fX : Option ((Int32 ⊕ String) × Mem)} {gX : Mem → Option (Int32 × Mem)} {hs : List (String × Int32)} {v : Int32} {M1 : Mem} {S0 S3 : St} {N3 : List Nt} (hr : Ref R I O S K B C H N E) (w : okW c I O S K B C H N)
    (e1 : fX = some (.inl v, M1)) (o1 : off M M1 100 616) (c1 : Cls M1 I O S3 K B (upC C) (push S0 H) N3 E) (g : agr S0 S) (s3 : okS (c + 1) S3) (n3 : N3.length ≤ 244 ∧ ∀ x ∈ N3, okNt x)
    (e4 : ∀ M2, ∃ R2, gX (ov M2 716 R) = some (v, ov M2 716 R2) ∧ kpC (rsS R 0 0) R2 ∧ rep (rowf R2) S3 ∧ hsR R2 (upC C) (push S H) ∧ ntR R2 N3) : Both fX gX M R hs (c + 1) E := by
  refine ⟨0, v, I, O, S3, K, B, upC C, push S0 H, N3, ⟨.inl v, M1, e1, o1, c1, .inl ⟨v, rfl, rfl, rfl⟩⟩, fun M2 => ?_, okW_fin w g s3 n3⟩
  obtain ⟨R2, f2, k2, q1, q2, q3⟩ := e4 M2
  obtain ⟨z1, z2⟩ := ref_fin hr k2 q1 q2 q3 g
  exact ⟨v, R2, f2, z1, fun _ => rfl, z2⟩
/-- the reference begins, a command's checks behind it -/
theorem ref_beg (hr : Ref R I O S K B C H N E) (ok : okS c S) {k : Nat} (hk : k < stM S) (M2 : Mem) : ∃ R1, f_X12_begins 716 (nI k) (ov M2 716 (rsS R 0 0)) = some (ov M2 716 R1) ∧ rep (rowf R1) (setSx S k (incC (stS S k) 0)) ∧ hsR R1 (upC C) (push S H) ∧ ntR R1 [] ∧ kp [5, 25] [1, 10] [] (rsS R 0 0) R1 ∧ R1.2.1 = false := by
  obtain ⟨R1, f1, q1, q2, q3, k1⟩ := X12_begins_e (M := M2) (m := 716) (R := rsS R 0 0) (S := S) hr.2.1 hr.1 (cnt := C) (hk := H) hr.2.2.1 hk (ok.all k hk).2
  exact ⟨R1, f1, q1, q2, q3, k1, k1.1.trans hr.1⟩
theorem cs_noop (h : Cls M I O S K B C H N E) (hr : Ref R I O S K B C H N E) (w : okW c I O S K B C H N) (a : Int32) : Both (f_X11_noop 100 a M) (f_X12_noop 716 a) M R [("java/lang/IndexOutOfBoundsException", 1), ("java/lang/IllegalStateException", 2)] (c + 1) E := by
  have ok := w.2.2.1
  by_cases hx : ∃ k, k < stM S ∧ a = nI k
  · obtain ⟨k, hk, rfl⟩ := hx
    cases hd : cdo (stS S k) with
    | false =>
      have p : ∀ M2, f_X12_passes2 716 true false (ov M2 716 R) = some (false, ov M2 716 (rsS R 0 2)) := fun M2 => X12_pass2_e true false
      exact Both.no h hr w (by rw [f_X11_noop, h.ob, bX_l (reqSes_in h hk), bX_r (reqAwk_no h hk hd)]) (hf2 neS _ _ _) (by decide) (fun M2 => by
        simp only [f_X12_noop, ov_ob, X12_isSes_in hr.2.1 hk, X12_canDo_in hr.2.1 hk, hd, bso, p, cond_false])
    | true =>
      have p : ∀ M2, f_X12_passes2 716 true true (ov M2 716 R) = some (true, ov M2 716 (rsS R 0 0)) := fun M2 => X12_pass2_e true true
      obtain ⟨b, hb, hbx, er⟩ := reqAwk_in h hk hd (ok.wf k hk)
      obtain ⟨M1, S0, e1, g0, c1, o1⟩ := begCmd_e h hk
      have ok1 := ok.inc hk 0
      have hkk : k < stM (setSx S k (incC (stS S k) 0)) := hk
      have hl := ok1.end244 hkk true (trm_awake (by rw [stS_set]; exact (cdo_t hd).2))
      obtain ⟨M3, e3, c3, o3⟩ := endCmd_e c1 hkk ok1 true hl
      refine Both.yes (v := nI (tlK true (setSx S k (incC (stS S k) 0)) k).2.length) hr w (by rw [f_X11_noop, h.ob, bX_l (reqSes_in h hk), bX_l er]; simp only [e1, e3, bso]) (o1.trans o3) c3 g0 ((ok1.endOk hkk true).1.up (by omega)) ⟨hl, (ok1.endOk hkk true).2⟩ (fun M2 => ?_)
      obtain ⟨R1, f1, q1, q2, q3, k1, w1⟩ := ref_beg hr ok hk M2
      obtain ⟨R2, f2, q4, q5, k2⟩ := X12_ends_e (M := M2) (m := 716) q1 w1 hkk ok1 q3 true hl
      refine ⟨R2, ?_, cmd_kp k1 k2 w1, q4, q2.cg (k2.2.1 25 (by decide)) (k2.2.2.1 10 (by rw [row1 w1]; decide)), q5⟩
      simp only [f_X12_noop, ov_ob, X12_isSes_in hr.2.1 hk, X12_canDo_in hr.2.1 hk, hd, bso, p, cond_true, f1, f2]
  · have p : ∀ M2, f_X12_passes2 716 false false (ov M2 716 R) = some (false, ov M2 716 (rsS R 0 1)) := fun M2 => X12_pass2_e false false
    exact Both.no h hr w (by rw [f_X11_noop, h.ob, bX_r (reqSes_no h hx)]) (hf1 _ _ _) (by decide) (fun M2 => by
      simp only [f_X12_noop, ov_ob, X12_isSes_no hr.2.1 hx, X12_canDo_no hr.2.1 hx, bso, p, cond_false])
theorem cls_setI (h : Cls M I O S K B C H N E) {k : Nat} (hk : k < stM S) (v : Bool) : ∃ M', pV M 6 3 (sesR 105 k) (.int (b2i v)) = some M' ∧ Cls M' I O (setSx S k (idS (stS S k) v)) K B C H N E ∧ off M M' 100 616 := by
  have hk4 := h.s.m4
  obtain ⟨M2, e2, x2, o2⟩ := sA.pI (h.sx hk) v
  have s2 := h.s.setS (k := k) (by omega) (b := idS (stS S k) v) x2 (fun q _ _ q3 => o2.2 q (by omega))
  have o2' : off M M2 105 59 := o2.wide (by unfold sesR; omega) (by unfold sesR; omega)
  exact ⟨M2, e2, h.mS s2 o2', o2'.wide (by omega) (by omega)⟩
theorem setSx_idi (S : St) (k : Nat) (x y : Sx) : stS (setSx (setSx S k x) k y) k = y := va_up_s _ _ _
theorem cs_startIdle (h : Cls M I O S K B C H N E) (hr : Ref R I O S K B C H N E) (w : okW c I O S K B C H N) (a : Int32) : Both (f_X11_startIdle 100 a M) (f_X12_startIdle 716 a) M R [("java/lang/IndexOutOfBoundsException", 1), ("java/lang/IllegalStateException", 2)] (c + 1) E := by
  have ok := w.2.2.1
  by_cases hx : ∃ k, k < stM S ∧ a = nI k
  · obtain ⟨k, hk, rfl⟩ := hx
    cases hd : cdo (stS S k) with
    | false =>
      have p : ∀ M2, f_X12_passes2 716 true false (ov M2 716 R) = some (false, ov M2 716 (rsS R 0 2)) := fun M2 => X12_pass2_e true false
      exact Both.no h hr w (by rw [f_X11_startIdle, h.ob, bX_l (reqSes_in h hk), bX_r (reqAwk_no h hk hd)]) (hf2 neS _ _ _) (by decide) (fun M2 => by
        simp only [f_X12_startIdle, ov_ob, X12_isSes_in hr.2.1 hk, X12_canDo_in hr.2.1 hk, hd, bso, p, cond_false])
    | true =>
      have p : ∀ M2, f_X12_passes2 716 true true (ov M2 716 R) = some (true, ov M2 716 (rsS R 0 0)) := fun M2 => X12_pass2_e true true
      obtain ⟨b, hb, hbx, er⟩ := reqAwk_in h hk hd (ok.wf k hk)
      obtain ⟨M1, S0, e1, g0, c1, o1⟩ := begCmd_e h hk
      have ok1 := ok.inc hk 0
      have hk1 : k < stM (setSx S k (incC (stS S k) 0)) := hk
      obtain ⟨M2', e2, c2, o2⟩ := cls_setI c1 hk1 true
      obtain ⟨T, hT⟩ : ∃ T, T = setSx (setSx S k (incC (stS S k) 0)) k (idS (stS (setSx S k (incC (stS S k) 0)) k) true) := ⟨_, rfl⟩
      have okT : okS c T := by rw [hT]; exact ok1.setS (okE_id (ok1.2.2.2 k hk1) true)
      have hkT : k < stM T := by rw [hT]; exact hk
      rw [← hT] at c2
      have hl := okT.end244 hkT true (trm_twice okT hkT)
      obtain ⟨M3, e3, c3, o3⟩ := endCmd_e c2 hkT okT true hl
      refine Both.yes (v := nI (tlK true T k).2.length) hr w (by rw [f_X11_startIdle, h.ob, bX_l (reqSes_in h hk), bX_l er]; simp only [e1, e2, e3, bso]) ((o1.trans o2).trans o3) c3 g0 ((okT.endOk hkT true).1.up (by omega)) ⟨hl, (okT.endOk hkT true).2⟩ (fun M2 => ?_)
      obtain ⟨R1, f1, q1, q2, q3, k1, w1⟩ := ref_beg hr ok hk M2
      obtain ⟨f', f2, q4⟩ := X12_setI (M := M2) (m := 716) q1 w1 hk1 true
      have f2 : sJ (ov M2 716 R1) 1 717 (nI (sAt k + 3)) 1 = some (ov M2 716 (rsR R1 f')) := f2
      have kR := kp_R w1 f'
      have w2 : (rsR R1 f').2.1 = false := w1
      rw [← hT] at q4
      obtain ⟨R2, f3, q5, q6, k2⟩ := X12_ends_e (M := M2) (m := 716) (R := rsR R1 f') (S := T) (by rw [rowf_R]; exact q4) w2 hkT okT (ns := []) q3 true hl
      refine ⟨R2, ?_, cmd_kp ((k1.trans (kR.up (by simp) (by simp) (by simp)))) k2 w2, q5, q2.cg ((k2.2.1 25 (by decide)).trans rfl) ((k2.2.2.1 10 (by rw [row1 w2]; decide)).trans (kR.2.2.1 10 (by simp))), q6⟩
      simp only [f_X12_startIdle, ov_ob, X12_isSes_in hr.2.1 hk, X12_canDo_in hr.2.1 hk, hd, bso, p, cond_true, f1, r_g1, X12_sesAt_e, nI3, f2, f3]
  · have p : ∀ M2, f_X12_passes2 716 false false (ov M2 716 R) = some (false, ov M2 716 (rsS R 0 1)) := fun M2 => X12_pass2_e false false
    exact Both.no h hr w (by rw [f_X11_startIdle, h.ob, bX_r (reqSes_no h hx)]) (hf1 _ _ _) (by decide) (fun M2 => by
      simp only [f_X12_startIdle, ov_ob, X12_isSes_no hr.2.1 hx, X12_canDo_no hr.2.1 hx, bso, p, cond_false])
theorem cs_stopIdle (h : Cls M I O S K B C H N E) (hr : Ref R I O S K B C H N E) (w : okW c I O S K B C H N) (a : Int32) : Both (f_X11_stopIdle 100 a M) (f_X12_stopIdle 716 a) M R [("java/lang/IndexOutOfBoundsException", 1), ("java/lang/IllegalStateException", 2)] (c + 1) E := by
  have ok := w.2.2.1
  by_cases hx : ∃ k, k < stM S ∧ a = nI k
  · obtain ⟨k, hk, rfl⟩ := hx
    have gi : gZ M 6 3 (sesR 105 k) = some (sxI (stS S k)) := sA.gI (h.sx hk)
    cases hd : sxI (stS S k) with
    | false =>
      have p : ∀ M2, f_X12_passes2 716 true false (ov M2 716 R) = some (false, ov M2 716 (rsS R 0 2)) := fun M2 => X12_pass2_e true false
      exact Both.no h hr w (by rw [f_X11_stopIdle, h.ob, bX_l (reqSes_in h hk), gi, hd, bso]; rfl) (hf2 neS _ _ _) (by decide) (fun M2 => by
        simp only [f_X12_stopIdle, ov_ob, X12_isSes_in hr.2.1 hk, X12_idle_e hr.2.1 hk, hd, bso, cond_true, cond_false, f_X12_stopIdle_24, f_X12_stopIdle_25, p])
    | true =>
      have p : ∀ M2, f_X12_passes2 716 true true (ov M2 716 R) = some (true, ov M2 716 (rsS R 0 0)) := fun M2 => X12_pass2_e true true
      obtain ⟨M1, S0, e1, g0, c1, o1⟩ := begCmd_e h hk
      have ok1 := ok.inc hk 0
      have hk1 : k < stM (setSx S k (incC (stS S k) 0)) := hk
      obtain ⟨M2', e2, c2, o2⟩ := cls_setI c1 hk1 false
      obtain ⟨T, hT⟩ : ∃ T, T = setSx (setSx S k (incC (stS S k) 0)) k (idS (stS (setSx S k (incC (stS S k) 0)) k) false) := ⟨_, rfl⟩
      have okT : okS c T := by rw [hT]; exact ok1.setS (okE_id (ok1.2.2.2 k hk1) false)
      have hkT : k < stM T := by rw [hT]; exact hk
      have hiT : sxI (stS T k) = false := by rw [hT, setSx_idi]; rfl
      rw [← hT] at c2
      have hl := okT.end244 hkT true (trm_awake hiT)
      obtain ⟨M3, e3, c3, o3⟩ := endCmd_e c2 hkT okT true hl
      refine Both.yes (v := nI (tlK true T k).2.length) hr w (by rw [f_X11_stopIdle, h.ob, bX_l (reqSes_in h hk), gi, hd, bso]; simp only [cond_true, e1, e2, e3, bso]) ((o1.trans o2).trans o3) c3 g0 ((okT.endOk hkT true).1.up (by omega)) ⟨hl, (okT.endOk hkT true).2⟩ (fun M2 => ?_)
      obtain ⟨R1, f1, q1, q2, q3, k1, w1⟩ := ref_beg hr ok hk M2
      obtain ⟨f', f2, q4⟩ := X12_setI (M := M2) (m := 716) q1 w1 hk1 false
      have f2 : sJ (ov M2 716 R1) 1 717 (nI (sAt k + 3)) 0 = some (ov M2 716 (rsR R1 f')) := f2
      have kR := kp_R w1 f'
      have w2 : (rsR R1 f').2.1 = false := w1
      rw [← hT] at q4
      obtain ⟨R2, f3, q5, q6, k2⟩ := X12_ends_e (M := M2) (m := 716) (R := rsR R1 f') (S := T) (by rw [rowf_R]; exact q4) w2 hkT okT (ns := []) q3 true hl
      refine ⟨R2, ?_, cmd_kp ((k1.trans (kR.up (by simp) (by simp) (by simp)))) k2 w2, q5, q2.cg ((k2.2.1 25 (by decide)).trans rfl) ((k2.2.2.1 10 (by rw [row1 w2]; decide)).trans (kR.2.2.1 10 (by simp))), q6⟩
      simp only [f_X12_stopIdle, ov_ob, X12_isSes_in hr.2.1 hk, X12_idle_e hr.2.1 hk, hd, bso, cond_true, f_X12_stopIdle_25, p, f1, r_g1, X12_sesAt_e, nI3, f2, f3]
  · have p : ∀ M2, f_X12_passes2 716 false false (ov M2 716 R) = some (false, ov M2 716 (rsS R 0 1)) := fun M2 => X12_pass2_e false false
    exact Both.no h hr w (by rw [f_X11_stopIdle, h.ob, bX_r (reqSes_no h hx)]) (hf1 _ _ _) (by decide) (fun M2 => by
      simp only [f_X12_stopIdle, ov_ob, X12_isSes_no hr.2.1 hx, bso, cond_false, f_X12_stopIdle_24, f_X12_stopIdle_25, p])
end
