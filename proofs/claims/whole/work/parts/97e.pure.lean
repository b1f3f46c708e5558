/-! PURE: select, close, deliver, setLimit -/
section
variable {M : Mem} {m : Nat} {R : Rs} {I O : List Int32} {S : St} {K : Nat → St} {B : Nat → Bool} {C : Nat} {H : Nat → St} {N : List Nt} {E : Er} {c : Nat}
theorem tlI_M : ∀ (n k : Nat) (S : St) (ns : List Nt), stM (tlI n k (S, ns)).1 = stM S := by
  intro n
  induction n with
  | zero => intro k S ns; rfl
  | succ n ih =>
    intro k S ns
    have hs : tlI (n + 1) k (S, ns) = tlI n (k + 1) (if sxI (stS S k) = true then (setSx S k (tlK true S k).1, ns ++ (tlK true S k).2) else (S, ns)) := rfl
    rw [hs]
    by_cases e : sxI (stS S k) = true
    · rw [if_pos e, ih]; rfl
    · rw [if_neg e, ih]
def seS (s : Sx) (b : Nat) (rd : Bool) (ms : Ms) : Sx := (s.1, nI b, rd, sxI s, (nw 0 [] ms).1, (nw 0 [] ms).2, sxC s)
theorem okE_sel (h : okS c S) (hc : c ≤ 1000) {b : Nat} (hb : b < stN S) {s : Sx} (hs : okE S s) (rd : Bool) : okE S (seS s b rd (stB S b).2.2) := by
  have h3 := h.2.1.1
  obtain ⟨⟨n, n1, n2, n3⟩, hM, hl⟩ := h.2.2.1 b hb
  obtain ⟨k1, k2, k3⟩ := nw_ok (nx := (stB S b).2.1) (stB S b).2.2 0 [] okEs_0 (by rw [n1]; exact n_pos n2 (by omega)) (fun x hx => (hM.2 x hx).1)
  have hne : ¬ (nI b = -1) := by rw [nI_m1 (by omega)]; exact id
  refine ⟨⟨.inr ⟨b, hb, rfl⟩, fun z => absurd z hne⟩, hs.2.1, k3 (Nat.zero_le _), k1, fun b' hb' z => ?_⟩
  have z : nI b = nI b' := z
  obtain rfl : b = b' := (nI_eq (by omega) (by omega)).mp z
  exact k2
theorem okE_lv {s : Sx} (h3 : stN S ≤ 3) (hs : okE S s) : okE S (lvS s) := by
  refine ⟨⟨.inl rfl, fun _ => rfl⟩, hs.2.1, Nat.zero_le _, okEs_0, fun b hb z => ?_⟩
  have z : (-1 : Int32) = nI b := z
  exact absurd z.symm (by rw [nI_m1 (by omega)]; exact id)
/-- a command that ends with the idle alone -/
theorem ref_idle {R1 : Rs} (q1 : rep (rowf R1) S) (w1 : R1.2.1 = false) (ok : okS c S) (q3 : ntR R1 []) (M2 : Mem) :
    ∃ R2, f_X12_tellsIdle 716 (ov M2 716 R1) = some (ov M2 716 R2) ∧ rep (rowf R2) (tlI (stM S) 0 (S, [])).1 ∧ ntR R2 (tlI (stM S) 0 (S, [])).2 ∧ kp [5, 25] [1, 10] [3, 4] R1 R2 ∧ R2.1 25 = R1.1 25 ∧ R2.2.2.1 10 = R1.2.2.1 10 := by
  obtain ⟨R2, e2, g2, g3, k2⟩ := X12_idle_all (M := M2) (m := 716) q1 w1 ok.all q3 ok.idle244
  exact ⟨R2, e2, g2, g3, (k2.kp w1).up (by simp) (by simp) (by simp), k2.2.1 25 (by decide), k2.2.2.1 10 (by rw [row1 w1]; decide)⟩
theorem okS.idlOk (h : okS c S) : okS c (tlI (stM S) 0 (S, [])).1 ∧ (tlI (stM S) 0 (S, [])).2.length ≤ 244 ∧ ∀ x ∈ (tlI (stM S) 0 (S, [])).2, okNt x := by
  obtain ⟨h1, h2⟩ := tlI_ok (stM S) 0 S [] h (by omega) (fun x hx => nomatch hx)
  exact ⟨h1, h.idle244, h2⟩
theorem cs_select (h : Cls M I O S K B C H N E) (hr : Ref R I O S K B C H N E) (w : okW c I O S K B C H N) (hc : c ≤ 1000) (a u : Int32) (rd : Bool) : Both (f_X11_select 100 a u rd M) (f_X12_select 716 a u rd) M R [("java/lang/IndexOutOfBoundsException", 1), ("java/lang/IllegalStateException", 2)] (c + 1) E := by
  have ok := w.2.2.1
  have pf : ∀ M2, f_X12_passes2 716 false false (ov M2 716 R) = some (false, ov M2 716 (rsS R 0 1)) := fun M2 => X12_pass2_e false false
  by_cases hx : ∃ k, k < stM S ∧ a = nI k
  · obtain ⟨k, hk, rfl⟩ := hx
    by_cases hy : ∃ k, k < stN S ∧ u = nI k
    · obtain ⟨b, hb, rfl⟩ := hy
      have gi : gZ M 6 3 (sesR 105 k) = some (sxI (stS S k)) := sA.gI (h.sx hk)
      cases hd : sxI (stS S k) with
      | true =>
        have p : ∀ M2, f_X12_passes2 716 true false (ov M2 716 R) = some (false, ov M2 716 (rsS R 0 2)) := fun M2 => X12_pass2_e true false
        exact Both.no h hr w (by rw [f_X11_select, h.ob, bX_l (reqSes_in h hk), bX_l (reqBox_in h hb), gi, hd, bso]; rfl) (hf2 neS _ _ _) (by decide) (fun M2 => by
          simp only [f_X12_select, ov_ob, X12_isSes_in hr.2.1 hk, X12_isBox_in hr.2.1 hb, bso, cond_true, f_X12_select_21, X12_idle_e hr.2.1 hk, hd, f_X12_select_43, f_X12_select_44, p, cond_false])
      | false =>
        have p : ∀ M2, f_X12_passes2 716 true true (ov M2 716 R) = some (true, ov M2 716 (rsS R 0 0)) := fun M2 => X12_pass2_e true true
        obtain ⟨M1, S0, e1, g0, c1, o1⟩ := begCmd_e h hk
        have ok1 := ok.inc hk 0
        obtain ⟨T, hT⟩ : ∃ T, T = setSx S k (incC (stS S k) 0) := ⟨_, rfl⟩
        have hkT : k < stM T := by rw [hT]; exact hk
        have hbT : b < stN T := by rw [hT]; exact hb
        rw [← hT] at c1 ok1
        have h3 := ok1.2.1.1
        have h4 := ok1.2.1.2
        obtain ⟨M2', e2, x2, o2⟩ := X7_enter_e (c1.sx hkT) (c1.bx hbT) (by unfold sesR boxR; omega) (nI b) rd
        obtain ⟨c2, o2'⟩ := c1.ses hkT (X := seS (stS T k) b rd (stB T b).2.2) x2 o2
        have ok2 := ok1.setS (k := k) (okE_sel ok1 hc hbT (ok1.2.2.2 k hkT) rd)
        obtain ⟨V, hV⟩ : ∃ V, V = setSx T k (seS (stS T k) b rd (stB T b).2.2) := ⟨_, rfl⟩
        rw [← hV] at c2 ok2
        have hkV : k < stM V := by rw [hV]; exact hkT
        obtain ⟨i1, i2, i3⟩ := ok2.idlOk
        obtain ⟨M3, e3, c3, o3⟩ := tellIdle_e c2 ok2 i2
        have hkW : k < stM (tlI (stM V) 0 (V, [])).1 := by rw [tlI_M]; exact hkV
        have sz : f_X7_size (sesR 105 k) M3 = some (nI (sxE (stS (tlI (stM V) 0 (V, [])).1 k)).length) := X7_size_e (c3.sx hkW)
        refine Both.yes (v := nI (sxE (stS (tlI (stM V) 0 (V, [])).1 k)).length) hr w (by rw [f_X11_select, h.ob, bX_l (reqSes_in h hk), bX_l (reqBox_in h hb), gi, hd, bso]; simp only [cond_false, e1, e2, c2.g2, c2.g7, e3, sz, bso]) ((o1.trans o2').trans o3) c3 g0 (i1.up (by omega)) ⟨i2, i3⟩ (fun M2 => ?_)
        obtain ⟨R1, f1, q1, q2, q3, k1, w1⟩ := ref_beg hr ok hk M2
        rw [← hT] at q1
        obtain ⟨f', f2, q4⟩ := X12_takeBox_e (M := M2) (m := 716) q1 hkT hbT ((ok1.2.2.1 b hbT).2.1.1) rd
        have q4 : rep f' (setSx T k (seS (stS T k) b rd (stB T b).2.2)) := q4
        rw [← hV] at q4
        have w2 : (rsR R1 f').2.1 = false := w1
        have kR := kp_R w1 f'
        obtain ⟨R2, f3, q5, q6, k2, z1, z2⟩ := ref_idle (R1 := rsR R1 f') (S := V) (by rw [rowf_R]; exact q4) w2 ok2 q3 M2
        have fe : f_X12_entries 716 (nI k) (ov M2 716 R2) = some (nI (sxE (stS (tlI (stM V) 0 (V, [])).1 k)).length) := X12_ents_e q5 hkW
        refine ⟨R2, ?_, ((k1.up (by simp) (by simp) (by simp)).trans (kR.up (by simp) (by simp) (by simp))).trans k2, q5, q2.cg (z1.trans rfl) (z2.trans (kR.2.2.1 10 (by simp))), q6⟩
        simp only [f_X12_select, ov_ob, X12_isSes_in hr.2.1 hk, X12_isBox_in hr.2.1 hb, bso, cond_true, f_X12_select_21, X12_idle_e hr.2.1 hk, hd, cond_false, f_X12_select_44, p, f1, f2, f3, fe]
    · exact Both.no h hr w (by rw [f_X11_select, h.ob, bX_l (reqSes_in h hk), bX_r (reqBox_no h hy)]) (hf1 _ _ _) (by decide) (fun M2 => by
        simp only [f_X12_select, ov_ob, X12_isSes_in hr.2.1 hk, X12_isBox_no hr.2.1 hy, bso, cond_true, cond_false, f_X12_select_20, f_X12_select_21, f_X12_select_43, f_X12_select_44, pf])
  · exact Both.no h hr w (by rw [f_X11_select, h.ob, bX_r (reqSes_no h hx)]) (hf1 _ _ _) (by decide) (fun M2 => by
      simp only [f_X12_select, ov_ob, X12_isSes_no hr.2.1 hx, bso, cond_false, f_X12_select_20, f_X12_select_21, f_X12_select_43, f_X12_select_44, pf])
theorem cs_close (h : Cls M I O S K B C H N E) (hr : Ref R I O S K B C H N E) (w : okW c I O S K B C H N) (a : Int32) : Both (f_X11_close 100 a M) (f_X12_close 716 a) M R [("java/lang/IndexOutOfBoundsException", 1), ("java/lang/IllegalStateException", 2)] (c + 1) E := by
  have ok := w.2.2.1
  by_cases hx : ∃ k, k < stM S ∧ a = nI k
  · obtain ⟨k, hk, rfl⟩ := hx
    cases hd : cdo (stS S k) with
    | false =>
      have p : ∀ M2, f_X12_passes2 716 true false (ov M2 716 R) = some (false, ov M2 716 (rsS R 0 2)) := fun M2 => X12_pass2_e true false
      exact Both.no h hr w (by rw [f_X11_close, h.ob, bX_l (reqSes_in h hk), bX_r (reqAwk_no h hk hd)]) (hf2 neS _ _ _) (by decide) (fun M2 => by
        simp only [f_X12_close, ov_ob, X12_isSes_in hr.2.1 hk, X12_canDo_in hr.2.1 hk, hd, bso, p, cond_false])
    | true =>
      have p : ∀ M2, f_X12_passes2 716 true true (ov M2 716 R) = some (true, ov M2 716 (rsS R 0 0)) := fun M2 => X12_pass2_e true true
      obtain ⟨b, hb, hbx, er⟩ := reqAwk_in h hk hd (ok.wf k hk)
      obtain ⟨M1, S0, e1, g0, c1, o1⟩ := begCmd_e h hk
      have ok1 := ok.inc hk 0
      obtain ⟨T, hT⟩ : ∃ T, T = setSx S k (incC (stS S k) 0) := ⟨_, rfl⟩
      have hkT : k < stM T := by rw [hT]; exact hk
      have hbT : b < stN T := by rw [hT]; exact hb
      have hxT : sxB (stS T k) = nI b := by rw [hT, stS_set]; exact hbx
      have hrT : sxR (stS T k) = sxR (stS S k) := by rw [hT, stS_set]; rfl
      rw [← hT] at c1 ok1
      -- behind the removal
      have tail : ∀ (W : St) (v : Int32) (M2' : Mem), okS c W → k < stM W → Cls M2' I O W K B (upC C) (push S0 H) [] E → off M M2' 100 616 → f_X11_close 100 (nI k) M = f_X11_close_38 100 (sesR 105 k) v M2' →
          (∀ M2, ∃ R1, f_X12_close 716 (nI k) (ov M2 716 R) = f_X12_close_48 716 (nI k) v (ov M2 716 R1) ∧ rep (rowf R1) W ∧ hsR R1 (upC C) (push S H) ∧ ntR R1 [] ∧ kpC (rsS R 0 0) R1 ∧ R1.2.1 = false) →
          Both (f_X11_close 100 (nI k) M) (f_X12_close 716 (nI k)) M R [("java/lang/IndexOutOfBoundsException", 1), ("java/lang/IllegalStateException", 2)] (c + 1) E := by
        intro W v M2' okW' hkW c2 o2 eX eR
        have h4 := okW'.2.1.2
        obtain ⟨M3, e3, x3, o3⟩ := X7_leave_e (c2.sx hkW)
        obtain ⟨c3, o3'⟩ := c2.ses hkW (X := lvS (stS W k)) x3 o3
        have ok3 := okW'.setS (k := k) (okE_lv okW'.2.1.1 (okW'.2.2.2 k hkW))
        obtain ⟨V, hV⟩ : ∃ V, V = setSx W k (lvS (stS W k)) := ⟨_, rfl⟩
        rw [← hV] at c3 ok3
        obtain ⟨i1, i2, i3⟩ := ok3.idlOk
        obtain ⟨M4, e4, c4, o4⟩ := tellIdle_e c3 ok3 i2
        refine Both.yes (v := v) hr w (by rw [eX]; simp only [f_X11_close_38, e3, c3.g2, c3.g7, e4, bso]) ((o2.trans o3').trans o4) c4 g0 (i1.up (by omega)) ⟨i2, i3⟩ (fun M2 => ?_)
        obtain ⟨R1, f1, q1, q2, q3, k1, w1⟩ := eR M2
        obtain ⟨f', f2, q4⟩ := X12_leave_e (M := M2) (m := 716) q1 hkW
        rw [← hV] at q4
        have w2 : (rsR R1 f').2.1 = false := w1
        have kR := kp_R w1 f'
        obtain ⟨R2, f3, q5, q6, k2, z1, z2⟩ := ref_idle (R1 := rsR R1 f') (S := V) (by rw [rowf_R]; exact q4) w2 ok3 q3 M2
        exact ⟨R2, by rw [f1]; simp only [f_X12_close_48, f2, f3, bso], (kp.trans k1 (kR.up (by simp) (by simp) (by simp))).trans k2, q5, q2.cg (z1.trans rfl) (z2.trans (kR.2.2.1 10 (by simp))), q6⟩
      have gr : gZ M1 6 2 (sesR 105 k) = some (sxR (stS T k)) := sA.gR (c1.sx hkT)
      cases hrd : sxR (stS S k) with
      | true =>
        refine tail T 0 M1 ok1 hkT c1 o1 ?_ (fun M2 => ?_)
        · rw [f_X11_close, h.ob, bX_l (reqSes_in h hk), bX_l er, e1, bso, gr, bso, hrT, hrd]; rfl
        · obtain ⟨R1, f1, q1, q2, q3, k1, w1⟩ := ref_beg hr ok hk M2
          rw [← hT] at q1
          refine ⟨R1, ?_, q1, q2, q3, k1.up (by simp) (by simp) (by simp), w1⟩
          simp only [f_X12_close, ov_ob, X12_isSes_in hr.2.1 hk, X12_canDo_in hr.2.1 hk, hd, bso, p, cond_true, f1, X12_reads_e q1 hkT, hrT, hrd]
      | false =>
        have gN : gI M1 0 1 (boxR 105 b) = some (stB T b).2.1 := bA.gN (c1.bx hbT)
        obtain ⟨M2', e2, c2, o2⟩ := cls_del c1 hbT 1 (stB T b).2.1
        rw [keepD_0 (ok1.2.2.1 b hbT).2.1] at e2 c2
        have ok2 := ok1.del hbT 0 2147483647
        refine tail _ (nI ((stB T b).2.2.length - (keepD 0 2147483647 (stB T b).2.2).length)) M2' ok2 hkT c2 (o1.trans o2) ?_ (fun M2 => ?_)
        · rw [f_X11_close, h.ob, bX_l (reqSes_in h hk), bX_l er, e1, bso, gr, bso, hrT, hrd, cond_false, gN, bso, e2]; rfl
        · obtain ⟨R1, f1, q1, q2, q3, k1, w1⟩ := ref_beg hr ok hk M2
          rw [← hT] at q1
          obtain ⟨f', f2, q4⟩ := X12_del_e (M := M2) (m := 716) q1 w1 hbT 0 2147483647
          have kR := kp_R w1 f'
          refine ⟨rsR R1 f', ?_, by rw [rowf_R]; exact q4, q2.cg rfl (kR.2.2.1 10 (by simp)), q3, (k1.up (by simp) (by simp) (by simp)).trans (kR.up (by simp) (by simp) (by simp)), w1⟩
          have gb : f_X12_boxOf 716 (nI k) (ov M2 716 R1) = some (nI b) := by rw [X12_boxOf_e q1 hkT, hxT]
          simp only [f_X12_close, ov_ob, X12_isSes_in hr.2.1 hk, X12_canDo_in hr.2.1 hk, hd, bso, p, cond_true, f1, X12_reads_e q1 hkT, hrT, hrd, cond_false, gb, f2]
  · have p : ∀ M2, f_X12_passes2 716 false false (ov M2 716 R) = some (false, ov M2 716 (rsS R 0 1)) := fun M2 => X12_pass2_e false false
    exact Both.no h hr w (by rw [f_X11_close, h.ob, bX_r (reqSes_no h hx)]) (hf1 _ _ _) (by decide) (fun M2 => by
      simp only [f_X12_close, ov_ob, X12_isSes_no hr.2.1 hx, X12_canDo_no hr.2.1 hx, bso, p, cond_false])
end
