/-! PURE: searchBox, search -/
def BothJ (fX : Option ((Int64 ⊕ String) × Mem)) (gX : Mem → Option (Int64 × Mem)) (M : Mem) (R : Rs) (hs : List (String × Int32)) (c : Nat) : Prop :=
  ∃ t v I' O' S' K' B' C' H' N' E', (∃ o M1, fX = some (o, M1) ∧ off M M1 100 616 ∧ Cls M1 I' O' S' K' B' C' H' N' E' ∧ ((o = .inl v ∧ t = 0) ∨ ∃ Ex, o = .inr Ex ∧ hFind Ex hs = some t ∧ t ≠ 0)) ∧
    (∀ M2, ∃ b R', gX (ov M2 716 R) = some (b, ov M2 716 R') ∧ R'.1 0 = t ∧ (t = 0 → b = v) ∧ Ref R' I' O' S' K' B' C' H' N' E') ∧ okW c I' O' S' K' B' C' H' N'
theorem rsS_self (R : Rs) {k : Nat} {v : Int32} (h : R.1 k = v) : rsS R k v = R := by
  refine Prod.ext (funext fun j => ?_) rfl
  show va_up R.1 k v j = R.1 j
  by_cases e : j = k
  · rw [e, va_up_s, h]
  · rw [va_up_n _ _ e]
section
variable {M : Mem} {m : Nat} {R : Rs} {I O : List Int32} {S : St} {K : Nat → St} {B : Nat → Bool} {C : Nat} {H : Nat → St} {N : List Nt} {E : Er} {c : Nat}
theorem Ref.q {R' : Rs} (h : Ref R I O S K B C H N E) (k : qk R R') {x y : Int32} (e14 : R'.1 14 = x) (e15 : R'.1 15 = y) : Ref R' [] O S K B C H N (x, y) := by
  obtain ⟨a1, a2, a3, a4, ⟨a5, a6⟩, ⟨a7, a8⟩, ⟨a9, b1⟩, b2⟩ := h
  obtain ⟨k1, k2, k3⟩ := k
  have hrow : rowf R' = rowf R := by unfold rowf rowN; rw [k1]
  exact ⟨by rw [k1]; exact a1, by rw [hrow]; exact a2, a3.cg (k3 25 (by omega) (by omega) (by omega)) (by rw [k1]), ⟨(k3 5 (by omega) (by omega) (by omega)).trans a4.1, by rw [k1]; exact a4.2⟩, ⟨k2, fun j hj => absurd hj (Nat.not_lt_zero j)⟩, ⟨(k3 27 (by omega) (by omega) (by omega)).trans a7, by rw [k1]; exact a8⟩, ⟨e14, e15⟩, fun j hj => by rw [k1]; exact b2 j hj⟩
theorem Cls.qh (h : Cls M I O S K B C H N E) {b : Nat} (hb : b < stN S) : qH M 715 708 (boxR 105 b) (stB S b).2.2 := by
  have h3 := h.s.n3
  have hx := h.bx hb
  obtain ⟨-, -, -, -, -, -, -, -, -, -, -, -, -, hq⟩ := h
  exact ⟨hq, ⟨_, _, hx⟩, by omega, by unfold boxR; omega⟩
/-- the class parses a query -/
theorem cls_query (h : Cls M I O S K B C H N E) {b : Nat} (hb : b < stN S) : ∃ v M1 M2 x y, f_X6_parseFor 715 (boxR 105 b) M = some (v, M1) ∧ f_X11_finishReading 100 M1 = some M2 ∧ Cls M2 [] O S K B C H N (x, y) ∧ off M M2 100 616 ∧
    (match qAll I (stB S b).2.2 with
      | .inl z => v = z.2 ∧ x = 0 ∧ y = -1
      | .inr e => x = e.1 ∧ y = e.2 ∧ e.1 ≠ 0) := by
  have hq := h
  obtain ⟨-, hy, -, -, ⟨Sl, hl⟩, -, -, -, -, -, -, ht, hp, -⟩ := hq
  obtain ⟨v, M1, e1, qo, o1⟩ := X6_for_e (h.qh hb) ht hy (by omega)
  have hl1 : stA M1 164 Sl := hl.sm (o1.same (by omega))
  have oo : off M M1 100 616 := o1.wide (by omega) (by omega)
  cases hA : qAll I (stB S b).2.2 with
  | inl z =>
    rw [hA] at qo
    obtain ⟨q1, q2⟩ := qo
    have c1 := h.mT q2.x o1
    obtain ⟨X, A, n, hX, -, -, -, -, -, -, -, -, -, -, -, -, x13, x14⟩ := q2
    obtain ⟨M2, e2, c2, o2, -⟩ := finish_e c1 hl1 ((tkM_13 hX).trans (congrArg some x13)) (fun M' o => (tkM_14 hX o).trans (congrArg some x14))
    exact ⟨v, M1, M2, 0, -1, e1, e2, c2, oo.trans o2, q1, rfl, rfl⟩
  | inr e =>
    rw [hA] at qo
    have c1 := h.mT (tkF.x qo) o1
    obtain ⟨X, A, hX, -, -, x13, x14, x0⟩ := qo
    obtain ⟨M2, e2, c2, o2, -⟩ := finish_e c1 hl1 ((tkM_13 hX).trans (congrArg some x13)) (fun M' o => (tkM_14 hX o).trans (congrArg some x14))
    exact ⟨v, M1, M2, e.1, e.2, e1, e2, c2, oo.trans o2, rfl, rfl, x0⟩
theorem cs_searchBox (h : Cls M I O S K B C H N E) (hr : Ref R I O S K B C H N E) (w : okW c I O S K B C H N) (a : Int32) : ∃ E', Both (f_X11_searchBox 100 a M) (f_X12_searchBox 716 a) M R [("java/lang/IndexOutOfBoundsException", 1)] (c + 1) E' := by
  have w' := w.up (Nat.le_succ c)
  have wI : okW (c + 1) [] O S K B C H N := ⟨⟨Nat.zero_le _, fun x hx => nomatch hx⟩, w'.2⟩
  by_cases hx : ∃ k, k < stN S ∧ a = nI k
  · obtain ⟨b, hb, rfl⟩ := hx
    obtain ⟨v, M1, M2, x, y, e1, e2, c2, o2, hv⟩ := cls_query h hb
    have p : ∀ Mx, f_X12_passes 716 true (ov Mx 716 R) = some (true, ov Mx 716 (rsS R 0 0)) := fun Mx => X12_pass1_e true
    have hr5 := hr.2.2.2.2.1
    have g11 : gI M2 10 11 100 = some x := c2.g11
    have ref := fun Mx => X12_query_e (M := Mx) (m := 716) (R := rsS R 0 0) hr.2.1 hb hr5.1 w.1.1 hr5.2 w.1.by
    cases hA : qAll I (stB S b).2.2 with
    | inl z =>
      rw [hA] at hv
      obtain ⟨rfl, rfl, rfl⟩ := hv
      refine ⟨(0, -1), Both.gn (v := z.2) (by rw [f_X11_searchBox, h.ob, bX_l (reqBox_in h hb)]; simp only [h.g10, e1, e2, bso, g11, if_true]) o2 c2 wI (fun Mx => ?_)⟩
      obtain ⟨v2, R', f1, k1, q1⟩ := ref Mx
      rw [hA] at q1
      obtain ⟨rfl, q2, q3⟩ := q1
      refine ⟨R', ?_, (k1.2.2 0 (by omega) (by omega) (by omega)).trans (rsS_at R 0 0), (hr.t 0).q k1 q2 q3⟩
      have gd : f_X12_good 716 (ov Mx 716 R') = some true := by simp only [f_X12_good, ov_ob, r_g14, q2, bso, if_true]
      simp only [f_X12_searchBox, ov_ob, X12_isBox_in hr.2.1 hb, bso, p, cond_true, f1, gd]
    | inr e =>
      rw [hA] at hv
      obtain ⟨rfl, rfl, x0⟩ := hv
      refine ⟨(e.1, e.2), Both.gn (v := -4) (by rw [f_X11_searchBox, h.ob, bX_l (reqBox_in h hb)]; simp only [h.g10, e1, e2, bso, g11, if_neg x0]) o2 c2 wI (fun Mx => ?_)⟩
      obtain ⟨v2, R', f1, k1, q1⟩ := ref Mx
      rw [hA] at q1
      obtain ⟨q2, q3, q4⟩ := q1
      refine ⟨R', ?_, (k1.2.2 0 (by omega) (by omega) (by omega)).trans (rsS_at R 0 0), (hr.t 0).q k1 q2 q3⟩
      have gd : f_X12_good 716 (ov Mx 716 R') = some false := by simp only [f_X12_good, ov_ob, r_g14, q2, bso, if_neg q4]
      simp only [f_X12_searchBox, ov_ob, X12_isBox_in hr.2.1 hb, bso, p, cond_true, f1, gd, cond_false]
  · refine ⟨E, Both.no h hr w (by rw [f_X11_searchBox, h.ob, bX_r (reqBox_no h hx)]) (hf1 _ _ _) (by decide) (fun M2 => ?_)⟩
    have p : f_X12_passes 716 false (ov M2 716 R) = some (false, ov M2 716 (rsS R 0 1)) := X12_pass1_e false
    simp only [f_X12_searchBox, ov_ob, X12_isBox_no hr.2.1 hx, bso, p, cond_false]
theorem search_50_e (h : rep (rowf R) S) {s : Nat} (hs : s < stM S) (hw : okV S (stS S s)) (x : Int32) {w : Int32} {Mz : Mem} (he : f_X12_ends m (nI s) false (ov M m R) = some (w, Mz)) : f_X12_search_50 FU m (nI s) x 0 1 (ov M m R) = some (nms (sxE (stS S s)) (bof S (sxB (stS S s))) x, Mz) := by
  have hl := h.ls hs
  refine fd_run (fun fu k (a : Int64) => f_X12_search_50 fu m (nI s) x a (nI (k + 1)) (ov M m R)) _ (fun a => (a, Mz)) 0 (sxE (stS S s)).length ?_ ?_ (sxE (stS S s)).length 0 0 FU (Nat.zero_add _) (Nat.le_refl _) (by rw [FU_eq]; omega)
  · intro fu a
    simp only [f_X12_search_50, X12_ents_e h hs, bso, ltT rfl rfl (Nat.lt_succ_self (sxE (stS S s)).length) (show (sxE (stS S s)).length + 1 < 2 ^ 31 by omega), if_true, he]
  · intro fu k a _ hk
    have hmo := X12_msgOf_e (M := M) (m := m) h hs hw hk
    simp only [f_X12_search_50, X12_ents_e h hs, bso, ltF rfl rfl (show k + 1 ≤ (sxE (stS S s)).length by omega) (show (sxE (stS S s)).length < 2 ^ 31 by omega), if_false, hmo, f_X12_search_91, nI_1]
    obtain ⟨b, hb, h1, h2⟩ := hw.box hk h.2.2.2.1
    cases e : mix (bof S (sxB (stS S s))) (eU (eg (sxE (stS S s)) k)) with
    | none => simp [oI]
    | some j =>
      have hj := mix_lt e
      rw [h2] at hj
      have hl30 := h.lb hb
      have hh : f_X12_has x (nI j) (ov M m R) = some (!decide ((x >>> (nI j &&& 31)) &&& 1 = 0)) := by
        rw [X12_has_e x (show j < 32 by omega)]
        simp only [msk_0 x (show j < 32 by omega), bit_0 x (show j < 32 by omega)]
      simp only [oI, nI_m1 (show j < 2 ^ 31 by omega), if_false, hh, bso]
      by_cases e2 : (x >>> (nI j &&& 31)) &&& 1 = 0
      · rw [decide_eq_true e2, if_pos e2]; rfl
      · rw [decide_eq_false e2, if_neg e2]; rfl
theorem cs_search (h : Cls M I O S K B C H N E) (hr : Ref R I O S K B C H N E) (w : okW c I O S K B C H N) (a : Int32) : BothJ (f_X11_search 100 a M) (f_X12_search 716 a) M R [("java/lang/IndexOutOfBoundsException", 1), ("java/lang/IllegalStateException", 2)] (c + 1) := by
  have ok := w.2.2.1
  have w' := w.up (Nat.le_succ c)
  have wI0 : okW c [] O S K B C H N := ⟨⟨Nat.zero_le _, fun x hx => nomatch hx⟩, w.2⟩
  have wI : okW (c + 1) [] O S K B C H N := ⟨⟨Nat.zero_le _, fun x hx => nomatch hx⟩, w'.2⟩
  have bad : ∀ (t : Int32) (Ex : String), hFind Ex [("java/lang/IndexOutOfBoundsException", 1), ("java/lang/IllegalStateException", 2)] = some t → t ≠ 0 → f_X11_search 100 a M = some (.inr Ex, mskip M) → (∀ M2, f_X12_search 716 a (ov M2 716 R) = some (0, ov M2 716 (rsS R 0 t))) → BothJ (f_X11_search 100 a M) (f_X12_search 716 a) M R [("java/lang/IndexOutOfBoundsException", 1), ("java/lang/IllegalStateException", 2)] (c + 1) :=
    fun t Ex e2 e3 e1 e4 => ⟨t, 0, I, O, S, K, B, C, H, N, E, ⟨_, _, e1, ⟨rfl, fun _ _ => rfl⟩, h.skip, .inr ⟨Ex, rfl, e2, e3⟩⟩, fun M2 => ⟨0, rsS R 0 t, e4 M2, rsS_at _ _ _, fun z => absurd z e3, hr.t t⟩, w'⟩
  by_cases hx : ∃ k, k < stM S ∧ a = nI k
  · obtain ⟨k, hk, rfl⟩ := hx
    cases hd : cdo (stS S k) with
    | false =>
      refine bad 2 _ (hf2 neS _ _ _) (by decide) (by rw [f_X11_search, h.ob, bX_l (reqSes_in h hk), bX_r (reqAwk_no h hk hd)]) (fun M2 => ?_)
      have p : f_X12_passes2 716 true false (ov M2 716 R) = some (false, ov M2 716 (rsS R 0 2)) := X12_pass2_e true false
      simp only [f_X12_search, ov_ob, X12_isSes_in hr.2.1 hk, X12_canDo_in hr.2.1 hk, hd, bso, p, cond_false]
    | true =>
      obtain ⟨b, hb, hbx, er⟩ := reqAwk_in h hk hd (ok.wf k hk)
      obtain ⟨v, M1, M2, x, y, e1, e2, c2, o2, hv⟩ := cls_query h hb
      have p : ∀ Mx, f_X12_passes2 716 true true (ov Mx 716 R) = some (true, ov Mx 716 (rsS R 0 0)) := fun Mx => X12_pass2_e true true
      have hr5 := hr.2.2.2.2.1
      have g11 : gI M2 10 11 100 = some x := c2.g11
      have ref := fun Mx => X12_query_e (M := Mx) (m := 716) (R := rsS R 0 0) hr.2.1 hb hr5.1 w.1.1 hr5.2 w.1.by
      have gb : ∀ Mx, f_X12_boxOf 716 (nI k) (ov Mx 716 (rsS R 0 0)) = some (nI b) := fun Mx => by
        have := X12_boxOf_e (M := Mx) (m := 716) (R := rsS R 0 0) (S := S) hr.2.1 hk
        rw [this, hbx]
      cases hA : qAll I (stB S b).2.2 with
      | inr e =>
        rw [hA] at hv
        obtain ⟨rfl, rfl, x0⟩ := hv
        refine ⟨0, -4, [], O, S, K, B, C, H, N, (e.1, e.2), ⟨.inl (-4), M2, by rw [f_X11_search, h.ob, bX_l (reqSes_in h hk), bX_l er]; simp only [h.g10, e1, e2, bso, g11, if_neg x0], o2, c2, .inl ⟨rfl, rfl⟩⟩, fun Mx => ?_, wI⟩
        obtain ⟨v2, R', f1, k1, q1⟩ := ref Mx
        rw [hA] at q1
        obtain ⟨q2, q3, q4⟩ := q1
        refine ⟨-4, R', ?_, (k1.2.2 0 (by omega) (by omega) (by omega)).trans (rsS_at R 0 0), fun _ => rfl, (hr.t 0).q k1 q2 q3⟩
        have gd : f_X12_good 716 (ov Mx 716 R') = some false := by simp only [f_X12_good, ov_ob, r_g14, q2, bso, if_neg q4]
        simp only [f_X12_search, ov_ob, X12_isSes_in hr.2.1 hk, X12_canDo_in hr.2.1 hk, hd, bso, p, cond_true, gb, f1, gd, cond_false]
      | inl z =>
        rw [hA] at hv
        obtain ⟨rfl, rfl, rfl⟩ := hv
        obtain ⟨M3, S0, e3, g0, c3, o3⟩ := begCmd_e c2 hk
        have ok1 := ok.inc hk 0
        obtain ⟨T, hT⟩ : ∃ T, T = setSx S k (incC (stS S k) 0) := ⟨_, rfl⟩
        have hkT : k < stM T := by rw [hT]; exact hk
        have hbT : b < stN T := by rw [hT]; exact hb
        have hxT : sxB (stS T k) = nI b := by rw [hT, stS_set]; exact hbx
        have hiT : sxI (stS T k) = false := by rw [hT, stS_set]; exact (cdo_t hd).2
        rw [← hT] at c3 ok1
        have hn : f_X7_numbersOf (sesR 105 k) (boxR 105 b) z.2 M3 = some (nms (sxE (stS T k)) (stB T b).2.2 z.2) := X7_nms_e (c3.sx hkT) (c3.bx hbT) z.2
        have hle := ok1.end244 (k := k) hkT false (trm_awake hiT)
        obtain ⟨M4, e4, c4, o4⟩ := endCmd_e c3 (k := k) hkT ok1 false hle
        refine ⟨0, nms (sxE (stS T k)) (stB T b).2.2 z.2, [], O, (endS false T k []).1, K, B, upC C, push S0 H, (endS false T k []).2, (0, -1), ⟨.inl _, M4, by rw [f_X11_search, h.ob, bX_l (reqSes_in h hk), bX_l er]; simp only [h.g10, e1, e2, bso, g11, if_true, e3, hn, e4], (o2.trans o3).trans o4, c4, .inl ⟨rfl, rfl⟩⟩, fun Mx => ?_, okW_fin wI0 g0 ((ok1.endOk (k := k) hkT false).1.up (Nat.le_succ c)) ⟨hle, (ok1.endOk (k := k) hkT false).2⟩⟩
        obtain ⟨v2, R', f1, k1, q1⟩ := ref Mx
        rw [hA] at q1
        obtain ⟨rfl, q2, q3⟩ := q1
        have hr1 : Ref R' [] O S K B C H N (0, -1) := (hr.t 0).q k1 q2 q3
        have z0 : R'.1 0 = 0 := (k1.2.2 0 (by omega) (by omega) (by omega)).trans (rsS_at R 0 0)
        have hs0 : rsS R' 0 0 = R' := rsS_self R' z0
        obtain ⟨R1, f2, u1, u2, u3, k2, w1⟩ := ref_beg hr1 ok hk Mx
        rw [hs0] at f2 k2
        rw [← hT] at u1
        obtain ⟨R2, f3, v1, v2', k3⟩ := X12_ends_e (M := Mx) (m := 716) u1 w1 hkT ok1 u3 false hle
        have f4 := search_50_e (M := Mx) (m := 716) u1 hkT ⟨ok1.wf k hkT, fun q => absurd (hxT.symm.trans q) (by rw [nI_m1 (by have := ok.2.1.1; omega)]; exact id)⟩ z.2 f3
        rw [hxT, bof_in (by have := ok.2.1.1; omega)] at f4
        have kf : kpC (rsS R' 0 0) R2 := by rw [hs0]; exact cmd_kp k2 k3 w1
        obtain ⟨y1, y2⟩ := ref_fin hr1 kf v1 (u2.cg (k3.2.1 25 (by decide)) (k3.2.2.1 10 (by rw [row1 w1]; decide))) v2' g0
        refine ⟨_, R2, ?_, y1, fun _ => rfl, y2⟩
        have gd : f_X12_good 716 (ov Mx 716 R') = some true := by simp only [f_X12_good, ov_ob, r_g14, q2, bso, if_true]
        simp only [f_X12_search, ov_ob, X12_isSes_in hr.2.1 hk, X12_canDo_in hr.2.1 hk, hd, bso, p, cond_true, gb, f1, gd, f2, f4]
  · refine bad 1 _ (hf1 _ _ _) (by decide) (by rw [f_X11_search, h.ob, bX_r (reqSes_no h hx)]) (fun M2 => ?_)
    have p : f_X12_passes2 716 false false (ov M2 716 R) = some (false, ov M2 716 (rsS R 0 1)) := X12_pass2_e false false
    simp only [f_X12_search, ov_ob, X12_isSes_no hr.2.1 hx, X12_canDo_no hr.2.1 hx, bso, p, cond_false]
end
