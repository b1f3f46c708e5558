/-! PURE: boxes change; select, close, expunge, deliver, setLimit -/
theorem ascU_iff : ∀ (ms : Ms) (lo : Int32), ascU lo ms ↔ (∀ u ∈ ms.map mU, lo < u) ∧ (ms.map mU).Pairwise (fun a b => a < b) := by
  intro ms
  induction ms with
  | nil => intro lo; exact ⟨fun _ => ⟨fun u hu => (nomatch hu), List.Pairwise.nil⟩, fun _ => trivial⟩
  | cons x t ih =>
    intro lo
    rw [List.map_cons, List.pairwise_cons]
    constructor
    · intro h
      obtain ⟨h1, h2⟩ := (ih (mU x)).mp h.2
      refine ⟨fun u hu => ?_, h1, h2⟩
      rcases List.mem_cons.mp hu with rfl | hu
      · exact h.1
      · exact Int32.lt_trans h.1 (h1 u hu)
    · intro ⟨h1, h2, h3⟩
      exact ⟨h1 _ List.mem_cons_self, (ih (mU x)).mpr ⟨h2, h3⟩⟩
theorem okM_iff (nx : Int32) (ms : Ms) : okM nx ms ↔ ((∀ u ∈ ms.map mU, (0 : Int32) < u) ∧ (ms.map mU).Pairwise (fun a b => a < b)) ∧ (∀ u ∈ ms.map mU, u < nx) ∧ ∀ s ∈ ms.map mS, 0 ≤ s := by
  unfold okM
  rw [ascU_iff]
  constructor
  · intro ⟨h1, h2⟩
    refine ⟨h1, fun u hu => ?_, fun s hs => ?_⟩
    · obtain ⟨x, hx, rfl⟩ := List.mem_map.mp hu; exact (h2 x hx).1
    · obtain ⟨x, hx, rfl⟩ := List.mem_map.mp hs; exact (h2 x hx).2
  · intro ⟨h1, h2, h3⟩
    exact ⟨h1, fun x hx => ⟨h2 _ (List.mem_map.mpr ⟨x, hx, rfl⟩), h3 _ (List.mem_map.mpr ⟨x, hx, rfl⟩)⟩⟩
theorem okM_map {nx : Int32} {ms ms' : Ms} (h : okM nx ms) (e1 : ms'.map mU = ms.map mU) (e2 : ms'.map mS = ms.map mS) : okM nx ms' := by
  rw [okM_iff] at h ⊢
  rw [e1, e2]; exact h
theorem okM_sub {nx : Int32} {ms ms' : Ms} (h : okM nx ms) (s : ms'.Sublist ms) : okM nx ms' := by
  obtain ⟨h1, h2⟩ := h
  obtain ⟨a1, a2⟩ := (ascU_iff _ _).mp h1
  refine ⟨(ascU_iff _ _).mpr ⟨fun u hu => a1 u ((s.map mU).subset hu), a2.sublist (s.map mU)⟩, fun x hx => h2 x (s.subset hx)⟩
theorem okS.setB {c c' : Nat} {S : St} (h : okS c S) (hc : c ≤ c') {b : Nat} {X : Bx} (hX : okBx c' X) (hn : (stB S b).2.1 ≤ X.2.1) : okS c' (setBx S b X) := by
  refine ⟨h.1, h.2.1, fun j hj => ?_, fun k hk => ?_⟩
  · show okBx c' (va_up (stB S) b X j)
    by_cases e : j = b
    · rw [e, va_up_s]; exact hX
    · rw [va_up_n _ _ e]; exact (h.2.2.1 j hj).up hc
  · obtain ⟨h1, h2, h3, h4, h5⟩ := h.2.2.2 k hk
    refine ⟨h1, h2, h3, h4, fun j hj z => ?_⟩
    show sxH (stS S k) < (va_up (stB S) b X j).2.1
    by_cases e : j = b
    · subst e
      rw [va_up_s]; exact Int32.lt_of_lt_of_le (h5 j hj z) hn
    · rw [va_up_n _ _ e]; exact h5 j hj z
theorem okS.setM {c : Nat} {S : St} (h : okS c S) {b : Nat} (hb : b < stN S) {ms' : Ms} (hM : okM (stB S b).2.1 ms') (hl : ms'.length ≤ 30) : okS c (setBx S b (setMs (stB S b) ms')) :=
  h.setB (Nat.le_refl c) ⟨(h.2.2.1 b hb).1, hM, hl⟩ (Int32.le_refl _)
theorem keepD_sub (f l : Int32) (ms : Ms) : (keepD f l ms).Sublist ms := List.filter_sublist ..
theorem okS.del {c : Nat} {S : St} (h : okS c S) {b : Nat} (hb : b < stN S) (f l : Int32) : okS c (setBx S b (setMs (stB S b) (keepD f l (stB S b).2.2))) :=
  h.setM hb (okM_sub (h.2.2.1 b hb).2.1 (keepD_sub f l _)) (Nat.le_trans (keepD_sub f l _).length_le (h.2.2.1 b hb).2.2)
theorem keepD_0 {nx : Int32} {ms : Ms} (h : okM nx ms) : keepD 1 nx ms = keepD 0 2147483647 ms := by
  unfold keepD
  refine List.filter_congr (fun x hx => ?_)
  have hp : (0 : Int32) < mU x := (ascU_pw ms 0 h.1).1 x hx
  have hn := (h.2 x hx).1
  have h1 : ¬ (mU x < 0) := fun z => Int32.lt_irrefl (Int32.lt_trans z hp)
  have h2 : ¬ (mU x < 1) := fun z => by
    have hp' := Int32.lt_iff_toInt_lt.mp hp
    have z' := Int32.lt_iff_toInt_lt.mp z
    have e0 : (0 : Int32).toInt = 0 := by decide
    have e1 : (1 : Int32).toInt = 1 := by decide
    omega
  have h3 : ¬ (nx < mU x) := fun z => Int32.lt_irrefl (Int32.lt_trans z hn)
  have h4 : ¬ ((2147483647 : Int32) < mU x) := fun z => by
    have z' := Int32.lt_iff_toInt_lt.mp z
    have e1 : (2147483647 : Int32).toInt = 2147483647 := by decide
    have h5 := Int32.toInt_lt (mU x)
    omega
  unfold delq
  rw [decide_eq_false h1, decide_eq_false h2, decide_eq_false h3, decide_eq_false h4]
theorem nodup3 : True := trivial
section
variable {M : Mem} {m : Nat} {R : Rs} {I O : List Int32} {S : St} {K : Nat → St} {B : Nat → Bool} {C : Nat} {H : Nat → St} {N : List Nt} {E : Er} {c : Nat}
theorem Cls.box {M' : Mem} (h : Cls M I O S K B C H N E) {b : Nat} (hb : b < stN S) {X : Bx} (x : bxA M' (boxR 105 b) X) (o : off M M' (boxR 105 b) 7) : Cls M' I O (setBx S b X) K B C H N E ∧ off M M' 100 616 := by
  have h3 := h.s.n3
  have s2 := h.s.setB (k := b) (by omega) (b := X) x (fun q _ _ q3 => o.2 q q3)
  have o2 : off M M' 105 59 := o.wide (by unfold boxR; omega) (by unfold boxR; omega)
  exact ⟨h.mS s2 o2, o2.wide (by omega) (by omega)⟩
theorem Cls.ses {M' : Mem} (h : Cls M I O S K B C H N E) {k : Nat} (hk : k < stM S) {X : Sx} (x : sxA M' (sesR 105 k) X) (o : off M M' (sesR 105 k) 7) : Cls M' I O (setSx S k X) K B C H N E ∧ off M M' 100 616 := by
  have h4 := h.s.m4
  have s2 := h.s.setS (k := k) (by omega) (b := X) x (fun q _ _ q3 => o.2 q q3)
  have o2 : off M M' 105 59 := o.wide (by unfold sesR; omega) (by unfold sesR; omega)
  exact ⟨h.mS s2 o2, o2.wide (by omega) (by omega)⟩
theorem cls_del (h : Cls M I O S K B C H N E) {b : Nat} (hb : b < stN S) (f l : Int32) : ∃ M', f_X0_removeDeleted (boxR 105 b) f l M = some (nI ((stB S b).2.2.length - (keepD f l (stB S b).2.2).length), M') ∧ Cls M' I O (setBx S b (setMs (stB S b) (keepD f l (stB S b).2.2))) K B C H N E ∧ off M M' 100 616 := by
  obtain ⟨M1, e1, x1, o1⟩ := X0_removeDeleted_e (h.bx hb) f l
  obtain ⟨c1, o2⟩ := h.box hb (X := setMs (stB S b) (keepD f l (stB S b).2.2)) x1 o1
  exact ⟨M1, e1, c1, o2⟩
/-- the reference removes, then ends -/
theorem ref_del {R1 : Rs} (q1 : rep (rowf R1) S) (w1 : R1.2.1 = false) (ok : okS c S) {k b : Nat} (hk : k < stM S) (hb : b < stN S) (f l : Int32) (q3 : ntR R1 []) (hl : (endS true (setBx S b (setMs (stB S b) (keepD f l (stB S b).2.2))) k []).2.length ≤ 244) (M2 : Mem) :
    ∃ f' R2, f_X12_removeDeleted 716 (nI b) f l (ov M2 716 R1) = some (nI ((stB S b).2.2.length - (keepD f l (stB S b).2.2).length), ov M2 716 (rsR R1 f')) ∧ f_X12_done 716 (nI k) true (nI ((stB S b).2.2.length - (keepD f l (stB S b).2.2).length)) (ov M2 716 (rsR R1 f')) = some (nI ((stB S b).2.2.length - (keepD f l (stB S b).2.2).length), ov M2 716 R2) ∧
      rep (rowf R2) (endS true (setBx S b (setMs (stB S b) (keepD f l (stB S b).2.2))) k []).1 ∧ ntR R2 (endS true (setBx S b (setMs (stB S b) (keepD f l (stB S b).2.2))) k []).2 ∧ kp [5, 25] [1, 10] [3, 4] R1 R2 ∧ R2.1 25 = R1.1 25 ∧ R2.2.2.1 10 = R1.2.2.1 10 := by
  obtain ⟨f', e1, g1⟩ := X12_del_e (M := M2) (m := 716) q1 w1 hb f l
  have w2 : (rsR R1 f').2.1 = false := w1
  have kR := kp_R w1 f'
  obtain ⟨R2, e2, g2, g3, k2⟩ := X12_done_e (M := M2) (m := 716) (R := rsR R1 f') (S := setBx S b (setMs (stB S b) (keepD f l (stB S b).2.2))) (by rw [rowf_R]; exact g1) w2 (k := k) hk (ok.del hb f l) (ns := []) q3 true hl (nI ((stB S b).2.2.length - (keepD f l (stB S b).2.2).length))
  exact ⟨f', R2, e1, e2, g2, g3, (kR.up (by simp) (by simp) (by simp)).trans ((k2.kp w2).up (by simp) (by simp) (by simp)), (k2.2.1 25 (by decide)).trans rfl, (k2.2.2.1 10 (by rw [row1 w2]; decide)).trans (kR.2.2.1 10 (by simp))⟩
theorem cs_expunge (h : Cls M I O S K B C H N E) (hr : Ref R I O S K B C H N E) (w : okW c I O S K B C H N) (a : Int32) : Both (f_X11_expunge 100 a M) (f_X12_expunge 716 a) M R [("java/lang/IndexOutOfBoundsException", 1), ("java/lang/IllegalStateException", 2)] (c + 1) E := by
  have ok := w.2.2.1
  by_cases hx : ∃ k, k < stM S ∧ a = nI k
  · obtain ⟨k, hk, rfl⟩ := hx
    cases hd : (cdo (stS S k) && !sxR (stS S k)) with
    | false =>
      have p : ∀ M2, f_X12_passes2 716 true false (ov M2 716 R) = some (false, ov M2 716 (rsS R 0 2)) := fun M2 => X12_pass2_e true false
      exact Both.no h hr w (by rw [f_X11_expunge, h.ob, bX_l (reqSes_in h hk), bX_r (reqWri_no h hk hd (ok.wf k hk))]) (hf2 neS _ _ _) (by decide) (fun M2 => by
        simp only [f_X12_expunge, ov_ob, X12_isSes_in hr.2.1 hk, X12_canCh_in hr.2.1 hk, hd, bso, p, cond_false])
    | true =>
      have p : ∀ M2, f_X12_passes2 716 true true (ov M2 716 R) = some (true, ov M2 716 (rsS R 0 0)) := fun M2 => X12_pass2_e true true
      obtain ⟨b, hb, hbx, er⟩ := reqWri_in h hk hd (ok.wf k hk)
      obtain ⟨M1, S0, e1, g0, c1, o1⟩ := begCmd_e h hk
      have ok1 := ok.inc hk 0
      obtain ⟨T, hT⟩ : ∃ T, T = setSx S k (incC (stS S k) 0) := ⟨_, rfl⟩
      have hkT : k < stM T := by rw [hT]; exact hk
      have hbT : b < stN T := by rw [hT]; exact hb
      have hiT : sxI (stS T k) = false := by rw [hT, stS_set]; exact (cdo_t (Bool.and_eq_true_iff.mp hd).1).2
      have hxT : sxB (stS T k) = nI b := by rw [hT, stS_set]; exact hbx
      rw [← hT] at c1 ok1
      have gN : gI M1 0 1 (boxR 105 b) = some (stB T b).2.1 := bA.gN (c1.bx hbT)
      obtain ⟨M2', e2, c2, o2⟩ := cls_del c1 hbT 1 (stB T b).2.1
      rw [keepD_0 (ok1.2.2.1 b hbT).2.1] at e2 c2
      have ok2 := ok1.del hbT 0 2147483647
      have hl := ok2.end244 (k := k) hkT true (trm_awake hiT)
      obtain ⟨M3, e3, c3, o3⟩ := endCmd_e c2 (k := k) hkT ok2 true hl
      refine Both.yes (v := nI ((stB T b).2.2.length - (keepD 0 2147483647 (stB T b).2.2).length)) hr w (by rw [f_X11_expunge, h.ob, bX_l (reqSes_in h hk), bX_l er]; simp only [e1, gN, e2, e3, bso]) ((o1.trans o2).trans o3) c3 g0 ((ok2.endOk (k := k) hkT true).1.up (by omega)) ⟨hl, (ok2.endOk (k := k) hkT true).2⟩ (fun M2 => ?_)
      obtain ⟨R1, f1, q1, q2, q3, k1, w1⟩ := ref_beg hr ok hk M2
      rw [← hT] at q1
      obtain ⟨f', R2, f2, f3, q4, q5, k2, z1, z2⟩ := ref_del q1 w1 ok1 hkT hbT 0 2147483647 q3 hl M2
      refine ⟨R2, ?_, (k1.up (by simp) (by simp) (by simp)).trans k2, q4, q2.cg z1 z2, q5⟩
      have gb : f_X12_boxOf 716 (nI k) (ov M2 716 R1) = some (nI b) := by rw [X12_boxOf_e q1 hkT, hxT]
      simp only [f_X12_expunge, ov_ob, X12_isSes_in hr.2.1 hk, X12_canCh_in hr.2.1 hk, hd, bso, p, cond_true, f1, gb, f2, f3]
  · have p : ∀ M2, f_X12_passes2 716 false false (ov M2 716 R) = some (false, ov M2 716 (rsS R 0 1)) := fun M2 => X12_pass2_e false false
    exact Both.no h hr w (by rw [f_X11_expunge, h.ob, bX_r (reqSes_no h hx)]) (hf1 _ _ _) (by decide) (fun M2 => by
      simp only [f_X12_expunge, ov_ob, X12_isSes_no hr.2.1 hx, X12_canCh_no hr.2.1 hx, bso, p, cond_false])
theorem cs_uidExpunge (h : Cls M I O S K B C H N E) (hr : Ref R I O S K B C H N E) (w : okW c I O S K B C H N) (a fs ls : Int32) : Both (f_X11_uidExpunge 100 a fs ls M) (f_X12_uidExpunge 716 a fs ls) M R [("java/lang/IndexOutOfBoundsException", 1), ("java/lang/IllegalStateException", 2)] (c + 1) E := by
  have ok := w.2.2.1
  by_cases hx : ∃ k, k < stM S ∧ a = nI k
  · obtain ⟨k, hk, rfl⟩ := hx
    cases hd : (cdo (stS S k) && !sxR (stS S k)) with
    | false =>
      have p : ∀ M2, f_X12_passes2 716 true false (ov M2 716 R) = some (false, ov M2 716 (rsS R 0 2)) := fun M2 => X12_pass2_e true false
      exact Both.no h hr w (by rw [f_X11_uidExpunge, h.ob, bX_l (reqSes_in h hk), bX_r (reqWri_no h hk hd (ok.wf k hk))]) (hf2 neS _ _ _) (by decide) (fun M2 => by
        simp only [f_X12_uidExpunge, ov_ob, X12_isSes_in hr.2.1 hk, X12_canCh_in hr.2.1 hk, hd, bso, p, cond_false])
    | true =>
      have p : ∀ M2, f_X12_passes2 716 true true (ov M2 716 R) = some (true, ov M2 716 (rsS R 0 0)) := fun M2 => X12_pass2_e true true
      obtain ⟨b, hb, hbx, er⟩ := reqWri_in h hk hd (ok.wf k hk)
      obtain ⟨M1, S0, e1, g0, c1, o1⟩ := begCmd_e h hk
      have ok1 := ok.inc hk 0
      obtain ⟨T, hT⟩ : ∃ T, T = setSx S k (incC (stS S k) 0) := ⟨_, rfl⟩
      have hkT : k < stM T := by rw [hT]; exact hk
      have hbT : b < stN T := by rw [hT]; exact hb
      have hiT : sxI (stS T k) = false := by rw [hT, stS_set]; exact (cdo_t (Bool.and_eq_true_iff.mp hd).1).2
      have hxT : sxB (stS T k) = nI b := by rw [hT, stS_set]; exact hbx
      rw [← hT] at c1 ok1
      obtain ⟨M2', e2, c2, o2⟩ := cls_del c1 hbT fs ls
      have ok2 := ok1.del hbT fs ls
      have hl := ok2.end244 (k := k) hkT true (trm_awake hiT)
      obtain ⟨M3, e3, c3, o3⟩ := endCmd_e c2 (k := k) hkT ok2 true hl
      refine Both.yes (v := nI ((stB T b).2.2.length - (keepD fs ls (stB T b).2.2).length)) hr w (by rw [f_X11_uidExpunge, h.ob, bX_l (reqSes_in h hk), bX_l er]; simp only [e1, e2, e3, bso]) ((o1.trans o2).trans o3) c3 g0 ((ok2.endOk (k := k) hkT true).1.up (by omega)) ⟨hl, (ok2.endOk (k := k) hkT true).2⟩ (fun M2 => ?_)
      obtain ⟨R1, f1, q1, q2, q3, k1, w1⟩ := ref_beg hr ok hk M2
      rw [← hT] at q1
      obtain ⟨f', R2, f2, f3, q4, q5, k2, z1, z2⟩ := ref_del q1 w1 ok1 hkT hbT fs ls q3 hl M2
      refine ⟨R2, ?_, (k1.up (by simp) (by simp) (by simp)).trans k2, q4, q2.cg z1 z2, q5⟩
      have gb : f_X12_boxOf 716 (nI k) (ov M2 716 R1) = some (nI b) := by rw [X12_boxOf_e q1 hkT, hxT]
      simp only [f_X12_uidExpunge, ov_ob, X12_isSes_in hr.2.1 hk, X12_canCh_in hr.2.1 hk, hd, bso, p, cond_true, f1, gb, f2, f3]
  · have p : ∀ M2, f_X12_passes2 716 false false (ov M2 716 R) = some (false, ov M2 716 (rsS R 0 1)) := fun M2 => X12_pass2_e false false
    exact Both.no h hr w (by rw [f_X11_uidExpunge, h.ob, bX_r (reqSes_no h hx)]) (hf1 _ _ _) (by decide) (fun M2 => by
      simp only [f_X12_uidExpunge, ov_ob, X12_isSes_no hr.2.1 hx, X12_canCh_no hr.2.1 hx, bso, p, cond_false])
end
