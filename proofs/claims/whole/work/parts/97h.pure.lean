/-! PURE: fetch, whole -/
section
variable {M : Mem} {m : Nat} {R : Rs} {I O : List Int32} {S : St} {K : Nat → St} {B : Nat → Bool} {C : Nat} {H : Nat → St} {N : List Nt} {E : Er} {c : Nat}
theorem areE_t (h : rep (rowf R) S) {k i j : Nat} (hk : k < stM S) (hi : i < (sxE (stS S k)).length) (hj : j < (sxE (stS S k)).length) : f_X12_areEntries m (nI k) (nI (i + 1)) (nI (j + 1)) (ov M m R) = some true := by
  simp only [f_X12_areEntries, ov_ob, X12_isEnt_in h hk hi, X12_isEnt_in h hk hj, bso, cond_true]
theorem areE_1 (h : rep (rowf R) S) {a : Int32} (ha : ¬ ∃ k, k < stM S ∧ a = nI k) (u v : Int32) : f_X12_areEntries m a u v (ov M m R) = some false := by
  simp only [f_X12_areEntries, ov_ob, X12_isEnt_nos h ha, bso, cond_false]
theorem areE_2 (h : rep (rowf R) S) {k : Nat} (hk : k < stM S) {u : Int32} (hu : ¬ ∃ i, i < (sxE (stS S k)).length ∧ u = nI (i + 1)) (v : Int32) : f_X12_areEntries m (nI k) u v (ov M m R) = some false := by
  simp only [f_X12_areEntries, ov_ob, X12_isEnt_no h hk hu, bso, cond_false]
theorem areE_3 (h : rep (rowf R) S) {k i : Nat} (hk : k < stM S) (hi : i < (sxE (stS S k)).length) {v : Int32} (hv : ¬ ∃ i, i < (sxE (stS S k)).length ∧ v = nI (i + 1)) : f_X12_areEntries m (nI k) (nI (i + 1)) v (ov M m R) = some false := by
  simp only [f_X12_areEntries, ov_ob, X12_isEnt_in h hk hi, X12_isEnt_no h hk hv, bso, cond_true, cond_false]
theorem reqOrd_in {u v : Int32} (h : u ≤ v) (M : Mem) : f_X11_requireOrder u v M = some (.inl (), M) := by rw [f_X11_requireOrder, if_pos h]
theorem reqOrd_no {u v : Int32} (h : ¬ u ≤ v) (M : Mem) : f_X11_requireOrder u v M = some (.inr "java/lang/IllegalArgumentException", mskip M) := by rw [f_X11_requireOrder, if_neg h]
theorem pass1 (M2 : Mem) (q r : Bool) : f_X12_passes3 716 false q r (ov M2 716 R) = some (false, ov M2 716 (rsS R 0 1)) := X12_pass_e false q r
theorem pass2 (M2 : Mem) (r : Bool) : f_X12_passes3 716 true false r (ov M2 716 R) = some (false, ov M2 716 (rsS R 0 2)) := X12_pass_e true false r
theorem pass3 (M2 : Mem) : f_X12_passes3 716 true true false (ov M2 716 R) = some (false, ov M2 716 (rsS R 0 3)) := X12_pass_e true true false
theorem pass0 (M2 : Mem) : f_X12_passes3 716 true true true (ov M2 716 R) = some (true, ov M2 716 (rsS R 0 0)) := X12_pass_e true true true
theorem canDo_ex (hr : Ref R I O S K B C H N E) (a : Int32) (M2 : Mem) : ∃ q, f_X12_canDo 716 a (ov M2 716 R) = some q := by
  by_cases hx : ∃ k, k < stM S ∧ a = nI k
  · obtain ⟨k, hk, rfl⟩ := hx; exact ⟨_, X12_canDo_in hr.2.1 hk⟩
  · exact ⟨_, X12_canDo_no hr.2.1 hx⟩
theorem canCh_ex (hr : Ref R I O S K B C H N E) (a : Int32) (M2 : Mem) : ∃ q, f_X12_canChange 716 a (ov M2 716 R) = some q := by
  by_cases hx : ∃ k, k < stM S ∧ a = nI k
  · obtain ⟨k, hk, rfl⟩ := hx; exact ⟨_, X12_canCh_in hr.2.1 hk⟩
  · exact ⟨_, X12_canCh_no hr.2.1 hx⟩
theorem cls_addC (h : Cls M I O S K B C H N E) {k : Nat} (hk : k < stM S) (v : Int32) : ∃ M', f_X5_increase (sesR 105 k + 5) 4 v M = some M' ∧ Cls M' I O (setSx S k (addC (stS S k) 4 v)) K B C H N E ∧ off M M' 100 616 := by
  obtain ⟨M1, e1, x1, o1⟩ := X7_count_e (h.sx hk) (k := 4) (by omega) v
  obtain ⟨c1, o2⟩ := h.ses hk (X := addC (stS S k) 4 v) x1 o1
  exact ⟨M1, e1, c1, o2⟩
theorem cs_fetch (h : Cls M I O S K B C H N E) (hr : Ref R I O S K B C H N E) (w : okW c I O S K B C H N) (a u v : Int32) (peek : Bool) : Both (f_X11_fetch 100 a u v peek M) (f_X12_fetch 716 a u v peek) M R [("java/lang/IndexOutOfBoundsException", 1), ("java/lang/IllegalArgumentException", 2), ("java/lang/IllegalStateException", 3)] (c + 1) E := by
  have ok := w.2.2.1
  have bad1 : (∀ M2, f_X12_areEntries 716 a u v (ov M2 716 R) = some false) → f_X11_fetch 100 a u v peek M = some (.inr "java/lang/IndexOutOfBoundsException", mskip M) → Both (f_X11_fetch 100 a u v peek M) (f_X12_fetch 716 a u v peek) M R [("java/lang/IndexOutOfBoundsException", 1), ("java/lang/IllegalArgumentException", 2), ("java/lang/IllegalStateException", 3)] (c + 1) E := by
    intro e2 e1
    refine Both.no h hr w e1 (hf1 _ _ _) (by decide) (fun M2 => ?_)
    obtain ⟨q, hq⟩ := canDo_ex hr a M2
    simp only [f_X12_fetch, ov_ob, e2, bso, f_X12_fetch_18, hq, pass1, cond_false]
    split <;> rfl
  by_cases hx : ∃ k, k < stM S ∧ a = nI k
  · obtain ⟨k, hk, rfl⟩ := hx
    have hl : (sxE (stS S k)).length ≤ 60 := (ok.2.2.2 k hk).2.2.1
    by_cases hi : ∃ i, i < (sxE (stS S k)).length ∧ u = nI (i + 1)
    · obtain ⟨i, hi, rfl⟩ := hi
      by_cases hj : ∃ i, i < (sxE (stS S k)).length ∧ v = nI (i + 1)
      · obtain ⟨j, hj, rfl⟩ := hj
        have are := fun M2 => areE_t (M := M2) (m := 716) hr.2.1 hk hi hj
        have ord : (nI (i + 1) ≤ nI (j + 1)) = (i ≤ j) := (leI rfl rfl (by omega) (by omega)).trans (by simp)
        have ord2 : (nI (j + 1) < nI (i + 1)) = (j < i) := (ltI rfl rfl (by omega) (by omega)).trans (by simp)
        by_cases ho : i ≤ j
        · have n2 : ¬ (nI (j + 1) < nI (i + 1)) := by rw [ord2]; omega
          cases hd : cdo (stS S k) with
          | false =>
            refine Both.no h hr w (by rw [f_X11_fetch, h.ob, bX_l (reqSes_in h hk), bX_l (reqEnt_in (h.sx hk) hi), bX_l (reqEnt_in (h.sx hk) hj), bX_l (reqOrd_in (by rw [ord]; exact ho) M), bX_r (reqAwk_no h hk hd)]) (hf3 neS neSA _ _ _ _) (by decide) (fun M2 => ?_)
            simp only [f_X12_fetch, ov_ob, are, bso, f_X12_fetch_18, X12_canDo_in hr.2.1 hk, hd, pass3, cond_false]
            rw [if_neg n2]
          | true =>
            obtain ⟨b, hb, hbx, er⟩ := reqAwk_in h hk hd (ok.wf k hk)
            obtain ⟨M1, S0, e1, g0, c1, o1⟩ := begCmd_e h hk
            have ok1 := ok.inc hk 0
            obtain ⟨T, hT⟩ : ∃ T, T = setSx S k (incC (stS S k) 0) := ⟨_, rfl⟩
            have hkT : k < stM T := by rw [hT]; exact hk
            have hbT : b < stN T := by rw [hT]; exact hb
            have hxT : sxB (stS T k) = nI b := by rw [hT, stS_set]; exact hbx
            have hET : sxE (stS T k) = sxE (stS S k) := by rw [hT, stS_set]; rfl
            have hiT : sxI (stS T k) = false := by rw [hT, stS_set]; exact (cdo_t hd).2
            rw [← hT] at c1 ok1
            obtain ⟨r1, r2, r3⟩ := rng_split (sxE (stS S k)) (a := i) (b := j + 1) (by omega) (by omega)
            obtain ⟨ft, hft⟩ : ∃ ft, ft = ftc (!peek && !sxR (stS T k)) (rng (sxE (stS S k)) i (j + 1)) ((stB T b).2.2, 0) := ⟨_, rfl⟩
            obtain ⟨M2', e2, c2, o2⟩ := cls_fetch_loop (k := k) (b := b) peek (rng (sxE (stS S k)) i (j + 1)) ((sxE (stS S k)).take i) ((sxE (stS S k)).drop (j + 1)) FU M1 T 0 r1 (by rw [r3, FU_eq]; omega) c1 hkT hbT hET
            rw [← hft] at e2 c2
            rw [r2, r3, show i + (j + 1 - i) = j + 1 by omega] at e2
            obtain ⟨m1, m2⟩ := ftc_map (!peek && !sxR (stS T k)) (rng (sxE (stS S k)) i (j + 1)) ((stB T b).2.2, 0)
            rw [← hft] at m1 m2
            have ok2 := ok1.mp hbT m1 m2
            obtain ⟨U, hU⟩ : ∃ U, U = setBx T b (setMs (stB T b) ft.1) := ⟨_, rfl⟩
            rw [← hU] at c2 ok2
            have hkU : k < stM U := by rw [hU]; exact hkT
            have hsU : stS U k = stS T k := by rw [hU]; rfl
            obtain ⟨M3', e3, c3, o3⟩ := cls_addC c2 hkU ft.2
            have ok3 := ok2.setS (k := k) (okE_addC (k := 4) (ok2.2.2.2 k hkU) ft.2)
            obtain ⟨V, hV⟩ : ∃ V, V = setSx U k (addC (stS U k) 4 ft.2) := ⟨_, rfl⟩
            rw [← hV] at c3 ok3
            have hkV : k < stM V := by rw [hV]; exact hkU
            have hiV : sxI (stS V k) = false := by rw [hV, stS_set]; show sxI (stS U k) = false; rw [hsU]; exact hiT
            have hle := ok3.end244 (k := k) hkV false (trm_awake hiV)
            obtain ⟨M4, e4, c4, o4⟩ := endCmd_e c3 (k := k) hkV ok3 false hle
            have gC : gR M2' 6 7 (sesR 105 k) = some (sesR 105 k + 5) := sA.gC (c2.sx hkU)
            refine Both.yes (v := ft.2) hr w (by rw [f_X11_fetch, h.ob, bX_l (reqSes_in h hk), bX_l (reqEnt_in (h.sx hk) hi), bX_l (reqEnt_in (h.sx hk) hj), bX_l (reqOrd_in (by rw [ord]; exact ho) M), bX_l er, e1, bso, e2]; simp only [f_X11_fetch_115, gC, e3, e4, bso]) (((o1.trans o2).trans o3).trans o4) c4 g0 ((ok3.endOk (k := k) hkV false).1.up (by omega)) ⟨hle, (ok3.endOk (k := k) hkV false).2⟩ (fun M2 => ?_)
            obtain ⟨R1, f1, q1, q2, q3, k1, w1⟩ := ref_beg hr ok hk M2
            rw [← hT] at q1
            obtain ⟨f', f2, q4⟩ := ref_fetch_loop (M := M2) (m := 716) (k := k) (b := b) peek (rng (sxE (stS S k)) i (j + 1)) ((sxE (stS S k)).take i) ((sxE (stS S k)).drop (j + 1)) FU R1 T 0 r1 (by rw [r3, FU_eq]; omega) q1 w1 ok1.v hkT hbT hxT hET
            rw [← hft] at f2 q4
            rw [r2, r3, show i + (j + 1 - i) = j + 1 by omega] at f2
            rw [← hU] at q4
            have w2 : (rsR R1 f').2.1 = false := w1
            have kR := kp_R w1 f'
            have h4 := ok1.2.1.2
            have hpl : sAt k + 6 + 4 < 806 := by unfold sAt; omega
            have a1 := r_a1' (M := M2) (m := 716) (R := rsR R1 f') w2 hpl
            have s1 := r_s1' (M := M2) (m := 716) (R := rsR R1 f') w2 hpl (f' (sAt k + 6 + 4) + Int32.toInt64 ft.2)
            rw [rowf_R] at a1 s1
            rw [rsR_R] at s1
            have q5 : rep (vp_updL f' (sAt k + 6 + 4) (f' (sAt k + 6 + 4) + Int32.toInt64 ft.2)) V := by
              rw [hV]
              exact q4.setS hkU (upd_off _ _ (by omega) (by omega)) (sRep_add (q4.2.2.2.2.2.2 k hkU).2 (ok2.2.2.2 k hkU).2.1 (k := 4) (by omega) ft.2) (q4.2.2.2.2.2.2 k hkU).1
            obtain ⟨g', hg'⟩ : ∃ g', g' = vp_updL f' (sAt k + 6 + 4) (f' (sAt k + 6 + 4) + Int32.toInt64 ft.2) := ⟨_, rfl⟩
            rw [← hg'] at q5 s1
            have w3 : (rsR R1 g').2.1 = false := w1
            have kR3 := kp_R w1 g'
            obtain ⟨R2, f3, q6, q7, k2⟩ := X12_done_e (M := M2) (m := 716) (R := rsR R1 g') (S := V) (by rw [rowf_R]; exact q5) w3 hkV ok3 (ns := []) q3 false hle ft.2
            refine ⟨R2, ?_, cmd_kp (k1.trans (kR3.up (by simp) (by simp) (by simp))) k2 w3, q6, q2.cg ((k2.2.1 25 (by decide)).trans rfl) ((k2.2.2.1 10 (by rw [row1 w3]; decide)).trans (kR3.2.2.1 10 (by simp))), q7⟩
            have gb : f_X12_boxOf 716 (nI k) (ov M2 716 R1) = some (nI b) := by rw [X12_boxOf_e q1 hkT, hxT]
            simp only [f_X12_fetch, ov_ob, are, bso, f_X12_fetch_18, X12_canDo_in hr.2.1 hk, hd, pass0, cond_true, f1, gb]
            rw [if_neg n2, f2]
            simp only [ftT, r_g1, X12_sesAt_e, nI6, nI4, bso, a1, s1, f3]
        · refine Both.no h hr w (by rw [f_X11_fetch, h.ob, bX_l (reqSes_in h hk), bX_l (reqEnt_in (h.sx hk) hi), bX_l (reqEnt_in (h.sx hk) hj), bX_r (reqOrd_no (by rw [ord]; exact ho) M)]) (hf2 neA _ _ _) (by decide) (fun M2 => ?_)
          obtain ⟨q, hq⟩ := canDo_ex hr (nI k) M2
          simp only [f_X12_fetch, ov_ob, are, bso, f_X12_fetch_18, hq, pass2, cond_false]
          rw [if_pos (by rw [ord2]; omega)]
      · exact bad1 (fun M2 => areE_3 hr.2.1 hk hi hj) (by rw [f_X11_fetch, h.ob, bX_l (reqSes_in h hk), bX_l (reqEnt_in (h.sx hk) hi), bX_r (reqEnt_no (h.sx hk) hj)])
    · exact bad1 (fun M2 => areE_2 hr.2.1 hk hi v) (by rw [f_X11_fetch, h.ob, bX_l (reqSes_in h hk), bX_r (reqEnt_no (h.sx hk) hi)])
  · exact bad1 (fun M2 => areE_1 hr.2.1 hx u v) (by rw [f_X11_fetch, h.ob, bX_r (reqSes_no h hx)])
end
