/-! PURE: store, whole -/
def mfOK (mode fl : Int32) : Bool := (!decide (mode < 0) && !decide (2 < mode)) && (!decide (fl < 0) && !decide (31 < fl))
theorem reqMF_in {mode fl : Int32} (h : mfOK mode fl = true) (M : Mem) : f_X11_requireModeAndFlags mode fl M = some (.inl (), M) := by
  unfold mfOK at h
  simp only [Bool.and_eq_true, Bool.not_eq_true', decide_eq_false_iff_not] at h
  obtain ⟨⟨h1, h2⟩, h3, h4⟩ := h
  rw [f_X11_requireModeAndFlags, if_neg h1, if_neg h2, if_neg h3, if_pos (Int32.not_lt.mp h4)]
theorem reqMF_no {mode fl : Int32} (h : mfOK mode fl = false) (M : Mem) : f_X11_requireModeAndFlags mode fl M = some (.inr "java/lang/IllegalArgumentException", mskip M) := by
  unfold mfOK at h
  rw [f_X11_requireModeAndFlags]
  by_cases h1 : mode < 0
  · rw [if_pos h1]; rfl
  · rw [if_neg h1]
    by_cases h2 : 2 < mode
    · rw [if_pos h2]; rfl
    · rw [if_neg h2]
      by_cases h3 : fl < 0
      · rw [if_pos h3]; rfl
      · rw [if_neg h3]
        by_cases h4 : fl ≤ 31
        · rw [decide_eq_false h1, decide_eq_false h2, decide_eq_false h3, decide_eq_false (Int32.not_lt.mpr h4)] at h
          cases h
        · rw [if_neg h4]; rfl
theorem isMode_e (mode : Int32) (M : Mem) : f_X12_isMode mode M = some (!decide (mode < 0) && !decide (2 < mode)) := by
  simp only [f_X12_isMode, X12_in_e, bso]; exact congrArg some (btw_c mode 0 2)
theorem isSet_e (fl : Int32) (M : Mem) : f_X12_isSet fl M = some (!decide (fl < 0) && !decide (31 < fl)) := by
  simp only [f_X12_isSet, X12_in_e, bso]; exact congrArg some (btw_c fl 0 31)
section
variable {M : Mem} {m : Nat} {R : Rs} {I O : List Int32} {S : St} {K : Nat → St} {B : Nat → Bool} {C : Nat} {H : Nat → St} {N : List Nt} {E : Er} {c : Nat}
theorem cs_store (h : Cls M I O S K B C H N E) (hr : Ref R I O S K B C H N E) (w : okW c I O S K B C H N) (a u v mode fl : Int32) (si : Bool) : Both (f_X11_store 100 a u v mode fl si M) (f_X12_store 716 a u v mode fl si) M R [("java/lang/IndexOutOfBoundsException", 1), ("java/lang/IllegalArgumentException", 2), ("java/lang/IllegalStateException", 3)] (c + 1) E := by
  have ok := w.2.2.1
  have bad1 : (∀ M2, f_X12_areEntries 716 a u v (ov M2 716 R) = some false) → f_X11_store 100 a u v mode fl si M = some (.inr "java/lang/IndexOutOfBoundsException", mskip M) → Both (f_X11_store 100 a u v mode fl si M) (f_X12_store 716 a u v mode fl si) M R [("java/lang/IndexOutOfBoundsException", 1), ("java/lang/IllegalArgumentException", 2), ("java/lang/IllegalStateException", 3)] (c + 1) E := by
    intro e2 e1
    refine Both.no h hr w e1 (hf1 _ _ _) (by decide) (fun M2 => ?_)
    obtain ⟨q, hq⟩ := canCh_ex hr a M2
    have fin : ∀ z, f_X12_store_26 716 a u v mode fl si z (ov M2 716 R) = some (0, ov M2 716 (rsS R 0 1)) := fun z => by
      simp only [f_X12_store_26, e2, bso, hq, pass1, cond_false]
    simp only [f_X12_store, ov_ob, isMode_e, isSet_e, bso, f_X12_store_25, fin]
    cases (!decide (mode < 0) && !decide (2 < mode)) <;> cases (!decide (fl < 0) && !decide (31 < fl)) <;> (simp only [cond_true, cond_false]; split <;> rfl)
  by_cases hx : ∃ k, k < stM S ∧ a = nI k
  · obtain ⟨k, hk, rfl⟩ := hx
    have hl : (sxE (stS S k)).length ≤ 60 := (ok.2.2.2 k hk).2.2.1
    by_cases hi : ∃ i, i < (sxE (stS S k)).length ∧ u = nI (i + 1)
    · obtain ⟨i, hi, rfl⟩ := hi
      by_cases hj : ∃ i, i < (sxE (stS S k)).length ∧ v = nI (i + 1)
      · obtain ⟨j, hj, rfl⟩ := hj
        have are := fun M2 => areE_t (M := M2) (m := 716) hr.2.1 hk hi hj
        have ord : (nI (i + 1) ≤ nI (j + 1)) = (i ≤ j) := (leI rfl rfl (by omega) (by omega)).trans (by simp)
        have ord2 : (nI (j + 1) < nI (i + 1)) = (j < i) := (ltI rfl rfl (by omega) (by omega)).trans (by simp)
        have f25 : ∀ M2, f_X12_store_25 716 (nI k) (nI (i + 1)) (nI (j + 1)) mode fl si (ov M2 716 R) = some (0, ov M2 716 (rsS R 0 2)) := fun M2 => by
          obtain ⟨q, hq⟩ := canCh_ex hr (nI k) M2
          simp only [f_X12_store_25, f_X12_store_26, are, bso, hq, pass2, cond_false]
        by_cases ho : i ≤ j
        · have n2 : ¬ (nI (j + 1) < nI (i + 1)) := by rw [ord2]; omega
          cases hmo : mfOK mode fl with
          | false =>
            refine Both.no h hr w (by rw [f_X11_store, h.ob, bX_l (reqSes_in h hk), bX_l (reqEnt_in (h.sx hk) hi), bX_l (reqEnt_in (h.sx hk) hj), bX_l (reqOrd_in (by rw [ord]; exact ho) M), bX_r (reqMF_no hmo M)]) (hf2 neA _ _ _) (by decide) (fun M2 => ?_)
            unfold mfOK at hmo
            simp only [f_X12_store, ov_ob, isMode_e, isSet_e, bso, f25]
            rw [if_neg n2]
            revert hmo
            cases (!decide (mode < 0) && !decide (2 < mode)) <;> cases (!decide (fl < 0) && !decide (31 < fl))
            · intro _; rfl
            · intro _; rfl
            · intro _; rfl
            · intro z; cases z
          | true =>
            have z := hmo
            unfold mfOK at z
            obtain ⟨z1, z2⟩ := Bool.and_eq_true_iff.mp z
            have fst : ∀ M2, f_X12_store 716 (nI k) (nI (i + 1)) (nI (j + 1)) mode fl si (ov M2 716 R) = f_X12_store_26 716 (nI k) (nI (i + 1)) (nI (j + 1)) mode fl si true (ov M2 716 R) := fun M2 => by
              simp only [f_X12_store, ov_ob, isMode_e, isSet_e, bso, z1, z2, cond_true]
              rw [if_neg n2]
            have hXs : ∀ {α : Type} (y : (α ⊕ String) × Mem), True := fun _ => trivial
            cases hd : (cdo (stS S k) && !sxR (stS S k)) with
            | false =>
              refine Both.no h hr w (by rw [f_X11_store, h.ob, bX_l (reqSes_in h hk), bX_l (reqEnt_in (h.sx hk) hi), bX_l (reqEnt_in (h.sx hk) hj), bX_l (reqOrd_in (by rw [ord]; exact ho) M), bX_l (reqMF_in hmo M), bX_r (reqWri_no h hk hd (ok.wf k hk))]) (hf3 neS neSA _ _ _ _) (by decide) (fun M2 => ?_)
              rw [fst]
              simp only [f_X12_store_26, are, bso, X12_canCh_in hr.2.1 hk, hd, pass3, cond_false]
            | true =>
              obtain ⟨b, hb, hbx, er⟩ := reqWri_in h hk hd (ok.wf k hk)
              obtain ⟨M1, S0, e1, g0, c1, o1⟩ := begCmd_e h hk
              have ok1 := ok.inc hk 0
              obtain ⟨T, hT⟩ : ∃ T, T = setSx S k (incC (stS S k) 0) := ⟨_, rfl⟩
              have hkT : k < stM T := by rw [hT]; exact hk
              have hbT : b < stN T := by rw [hT]; exact hb
              have hxT : sxB (stS T k) = nI b := by rw [hT, stS_set]; exact hbx
              have hET : sxE (stS T k) = sxE (stS S k) := by rw [hT, stS_set]; rfl
              have hiT : sxI (stS T k) = false := by rw [hT, stS_set]; exact (cdo_t (Bool.and_eq_true_iff.mp hd).1).2
              rw [← hT] at c1 ok1
              obtain ⟨r1, r2, r3⟩ := rng_split (sxE (stS S k)) (a := i) (b := j + 1) (by omega) (by omega)
              obtain ⟨ft, hft⟩ : ∃ ft, ft = sto mode fl si (rng (sxE (stS S k)) i (j + 1)) ((stB T b).2.2, 0) := ⟨_, rfl⟩
              obtain ⟨M2', e2, c2, o2⟩ := cls_store_loop (k := k) (b := b) mode fl si (rng (sxE (stS S k)) i (j + 1)) ((sxE (stS S k)).take i) ((sxE (stS S k)).drop (j + 1)) FU M1 T 0 (by rw [r3, FU_eq]; omega) c1 hkT hbT (by rw [hET]; exact r1.symm)
              rw [← hft] at e2 c2
              rw [r2, r3, show i + (j + 1 - i) = j + 1 by omega] at e2
              obtain ⟨m0, m1, m2⟩ := sto_map mode fl si (rng (sxE (stS S k)) i (j + 1)) ((stB T b).2.2, 0)
              rw [← hft] at m0 m1 m2
              have m3 : ((sxE (stS S k)).take i ++ (ft.1 ++ (sxE (stS S k)).drop (j + 1))).map eU = (sxE (stS T k)).map eU := by
                rw [hET, List.map_append, List.map_append, m0, ← List.map_append, ← List.map_append, r1]
              have ok2 := ok1.st hkT hbT m1 m2 m3
              obtain ⟨V, hV⟩ : ∃ V, V = stW T k b ((sxE (stS S k)).take i ++ (ft.1 ++ (sxE (stS S k)).drop (j + 1))) ft.2.1 := ⟨_, rfl⟩
              have hiV : sxI (stS V k) = false := by rw [hV, stW_s]; exact hiT
              rw [← hV] at c2 ok2
              have hkV : k < stM V := by rw [hV]; exact hkT
              have hle := ok2.end244 (k := k) hkV false (trm_awake hiV)
              obtain ⟨M4, e4, c4, o4⟩ := endCmd_e c2 (k := k) hkV ok2 false hle
              refine Both.yes (v := ft.2.2) hr w (by rw [f_X11_store, h.ob, bX_l (reqSes_in h hk), bX_l (reqEnt_in (h.sx hk) hi), bX_l (reqEnt_in (h.sx hk) hj), bX_l (reqOrd_in (by rw [ord]; exact ho) M), bX_l (reqMF_in hmo M), bX_l er, e1, bso, e2]; simp only [f_X11_store_134, e4, bso]) ((o1.trans o2).trans o4) c4 g0 ((ok2.endOk (k := k) hkV false).1.up (by omega)) ⟨hle, (ok2.endOk (k := k) hkV false).2⟩ (fun M2 => ?_)
              obtain ⟨R1, f1, q1, q2, q3, k1, w1⟩ := ref_beg hr ok hk M2
              rw [← hT] at q1
              obtain ⟨f', f2, q4⟩ := ref_store_loop (M := M2) (m := 716) (k := k) (b := b) mode fl si (rng (sxE (stS S k)) i (j + 1)) ((sxE (stS S k)).take i) ((sxE (stS S k)).drop (j + 1)) FU R1 T 0 (by rw [r3, FU_eq]; omega) q1 w1 ok1 hkT hbT hxT (by rw [hET]; exact r1.symm)
              rw [← hft] at f2 q4
              rw [r2, r3, show i + (j + 1 - i) = j + 1 by omega] at f2
              rw [← hV] at q4
              have w2 : (rsR R1 f').2.1 = false := w1
              have kR := kp_R w1 f'
              obtain ⟨R2, f3, q6, q7, k2⟩ := X12_done_e (M := M2) (m := 716) (R := rsR R1 f') (S := V) (by rw [rowf_R]; exact q4) w2 hkV ok2 (ns := []) q3 false hle ft.2.2
              refine ⟨R2, ?_, cmd_kp (k1.trans (kR.up (by simp) (by simp) (by simp))) k2 w2, q6, q2.cg ((k2.2.1 25 (by decide)).trans rfl) ((k2.2.2.1 10 (by rw [row1 w2]; decide)).trans (kR.2.2.1 10 (by simp))), q7⟩
              rw [fst]
              simp only [f_X12_store_26, are, bso, X12_canCh_in hr.2.1 hk, hd, pass0, cond_true, f1, f2, stT, f3]
        · refine Both.no h hr w (by rw [f_X11_store, h.ob, bX_l (reqSes_in h hk), bX_l (reqEnt_in (h.sx hk) hi), bX_l (reqEnt_in (h.sx hk) hj), bX_r (reqOrd_no (by rw [ord]; exact ho) M)]) (hf2 neA _ _ _) (by decide) (fun M2 => ?_)
          rw [f_X12_store, ov_ob, if_pos (by rw [ord2]; omega), f25]
      · exact bad1 (fun M2 => areE_3 hr.2.1 hk hi hj) (by rw [f_X11_store, h.ob, bX_l (reqSes_in h hk), bX_l (reqEnt_in (h.sx hk) hi), bX_r (reqEnt_no (h.sx hk) hj)])
    · exact bad1 (fun M2 => areE_2 hr.2.1 hk hi v) (by rw [f_X11_store, h.ob, bX_l (reqSes_in h hk), bX_r (reqEnt_no (h.sx hk) hi)])
  · exact bad1 (fun M2 => areE_1 hr.2.1 hx u v) (by rw [f_X11_store, h.ob, bX_r (reqSes_no h hx)])
end
/-! PURE: uidStore -/
def ust (mode fl fs ls : Int32) : Ms → Int32 → Ms × Int32
  | [], n => ([], n)
  | x :: t, n => bif (!decide (mU x < fs) && !decide (ls < mU x)) then (mP x (fby mode (mF x) fl) :: (ust mode fl fs ls t (n + b2i (!decide (fby mode (mF x) fl = mF x)))).1, (ust mode fl fs ls t (n + b2i (!decide (fby mode (mF x) fl = mF x)))).2)
      else (x :: (ust mode fl fs ls t n).1, (ust mode fl fs ls t n).2)
theorem ust_map (mode fl fs ls : Int32) : ∀ (l : Ms) (n : Int32), (ust mode fl fs ls l n).1.map mU = l.map mU ∧ (ust mode fl fs ls l n).1.map mS = l.map mS := by
  intro l
  induction l with
  | nil => intro n; exact ⟨rfl, rfl⟩
  | cons x t ih =>
    intro n
    rw [ust]
    cases (!decide (mU x < fs) && !decide (ls < mU x)) with
    | true =>
      obtain ⟨h1, h2⟩ := ih (n + b2i (!decide (fby mode (mF x) fl = mF x)))
      exact ⟨by simp only [cond_true, List.map_cons, h1]; rfl, by simp only [cond_true, List.map_cons, h2]; rfl⟩
    | false =>
      obtain ⟨h1, h2⟩ := ih n
      exact ⟨by simp only [cond_false, List.map_cons, h1], by simp only [cond_false, List.map_cons, h2]⟩
section
variable {M : Mem} {m : Nat} {R : Rs} {I O : List Int32} {S : St} {K : Nat → St} {B : Nat → Bool} {C : Nat} {H : Nat → St} {N : List Nt} {E : Er} {c : Nat}
def uTX (l1 l8 : Int32) (M : Mem) : Option ((Int32 ⊕ String) × Mem) := (f_X11_endCommand 100 l1 true M).bind fun (x10, M11) => some (.inl l8, M11)
def uTR (m : Nat) (l1 l7 : Int32) (M : Mem) : Option (Int32 × Mem) := (f_X12_done m l1 true l7 M).bind fun (x10, M11) => some (x10, M11)
theorem setF_mid (pre t : Ms) (x : Msg) (f : Int32) : setF (pre ++ x :: t) pre.length f = pre ++ (mP x f :: t) := by
  have hg : mg (pre ++ x :: t) pre.length = x := mid_get pre t x (0, 0, 0)
  unfold setF
  rw [hg]
  exact mid_set pre t x _
theorem cls_us_loop {b : Nat} (l1 mode fl fs ls : Int32) : ∀ (post pre : Ms) (fu : Nat) (M : Mem) (S : St) (n : Int32), post.length < fu → Cls M I O S K B C H N E → b < stN S → (stB S b).2.2 = pre ++ post →
    ∃ M', f_X11_uidStore_34 fu 100 l1 fs ls mode fl (boxR 105 b) n (nI pre.length) M = uTX l1 (ust mode fl fs ls post n).2 M' ∧ Cls M' I O (setBx S b (setMs (stB S b) (pre ++ (ust mode fl fs ls post n).1))) K B C H N E ∧ off M M' 100 616 := by
  intro post
  induction post with
  | nil =>
    intro pre fu M S n hf h hb hE
    obtain ⟨fu, rfl⟩ : ∃ x, fu = x + 1 := ⟨fu - 1, by omega⟩
    have hl : (stB S b).2.2.length ≤ 30 := bA.len (h.bx hb)
    have hs : f_X0_size (boxR 105 b) M = some (nI (stB S b).2.2.length) := X0_size_e (h.bx hb)
    have hpl : (stB S b).2.2.length = pre.length := by rw [hE, List.append_nil]
    refine ⟨M, ?_, ?_, off.rf _ _ _⟩
    · simp only [f_X11_uidStore_34, hs, bso, hpl]
      rw [if_pos (by rw [leT rfl rfl (Nat.le_refl pre.length) (by omega)]; trivial)]
      rfl
    · show Cls M I O (setBx S b (setMs (stB S b) (pre ++ []))) K B C H N E
      rw [← hE, setM_id]; exact h
  | cons x t ih =>
    intro pre fu M S n hf h hb hE
    obtain ⟨fu, rfl⟩ : ∃ x, fu = x + 1 := ⟨fu - 1, by omega⟩
    rw [List.length_cons] at hf
    have hl : (stB S b).2.2.length ≤ 30 := bA.len (h.bx hb)
    have hs : f_X0_size (boxR 105 b) M = some (nI (stB S b).2.2.length) := X0_size_e (h.bx hb)
    have hpl : pre.length < (stB S b).2.2.length := by rw [hE]; simp
    have hg : mg (stB S b).2.2 pre.length = x := by rw [hE]; exact mid_get pre t x (0, 0, 0)
    have gU : gR M 0 2 (boxR 105 b) = some (boxR 105 b + 1) := bA.gU (h.bx hb)
    have gu : f_X5_get (boxR 105 b + 1) (nI pre.length) M = some (mU x) := by
      have : f_X5_get (boxR 105 b + 1) (nI pre.length) M = some (lgt ((stB S b).2.2.map mU) (nI pre.length)) := X5_get_e (h.bx hb).2.1 _
      rw [this, lgt_n _ (by omega), mapD _ hpl, hg]
    have n1 : ¬ (nI (stB S b).2.2.length ≤ nI pre.length) := by
      rw [leF rfl rfl hpl (by omega)]; exact id
    have hl1 : ∀ y : Msg, (pre ++ [y]).length = pre.length + 1 := fun y => by simp
    simp only [f_X11_uidStore_34, hs, gU, gu, bso]
    rw [if_neg n1]
    have skip : (!decide (mU x < fs) && !decide (ls < mU x)) = false → ∃ M', f_X11_uidStore_85 (f_X11_uidStore_34 fu) 100 l1 fs ls mode fl (boxR 105 b) n (nI pre.length) M = uTX l1 (ust mode fl fs ls (x :: t) n).2 M' ∧ Cls M' I O (setBx S b (setMs (stB S b) (pre ++ (ust mode fl fs ls (x :: t) n).1))) K B C H N E ∧ off M M' 100 616 := by
      intro z
      obtain ⟨M', e', c', o'⟩ := ih (pre ++ [x]) fu M S n (by omega) h hb (by rw [hE]; simp)
      rw [hl1] at e'
      have hu : ust mode fl fs ls (x :: t) n = (x :: (ust mode fl fs ls t n).1, (ust mode fl fs ls t n).2) := by rw [ust, z]; rfl
      rw [hu]
      refine ⟨M', by simp only [f_X11_uidStore_85, nI_1]; exact e', ?_, o'⟩
      have : pre ++ (x :: (ust mode fl fs ls t n).1) = (pre ++ [x]) ++ (ust mode fl fs ls t n).1 := by simp
      rw [this]; exact c'
    by_cases z1 : mU x < fs
    · rw [if_pos z1]; exact skip (by rw [decide_eq_true z1]; rfl)
    · rw [if_neg z1]
      by_cases z2 : ls < mU x
      · rw [if_pos z2]; exact skip (by rw [decide_eq_true z2, Bool.and_comm]; rfl)
      · rw [if_neg z2]
        obtain ⟨M1, e1, x1, o1⟩ := X0_change_e (h.bx hb) hpl mode fl
        obtain ⟨c1, o1'⟩ := h.box hb (X := setMs (stB S b) (setF (stB S b).2.2 pre.length (fby mode (mF (mg (stB S b).2.2 pre.length)) fl))) x1 o1
        rw [hg] at e1 c1
        obtain ⟨f, hf2⟩ : ∃ f, f = fby mode (mF x) fl := ⟨_, rfl⟩
        rw [← hf2] at e1 c1
        have hsf : setF (stB S b).2.2 pre.length f = pre ++ (mP x f :: t) := by rw [hE]; exact setF_mid pre t x f
        rw [hsf] at c1
        obtain ⟨M', e', c', o'⟩ := ih (pre ++ [mP x f]) fu M1 (setBx S b (setMs (stB S b) (pre ++ (mP x f :: t)))) (n + b2i (!decide (f = mF x))) (by omega) c1 hb (by rw [setM_ms]; simp)
        rw [hl1] at e'
        rw [setM_2] at c'
        have hu : ust mode fl fs ls (x :: t) n = (mP x f :: (ust mode fl fs ls t (n + b2i (!decide (f = mF x)))).1, (ust mode fl fs ls t (n + b2i (!decide (f = mF x)))).2) := by
          rw [ust, decide_eq_false z1, decide_eq_false z2, hf2]; rfl
        rw [hu]
        refine ⟨M', ?_, ?_, o1'.trans o'⟩
        · simp only [e1, bso, f_X11_uidStore_85, nI_1]
          cases hch : decide (f = mF x) with
          | true =>
            rw [hch] at e'
            simp only [Bool.not_true, b2i_f, Int32.add_zero] at e'
            simp only [Bool.not_true, cond_false, b2i_f, Int32.add_zero]
            exact e'
          | false =>
            rw [hch] at e'
            simp only [Bool.not_false, b2i_t] at e'
            simp only [Bool.not_false, cond_true, b2i_t]
            exact e'
        · have : pre ++ (mP x f :: (ust mode fl fs ls t (n + b2i (!decide (f = mF x)))).1) = (pre ++ [mP x f]) ++ (ust mode fl fs ls t (n + b2i (!decide (f = mF x)))).1 := by simp
          rw [this]; exact c'
theorem ref_us_loop {b : Nat} (l1 mode fl fs ls : Int32) : ∀ (post pre : Ms) (fu : Nat) (R : Rs) (S : St) (n : Int32), post.length < fu → rep (rowf R) S → R.2.1 = false → b < stN S → (stB S b).2.2 = pre ++ post →
    ∃ f', f_X12_uidStore_58 fu m l1 fs ls mode fl (nI b) n (nI pre.length) (ov M m R) = uTR m l1 (ust mode fl fs ls post n).2 (ov M m (rsR R f')) ∧ rep f' (setBx S b (setMs (stB S b) (pre ++ (ust mode fl fs ls post n).1))) := by
  intro post
  induction post with
  | nil =>
    intro pre fu R S n hf h hw hb hE
    obtain ⟨fu, rfl⟩ : ∃ x, fu = x + 1 := ⟨fu - 1, by omega⟩
    have hl := h.lb hb
    have hpl : (stB S b).2.2.length = pre.length := by rw [hE, List.append_nil]
    refine ⟨rowf R, ?_, ?_⟩
    · rw [rsR_id]
      simp only [f_X12_uidStore_58, X12_many_e h hb, bso, hpl]
      rw [if_pos (by rw [leT rfl rfl (Nat.le_refl pre.length) (by omega)]; trivial)]
      rfl
    · show rep (rowf R) (setBx S b (setMs (stB S b) (pre ++ [])))
      rw [← hE, setM_id]; exact h
  | cons x t ih =>
    intro pre fu R S n hf h hw hb hE
    obtain ⟨fu, rfl⟩ : ∃ x, fu = x + 1 := ⟨fu - 1, by omega⟩
    rw [List.length_cons] at hf
    have hl := h.lb hb
    have hpl : pre.length < (stB S b).2.2.length := by rw [hE]; simp
    have hg : mg (stB S b).2.2 pre.length = x := by rw [hE]; exact mid_get pre t x (0, 0, 0)
    obtain ⟨gu, -, -⟩ := X12_ofM_e (M := M) (m := m) h hb hpl
    rw [hg] at gu
    have n1 : ¬ (nI (stB S b).2.2.length ≤ nI pre.length) := by
      rw [leF rfl rfl hpl (by omega)]; exact id
    have hl1 : ∀ y : Msg, (pre ++ [y]).length = pre.length + 1 := fun y => by simp
    simp only [f_X12_uidStore_58, X12_many_e h hb, gu, bso, X12_in_e, btw_c]
    rw [if_neg n1]
    cases z : (!decide (mU x < fs) && !decide (ls < mU x)) with
    | false =>
      obtain ⟨f', e', c'⟩ := ih (pre ++ [x]) fu R S n (by omega) h hw hb (by rw [hE]; simp)
      rw [hl1] at e'
      have hu : ust mode fl fs ls (x :: t) n = (x :: (ust mode fl fs ls t n).1, (ust mode fl fs ls t n).2) := by rw [ust, z]; rfl
      rw [hu]
      refine ⟨f', by simp only [cond_false, f_X12_uidStore_114, nI_1]; exact e', ?_⟩
      have : pre ++ (x :: (ust mode fl fs ls t n).1) = (pre ++ [x]) ++ (ust mode fl fs ls t n).1 := by simp
      rw [this]; exact c'
    | true =>
      obtain ⟨f1, e1, c1⟩ := X12_sets_e (M := M) (m := m) h hw hb hpl mode fl
      rw [hg] at e1 c1
      obtain ⟨f, hf2⟩ : ∃ f, f = fby mode (mF x) fl := ⟨_, rfl⟩
      rw [← hf2] at e1 c1
      have hsf : setF (stB S b).2.2 pre.length f = pre ++ (mP x f :: t) := by rw [hE]; exact setF_mid pre t x f
      rw [hsf] at c1
      obtain ⟨f', e', c'⟩ := ih (pre ++ [mP x f]) fu (rsR R f1) (setBx S b (setMs (stB S b) (pre ++ (mP x f :: t)))) (n + b2i (!decide (f = mF x))) (by omega) (by rw [rowf_R]; exact c1) hw hb (by rw [setM_ms]; simp)
      rw [hl1, rsR_R] at e'
      rw [setM_2] at c'
      have hu : ust mode fl fs ls (x :: t) n = (mP x f :: (ust mode fl fs ls t (n + b2i (!decide (f = mF x)))).1, (ust mode fl fs ls t (n + b2i (!decide (f = mF x)))).2) := by
        rw [ust, z, hf2]; rfl
      rw [hu]
      refine ⟨f', ?_, ?_⟩
      · simp only [cond_true, e1, bso, f_X12_uidStore_111, f_X12_uidStore_114, nI_1]
        cases hch : (!decide (f = mF x)) with
        | true => rw [hch] at e'; simp only [cond_true]; exact e'
        | false => rw [hch] at e'; simp only [cond_false]; exact e'
      · have : pre ++ (mP x f :: (ust mode fl fs ls t (n + b2i (!decide (f = mF x)))).1) = (pre ++ [mP x f]) ++ (ust mode fl fs ls t (n + b2i (!decide (f = mF x)))).1 := by simp
        rw [this]; exact c'
theorem cs_uidStore (h : Cls M I O S K B C H N E) (hr : Ref R I O S K B C H N E) (w : okW c I O S K B C H N) (a fs ls mode fl : Int32) : Both (f_X11_uidStore 100 a fs ls mode fl M) (f_X12_uidStore 716 a fs ls mode fl) M R [("java/lang/IndexOutOfBoundsException", 1), ("java/lang/IllegalArgumentException", 2), ("java/lang/IllegalStateException", 3)] (c + 1) E := by
  have ok := w.2.2.1
  by_cases hx : ∃ k, k < stM S ∧ a = nI k
  · obtain ⟨k, hk, rfl⟩ := hx
    cases hmo : mfOK mode fl with
    | false =>
      refine Both.no h hr w (by rw [f_X11_uidStore, h.ob, bX_l (reqSes_in h hk), bX_r (reqMF_no hmo M)]) (hf2 neA _ _ _) (by decide) (fun M2 => ?_)
      obtain ⟨q, hq⟩ := canCh_ex hr (nI k) M2
      unfold mfOK at hmo
      simp only [f_X12_uidStore, ov_ob, X12_isSes_in hr.2.1 hk, isMode_e, isSet_e, bso, f_X12_uidStore_26, f_X12_uidStore_27, hq]
      revert hmo
      cases (!decide (mode < 0) && !decide (2 < mode)) <;> cases (!decide (fl < 0) && !decide (31 < fl))
      · intro _; simp only [cond_false, pass2, bso]
      · intro _; simp only [cond_false, pass2, bso]
      · intro _; simp only [cond_true, cond_false, pass2, bso]
      · intro z; cases z
    | true =>
      have z := hmo
      unfold mfOK at z
      obtain ⟨z1, z2⟩ := Bool.and_eq_true_iff.mp z
      cases hd : (cdo (stS S k) && !sxR (stS S k)) with
      | false =>
        refine Both.no h hr w (by rw [f_X11_uidStore, h.ob, bX_l (reqSes_in h hk), bX_l (reqMF_in hmo M), bX_r (reqWri_no h hk hd (ok.wf k hk))]) (hf3 neS neSA _ _ _ _) (by decide) (fun M2 => ?_)
        simp only [f_X12_uidStore, ov_ob, X12_isSes_in hr.2.1 hk, isMode_e, isSet_e, z1, z2, bso, cond_true, f_X12_uidStore_27, X12_canCh_in hr.2.1 hk, hd, pass3, cond_false]
      | true =>
        obtain ⟨b, hb, hbx, er⟩ := reqWri_in h hk hd (ok.wf k hk)
        obtain ⟨M1, S0, e1, g0, c1, o1⟩ := begCmd_e h hk
        have ok1 := ok.inc hk 0
        obtain ⟨T, hT⟩ : ∃ T, T = setSx S k (incC (stS S k) 0) := ⟨_, rfl⟩
        have hkT : k < stM T := by rw [hT]; exact hk
        have hbT : b < stN T := by rw [hT]; exact hb
        have hxT : sxB (stS T k) = nI b := by rw [hT, stS_set]; exact hbx
        have hiT : sxI (stS T k) = false := by rw [hT, stS_set]; exact (cdo_t (Bool.and_eq_true_iff.mp hd).1).2
        rw [← hT] at c1 ok1
        have hlb : (stB T b).2.2.length ≤ 30 := (ok1.2.2.1 b hbT).2.2
        obtain ⟨ft, hft⟩ : ∃ ft, ft = ust mode fl fs ls (stB T b).2.2 0 := ⟨_, rfl⟩
        obtain ⟨M2', e2, c2, o2⟩ := cls_us_loop (b := b) (nI k) mode fl fs ls (stB T b).2.2 [] FU M1 T 0 (by rw [FU_eq]; omega) c1 hbT rfl
        rw [← hft, List.nil_append] at c2
        have e2 : f_X11_uidStore_34 FU 100 (nI k) fs ls mode fl (boxR 105 b) 0 0 M1 = uTX (nI k) ft.2 M2' := by rw [hft]; exact e2
        obtain ⟨m1, m2⟩ := ust_map mode fl fs ls (stB T b).2.2 0
        rw [← hft] at m1 m2
        have ok2 := ok1.mp hbT m1 m2
        obtain ⟨V, hV⟩ : ∃ V, V = setBx T b (setMs (stB T b) ft.1) := ⟨_, rfl⟩
        have hiV : sxI (stS V k) = false := by rw [hV]; exact hiT
        rw [← hV] at c2 ok2
        have hkV : k < stM V := by rw [hV]; exact hkT
        have hle := ok2.end244 (k := k) hkV true (trm_awake hiV)
        obtain ⟨M4, e4, c4, o4⟩ := endCmd_e c2 (k := k) hkV ok2 true hle
        refine Both.yes (v := ft.2) hr w (by rw [f_X11_uidStore, h.ob, bX_l (reqSes_in h hk), bX_l (reqMF_in hmo M), bX_l er, e1, bso, e2]; simp only [uTX, e4, bso]) ((o1.trans o2).trans o4) c4 g0 ((ok2.endOk (k := k) hkV true).1.up (by omega)) ⟨hle, (ok2.endOk (k := k) hkV true).2⟩ (fun M2 => ?_)
        obtain ⟨R1, f1, q1, q2, q3, k1, w1⟩ := ref_beg hr ok hk M2
        rw [← hT] at q1
        obtain ⟨f', f2, q4⟩ := ref_us_loop (M := M2) (m := 716) (b := b) (nI k) mode fl fs ls (stB T b).2.2 [] FU R1 T 0 (by rw [FU_eq]; omega) q1 w1 hbT rfl
        rw [← hft, List.nil_append, ← hV] at q4
        have f2 : f_X12_uidStore_58 FU 716 (nI k) fs ls mode fl (nI b) 0 0 (ov M2 716 R1) = uTR 716 (nI k) ft.2 (ov M2 716 (rsR R1 f')) := by rw [hft]; exact f2
        have w2 : (rsR R1 f').2.1 = false := w1
        have kR := kp_R w1 f'
        obtain ⟨R2, f3, q6, q7, k2⟩ := X12_done_e (M := M2) (m := 716) (R := rsR R1 f') (S := V) (by rw [rowf_R]; exact q4) w2 hkV ok2 (ns := []) q3 true hle ft.2
        refine ⟨R2, ?_, cmd_kp (k1.trans (kR.up (by simp) (by simp) (by simp))) k2 w2, q6, q2.cg ((k2.2.1 25 (by decide)).trans rfl) ((k2.2.2.1 10 (by rw [row1 w2]; decide)).trans (kR.2.2.1 10 (by simp))), q7⟩
        have gb : f_X12_boxOf 716 (nI k) (ov M2 716 R1) = some (nI b) := by rw [X12_boxOf_e q1 hkT, hxT]
        simp only [f_X12_uidStore, ov_ob, X12_isSes_in hr.2.1 hk, isMode_e, isSet_e, z1, z2, bso, cond_true, f_X12_uidStore_27, X12_canCh_in hr.2.1 hk, hd, pass0, f1, gb, f2, uTR, f3]
  · refine Both.no h hr w (by rw [f_X11_uidStore, h.ob, bX_r (reqSes_no h hx)]) (hf1 _ _ _) (by decide) (fun M2 => ?_)
    simp only [f_X12_uidStore, ov_ob, X12_isSes_no hr.2.1 hx, isMode_e, isSet_e, bso, f_X12_uidStore_26, f_X12_uidStore_27, X12_canCh_no hr.2.1 hx, pass1, cond_false]
    cases (!decide (mode < 0) && !decide (2 < mode)) <;> cases (!decide (fl < 0) && !decide (31 < fl)) <;> rfl
end
