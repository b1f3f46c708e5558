/-! PURE: the reference, messages that come -/
def cpB (x : Bx) (l : List (Int32 × Int32)) : Bx := (x.1, x.2.1 + nI l.length, x.2.2 ++ adds x.2.1 l)
theorem cpB_nil (x : Bx) : cpB x [] = x := by
  show (x.1, x.2.1 + nI 0, x.2.2 ++ []) = x
  rw [nI_0, Int32.add_zero, List.append_nil]
theorem cpB_cons (x : Bx) (y : Int32 × Int32) (l : List (Int32 × Int32)) : cpB (x.1, x.2.1 + 1, x.2.2 ++ [(x.2.1, y.1, y.2)]) l = cpB x (y :: l) := by
  refine Prod.ext rfl (Prod.ext ?_ ?_)
  · show x.2.1 + 1 + nI l.length = x.2.1 + nI (y :: l).length
    rw [List.length_cons, Int32.add_assoc, nI_1add, Nat.add_comm]
  · show x.2.2 ++ [(x.2.1, y.1, y.2)] ++ adds (x.2.1 + 1) l = x.2.2 ++ adds x.2.1 (y :: l)
    rw [adds, List.append_assoc]; rfl
section
variable {M : Mem} {m : Nat} {R : Rs} {S : St}
theorem X12_comes_x (h : rep (rowf R) S) {b : Nat} (hb : b < stN S) (hr : (stB S b).2.2.length < 30) (sz fl : Int32) :
    ∃ f', f_X12_comes m (nI b) sz fl (ov M m R) = some ((stB S b).2.1, ov M m (rsR R f')) ∧ rep f' (setBx S b ((stB S b).1, (stB S b).2.1 + 1, (stB S b).2.2 ++ [((stB S b).2.1, sz, fl)])) ∧ ∀ q, (q < bAt b ∨ bAt b + 93 ≤ q) → f' q = rowf R q := by
  have h3 := h.2.2.2.1
  obtain ⟨n, hn⟩ : ∃ n, n = (stB S b).2.2.length := ⟨_, rfl⟩
  obtain ⟨nx, hnx⟩ : ∃ nx, nx = (stB S b).2.1 := ⟨_, rfl⟩
  obtain ⟨g1, g2, g3, g4⟩ := h.bx hb
  rw [← hn] at g2 g4 hr
  rw [← hnx] at g3
  have kb : ∀ i, i < 93 → bAt b + i < 806 := fun i hi => by unfold bAt; omega
  have kx : bAt b + 3 + 3 * n + 2 < 806 := by unfold bAt; omega
  obtain ⟨f1, hf1⟩ : ∃ f1, f1 = vp_updL (rowf R) (bAt b + 3 + 3 * n) (Int32.toInt64 nx) := ⟨_, rfl⟩
  obtain ⟨f2, hf2⟩ : ∃ f2, f2 = vp_updL f1 (bAt b + 3 + 3 * n + 1) (Int32.toInt64 sz) := ⟨_, rfl⟩
  obtain ⟨f3, hf3⟩ : ∃ f3, f3 = vp_updL f2 (bAt b + 3 + 3 * n + 2) (Int32.toInt64 fl) := ⟨_, rfl⟩
  obtain ⟨f4, hf4⟩ : ∃ f4, f4 = vp_updL f3 (bAt b + 1) (f3 (bAt b + 1) + 1) := ⟨_, rfl⟩
  obtain ⟨f5, hf5⟩ : ∃ f5, f5 = vp_updL f4 (bAt b + 2) (f4 (bAt b + 2) + 1) := ⟨_, rfl⟩
  have s1 := r_srow M m R (show bAt b + 3 + 3 * n < 806 by omega) (Int32.toInt64 nx)
  rw [← hf1] at s1
  have s2 := r_srow M m (rsR R f1) (show bAt b + 3 + 3 * n + 1 < 806 by omega) (Int32.toInt64 sz)
  rw [rowf_R, rsR_R, ← hf2] at s2
  have s3 := r_srow M m (rsR R f2) kx (Int32.toInt64 fl)
  rw [rowf_R, rsR_R, ← hf3] at s3
  have a4 := r_row M m (rsR R f3) (kb 1 (by omega))
  rw [rowf_R] at a4
  have s4 := r_srow M m (rsR R f3) (kb 1 (by omega)) (f3 (bAt b + 1) + 1)
  rw [rowf_R, rsR_R, ← hf4] at s4
  have a5 := r_row M m (rsR R f4) (kb 2 (by omega))
  rw [rowf_R] at a5
  have s5 := r_srow M m (rsR R f4) (kb 2 (by omega)) (f4 (bAt b + 2) + 1)
  rw [rowf_R, rsR_R, ← hf5] at s5
  simp only [rowN_R] at s2 s3 a4 s4 a5 s5
  have en : f_X12_manyIn m (nI b) (ov M m R) = some (nI n) := by rw [hn]; exact X12_many_e h hb
  have gx : f_X12_get m (nI (bAt b + 2)) (ov M m R) = some nx := by rw [X12_get_e (kb 2 (by omega)), g3]
  refine ⟨f5, ?_, ?_, fun q hq => by rw [hf5, pk_uLn (by omega), hf4, pk_uLn (by omega), hf3, pk_uLn (by omega), hf2, pk_uLn (by omega), hf1, pk_uLn (by omega)]⟩
  · rw [← hnx]
    simp only [f_X12_comes, ov_ob, en, X12_msgAt_e, X12_boxAt_e, bso, nI2, gx, r_g3, rowN_R, nI0', nI_1, s1, s2, s3, a4, s4, a5, s5]
  · rw [← hnx]
    refine h.setB hb (fun q hq => by rw [hf5, pk_uLn (by omega), hf4, pk_uLn (by omega), hf3, pk_uLn (by omega), hf2, pk_uLn (by omega), hf1, pk_uLn (by omega)]) ⟨?_, ?_, ?_, fun j hj => ?_⟩ (by show (_ ++ [_]).length ≤ 30; rw [List.length_append, List.length_singleton, ← hn]; omega)
    · rw [hf5, pk_uLn (by omega), hf4, pk_uLn (by omega), hf3, pk_uLn (by omega), hf2, pk_uLn (by omega), hf1, pk_uLn (by omega)]; exact g1
    · show _ = nI ((stB S b).2.2 ++ [_]).length
      rw [List.length_append, List.length_singleton, ← hn, hf5, rg_n _ _ (by omega), hf4, rg_s, Int64.toInt32_add, show Int64.toInt32 (f3 (bAt b + 1)) = rg f3 (bAt b + 1) from rfl, hf3, rg_n _ _ (by omega), hf2, rg_n _ _ (by omega), hf1, rg_n _ _ (by omega), g2, ← nI_1]; rfl
    · show _ = nx + 1
      rw [hf5, rg_s, Int64.toInt32_add, show Int64.toInt32 (f4 (bAt b + 2)) = rg f4 (bAt b + 2) from rfl, hf4, rg_n _ _ (by omega), hf3, rg_n _ _ (by omega), hf2, rg_n _ _ (by omega), hf1, rg_n _ _ (by omega), g3]; rfl
    · have hj : j < ((stB S b).2.2 ++ [(nx, sz, fl)]).length := hj
      rw [List.length_append, List.length_singleton, ← hn] at hj
      show rg f5 (bAt b + 3 + 3 * j) = mU (mg ((stB S b).2.2 ++ [(nx, sz, fl)]) j) ∧ rg f5 (bAt b + 3 + 3 * j + 1) = mS (mg ((stB S b).2.2 ++ [(nx, sz, fl)]) j) ∧ rg f5 (bAt b + 3 + 3 * j + 2) = mF (mg ((stB S b).2.2 ++ [(nx, sz, fl)]) j)
      by_cases e : j = n
      · subst e
        have : mg ((stB S b).2.2 ++ [(nx, sz, fl)]) j = (nx, sz, fl) := by rw [hn]; exact mid_get _ _ _ _
        rw [this]
        refine ⟨?_, ?_, ?_⟩
        · rw [hf5, rg_n _ _ (by omega), hf4, rg_n _ _ (by omega), hf3, rg_n _ _ (by omega), hf2, rg_n _ _ (by omega), hf1, rg_s, Int32.toInt32_toInt64]; rfl
        · rw [hf5, rg_n _ _ (by omega), hf4, rg_n _ _ (by omega), hf3, rg_n _ _ (by omega), hf2, rg_s, Int32.toInt32_toInt64]; rfl
        · rw [hf5, rg_n _ _ (by omega), hf4, rg_n _ _ (by omega), hf3, rg_s, Int32.toInt32_toInt64]; rfl
      · rw [mg_app _ _ (show j < (stB S b).2.2.length by omega)]
        obtain ⟨q1, q2, q3⟩ := g4 j (by omega)
        refine ⟨?_, ?_, ?_⟩
        · rw [hf5, rg_n _ _ (by omega), hf4, rg_n _ _ (by omega), hf3, rg_n _ _ (by omega), hf2, rg_n _ _ (by omega), hf1, rg_n _ _ (by omega)]; exact q1
        · rw [hf5, rg_n _ _ (by omega), hf4, rg_n _ _ (by omega), hf3, rg_n _ _ (by omega), hf2, rg_n _ _ (by omega), hf1, rg_n _ _ (by omega)]; exact q2
        · rw [hf5, rg_n _ _ (by omega), hf4, rg_n _ _ (by omega), hf3, rg_n _ _ (by omega), hf2, rg_n _ _ (by omega), hf1, rg_n _ _ (by omega)]; exact q3
theorem X12_comes_e (h : rep (rowf R) S) {b : Nat} (hb : b < stN S) (hr : (stB S b).2.2.length < 30) (sz fl : Int32) :
    ∃ f', f_X12_comes m (nI b) sz fl (ov M m R) = some ((stB S b).2.1, ov M m (rsR R f')) ∧ rep f' (setBx S b ((stB S b).1, (stB S b).2.1 + 1, (stB S b).2.2 ++ [((stB S b).2.1, sz, fl)])) := by
  obtain ⟨f', e1, e2, e3⟩ := X12_comes_x (M := M) (m := m) h hb hr sz fl
  exact ⟨f', e1, e2⟩
theorem X12_there_e (h : rep (rowf R) S) {s : Nat} (hs : s < stM S) (hw : okV S (stS S s)) {a b : Nat} (hab : a ≤ b) (hbl : b ≤ (sxE (stS S s)).length) : f_X12_thereMany m (nI s) (nI (a + 1)) (nI b) (ov M m R) = some (nI ((rng (sxE (stS S s)) a b).countP (fun e => !gone (bof S (sxB (stS S s))) e))) := by
  have hl := h.ls hs
  have := fd_run (fun fu k x => f_X12_thereMany_6 fu m (nI s) (nI b) x (nI (k + 1)) (ov M m R)) (fun k x => if (fun e => !gone (bof S (sxB (stS S s))) e) (((sxE (stS S s)).take b).getD k (0, 0)) = true then x + 1 else x) (fun x => x) a b
    (fun fu x => by simp only [f_X12_thereMany_6, ltT rfl rfl (Nat.lt_succ_self b) (show b + 1 < 2 ^ 31 by omega), if_true])
    (fun fu k x _ hk => by
      have hg : ((sxE (stS S s)).take b).getD k (0, 0) = eg (sxE (stS S s)) k := by simp [eg, List.getD_eq_getElem?_getD, List.getElem?_take, hk]
      simp only [f_X12_thereMany_6, ltF rfl rfl (show k + 1 ≤ b by omega) (show b < 2 ^ 31 by omega), if_false, bso, X12_isGone_e h hs hw (show k < (sxE (stS S s)).length by omega), f_X12_thereMany_29, nI_1, hg]
      cases gone (bof S (sxB (stS S s))) (eg (sxE (stS S s)) k) <;> simp [b2i])
    (b - a) a 0 FU (by omega) (Nat.le_refl _) (by rw [FU_eq]; omega)
  simp only [f_X12_thereMany, ov_ob]
  refine this.trans (congrArg some ?_)
  refine (fd_cnt (0, 0) (fun e => !gone (bof S (sxB (stS S s))) e) ((sxE (stS S s)).take b) (b - a) a 0 (by rw [List.length_take]; omega)).trans ?_
  rw [Int32.zero_add]; rfl
theorem X12_room_e (h : rep (rowf R) S) {b : Nat} (hb : b < stN S) {L : Nat} (hL : stL S = nI L) (hL2 : L < 2 ^ 30) {k : Nat} (hk : k ≤ 60) : f_X12_hasRoom m (nI b) (nI k) (ov M m R) = some (decide (k = 0 ∨ (stB S b).2.2.length + k ≤ L)) := by
  have hl := h.lb hb
  have g0 := X12_get_e (M := M) (m := m) (R := R) (k := 0) (by omega)
  have g0' : f_X12_get m 0 (ov M m R) = some (nI L) := by rw [← hL, ← h.1]; exact g0
  simp only [f_X12_hasRoom, ov_ob, X12_many_e h hb, g0', bso, nI_add]
  by_cases e : k = 0
  · subst e
    rw [if_pos (show nI 0 = 0 from rfl)]; simp
  · rw [if_neg (nI_ne0 (by omega) (by omega))]
    by_cases e2 : (stB S b).2.2.length + k ≤ L
    · rw [if_neg (nI_nlt e2 (by omega))]; simp [e2]
    · rw [if_pos (nI_lt (by omega) (by omega))]; simp [e, e2]
end
theorem gone_snoc (ms : Ms) (x : Msg) (e : En) (h : eU e ≠ mU x) : gone (ms ++ [x]) e = gone ms e := by rw [gone, gone, mix_snoc ms x h]
theorem kept_snoc (ms : Ms) (x : Msg) (es : List En) (h : ∀ e ∈ es, eU e ≠ mU x) : kept (ms ++ [x]) es = kept ms es := by
  induction es with
  | nil => rfl
  | cons e t ih =>
    have h1 := gone_snoc ms x e (h e (List.mem_cons_self ..))
    have h2 := ih (fun e he => h e (List.mem_cons_of_mem _ he))
    unfold kept at h2 ⊢
    rw [List.filter_cons, List.filter_cons, h1, h2]
theorem cpy_len (ms : Ms) (es : List En) : (cpy ms es).length = (kept ms es).length := by
  induction es with
  | nil => rfl
  | cons e t ih =>
    rw [cpy_cons]
    cases hm : mix ms (eU e) with
    | none => simp only; rw [ih]; simp [kept, gone, hm]
    | some k => simp only [List.length_cons]; rw [ih]; simp [kept, gone, hm]
section
variable {M : Mem} {m : Nat}
theorem X12_cp_loop {s b t : Nat} {es : List En} : ∀ (post pre rest : List En) (fu : Nat) (R : Rs) (S : St) (n : Nat), pre ++ (post ++ rest) = es → post.length < fu → rep (rowf R) S → R.2.1 = false → s < stM S → b < stN S → t < stN S → sxB (stS S s) = nI b → sxE (stS S s) = es → n + post.length ≤ 60 →
    (t = b → ∀ e ∈ post, ∀ i, i < 30 - (stB S b).2.2.length → eU e ≠ (stB S b).2.1 + nI i) → (stB S t).2.2.length + (cpy (stB S b).2.2 post).length ≤ 30 →
    ∃ R', f_X12_copies_6 fu m (nI s) (nI (pre.length + post.length)) (nI t) (nI n) (nI (pre.length + 1)) (ov M m R) = some (nI (n + (cpy (stB S b).2.2 post).length), ov M m R') ∧ rep (rowf R') (setBx S t (cpB (stB S t) (cpy (stB S b).2.2 post))) ∧ (∀ i, i < n → R'.2.2.2 4 i = R.2.2.2 4 i) ∧ (∀ i, i < (kept (stB S b).2.2 post).length → R'.2.2.2 4 (n + i) = eU (eg (kept (stB S b).2.2 post) i)) ∧ kp [] [1] [4] R R' := by
  intro post
  induction post with
  | nil =>
    intro pre rest fu R S n hp hf h hw hs hb ht hbx hes hn60 hq hc
    obtain ⟨fu, rfl⟩ : ∃ m, fu = m + 1 := ⟨fu - 1, by simp at hf; omega⟩
    have hl := h.ls hs
    rw [hes, ← hp, List.length_append] at hl
    refine ⟨R, ?_, by rw [show cpy (stB S b).2.2 [] = [] from rfl, cpB_nil, setBx_id]; exact h, fun _ _ => rfl, fun i hi => absurd hi (Nat.not_lt_zero _), kp.rf _ _ _ _⟩
    simp only [f_X12_copies_6, List.length_nil, Nat.add_zero, ltT rfl rfl (Nat.lt_succ_self pre.length) (show pre.length + 1 < 2 ^ 31 by omega), if_true, cpy, List.filterMap_nil]
  | cons e post ih =>
    intro pre rest fu R S n hp hf h hw hs hb ht hbx hes hn60 hq hc
    obtain ⟨fu, rfl⟩ : ∃ m, fu = m + 1 := ⟨fu - 1, by simp at hf; omega⟩
    simp only [List.length_cons] at hf hn60
    have h3 := h.2.2.2.1
    have hl := h.ls hs
    have hlb := h.lb hb
    have hll : (sxE (stS S s)).length = pre.length + (1 + post.length + rest.length) := by rw [hes, ← hp]; simp; omega
    have he : eg (sxE (stS S s)) pre.length = e := by rw [hes, ← hp]; exact mid_get _ _ _ _
    have hp' : (pre ++ [e]) ++ (post ++ rest) = es := by rw [← hp]; simp
    have hln : pre.length + (e :: post).length = (pre ++ [e]).length + post.length := by simp; omega
    have hln2 : pre.length + 1 = (pre ++ [e]).length := by simp
    have hok : okV S (stS S s) := ⟨.inr ⟨b, hb, hbx⟩, fun z => absurd (hbx.symm.trans z) (by rw [nI_m1 (show b < 2 ^ 31 by omega)]; exact id)⟩
    have hbo : bof S (sxB (stS S s)) = (stB S b).2.2 := by rw [hbx, bof_in (by omega)]
    have hk : pre.length < (sxE (stS S s)).length := by omega
    have hmo := X12_msgOf_e (M := M) (m := m) h hs hok hk
    rw [hbo, he] at hmo
    have huid := (X12_ofE_e (M := M) (m := m) h hs hk).1
    rw [he] at huid
    have hgt : ∀ e ∈ post, e ∈ e :: post := fun e he => List.mem_cons_of_mem _ he
    simp only [f_X12_copies_6, ltF rfl rfl (show pre.length + 1 ≤ pre.length + (e :: post).length by simp) (show pre.length + (e :: post).length < 2 ^ 31 by simp; omega), if_false, hmo, bso, f_X12_copies_80, nI_1]
    rw [cpy_cons] at hc ⊢
    cases hm : mix (stB S b).2.2 (eU e) with
    | none =>
      simp only [hm] at hc
      obtain ⟨R', e', h', c1, c2, k'⟩ := ih (pre ++ [e]) rest fu R S n hp' (by omega) h hw hs hb ht hbx hes (by omega) (fun z e he => hq z e (List.mem_cons_of_mem _ he)) hc
      have hkp : kept (stB S b).2.2 (e :: post) = kept (stB S b).2.2 post := by simp [kept, gone, hm]
      refine ⟨R', ?_, h', c1, by rw [hkp]; exact c2, k'⟩
      simp only [oI, if_true]
      rw [hln, hln2]
      exact e'
    | some k =>
      have hkl := mix_lt hm
      simp only [hm, List.length_cons] at hc
      obtain ⟨R1, hR1⟩ : ∃ R1, R1 = rsI R 4 (upd (R.2.2.2 4) n (eU e)) := ⟨_, rfl⟩
      have hw1 : R1.2.1 = false := by rw [hR1]; exact hw
      have hrow1 : rowf R1 = rowf R := by rw [hR1]; rfl
      have h1 : rep (rowf R1) S := by rw [hrow1]; exact h
      have s4 : sI (ov M m R) 0 (m + 4) (nI n) (eU e) = some (ov M m R1) := by rw [hR1]; exact r_s4 M m R (by omega) _
      obtain ⟨f1, e1, h2⟩ := X12_comes_e (M := M) (m := m) h1 ht (by omega) (mS (mg (stB S b).2.2 k)) (mF (mg (stB S b).2.2 k))
      obtain ⟨R2, hR2⟩ : ∃ R2, R2 = rsR R1 f1 := ⟨_, rfl⟩
      have hk2 : kp [] [1] [4] R R2 := by
        rw [hR2]
        have a : kp [] [] [4] R R1 := by rw [hR1]; exact kp_I R 4 _
        exact (a.up (by simp) (by simp) (by simp)).trans ((kp_R hw1 f1).up (by simp) (by simp) (by simp))
      obtain ⟨S2, hS2⟩ : ∃ S2, S2 = setBx S t ((stB S t).1, (stB S t).2.1 + 1, (stB S t).2.2 ++ [((stB S t).2.1, mS (mg (stB S b).2.2 k), mF (mg (stB S b).2.2 k))]) := ⟨_, rfl⟩
      have h2' : rep (rowf R2) S2 := by rw [hR2, rowf_R, hS2]; exact h2
      have htS : stB S2 t = ((stB S t).1, (stB S t).2.1 + 1, (stB S t).2.2 ++ [((stB S t).2.1, mS (mg (stB S b).2.2 k), mF (mg (stB S b).2.2 k))]) := by rw [hS2, stB_set]
      have hbS : cpy (stB S2 b).2.2 post = cpy (stB S b).2.2 post ∧ kept (stB S2 b).2.2 post = kept (stB S b).2.2 post ∧ (t = b → ∀ e ∈ post, ∀ i, i < 30 - (stB S2 b).2.2.length → eU e ≠ (stB S2 b).2.1 + nI i) := by
        by_cases z : t = b
        · subst z
          rw [htS]
          have hne : ∀ e ∈ post, eU e ≠ mU ((stB S t).2.1, mS (mg (stB S t).2.2 k), mF (mg (stB S t).2.2 k)) := fun e he w => hq rfl e (List.mem_cons_of_mem _ he) 0 (by omega) (by rw [w, nI_0, Int32.add_zero]; rfl)
          refine ⟨cpy_snoc _ _ _ hne, kept_snoc _ _ _ hne, fun _ e he i hi w => ?_⟩
          rw [List.length_append, List.length_singleton] at hi
          exact hq rfl e (List.mem_cons_of_mem _ he) (i + 1) (by omega) (by rw [w, Int32.add_assoc, nI_1add, Nat.add_comm])
        · have : stB S2 b = stB S b := by rw [hS2]; exact va_up_n _ _ (fun w => z w.symm)
          rw [this]
          exact ⟨rfl, rfl, fun w => absurd w z⟩
      obtain ⟨b1, b2, b3⟩ := hbS
      obtain ⟨R', e', h', c1, c2, k'⟩ := ih (pre ++ [e]) rest fu R2 S2 (n + 1) hp' (by omega) h2' (hk2.1.trans hw) (by rw [hS2]; exact hs) (by rw [hS2]; exact hb) (by rw [hS2]; exact ht) (by rw [hS2]; exact hbx) (by rw [hS2]; exact hes) (by omega) b3 (by rw [b1, htS]; show ((stB S t).2.2 ++ [_]).length + _ ≤ 30; rw [List.length_append, List.length_singleton]; omega)
      rw [b1] at e' h'
      rw [b2] at c2
      rw [htS, cpB_cons (stB S t) (mS (mg (stB S b).2.2 k), mF (mg (stB S b).2.2 k)), hS2, setBx_setBx] at h'
      have hkp : kept (stB S b).2.2 (e :: post) = e :: kept (stB S b).2.2 post := by simp [kept, gone, hm]
      refine ⟨R', ?_, h', fun i hi => ?_, fun i hi => ?_, hk2.trans k'⟩
      · have bo : f_X12_boxOf m (nI s) (ov M m R1) = some (nI b) := by rw [X12_boxOf_e h1 hs, hbx]
        obtain ⟨o1, o2, o3⟩ := X12_ofM_e (M := M) (m := m) h1 hb hkl
        rw [hR2] at e'
        simp only [oI, nI_m1 (show k < 2 ^ 31 by omega), if_false, r_g6, huid, s4, bo, o2, o3, e1, bso]
        rw [hln, hln2, List.length_cons, show n + ((cpy (stB S b).2.2 post).length + 1) = n + 1 + (cpy (stB S b).2.2 post).length by omega]
        exact e'
      · rw [c1 i (by omega)]
        rw [hR2]
        show R1.2.2.2 4 i = _
        rw [hR1, rsI_at, upd_n _ _ (by omega)]
      · rw [hkp, List.length_cons] at hi
        rw [hkp]
        by_cases e0 : i = 0
        · subst e0
          rw [Nat.add_zero, c1 n (by omega), hR2]
          show R1.2.2.2 4 n = _
          rw [hR1, rsI_at, upd_s]; rfl
        · obtain ⟨i, rfl⟩ : ∃ j, i = j + 1 := ⟨i - 1, by omega⟩
          rw [show n + (i + 1) = n + 1 + i by omega, c2 i (by omega)]; rfl
end
/-! removing by uids -/
def rmvU (ms : Ms) (us : List Int32) : Ms := us.foldl (fun ms u => match mix ms u with
  | none => ms
  | some k => ms.eraseIdx k) ms
theorem rmv_U (ms : Ms) (es : List En) : rmv ms es = rmvU ms (es.map eU) := by
  rw [rmv, rmvU, List.foldl_map]
  rfl
theorem mix_era {ms : Ms} {k : Nat} {u : Int32} (h : ∀ j, j < ms.length → mU (mg ms j) = u → j ≠ k → False) (hk : k < ms.length) : mix (ms.eraseIdx k) u = none := by
  refine ixl_no (fun j hj => ?_)
  rw [List.length_map, List.length_eraseIdx_of_lt hk] at hj
  rw [mapD mU (by rw [List.length_eraseIdx_of_lt hk]; exact hj), mg_era]
  split
  · exact fun z => h j (by omega) z (by omega)
  · exact fun z => h (j + 1) (by omega) z (by omega)
theorem mix_some_mem {ms : Ms} {u : Int32} : (∃ j, j < ms.length ∧ mU (mg ms j) = u) ↔ mix ms u ≠ none := by
  constructor
  · rintro ⟨j, hj, e⟩ z
    refine ixl_none z j (by rw [List.length_map]; exact hj) ?_
    rw [mapD mU hj]; exact e
  · intro h
    cases e : mix ms u with
    | none => exact absurd e h
    | some k =>
      refine ⟨k, mix_lt e, ?_⟩
      have := (ixl_some e).2.1
      rwa [mapD mU (mix_lt e)] at this
theorem mix_keep {ms : Ms} {k : Nat} {u v : Int32} (hk : mix ms v = some k) (hu : mix ms u ≠ none) (hne : u ≠ v) : mix (ms.eraseIdx k) u ≠ none := by
  have hkl := mix_lt hk
  obtain ⟨j, hj, e⟩ := mix_some_mem.mpr hu
  have hkv := (ixl_some hk).2.1
  rw [mapD mU hkl] at hkv
  have hjk : j ≠ k := fun z => hne (by rw [← e, z, hkv])
  refine mix_some_mem.mp ?_
  by_cases e2 : j < k
  · exact ⟨j, by rw [List.length_eraseIdx_of_lt hkl]; omega, by rw [mg_era, if_pos e2]; exact e⟩
  · exact ⟨j - 1, by rw [List.length_eraseIdx_of_lt hkl]; omega, by rw [mg_era, if_neg (by omega), show j - 1 + 1 = j by omega]; exact e⟩
section
variable {M : Mem} {m : Nat}
theorem X12_mv_loop {s b n : Nat} : ∀ (us : List Int32) (i fu : Nat) (R : Rs) (S : St), i + us.length = n → n ≤ 60 → us.length < fu → rep (rowf R) S → R.2.1 = false → s < stM S → b < stN S → sxB (stS S s) = nI b → (∀ j, j < us.length → R.2.2.2 4 (i + j) = us.getD j 0) → us.Nodup → (∀ u ∈ us, mix (stB S b).2.2 u ≠ none) →
    ∃ f', f_X12_move_38 fu m (nI s) (nI n) (nI i) (ov M m R) = (f_X12_done m (nI s) true (nI n) (ov M m (rsR R f'))).bind (fun (x8, M9) => some (x8, M9)) ∧ rep f' (setBx S b (setMs (stB S b) (rmvU (stB S b).2.2 us))) := by
  intro us
  induction us with
  | nil =>
    intro i fu R S hi hn hf h hw hs hb hbx hc hd hm
    obtain ⟨fu, rfl⟩ : ∃ m, fu = m + 1 := ⟨fu - 1, by simp at hf; omega⟩
    rw [List.length_nil, Nat.add_zero] at hi
    subst hi
    refine ⟨rowf R, ?_, ?_⟩
    · rw [rsR_id]
      simp only [f_X12_move_38, leT rfl rfl (Nat.le_refl i) (show i < 2 ^ 31 by omega), if_true]
    · have : setMs (stB S b) (rmvU (stB S b).2.2 []) = stB S b := rfl
      rw [this, setBx_id]; exact h
  | cons u us ih =>
    intro i fu R S hi hn hf h hw hs hb hbx hc hd hm
    obtain ⟨fu, rfl⟩ : ∃ m, fu = m + 1 := ⟨fu - 1, by simp at hf; omega⟩
    simp only [List.length_cons] at hi hf
    have h3 := h.2.2.2.1
    have hl := h.lb hb
    have hu := hm u (List.mem_cons_self ..)
    cases hmu : mix (stB S b).2.2 u with
    | none => exact absurd hmu hu
    | some k =>
      have hkl := mix_lt hmu
      have hc0 : R.2.2.2 4 i = u := hc 0 (by simp)
      have ac := r_a4 M m R (k := i) (by omega)
      rw [hc0] at ac
      obtain ⟨f1, e1, h1⟩ := X12_rmv_e (M := M) (m := m) h hw hb hkl
      have hwU := X12_withUid_e (M := M) (m := m) h hb u
      rw [hmu] at hwU
      obtain ⟨hd1, hd2⟩ := List.nodup_cons.mp hd
      obtain ⟨f', e', h'⟩ := ih (i + 1) fu (rsR R f1) (setBx S b (setMs (stB S b) ((stB S b).2.2.eraseIdx k))) (by omega) hn (by omega) (by rw [rowf_R]; exact h1) hw hs hb hbx (fun j hj => by
          have := hc (j + 1) (by simp; omega)
          rw [show i + 1 + j = i + (j + 1) by omega]; exact this) hd2 (fun v hv => by
          rw [stB_set]
          exact mix_keep hmu (hm v (List.mem_cons_of_mem _ hv)) (fun z => hd1 (by rw [← z]; exact hv)))
      rw [rsR_R] at e'
      rw [setBx_setBx, stB_set] at h'
      refine ⟨f', ?_, ?_⟩
      · simp only [f_X12_move_38, leF rfl rfl (show i < n by omega) (show n < 2 ^ 31 by omega), if_false, X12_boxOf_e h hs, hbx, r_g6, ac, hwU, oI_s, e1, bso, nI_1]
        exact e'
      · have : rmvU (stB S b).2.2 (u :: us) = rmvU ((stB S b).2.2.eraseIdx k) us := by
          rw [rmvU, List.foldl_cons, hmu]; rfl
        rw [this]; exact h'
end
