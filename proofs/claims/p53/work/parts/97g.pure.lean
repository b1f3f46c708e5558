/-! PURE: fetch -/
def ftc (wr : Bool) : List En → Ms × Int32 → Ms × Int32
  | [], a => a
  | e :: t, a => ftc wr t (match mix a.1 (eU e) with
    | none => a
    | some k => (bif wr then setF a.1 k (mF (mg a.1 k) ||| 1) else a.1, a.2 + mS (mg a.1 k)))
theorem ftc_map (wr : Bool) : ∀ (l : List En) (a : Ms × Int32), (ftc wr l a).1.map mU = a.1.map mU ∧ (ftc wr l a).1.map mS = a.1.map mS := by
  intro l
  induction l with
  | nil => intro a; exact ⟨rfl, rfl⟩
  | cons e t ih =>
    intro a
    rw [ftc]
    cases mix a.1 (eU e) with
    | none => exact ih a
    | some k =>
      obtain ⟨h1, h2⟩ := ih (bif wr then setF a.1 k (mF (mg a.1 k) ||| 1) else a.1, a.2 + mS (mg a.1 k))
      cases wr with
      | false => exact ⟨h1, h2⟩
      | true => exact ⟨h1.trans (setF_U _ _ _), h2.trans (setF_S _ _ _)⟩
theorem map_len {ms ms' : Ms} (h : ms'.map mU = ms.map mU) : ms'.length = ms.length := by
  have := congrArg List.length h
  rwa [List.length_map, List.length_map] at this
theorem okS.mp {c : Nat} {S : St} (h : okS c S) {b : Nat} (hb : b < stN S) {ms' : Ms} (e1 : ms'.map mU = (stB S b).2.2.map mU) (e2 : ms'.map mS = (stB S b).2.2.map mS) : okS c (setBx S b (setMs (stB S b) ms')) :=
  h.setM hb (okM_map (h.2.2.1 b hb).2.1 e1 e2) (by rw [map_len e1]; exact (h.2.2.1 b hb).2.2)
theorem setM_id (S : St) (b : Nat) : setBx S b (setMs (stB S b) (stB S b).2.2) = S := setBx_id S b
theorem setM_2 (S : St) (b : Nat) (x y : Ms) : setBx (setBx S b (setMs (stB S b) x)) b (setMs (stB (setBx S b (setMs (stB S b) x)) b) y) = setBx S b (setMs (stB S b) y) := by
  rw [setBx_setBx, stB_set]; rfl
theorem setM_ms (S : St) (b : Nat) (x : Ms) : (stB (setBx S b (setMs (stB S b) x)) b).2.2 = x := by rw [stB_set]; rfl
def addC (s : Sx) (k : Nat) (v : Int32) : Sx := (s.1, sxB s, sxR s, sxI s, sxH s, sxE s, (sxC s).set k ((sxC s).getD k 0 + v))
theorem okE_addC {S : St} {k : Nat} {s : Sx} (h : okE S s) (v : Int32) : okE S (addC s k v) := by
  obtain ⟨h1, h2, h3, h4, h5⟩ := h
  exact ⟨h1, by show ((sxC s).set k _).length = 5; rw [List.length_set]; exact h2, h3, h4, h5⟩
theorem sRep_add {f : Nat → Int64} {a : Nat} {s : Sx} (h : sRep f a s) (hc : (sxC s).length = 5) {k : Nat} (hk : k < 5) (v : Int32) : sRep (vp_updL f (a + 6 + k) (f (a + 6 + k) + Int32.toInt64 v)) a (addC s k v) := by
  obtain ⟨h1, h2, h3, h4, h5, h6, h7, h8⟩ := h
  refine ⟨by rw [pk_uLn (by omega)]; exact h1, by rw [rg_n _ _ (by omega)]; exact h2, by rw [rg_n _ _ (by omega)]; exact h3, by rw [rg_n _ _ (by omega)]; exact h4, by rw [rg_n _ _ (by omega)]; exact h5, by rw [rg_n _ _ (by omega)]; exact h6, fun j hj => ?_, fun j hj => ?_⟩
  · show _ = ((sxC s).set k ((sxC s).getD k 0 + v)).getD j 0
    by_cases e : j = k
    · subst e
      rw [rg_s, Int64.toInt32_add, Int32.toInt32_toInt64]
      have h7j : Int64.toInt32 (f (a + 6 + j)) = (sxC s).getD j 0 := h7 j hj
      rw [h7j]
      simp [List.getD_eq_getElem?_getD, hc, hj]
    · rw [rg_n _ _ (by omega), h7 j hj]
      simp [List.getD_eq_getElem?_getD, List.getElem?_set_ne (Ne.symm e)]
  · obtain ⟨q1, q2⟩ := h8 j hj
    exact ⟨by rw [rg_n _ _ (by omega)]; exact q1, by rw [rg_n _ _ (by omega)]; exact q2⟩
section
variable {M : Mem} {m : Nat} {R : Rs} {I O : List Int32} {S : St} {K : Nat → St} {B : Nat → Bool} {C : Nat} {H : Nat → St} {N : List Nt} {E : Er} {c : Nat}
theorem cls_fetch_loop {k b : Nat} (peek : Bool) {es : List En} : ∀ (post pre rest : List En) (fu : Nat) (M : Mem) (S : St) (sum : Int32), pre ++ (post ++ rest) = es → post.length < fu → Cls M I O S K B C H N E → k < stM S → b < stN S → sxE (stS S k) = es →
    ∃ M', f_X11_fetch_44 fu 100 (nI k) (nI (pre.length + post.length)) peek (sesR 105 k) (boxR 105 b) sum (nI (pre.length + 1)) M = f_X11_fetch_115 100 (nI k) (sesR 105 k) (ftc (!peek && !sxR (stS S k)) post ((stB S b).2.2, sum)).2 M' ∧
      Cls M' I O (setBx S b (setMs (stB S b) (ftc (!peek && !sxR (stS S k)) post ((stB S b).2.2, sum)).1)) K B C H N E ∧ off M M' 100 616 := by
  intro post
  induction post with
  | nil =>
    intro pre rest fu M S sum hes hf h hk hb hE
    obtain ⟨fu, rfl⟩ : ∃ x, fu = x + 1 := ⟨fu - 1, by omega⟩
    have hl : (sxE (stS S k)).length ≤ 60 := sA.len (h.sx hk)
    have hpl : pre.length ≤ 60 := by rw [hE, ← hes, List.length_append] at hl; omega
    refine ⟨M, ?_, by rw [show (ftc (!peek && !sxR (stS S k)) [] ((stB S b).2.2, sum)).1 = (stB S b).2.2 from rfl, setM_id]; exact h, off.rf _ _ _⟩
    simp only [f_X11_fetch_44]
    rw [if_pos (by rw [ltT rfl rfl (show pre.length + ([] : List En).length < pre.length + 1 from Nat.lt_succ_self _) (by omega)]; trivial)]
    rfl
  | cons e t ih =>
    intro pre rest fu M S sum hes hf h hk hb hE
    obtain ⟨fu, rfl⟩ : ∃ x, fu = x + 1 := ⟨fu - 1, by omega⟩
    rw [List.length_cons] at hf
    have hl : (sxE (stS S k)).length ≤ 60 := sA.len (h.sx hk)
    have hpl : pre.length + (t.length + 1) ≤ 60 := by
      rw [hE, ← hes, List.length_append, List.length_append, List.length_cons] at hl; omega
    have heg : eg (sxE (stS S k)) pre.length = e := by
      rw [hE, ← hes]; exact mid_get pre (t ++ rest) e (0, 0)
    have gu : f_X7_uidOf (sesR 105 k) (nI (pre.length + 1)) M = some (eU e) := by
      have : f_X7_uidOf (sesR 105 k) (nI (pre.length + 1)) M = some (eU (eg (sxE (stS S k)) pre.length)) := X7_uid_e (h.sx hk) (by omega)
      rw [this, heg]
    have gx := X0_ix (h.bx hb) (eU e)
    have gs := X0_sz_ix (h.bx hb) (eU e)
    have g3 : gR M 0 3 (boxR 105 b) = some (boxR 105 b + 3) := bA.gS (h.bx hb)
    have gr : gZ M 6 2 (sesR 105 k) = some (sxR (stS S k)) := sA.gR (h.sx hk)
    have hes' : (pre ++ [e]) ++ (t ++ rest) = es := by rw [← hes]; simp
    have hln : pre.length + (e :: t).length = (pre ++ [e]).length + t.length := by simp; omega
    have hl1 : (pre ++ [e]).length + 1 = pre.length + 1 + 1 := by simp
    have n1 : ¬ (nI (pre.length + (e :: t).length) < nI (pre.length + 1)) := by
      rw [ltF rfl rfl (show pre.length + 1 ≤ pre.length + (e :: t).length by rw [List.length_cons]; omega) (by rw [List.length_cons]; omega)]; exact id
    have n2 : ¬ ((60 : Int32) < nI (pre.length + 1)) := by
      rw [ltF (x := 60) (a := 60) rfl rfl (show pre.length + 1 ≤ 60 by omega) (by omega)]; exact id
    -- what comes behind this entry
    have step : ∀ (M1 : Mem) (ms1 : Ms) (s1 : Int32), (match mix (stB S b).2.2 (eU e) with | none => ((stB S b).2.2, sum) | some j => (bif (!peek && !sxR (stS S k)) then setF (stB S b).2.2 j (mF (mg (stB S b).2.2 j) ||| 1) else (stB S b).2.2, sum + mS (mg (stB S b).2.2 j))) = (ms1, s1) →
        Cls M1 I O (setBx S b (setMs (stB S b) ms1)) K B C H N E → off M M1 100 616 →
        ∃ M', f_X11_fetch_109 (f_X11_fetch_44 fu) 100 (nI k) (nI (pre.length + (e :: t).length)) peek (sesR 105 k) (boxR 105 b) s1 (nI (pre.length + 1)) M1 = f_X11_fetch_115 100 (nI k) (sesR 105 k) (ftc (!peek && !sxR (stS S k)) (e :: t) ((stB S b).2.2, sum)).2 M' ∧
          Cls M' I O (setBx S b (setMs (stB S b) (ftc (!peek && !sxR (stS S k)) (e :: t) ((stB S b).2.2, sum)).1)) K B C H N E ∧ off M M' 100 616 := by
      intro M1 ms1 s1 hm c1 o1
      obtain ⟨M', e', c', o'⟩ := ih (pre ++ [e]) rest fu M1 (setBx S b (setMs (stB S b) ms1)) s1 hes' (by omega) c1 hk hb hE
      rw [setM_2, setM_ms] at c'
      rw [setM_ms, ← hln, hl1] at e'
      have hft : ftc (!peek && !sxR (stS S k)) (e :: t) ((stB S b).2.2, sum) = ftc (!peek && !sxR (stS S k)) t (ms1, s1) := by
        rw [ftc]; exact congrArg _ hm
      rw [hft]
      exact ⟨M', by simp only [f_X11_fetch_109, nI_1]; exact e', c', o1.trans o'⟩
    simp only [f_X11_fetch_44, gu, gx, g3, gs, gr, bso]
    rw [if_neg n1, if_neg n2]
    cases hm : mix (stB S b).2.2 (eU e) with
    | none =>
      rw [hm] at step
      have hno : f_X0_changeFlags (boxR 105 b) (-1) 1 1 M = some (false, M) := X0_change_no (h.bx hb) 1 1
      have st := step M (stB S b).2.2 sum rfl (by rw [setM_id]; exact h) (off.rf _ _ _)
      simp only [Int32.add_zero, oI_n, hno, bso]
      cases peek with
      | true => simp only [cond_true]; exact st
      | false =>
        simp only [cond_false]
        cases hrd : sxR (stS S k) with
        | true => rw [hrd] at st; simp only [cond_true]; exact st
        | false => rw [hrd] at st; simp only [cond_false]; exact st
    | some j =>
      rw [hm] at step
      have hj := mix_lt hm
      obtain ⟨M1, e1, x1, o1⟩ := X0_change_e (h.bx hb) hj 1 1
      have hfb : fby 1 (mF (mg (stB S b).2.2 j)) 1 = mF (mg (stB S b).2.2 j) ||| 1 := rfl
      rw [hfb] at x1
      simp only [oI_s]
      have st0 : (!peek && !sxR (stS S k)) = false → ∃ M', f_X11_fetch_109 (f_X11_fetch_44 fu) 100 (nI k) (nI (pre.length + (e :: t).length)) peek (sesR 105 k) (boxR 105 b) (sum + mS (mg (stB S b).2.2 j)) (nI (pre.length + 1)) M = f_X11_fetch_115 100 (nI k) (sesR 105 k) (ftc (!peek && !sxR (stS S k)) (e :: t) ((stB S b).2.2, sum)).2 M' ∧
          Cls M' I O (setBx S b (setMs (stB S b) (ftc (!peek && !sxR (stS S k)) (e :: t) ((stB S b).2.2, sum)).1)) K B C H N E ∧ off M M' 100 616 := by
        intro z
        exact step M (stB S b).2.2 _ (by rw [z]; rfl) (by rw [setM_id]; exact h) (off.rf _ _ _)
      cases hp : peek with
      | true =>
        rw [hp] at st0
        simp only [cond_true]; exact st0 rfl
      | false =>
        simp only [cond_false]
        cases hrd : sxR (stS S k) with
        | true =>
          rw [hp, hrd] at st0
          simp only [cond_true]; exact st0 rfl
        | false =>
          rw [hp, hrd] at step
          obtain ⟨c2, o2⟩ := h.box hb (X := setMs (stB S b) (setF (stB S b).2.2 j (mF (mg (stB S b).2.2 j) ||| 1))) x1 o1
          simp only [cond_false, e1, bso]
          exact step M1 _ _ rfl c2 o2
end
