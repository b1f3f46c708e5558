/-! PURE: the reference, telling -/
theorem rsR_id (R : Rs) : rsR R (rowf R) = R := by
  refine Prod.ext rfl (Prod.ext rfl (Prod.ext (funext fun j => ?_) rfl))
  show va_up R.2.2.1 (rowN R) (rowf R) j = R.2.2.1 j
  by_cases e : j = rowN R
  · rw [e, va_up_s]; rfl
  · rw [va_up_n _ _ e]
theorem setSx_setSx (S : St) (s : Nat) (a b : Sx) : setSx (setSx S s a) s b = setSx S s b := by
  unfold setSx
  refine Prod.ext rfl (Prod.ext rfl (Prod.ext rfl (Prod.ext rfl (funext fun j => ?_))))
  show va_up (va_up (stS S) s a) s b j = va_up (stS S) s b j
  by_cases e : j = s
  · rw [e, va_up_s, va_up_s]
  · rw [va_up_n _ _ e, va_up_n _ _ e, va_up_n _ _ e]
theorem stS_set (S : St) (s : Nat) (a : Sx) : stS (setSx S s a) s = a := va_up_s _ _ _
theorem setSx_id (S : St) (s : Nat) : setSx S s (stS S s) = S := by
  unfold setSx
  refine Prod.ext rfl (Prod.ext rfl (Prod.ext rfl (Prod.ext rfl (funext fun j => ?_))))
  show va_up (stS S) s (stS S s) j = stS S j
  by_cases e : j = s
  · rw [e, va_up_s]
  · rw [va_up_n _ _ e]
theorem cset0 (cn : List Int32) (j : Nat) : cn.set j (cn.getD j 0 + nI 0) = cn := by
  refine ext_getD (by simp) (fun i hi => ?_)
  rw [List.length_set] at hi
  by_cases e : i = j
  · subst e
    simp [List.getD_eq_getElem?_getD, hi, nI_0]
  · simp [List.getD_eq_getElem?_getD, List.getElem?_set_ne (Ne.symm e)]
theorem cset2 {cn : List Int32} {j : Nat} (hj : j < cn.length) (a b : Int32) : (cn.set j (cn.getD j 0 + a)).set j ((cn.set j (cn.getD j 0 + a)).getD j 0 + b) = cn.set j (cn.getD j 0 + (a + b)) := by
  have : (cn.set j (cn.getD j 0 + a)).getD j 0 = cn.getD j 0 + a := by simp [List.getD_eq_getElem?_getD, hj]
  rw [this, List.set_set, Int32.add_assoc]
theorem nI_1add (k : Nat) : (1 : Int32) + nI k = nI (1 + k) := nI_add 1 k
theorem eg_drop (pre post : List En) (e : En) {k : Nat} (h : pre.length ≤ k) : eg (pre ++ e :: post) (k + 1) = eg (pre ++ post) k := by
  simp only [eg, List.getD_eq_getElem?_getD]
  rw [List.getElem?_append_right (by omega), List.getElem?_append_right h, show k + 1 - pre.length = k - pre.length + 1 by omega, List.getElem?_cons_succ]
theorem eg_left (pre post post2 : List En) {k : Nat} (h : k < pre.length) : eg (pre ++ post) k = eg (pre ++ post2) k := by
  simp only [eg, List.getD_eq_getElem?_getD]
  rw [List.getElem?_append_left h, List.getElem?_append_left h]
def setEs (s : Sx) (es : List En) (cn : List Int32) : Sx := (s.1, sxB s, sxR s, sxI s, sxH s, es, cn)
theorem sRep_drop {f f' : Nat → Int64} {a : Nat} {s : Sx} (h : sRep f a s) {pre post : List En} {e : En} (hes : sxE s = pre ++ e :: post) (h4 : f' (a + 4) = f (a + 4) - 1) (hlow : ∀ i, i < 11 → i ≠ 4 → f' (a + i) = f (a + i))
    (hmid : ∀ q, a + 11 ≤ q → q < a + 11 + 2 * pre.length → f' q = f q) (hhi : ∀ q, a + 11 + 2 * pre.length ≤ q → q < a + 11 + 2 * (pre.length + post.length) → f' q = f (q + 2)) : sRep f' a (setEs s (pre ++ post) (sxC s)) := by
  obtain ⟨h1, h2, h3, h4', h5, h6, h7, h8⟩ := h
  rw [hes] at h5 h8
  have hl : (pre ++ e :: post).length = pre.length + post.length + 1 := by rw [List.length_append, List.length_cons]; omega
  have hl2 : (pre ++ post).length = pre.length + post.length := List.length_append
  refine ⟨by rw [show a = a + 0 from rfl, hlow 0 (by omega) (by omega)]; exact h1, (rg_eq (hlow 1 (by omega) (by omega))).trans h2, (rg_eq (hlow 2 (by omega) (by omega))).trans h3, (rg_eq (hlow 3 (by omega) (by omega))).trans h4', ?_, (rg_eq (hlow 5 (by omega) (by omega))).trans h6, fun j hj => ?_, fun k hk => ?_⟩
  · show rg f' (a + 4) = nI (pre ++ post).length
    rw [rg, h4, Int64.toInt32_sub, show Int64.toInt32 (f (a + 4)) = rg f (a + 4) from rfl, h5, hl, hl2]
    exact nI_pred _
  · rw [Nat.add_assoc, rg_eq (hlow (6 + j) (by omega) (by omega)), ← Nat.add_assoc]; exact h7 j hj
  · have hk : k < (pre ++ post).length := hk
    rw [hl2] at hk
    show rg f' (a + 11 + 2 * k) = eU (eg (pre ++ post) k) ∧ rg f' (a + 11 + 2 * k + 1) = eT (eg (pre ++ post) k)
    by_cases e2 : k < pre.length
    · obtain ⟨g1, g2⟩ := h8 k (by rw [hl]; omega)
      rw [eg_left pre post (e :: post) e2]
      exact ⟨(rg_eq (hmid _ (by omega) (by omega))).trans g1, (rg_eq (hmid _ (by omega) (by omega))).trans g2⟩
    · obtain ⟨g1, g2⟩ := h8 (k + 1) (by rw [hl]; omega)
      rw [eg_drop pre post e (by omega)] at g1 g2
      refine ⟨?_, ?_⟩
      · rw [rg, hhi _ (by omega) (by omega), show a + 11 + 2 * k + 2 = a + 11 + 2 * (k + 1) by omega]; exact g1
      · rw [rg, hhi _ (by omega) (by omega), show a + 11 + 2 * k + 1 + 2 = a + 11 + 2 * (k + 1) + 1 by omega]; exact g2
section
variable {M : Mem} {m : Nat}
theorem X12_drop_loop {s n : Nat} (hs : s < 4) (hn : n ≤ 59) : ∀ (d k fu : Nat) (R : Rs), k + d = sAt s + 11 + 2 * n → sAt s + 11 ≤ k → d < fu → R.2.1 = false → rg (rowf R) (sAt s + 4) = nI n →
    ∃ f', f_X12_dropEntry_21 fu m (nI s) (nI k) (ov M m R) = some (ov M m (rsR R f')) ∧ ∀ q, f' q = if k ≤ q ∧ q < sAt s + 11 + 2 * n then rowf R (q + 2) else rowf R q := by
  intro d
  induction d with
  | zero =>
    intro k fu R hk h11 hf hw hc
    obtain ⟨fu, rfl⟩ : ∃ m, fu = m + 1 := ⟨fu - 1, by omega⟩
    have hk806 : sAt s + 4 < 806 := by unfold sAt; omega
    have hx : sAt s + 11 + 2 * n < 2 ^ 31 := by unfold sAt; omega
    refine ⟨rowf R, ?_, fun q => by rw [if_neg (by omega)]⟩
    rw [rsR_id]
    have en : f_X12_entries m (nI s) (ov M m R) = some (nI n) := by
      simp only [f_X12_entries, ov_ob, X12_sesAt_e, bso, nI4, X12_get_e (M := M) (m := m) (R := R) hk806, hc]
    simp only [f_X12_dropEntry_21, en, bso, nI_1, X12_entAt_e]
    rw [if_pos (show nI (sAt s + 11 + 2 * n) ≤ nI k from nI_le (by omega) (by omega))]
  | succ d ih =>
    intro k fu R hk h11 hf hw hc
    obtain ⟨fu, rfl⟩ : ∃ m, fu = m + 1 := ⟨fu - 1, by omega⟩
    have hk806 : sAt s + 4 < 806 := by unfold sAt; omega
    have hx : sAt s + 11 + 2 * n < 2 ^ 31 := by unfold sAt; omega
    have hk2 : k + 2 < 806 := by unfold sAt at *; omega
    have en : f_X12_entries m (nI s) (ov M m R) = some (nI n) := by
      simp only [f_X12_entries, ov_ob, X12_sesAt_e, bso, nI4, X12_get_e (M := M) (m := m) (R := R) hk806, hc]
    obtain ⟨f', e', h'⟩ := ih (k + 1) fu (rsR R (vp_updL (rowf R) k (rowf R (k + 2)))) (by omega) (by omega) (by omega) hw (by rw [rowf_R, rg_n _ _ (by omega)]; exact hc)
    rw [rsR_R] at e'
    refine ⟨f', ?_, fun q => ?_⟩
    · simp only [f_X12_dropEntry_21, en, bso, nI_1, X12_entAt_e, r_g1, nI2]
      rw [if_neg (show ¬ (nI (sAt s + 11 + 2 * n) ≤ nI k) from nI_ge (by omega) (by omega)), r_a1' hw hk2]
      simp only [bso]
      rw [r_s1' hw (by omega)]
      exact e'
    · rw [h' q, rowf_R]
      by_cases e1 : k + 1 ≤ q ∧ q < sAt s + 11 + 2 * n
      · rw [if_pos e1, if_pos ⟨by omega, e1.2⟩, pk_uLn (by omega)]
      · rw [if_neg e1]
        by_cases e2 : q = k
        · subst e2; rw [pk_uLs, if_pos ⟨by omega, by omega⟩]
        · rw [pk_uLn e2, if_neg (by omega)]
variable {R : Rs} {S : St}
theorem X12_drop_e (h : rep (rowf R) S) (hw : R.2.1 = false) {s : Nat} (hs : s < stM S) {pre post : List En} {e : En} (hes : sxE (stS S s) = pre ++ e :: post) :
    ∃ f', f_X12_dropEntry m (nI s) (nI (pre.length + 1)) (ov M m R) = some (ov M m (rsR R f')) ∧ rep f' (setSx S s (setEs (stS S s) (pre ++ post) (sxC (stS S s)))) := by
  have h4 := h.2.2.2.2.1
  have hl := h.ls hs
  rw [hes, List.length_append, List.length_cons] at hl
  have hsx := h.sx hs
  have hcnt := hsx.2.2.2.2.1
  rw [hes, List.length_append, List.length_cons] at hcnt
  have hk806 : sAt s + 4 < 806 := by unfold sAt; omega
  obtain ⟨f1, hf1⟩ : ∃ f1, f1 = vp_updL (rowf R) (sAt s + 4) (rowf R (sAt s + 4) - 1) := ⟨_, rfl⟩
  have c1 : rg f1 (sAt s + 4) = nI (pre.length + post.length) := by
    rw [hf1, rg_s, Int64.toInt32_sub, show Int64.toInt32 (rowf R (sAt s + 4)) = rg (rowf R) (sAt s + 4) from rfl, hcnt, show pre.length + (post.length + 1) = pre.length + post.length + 1 by omega]
    exact nI_pred _
  obtain ⟨f', e', h'⟩ := X12_drop_loop (M := M) (m := m) (s := s) (n := pre.length + post.length) (by omega) (by omega) (2 * post.length) (sAt s + 11 + 2 * pre.length) FU (rsR R f1) (by omega) (by omega) (by rw [FU_eq]; omega) hw (by rw [rowf_R]; exact c1)
  rw [rsR_R] at e'
  simp only [rowf_R] at h'
  refine ⟨f', ?_, ?_⟩
  · have a4 := r_a1' (M := M) (m := m) hw hk806
    have s4 := r_s1' (M := M) (m := m) hw hk806 (rowf R (sAt s + 4) - 1)
    rw [← hf1] at s4
    simp only [f_X12_dropEntry, ov_ob, r_g1, X12_sesAt_e, bso, nI4, a4, s4, X12_entAt_e]
    exact e'
  · have hlo : ∀ q, q < sAt s + 11 + 2 * pre.length → q ≠ sAt s + 4 → f' q = rowf R q := fun q q1 q2 => by rw [h' q, if_neg (by omega), hf1, pk_uLn q2]
    refine h.setS hs (fun q hq => ?_) (sRep_drop hsx hes ?_ (fun i hi hi4 => hlo _ (by omega) (by omega)) (fun q q1 q2 => hlo q q2 (by omega)) (fun q q1 q2 => ?_)) (by show (pre ++ post).length ≤ 60; rw [List.length_append]; omega)
    · rw [h' q, if_neg (by omega), hf1, pk_uLn (by omega)]
    · rw [h' _, if_neg (by omega), hf1, pk_uLs]
    · rw [h' q, if_pos ⟨q1, q2⟩, hf1, pk_uLn (by omega)]
theorem X12_tg_loop {s : Nat} {ms : Ms} : ∀ (post pre : List En) (fu : Nat) (R : Rs) (S : St) (ns : List Nt), post.length < fu → rep (rowf R) S → R.2.1 = false → s < stM S → okV S (stS S s) → bof S (sxB (stS S s)) = ms → sxE (stS S s) = pre ++ post → (sxC (stS S s)).length = 5 → ntR R ns → ns.length + post.countP (gone ms) ≤ 244 →
    ∃ R', f_X12_tellGone_2 fu m (nI s) (nI (pre.length + 1)) (ov M m R) = some (ov M m R') ∧ rep (rowf R') (setSx S s (setEs (stS S s) (pre ++ kept ms post) ((sxC (stS S s)).set 1 ((sxC (stS S s)).getD 1 0 + nI (post.countP (gone ms)))))) ∧ ntR R' (ns ++ gN ms (nI s) (pre.length + 1) post) ∧ kpT R R' := by
  intro post
  induction post with
  | nil =>
    intro pre fu R S ns hf h hw hs hok hms hes hc hn hl
    obtain ⟨fu, rfl⟩ : ∃ m, fu = m + 1 := ⟨fu - 1, by simp at hf; omega⟩
    have hle := h.ls hs
    rw [List.append_nil] at hes
    rw [hes] at hle
    refine ⟨R, ?_, ?_, by rw [gN, List.append_nil]; exact hn, kpT.rf R⟩
    · simp only [f_X12_tellGone_2, X12_ents_e h hs, hes, bso, ltT rfl rfl (Nat.lt_succ_self pre.length) (show pre.length + 1 < 2 ^ 31 by omega), if_true]
    · have : setEs (stS S s) (pre ++ kept ms []) ((sxC (stS S s)).set 1 ((sxC (stS S s)).getD 1 0 + nI (([] : List En).countP (gone ms)))) = stS S s := by
        rw [List.countP_nil, cset0, show kept ms [] = [] from rfl, List.append_nil, ← hes]; rfl
      rw [this, setSx_id]; exact h
  | cons e t ih =>
    intro pre fu R S ns hf h hw hs hok hms hes hc hn hl
    obtain ⟨fu, rfl⟩ : ∃ m, fu = m + 1 := ⟨fu - 1, by simp at hf; omega⟩
    simp only [List.length_cons] at hf
    have hle := h.ls hs
    rw [hes, List.length_append, List.length_cons] at hle
    have hlen : (pre ++ e :: t).length = pre.length + 1 + t.length := by rw [List.length_append, List.length_cons]; omega
    have hk : pre.length < (sxE (stS S s)).length := by rw [hes, hlen]; omega
    have he : eg (sxE (stS S s)) pre.length = e := by rw [hes]; exact mid_get _ _ _ _
    have hg := X12_isGone_e (M := M) (m := m) h hs hok hk
    rw [hms, he] at hg
    simp only [f_X12_tellGone_2, X12_ents_e h hs, hes, hlen, bso, ltF rfl rfl (show pre.length + 1 ≤ pre.length + 1 + t.length by omega) (show pre.length + 1 + t.length < 2 ^ 31 by omega), if_false, hg, nI_1]
    rw [List.countP_cons] at hl ⊢
    cases hgo : gone ms e with
    | true =>
      simp only [hgo, if_true] at hl ⊢
      obtain ⟨R1, e1, h1, n1, k1⟩ := X12_notes_e (M := M) (m := m) h hw hn (by omega) hs (show 0 < 3 by omega) hc (nI (pre.length + 1)) 0
      have hw1 : R1.2.1 = false := by rw [k1.1]; exact hw
      have hes1 : sxE (stS (setSx S s (incC (stS S s) 1)) s) = pre ++ e :: t := by rw [stS_set]; exact hes
      obtain ⟨f2, e2, h2⟩ := X12_drop_e (M := M) (m := m) h1 hw1 (s := s) hs hes1
      rw [setSx_setSx, stS_set] at h2
      have hR2 : rep (rowf (rsR R1 f2)) (setSx S s (setEs (incC (stS S s) 1) (pre ++ t) (sxC (incC (stS S s) 1)))) := by rw [rowf_R]; exact h2
      obtain ⟨R', e3, h3, n3, k3⟩ := ih pre fu (rsR R1 f2) _ _ (by omega) hR2 hw1 hs (by rw [stS_set]; exact ⟨hok.1, fun z => absurd (hok.2 z) (by rw [hes]; simp)⟩) (by rw [stS_set]; exact hms) (by rw [stS_set]; rfl) (by rw [stS_set]; show ((sxC (stS S s)).set _ _).length = 5; rw [List.length_set]; exact hc) (ntR_R n1 f2) (by rw [List.length_append, List.length_singleton]; omega)
      rw [setSx_setSx, stS_set] at h3
      have e1' : f_X12_notes m (nI s) 0 (nI (pre.length + 1)) 0 (ov M m R) = some (ov M m R1) := e1
      refine ⟨R', ?_, ?_, ?_, (k1.trans (kpT_R R1 f2)).trans k3⟩
      · simp only [cond_true, e1', e2, bso, e3]
      · have hcc : (sxC (setEs (incC (stS S s) 1) (pre ++ t) (sxC (incC (stS S s) 1)))).set 1 ((sxC (setEs (incC (stS S s) 1) (pre ++ t) (sxC (incC (stS S s) 1)))).getD 1 0 + nI (t.countP (gone ms))) = (sxC (stS S s)).set 1 ((sxC (stS S s)).getD 1 0 + nI (t.countP (gone ms) + 1)) := by
          show ((sxC (stS S s)).set 1 ((sxC (stS S s)).getD 1 0 + 1)).set 1 (((sxC (stS S s)).set 1 ((sxC (stS S s)).getD 1 0 + 1)).getD 1 0 + nI (t.countP (gone ms))) = _
          rw [cset2 (by omega), nI_1add, Nat.add_comm]
        rw [hcc] at h3
        have hk3 : kept ms (e :: t) = kept ms t := by simp [kept, hgo]
        rw [hk3]; exact h3
      · have : gN ms (nI s) (pre.length + 1) (e :: t) = (nI s, 0, nI (pre.length + 1), 0) :: gN ms (nI s) (pre.length + 1) t := by rw [gN, if_pos hgo]
        rw [this]
        have n3' : ntR R' (ns ++ [(nI s, nI 0, nI (pre.length + 1), 0)] ++ gN ms (nI s) (pre.length + 1) t) := n3
        rw [List.append_assoc] at n3'
        exact n3'
    | false =>
      simp only [hgo, Bool.false_eq_true, if_false, Nat.add_zero] at hl ⊢
      obtain ⟨R', e3, h3, n3, k3⟩ := ih (pre ++ [e]) fu R S ns (by omega) h hw hs hok hms (by rw [hes]; simp) hc hn hl
      rw [List.length_append, List.length_singleton] at e3 n3
      refine ⟨R', ?_, ?_, ?_, k3⟩
      · simp only [cond_false, e3]
      · have hk3 : pre ++ [e] ++ kept ms t = pre ++ kept ms (e :: t) := by simp [kept, hgo]
        rw [hk3] at h3; exact h3
      · have : gN ms (nI s) (pre.length + 1) (e :: t) = gN ms (nI s) (pre.length + 1 + 1) t := by rw [gN, if_neg (by rw [hgo]; decide)]
        rw [this]; exact n3
end
