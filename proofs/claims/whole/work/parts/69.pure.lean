/-! PURE: the reference, telling, the rest -/
theorem setEs_id (s : Sx) : setEs s (sxE s) (sxC s) = s := rfl
section
variable {M : Mem} {m : Nat} {R : Rs} {S : St}
/-- an entry's told flags are written -/
theorem X12_told_e (h : rep (rowf R) S) (hw : R.2.1 = false) {s : Nat} (hs : s < stM S) {pre post : List En} {e : En} (hes : sxE (stS S s) = pre ++ e :: post) (v : Int32) :
    ∃ f', sJ (ov M m R) 1 (m + 1) (nI (sAt s + 11 + 2 * pre.length + 1)) (Int32.toInt64 v) = some (ov M m (rsR R f')) ∧ rep f' (setSx S s (setEs (stS S s) (pre ++ (eU e, v) :: post) (sxC (stS S s)))) := by
  have h4 := h.2.2.2.2.1
  have hl := h.ls hs
  have hl2 : (pre ++ e :: post).length = pre.length + 1 + post.length := by rw [List.length_append, List.length_cons]; omega
  have hl3 : (pre ++ (eU e, v) :: post).length = pre.length + 1 + post.length := by rw [List.length_append, List.length_cons]; omega
  rw [hes, hl2] at hl
  have hk : sAt s + 11 + 2 * pre.length + 1 < 806 := by unfold sAt; omega
  refine ⟨_, r_s1' hw hk _, h.setS hs (upd_off _ _ (by omega) (by omega)) ?_ (by show (pre ++ (eU e, v) :: post).length ≤ 60; omega)⟩
  obtain ⟨h1, h2, h3, h4', h5, h6, h7, h8⟩ := h.sx hs
  rw [hes] at h5 h8
  refine ⟨by rw [pk_uLn (by omega)]; exact h1, by rw [rg_n _ _ (by omega)]; exact h2, by rw [rg_n _ _ (by omega)]; exact h3, by rw [rg_n _ _ (by omega)]; exact h4', ?_, by rw [rg_n _ _ (by omega)]; exact h6, fun j hj => by rw [rg_n _ _ (by omega)]; exact h7 j hj, fun k hk2 => ?_⟩
  · show _ = nI (pre ++ (eU e, v) :: post).length
    rw [rg_n _ _ (by omega), h5, hl2, hl3]
  · have hk2 : k < (pre ++ (eU e, v) :: post).length := hk2
    rw [hl3] at hk2
    obtain ⟨g1, g2⟩ := h8 k (by rw [hl2]; exact hk2)
    show rg _ (sAt s + 11 + 2 * k) = eU (eg (pre ++ (eU e, v) :: post) k) ∧ rg _ (sAt s + 11 + 2 * k + 1) = eT (eg (pre ++ (eU e, v) :: post) k)
    by_cases ek : k = pre.length
    · subst ek
      rw [show eg (pre ++ (eU e, v) :: post) pre.length = (eU e, v) from mid_get _ _ _ _, rg_n _ _ (by omega), rg_s, Int32.toInt32_toInt64, g1, show eg (pre ++ e :: post) pre.length = e from mid_get _ _ _ _]
      exact ⟨rfl, rfl⟩
    · have : eg (pre ++ (eU e, v) :: post) k = eg (pre ++ e :: post) k := by
        by_cases e2 : k < pre.length
        · exact eg_left _ _ _ e2
        · obtain ⟨k, rfl⟩ : ∃ j, k = j + 1 := ⟨k - 1, by omega⟩
          rw [eg_drop _ _ _ (by omega), eg_drop _ _ _ (by omega)]
      rw [this, rg_n _ _ (by omega), rg_n _ _ (by omega)]
      exact ⟨g1, g2⟩
theorem X12_tf_loop {s : Nat} {ms : Ms} : ∀ (post pre : List En) (fu : Nat) (R : Rs) (S : St) (ns : List Nt), post.length < fu → rep (rowf R) S → R.2.1 = false → s < stM S → okV S (stS S s) → bof S (sxB (stS S s)) = ms → sxE (stS S s) = pre ++ post → (sxC (stS S s)).length = 5 → ntR R ns → ns.length + post.countP (chg ms) ≤ 244 →
    ∃ R', f_X12_tellFlags_2 fu m (nI s) (nI (pre.length + 1)) (ov M m R) = some (ov M m R') ∧ rep (rowf R') (setSx S s (setEs (stS S s) (pre ++ cE ms post) ((sxC (stS S s)).set 2 ((sxC (stS S s)).getD 2 0 + nI (post.countP (chg ms)))))) ∧ ntR R' (ns ++ cN ms (nI s) (pre.length + 1) post) ∧ kpT R R' := by
  intro post
  induction post with
  | nil =>
    intro pre fu R S ns hf h hw hs hok hms hes hc hn hl
    obtain ⟨fu, rfl⟩ : ∃ m, fu = m + 1 := ⟨fu - 1, by simp at hf; omega⟩
    have hle := h.ls hs
    rw [List.append_nil] at hes
    rw [hes] at hle
    refine ⟨R, ?_, ?_, by rw [cN, List.append_nil]; exact hn, kpT.rf R⟩
    · simp only [f_X12_tellFlags_2, X12_ents_e h hs, hes, bso, ltT rfl rfl (Nat.lt_succ_self pre.length) (show pre.length + 1 < 2 ^ 31 by omega), if_true]
    · have : setEs (stS S s) (pre ++ cE ms []) ((sxC (stS S s)).set 2 ((sxC (stS S s)).getD 2 0 + nI (([] : List En).countP (chg ms)))) = stS S s := by
        rw [List.countP_nil, cset0, show cE ms [] = [] from rfl, List.append_nil, ← hes]; rfl
      rw [this, setSx_id]; exact h
  | cons e t ih =>
    intro pre fu R S ns hf h hw hs hok hms hes hc hn hl
    obtain ⟨fu, rfl⟩ : ∃ m, fu = m + 1 := ⟨fu - 1, by simp at hf; omega⟩
    simp only [List.length_cons] at hf
    have hle := h.ls hs
    rw [hes, List.length_append, List.length_cons] at hle
    have hlen : (pre ++ e :: t).length = pre.length + 1 + t.length := by rw [List.length_append, List.length_cons]; omega
    have hk : pre.length < (sxE (stS S s)).length := by rw [hes, hlen]; omega
    have he : eg (sxE (stS S s)) pre.length = e := by rw [hes]; exact mid_get _ _ _ _
    have hg := X12_isOther_e (M := M) (m := m) h hs hok hk
    rw [hms, he] at hg
    simp only [f_X12_tellFlags_2, X12_ents_e h hs, hes, hlen, bso, ltF rfl rfl (show pre.length + 1 ≤ pre.length + 1 + t.length by omega) (show pre.length + 1 + t.length < 2 ^ 31 by omega), if_false, hg, f_X12_tellFlags_55, nI_1]
    rw [List.countP_cons] at hl ⊢
    cases hgo : chg ms e with
    | true =>
      simp only [hgo, if_true] at hl ⊢
      have hng : gone ms e = false := by
        unfold chg at hgo
        unfold gone
        cases hm : mix ms (eU e) with
        | none => rw [hm] at hgo; cases hgo
        | some j => rfl
      have hfl := X12_flagsOf_e (M := M) (m := m) h hs hok hk (by rw [hms, he]; exact hng)
      rw [hms, he] at hfl
      obtain ⟨f1, e1, h1⟩ := X12_told_e (M := M) (m := m) h hw hs hes (flg ms e)
      have hR1 : rep (rowf (rsR R f1)) (setSx S s (setEs (stS S s) (pre ++ (eU e, flg ms e) :: t) (sxC (stS S s)))) := by rw [rowf_R]; exact h1
      have hk1 : pre.length < (sxE (stS (setSx S s (setEs (stS S s) (pre ++ (eU e, flg ms e) :: t) (sxC (stS S s)))) s)).length := by
        rw [stS_set]; show pre.length < (pre ++ (eU e, flg ms e) :: t).length
        rw [List.length_append, List.length_cons]; omega
      have hok1 : okV (setSx S s (setEs (stS S s) (pre ++ (eU e, flg ms e) :: t) (sxC (stS S s)))) (stS (setSx S s (setEs (stS S s) (pre ++ (eU e, flg ms e) :: t) (sxC (stS S s)))) s) := by
        rw [stS_set]; exact ⟨hok.1, fun z => absurd (hok.2 z) (by rw [hes]; simp)⟩
      have hbo : bof (setSx S s (setEs (stS S s) (pre ++ (eU e, flg ms e) :: t) (sxC (stS S s)))) (sxB (stS (setSx S s (setEs (stS S s) (pre ++ (eU e, flg ms e) :: t) (sxC (stS S s)))) s)) = ms := by
        rw [stS_set]; exact hms
      have he1 : eg (sxE (stS (setSx S s (setEs (stS S s) (pre ++ (eU e, flg ms e) :: t) (sxC (stS S s)))) s)) pre.length = (eU e, flg ms e) := by
        rw [stS_set]; exact mid_get _ _ _ _
      have hfl2 := X12_flagsOf_e (M := M) (m := m) hR1 hs hok1 hk1 (by rw [hbo, he1]; exact hng)
      rw [hbo, he1] at hfl2
      have hfl2 : f_X12_flagsOf m (nI s) (nI (pre.length + 1)) (ov M m (rsR R f1)) = some (flg ms e) := hfl2
      obtain ⟨R2, e2, h2, n2, k2⟩ := X12_notes_e (M := M) (m := m) hR1 hw (ntR_R hn f1) (by omega) hs (show 1 < 3 by omega) (by rw [stS_set]; exact hc) (nI (pre.length + 1)) (flg ms e)
      rw [setSx_setSx, stS_set] at h2
      obtain ⟨R', e3, h3, n3, k3⟩ := ih (pre ++ [(eU e, flg ms e)]) fu R2 _ _ (by omega) h2 (by rw [k2.1]; exact hw) hs (by rw [stS_set]; exact ⟨hok.1, fun z => absurd (hok.2 z) (by rw [hes]; simp)⟩) (by rw [stS_set]; exact hms) (by rw [stS_set]; show pre ++ (eU e, flg ms e) :: t = _; simp) (by rw [stS_set]; show ((sxC (stS S s)).set _ _).length = 5; rw [List.length_set]; exact hc) n2 (by rw [List.length_append, List.length_singleton]; omega)
      rw [setSx_setSx, stS_set] at h3
      rw [List.length_append, List.length_singleton] at e3 n3
      have e2' : f_X12_notes m (nI s) 1 (nI (pre.length + 1)) (flg ms e) (ov M m (rsR R f1)) = some (ov M m R2) := e2
      refine ⟨R', ?_, ?_, ?_, ((kpT_R R f1).trans k2).trans k3⟩
      · simp only [cond_true, r_g1, X12_entAt_e, bso, hfl, nI_1, e1, hfl2, e2', e3]
      · have hcc : ((sxC (stS S s)).set 2 ((sxC (stS S s)).getD 2 0 + 1)).set 2 (((sxC (stS S s)).set 2 ((sxC (stS S s)).getD 2 0 + 1)).getD 2 0 + nI (t.countP (chg ms))) = (sxC (stS S s)).set 2 ((sxC (stS S s)).getD 2 0 + nI (t.countP (chg ms) + 1)) := by
          rw [cset2 (by omega), nI_1add, Nat.add_comm]
        have hk3 : pre ++ [(eU e, flg ms e)] ++ cE ms t = pre ++ cE ms (e :: t) := by simp [cE, hgo]
        rw [hk3] at h3
        rw [← hcc]; exact h3
      · have : cN ms (nI s) (pre.length + 1) (e :: t) = (nI s, 1, nI (pre.length + 1), flg ms e) :: cN ms (nI s) (pre.length + 1 + 1) t := by rw [cN, if_pos hgo]
        rw [this]
        have n3' : ntR R' (ns ++ [(nI s, nI 1, nI (pre.length + 1), flg ms e)] ++ cN ms (nI s) (pre.length + 1 + 1) t) := n3
        rw [List.append_assoc] at n3'
        exact n3'
    | false =>
      simp only [hgo, Bool.false_eq_true, if_false, Nat.add_zero] at hl ⊢
      obtain ⟨R', e3, h3, n3, k3⟩ := ih (pre ++ [e]) fu R S ns (by omega) h hw hs hok hms (by rw [hes]; simp) hc hn hl
      rw [List.length_append, List.length_singleton] at e3 n3
      refine ⟨R', ?_, ?_, ?_, k3⟩
      · simp only [cond_false, e3]
      · have hk3 : pre ++ [e] ++ cE ms t = pre ++ cE ms (e :: t) := by simp [cE, hgo]
        rw [hk3] at h3; exact h3
      · have : cN ms (nI s) (pre.length + 1) (e :: t) = cN ms (nI s) (pre.length + 1 + 1) t := by rw [cN, if_neg (by rw [hgo]; decide)]
        rw [this]; exact n3
def setNw (s : Sx) (x : Int32 × List En) : Sx := (s.1, sxB s, sxR s, sxI s, x.1, x.2, sxC s)
theorem X12_tn_loop {s b had : Nat} {ms : Ms} : ∀ (post pre : Ms) (fu : Nat) (R : Rs) (S : St), pre ++ post = ms → post.length < fu → rep (rowf R) S → s < stM S → b < stN S → sxB (stS S s) = nI b → (stB S b).2.2 = ms →
    ∃ f', f_X12_tellNew_8 fu m (nI s) (nI had) (nI pre.length) (ov M m R) = f_X12_tellNew_67 m (nI s) (nI had) (ov M m (rsR R f')) ∧ rep f' (setSx S s (setNw (stS S s) (nw (sxH (stS S s)) (sxE (stS S s)) post))) := by
  intro post
  induction post with
  | nil =>
    intro pre fu R S hp hf h hs hb hbx hms
    obtain ⟨fu, rfl⟩ : ∃ m, fu = m + 1 := ⟨fu - 1, by simp at hf; omega⟩
    have hlb := h.lb hb
    rw [List.append_nil] at hp
    subst hp
    rw [hms] at hlb
    refine ⟨rowf R, ?_, ?_⟩
    · rw [rsR_id]
      simp only [f_X12_tellNew_8, X12_boxOf_e h hs, hbx, X12_many_e h hb, hms, bso, leT rfl rfl (Nat.le_refl pre.length) (show pre.length < 2 ^ 31 by omega), if_true]
    · have : setNw (stS S s) (nw (sxH (stS S s)) (sxE (stS S s)) []) = stS S s := rfl
      rw [this, setSx_id]; exact h
  | cons x t ih =>
    intro pre fu R S hp hf h hs hb hbx hms
    obtain ⟨fu, rfl⟩ : ∃ m, fu = m + 1 := ⟨fu - 1, by simp at hf; omega⟩
    simp only [List.length_cons] at hf
    have hlb := h.lb hb
    rw [hms] at hlb
    have hle := h.ls hs
    have hlt : pre.length < (stB S b).2.2.length := by rw [hms, ← hp]; simp
    have hlt2 : pre.length < ms.length := by rw [← hms]; exact hlt
    have hm : mg (stB S b).2.2 pre.length = x := by rw [hms, ← hp]; exact mid_get _ _ _ _
    have hp' : (pre ++ [x]) ++ t = ms := by rw [← hp]; simp
    have hln : (pre ++ [x]).length = pre.length + 1 := by simp
    simp only [f_X12_tellNew_8, X12_boxOf_e h hs, hbx, X12_many_e h hb, bso, hms, leF rfl rfl hlt2 (show ms.length < 2 ^ 31 by omega), if_false, X12_ents_e h hs]
    by_cases hr : (sxE (stS S s)).length < 60
    · rw [if_neg (show ¬ ((60 : Int32) ≤ nI (sxE (stS S s)).length) from fun z => absurd ((nI_leI (a := 60) (by omega) (by omega)).mp z) (by omega))]
      simp only [(X12_ofM_e (M := M) (m := m) h hb hlt).1, hm, X12_sesAt_e, nI5, X12_ses_f h hs (show 5 < 11 by omega), (h.sx hs).2.2.2.2.2.1, bso, f_X12_tellNew_61, nI_1]
      by_cases hwx : mU x ≤ sxH (stS S s)
      · obtain ⟨f', e', h'⟩ := ih (pre ++ [x]) fu R S hp' (by omega) h hs hb hbx hms
        rw [hln] at e'
        refine ⟨f', ?_, ?_⟩
        · simp only [hwx, if_true, e']
        · simp only [nw, hr, newer, hwx, decide_true, Bool.not_true, Bool.false_eq_true, if_false, if_true]
          exact h'
      · obtain ⟨f1, e1, h1⟩ := X12_put_e (M := M) (m := m) h hs hb hbx hlt hr
        rw [hm] at h1
        obtain ⟨f', e', h'⟩ := ih (pre ++ [x]) fu (rsR R f1) (setSx S s (putE (stS S s) x)) hp' (by omega) (by rw [rowf_R]; exact h1) hs hb (by rw [stS_set]; exact hbx) hms
        rw [hln, rsR_R] at e'
        rw [setSx_setSx, stS_set] at h'
        refine ⟨f', ?_, ?_⟩
        · simp only [hwx, if_false, e1, bso, e']
        · simp only [nw, hr, newer, hwx, decide_false, Bool.not_false, if_true]
          exact h'
    · rw [if_pos (show (60 : Int32) ≤ nI (sxE (stS S s)).length from (nI_leI (a := 60) (by omega) (by omega)).mpr (by omega))]
      refine ⟨rowf R, by rw [rsR_id], ?_⟩
      have : setNw (stS S s) (nw (sxH (stS S s)) (sxE (stS S s)) (x :: t)) = stS S s := by simp only [nw, hr, if_false]; rfl
      rw [this, setSx_id]; exact h
theorem X12_tellNew_e (h : rep (rowf R) S) (hw : R.2.1 = false) {s b : Nat} (hs : s < stM S) (hb : b < stN S) (hbx : sxB (stS S s) = nI b) (hc : (sxC (stS S s)).length = 5) {ns : List Nt} (hn : ntR R ns) (hl : ns.length ≤ 244) :
    let x := nw (sxH (stS S s)) (sxE (stS S s)) (bof S (sxB (stS S s)))
    ∃ R', f_X12_tellNew m (nI s) (ov M m R) = some (ov M m R') ∧ rep (rowf R') (setSx S s ((stS S s).1, sxB (stS S s), sxR (stS S s), sxI (stS S s), x.1, x.2, wC (sxC (stS S s)) (sxE (stS S s)) x.2)) ∧ ntR R' (ns ++ wN (nI s) (sxE (stS S s)) x.2) ∧ kpT R R' := by
  intro x
  have h3 := h.2.2.2.1
  have hlb := h.lb hb
  have hle := h.ls hs
  have hbo : bof S (sxB (stS S s)) = (stB S b).2.2 := by rw [hbx, bof_in (by omega)]
  obtain ⟨f', e', h'⟩ := X12_tn_loop (M := M) (m := m) (s := s) (b := b) (had := (sxE (stS S s)).length) (ms := bof S (sxB (stS S s))) (bof S (sxB (stS S s))) [] FU R S rfl (by rw [hbo, FU_eq]; omega) h hs hb hbx hbo.symm
  have e' : f_X12_tellNew_8 FU m (nI s) (nI (sxE (stS S s)).length) 0 (ov M m R) = f_X12_tellNew_67 m (nI s) (nI (sxE (stS S s)).length) (ov M m (rsR R f')) := e'
  have hR : rep (rowf (rsR R f')) (setSx S s (setNw (stS S s) x)) := by rw [rowf_R]; exact h'
  have hq : (sxE (stS S s)).length ≤ x.2.length := nw_len _ _ _
  have hen := X12_ents_e (M := M) (m := m) hR (s := s) hs
  rw [stS_set] at hen
  have hen : f_X12_entries m (nI s) (ov M m (rsR R f')) = some (nI x.2.length) := hen
  have hle2 := hR.ls (s := s) hs
  rw [stS_set] at hle2
  have hle2 : x.2.length ≤ 60 := hle2
  by_cases e : x.2.length = (sxE (stS S s)).length
  · refine ⟨rsR R f', ?_, ?_, ?_, kpT_R R f'⟩
    · simp only [f_X12_tellNew, ov_ob, X12_ents_e h hs, bso, e', f_X12_tellNew_67, hen, e, leT rfl rfl (Nat.le_refl (sxE (stS S s)).length) (show (sxE (stS S s)).length < 2 ^ 31 by omega), if_true]
    · rw [wC, if_pos e]; exact hR
    · rw [wN, if_pos e, List.append_nil]; exact hn
  · obtain ⟨R2, e2, h2, n2, k2⟩ := X12_notes_e (M := M) (m := m) hR hw (ntR_R hn f') (by omega) (s := s) hs (show 2 < 3 by omega) (by rw [stS_set]; exact hc) (nI x.2.length) 0
    rw [setSx_setSx, stS_set] at h2
    have e2' : f_X12_notes m (nI s) 2 (nI x.2.length) 0 (ov M m (rsR R f')) = some (ov M m R2) := e2
    refine ⟨R2, ?_, ?_, ?_, (kpT_R R f').trans k2⟩
    · simp only [f_X12_tellNew, ov_ob, X12_ents_e h hs, bso, e', f_X12_tellNew_67, hen, leF rfl rfl (show (sxE (stS S s)).length < x.2.length by omega) (show x.2.length < 2 ^ 31 by omega), if_false, e2']
    · rw [wC, if_neg e]; exact h2
    · rw [wN, if_neg e]; exact n2
theorem tlS_none (al : Bool) (me : Int32) {s : Sx} (h : sxE s = []) : tlS al me [] s = (s, []) := by
  have e2 : (sxC s).set 1 ((sxC s).getD 1 0 + nI 0) = sxC s := cset0 _ _
  have e3 : (sxC s).set 2 ((sxC s).getD 2 0 + nI 0) = sxC s := cset0 _ _
  cases al with
  | false =>
    show ((s.1, sxB s, sxR s, sxI s, (nw (sxH s) (cE [] (sxE s)) []).1, (nw (sxH s) (cE [] (sxE s)) []).2, wC ((sxC s).set 2 ((sxC s).getD 2 0 + nI ((sxE s).countP (chg [])))) (cE [] (sxE s)) (nw (sxH s) (cE [] (sxE s)) []).2), [] ++ (cN [] me 1 (sxE s) ++ wN me (cE [] (sxE s)) (nw (sxH s) (cE [] (sxE s)) []).2)) = _
    rw [h]
    show ((s.1, sxB s, sxR s, sxI s, sxH s, ([] : List En), (sxC s).set 2 ((sxC s).getD 2 0 + nI 0)), ([] : List Nt)) = _
    rw [e3, ← h]; rfl
  | true =>
    have : tlS true me [] s = ((s.1, sxB s, sxR s, sxI s, sxH s, ([] : List En), ((sxC s).set 1 ((sxC s).getD 1 0 + nI 0)).set 2 (((sxC s).set 1 ((sxC s).getD 1 0 + nI 0)).getD 2 0 + nI 0)), ([] : List Nt)) := by
      unfold tlS tlG
      rw [h]; rfl
    rw [this, e2, e3, ← h]; rfl
theorem X12_tells_e (h : rep (rowf R) S) (hw : R.2.1 = false) {s : Nat} (hs : s < stM S) (hok : okV S (stS S s)) (hc : (sxC (stS S s)).length = 5) {ns : List Nt} (hn : ntR R ns) (al : Bool) (hl : ns.length + (tlK al S s).2.length ≤ 244) :
    ∃ R', f_X12_tells m (nI s) al (ov M m R) = some (nI (tlK al S s).2.length, ov M m R') ∧ rep (rowf R') (setSx S s (tlK al S s).1) ∧ ntR R' (ns ++ (tlK al S s).2) ∧ kpT R R' := by
  have h3 := h.2.2.2.1
  rcases hok.1 with hb0 | ⟨b, hb, hbx⟩
  · have hT : tlK al S s = (stS S s, []) := by
      rw [tlK, hb0, bof_no]; exact tlS_none al _ (hok.2 hb0)
    refine ⟨R, ?_, ?_, ?_, kpT.rf R⟩
    · rw [hT]
      simp only [f_X12_tells, ov_ob, r_g5, X12_hasBox_e h hs, hb0, decide_true, Bool.not_true, bso, cond_false]; rfl
    · rw [hT, setSx_id]; exact h
    · rw [hT, List.append_nil]; exact hn
  · have hbo : bof S (sxB (stS S s)) = (stB S b).2.2 := by rw [hbx, bof_in (by omega)]
    have hhb : f_X12_hasBox m (nI s) (ov M m R) = some true := by rw [X12_hasBox_e h hs, hbx, nd1 (by omega)]
    have hm2 : ¬ (nI b = -1) := by rw [nI_m1 (by omega)]; exact id
    have key : ∀ (R1 : Rs) (g : List En × List Int32 × List Nt), g = tlG al (nI s) (bof S (sxB (stS S s))) (sxE (stS S s)) (sxC (stS S s)) → rep (rowf R1) (setSx S s (setEs (stS S s) g.1 g.2.1)) → ntR R1 (ns ++ g.2.2) → kpT R R1 → g.2.1.length = 5 →
        ∃ R', f_X12_tells_24 m (nI s) (nI ns.length) (ov M m R1) = some (nI (tlK al S s).2.length, ov M m R') ∧ rep (rowf R') (setSx S s (tlK al S s).1) ∧ ntR R' (ns ++ (tlK al S s).2) ∧ kpT R R' := by
      intro R1 g hg h1 n1 k1 hc1
      have hL : (tlK al S s).2.length = g.2.2.length + (g.1.countP (chg (bof S (sxB (stS S s)))) + (wN (nI s) (cE (bof S (sxB (stS S s))) g.1) (nw (sxH (stS S s)) (cE (bof S (sxB (stS S s))) g.1) (bof S (sxB (stS S s)))).2).length) := by
        rw [hg]
        rw [tlK, tlS_n2, List.length_append, List.length_append, cN_len]
      rw [hL] at hl
      have hw1 : R1.2.1 = false := by rw [k1.1]; exact hw
      obtain ⟨R2, e2, h2, n2, k2⟩ := X12_tf_loop (M := M) (m := m) (s := s) (ms := bof S (sxB (stS S s))) g.1 [] FU R1 _ _ (by have := h1.ls (s := s) hs; rw [stS_set] at this; have this : g.1.length ≤ 60 := this; rw [FU_eq]; omega) h1 hw1 hs (by rw [stS_set]; exact ⟨hok.1, fun z => absurd (hbx.symm.trans z) hm2⟩) (by rw [stS_set]; rfl) (by rw [stS_set]; rfl) (by rw [stS_set]; exact hc1) n1 (by rw [List.length_append]; omega)
      rw [setSx_setSx, stS_set] at h2
      have hw2 : R2.2.1 = false := by rw [k2.1]; exact hw1
      obtain ⟨R3, e3, h3', n3, k3⟩ := X12_tellNew_e (M := M) (m := m) h2 hw2 (s := s) (b := b) hs hb (by rw [stS_set]; exact hbx) (by rw [stS_set]; show (g.2.1.set _ _).length = 5; rw [List.length_set]; exact hc1) n2 (by rw [List.length_append, List.length_append, cN_len]; omega)
      rw [setSx_setSx, stS_set] at h3'
      have hN : R3.1 5 = nI (ns ++ (tlK al S s).2).length := by
        have := n3.1
        rw [stS_set] at this
        rw [this, List.length_append, List.length_append, List.length_append, List.length_append, cN_len, hL]
        congr 1
        show _ + _ + _ + (wN (nI s) (cE (bof S (sxB (stS S s))) g.1) (nw (sxH (stS S s)) (cE (bof S (sxB (stS S s))) g.1) (bof S (sxB (stS S s)))).2).length = _
        omega
      have hR3 : rep (rowf R3) (setSx S s (tlK al S s).1) := by rw [tlK, tlS]; rw [hg] at h3'; exact h3'
      have hn3 : ntR R3 (ns ++ (tlK al S s).2) := by
        rw [stS_set] at n3
        have : ns ++ (tlK al S s).2 = ns ++ g.2.2 ++ cN (bof S (sxB (stS S s))) (nI s) 1 g.1 ++ wN (nI s) (cE (bof S (sxB (stS S s))) g.1) (nw (sxH (stS S s)) (cE (bof S (sxB (stS S s))) g.1) (bof S (sxB (stS S s)))).2 := by
          rw [hg]
          rw [tlK, tlS_n2]
          simp only [List.append_assoc]
        rw [this]; exact n3
      refine ⟨R3, ?_, hR3, hn3, (k1.trans k2).trans k3⟩
      have e2' : f_X12_tellFlags m (nI s) (ov M m R1) = some (ov M m R2) := by rw [f_X12_tellFlags, ov_ob]; exact e2
      simp only [f_X12_tells_24, e2', e3, r_g5, bso, hN, List.length_append]
      rw [nI_sub (by omega), show ns.length + (tlK al S s).2.length - ns.length = (tlK al S s).2.length by omega]
    have hle := h.ls hs
    cases al with
    | false =>
      obtain ⟨R', e', r1, r2, r3⟩ := key R (sxE (stS S s), sxC (stS S s), []) rfl (by rw [setEs_id, setSx_id]; exact h) (by rw [List.append_nil]; exact hn) (kpT.rf R) hc
      refine ⟨R', ?_, r1, r2, r3⟩
      simp only [f_X12_tells, ov_ob, r_g5, hhb, bso, cond_true, cond_false, hn.1]
      exact e'
    | true =>
      have hL : (sxE (stS S s)).countP (gone (bof S (sxB (stS S s)))) ≤ (tlK true S s).2.length := by
        show _ ≤ (gN _ _ 1 (sxE (stS S s)) ++ _).length
        rw [List.length_append, gN_len]; omega
      obtain ⟨R1, e1, h1, n1, k1⟩ := X12_tg_loop (M := M) (m := m) (s := s) (ms := bof S (sxB (stS S s))) (sxE (stS S s)) [] FU R S ns (by rw [FU_eq]; omega) h hw hs hok rfl rfl hc hn (by omega)
      obtain ⟨R', e', r1, r2, r3⟩ := key R1 _ rfl h1 n1 k1 (by show ((sxC (stS S s)).set _ _).length = 5; rw [List.length_set]; exact hc)
      refine ⟨R', ?_, r1, r2, r3⟩
      have e1' : f_X12_tellGone m (nI s) (ov M m R) = some (ov M m R1) := by rw [f_X12_tellGone, ov_ob]; exact e1
      simp only [f_X12_tells, ov_ob, r_g5, hhb, bso, cond_true, hn.1, e1']
      exact e'
def okAll (S : St) : Prop := ∀ k, k < stM S → okV S (stS S k) ∧ (sxC (stS S k)).length = 5
theorem tlS_C (al : Bool) (me : Int32) (ms : Ms) (s : Sx) : (sxC (tlS al me ms s).1).length = (sxC s).length := by
  show (wC _ _ _).length = _
  unfold wC
  have : (tlG al me ms (sxE s) (sxC s)).2.1.length = (sxC s).length := by
    cases al with
    | false => rfl
    | true => exact List.length_set
  split
  · rw [List.length_set, this]
  · rw [List.length_set, List.length_set, this]
theorem tlK_ok {S : St} (h : okAll S) (k : Nat) (hk : k < stM S) : okAll (setSx S k (tlK true S k).1) := by
  intro j hj
  have hj : j < stM S := hj
  by_cases e : j = k
  · subst e
    rw [stS_set]
    obtain ⟨g1, g2⟩ := h j hj
    refine ⟨⟨g1.1, fun z => ?_⟩, by rw [tlK, tlS_C]; exact g2⟩
    have z : sxB (stS S j) = -1 := z
    rw [tlK, z, bof_no, tlS_none _ _ (g1.2 z)]
    exact g1.2 z
  · show okV _ (va_up (stS S) k _ j) ∧ (sxC (va_up (stS S) k _ j)).length = 5
    rw [va_up_n _ _ e]
    exact h j hj
theorem X12_idle_loop : ∀ (n k fu : Nat) (R : Rs) (S : St) (ns : List Nt), k + n = stM S → n < fu → rep (rowf R) S → R.2.1 = false → okAll S → ntR R ns → (tlI n k (S, ns)).2.length ≤ 244 →
    ∃ R', f_X12_tellsIdle_2 fu m (nI k) (ov M m R) = some (ov M m R') ∧ rep (rowf R') (tlI n k (S, ns)).1 ∧ ntR R' (tlI n k (S, ns)).2 ∧ kpT R R' := by
  intro n
  induction n with
  | zero =>
    intro k fu R S ns hk hf h hw hok hn hl
    obtain ⟨fu, rfl⟩ : ∃ m, fu = m + 1 := ⟨fu - 1, by omega⟩
    obtain rfl : k = stM S := by omega
    have h4 := h.2.2.2.2.1
    refine ⟨R, ?_, h, hn, kpT.rf R⟩
    simp only [f_X12_tellsIdle_2, X12_sess_e h, bso, leT rfl rfl (Nat.le_refl (stM S)) (show stM S < 2 ^ 31 by omega), if_true]
  | succ n ih =>
    intro k fu R S ns hk hf h hw hok hn hl
    obtain ⟨fu, rfl⟩ : ∃ m, fu = m + 1 := ⟨fu - 1, by omega⟩
    have h4 := h.2.2.2.2.1
    have hks : k < stM S := by omega
    simp only [f_X12_tellsIdle_2, X12_sess_e h, bso, leF rfl rfl hks (show stM S < 2 ^ 31 by omega), if_false, X12_idle_e h hks, f_X12_tellsIdle_25, nI_1]
    unfold tlI at hl ⊢
    rw [fd] at hl ⊢
    cases hi : sxI (stS S k) with
    | false =>
      simp only [hi, cond_false, Bool.false_eq_true, if_false] at hl ⊢
      exact ih (k + 1) fu R S ns (by omega) (by omega) h hw hok hn hl
    | true =>
      simp only [hi, cond_true, if_true] at hl ⊢
      have hq := tlI_len n (k + 1) (setSx S k (tlK true S k).1, ns ++ (tlK true S k).2)
      unfold tlI at hq
      rw [List.length_append] at hq
      obtain ⟨R1, e1, h1, n1, k1⟩ := X12_tells_e (M := M) (m := m) h hw hks (hok k hks).1 (hok k hks).2 hn true (by omega)
      obtain ⟨R', e', h', n', k'⟩ := ih (k + 1) fu R1 (setSx S k (tlK true S k).1) (ns ++ (tlK true S k).2) (by show k + 1 + n = stM S; omega) (by omega) h1 (by rw [k1.1]; exact hw) (tlK_ok hok k hks) n1 hl
      exact ⟨R', by simp only [e1, bso, e'], h', n', k1.trans k'⟩
theorem X12_idle_all (h : rep (rowf R) S) (hw : R.2.1 = false) (hok : okAll S) {ns : List Nt} (hn : ntR R ns) (hl : (tlI (stM S) 0 (S, ns)).2.length ≤ 244) :
    ∃ R', f_X12_tellsIdle m (ov M m R) = some (ov M m R') ∧ rep (rowf R') (tlI (stM S) 0 (S, ns)).1 ∧ ntR R' (tlI (stM S) 0 (S, ns)).2 ∧ kpT R R' := by
  have h4 := h.2.2.2.2.1
  obtain ⟨R', e', h'⟩ := X12_idle_loop (M := M) (m := m) (stM S) 0 FU R S ns (Nat.zero_add _) (by rw [FU_eq]; omega) h hw hok hn hl
  exact ⟨R', by rw [f_X12_tellsIdle, ov_ob]; exact e', h'⟩
end
