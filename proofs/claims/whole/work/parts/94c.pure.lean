/-! PURE: the reference loads -/
theorem rep.agr {f : Nat → Int64} {S T : St} (h : rep f S) (g : agr S T) : rep f T := by
  obtain ⟨h1, h2, h3, h4, h5, h6, h7⟩ := h
  obtain ⟨g1, g2, g3, g4, g5⟩ := g
  refine ⟨h1.trans g1, by rw [← g2]; exact h2, by rw [← g3]; exact h3, by omega, by omega, fun b hb => ?_, fun s hs => ?_⟩
  · rw [← g4 b hb]; exact h6 b (by omega)
  · rw [← g5 s hs]; exact h7 s (by omega)
def slS (S : St) (k : Nat) : St := (stL S, stN S, stM S, stB S, fun j => if j < k then ent S (stS S j) else stub (stS S j))
theorem slS_0 (S : St) : slS S 0 = stb S := by
  refine Prod.ext rfl (Prod.ext rfl (Prod.ext rfl (Prod.ext rfl (funext fun j => ?_))))
  show (if j < 0 then ent S (stS S j) else stub (stS S j)) = stub (stS S j)
  exact if_neg (Nat.not_lt_zero j)
theorem slS_step {S : St} {k : Nat} {x : Sx} (hx : x = ent S (stS S k)) : setSx (slS S k) k x = slS S (k + 1) := by
  refine Prod.ext rfl (Prod.ext rfl (Prod.ext rfl (Prod.ext rfl (funext fun j => ?_))))
  show va_up (fun j => if j < k then ent S (stS S j) else stub (stS S j)) k x j = if j < k + 1 then ent S (stS S j) else stub (stS S j)
  by_cases e : j = k
  · subst e; rw [va_up_s, if_pos (Nat.lt_succ_self _), hx]
  · rw [va_up_n _ _ e]
    by_cases e2 : j < k
    · rw [if_pos e2, if_pos (by omega)]
    · rw [if_neg e2, if_neg (by omega)]
section
variable {M : Mem} {m : Nat} {R : Rs} {l : List Int32} {i : Nat} {c p : Int32} {S : St}
theorem selAll_loop (hp : pOK S) : ∀ (d k fu : Nat) (R : Rs), k + d = stM S → d < fu → rep (rowf R) (slS S k) → (∀ j, j < stM S → R.2.2.2 6 j = sxB (stS S j) ∧ R.2.2.2 7 j = b2i (sxR (stS S j))) →
    ∃ f', f_X12_selectAll_2 fu m (nI k) (ov M m R) = some (ov M m (rsR R f')) ∧ rep f' (slS S (stM S)) := by
  have h4 : stM S ≤ 4 := hp.1.2
  have h3 : stN S ≤ 3 := hp.1.1
  intro d
  induction d with
  | zero =>
    intro k fu R hk hf h ha
    obtain ⟨fu, rfl⟩ : ∃ x, fu = x + 1 := ⟨fu - 1, by omega⟩
    obtain rfl : k = stM S := by omega
    refine ⟨rowf R, ?_, h⟩
    have hs : f_X12_sessions m (ov M m R) = some (nI (stM S)) := X12_sess_e (S := slS S (stM S)) h
    rw [rsR_id]
    simp only [f_X12_selectAll_2, hs, bso]
    rw [if_pos (by rw [leT rfl rfl (Nat.le_refl (stM S)) (show stM S < 2 ^ 31 by omega)]; trivial)]
  | succ d ih =>
    intro k fu R hk hf h ha
    obtain ⟨fu, rfl⟩ : ∃ x, fu = x + 1 := ⟨fu - 1, by omega⟩
    have hks : k < stM S := by omega
    have hs : f_X12_sessions m (ov M m R) = some (nI (stM S)) := X12_sess_e (S := slS S k) h
    obtain ⟨f1, e1, h1⟩ := X12_leave_e (M := M) (m := m) h (s := k) hks
    have hst : stS (slS S k) k = stub (stS S k) := if_neg (Nat.lt_irrefl k)
    rw [hst] at h1
    have a6 : aI (ov M m (rsR R f1)) 0 (m + 6) (nI k) = some (sxB (stS S k)) := (r_a6 M m (rsR R f1) (show k < 4 by omega)).trans (congrArg some (ha k hks).1)
    have a7 : aZ (ov M m (rsR R f1)) 3 (m + 7) (nI k) = some (sxR (stS S k)) := by
      unfold aZ
      rw [r_a7 M m (rsR R f1) (show k < 4 by omega), bso, show (rsR R f1).2.2.2 7 k = b2i (sxR (stS S k)) from (ha k hks).2]
      exact vZ_b _
    have fin : ∀ (f2 : Nat → Int64), rep f2 (slS S (k + 1)) → ∃ f', f_X12_selectAll_42 (f_X12_selectAll_2 fu) m (nI k) (ov M m (rsR R f2)) = some (ov M m (rsR R f')) ∧ rep f' (slS S (stM S)) := by
      intro f2 h2
      obtain ⟨f', e', h'⟩ := ih (k + 1) fu (rsR R f2) (by omega) (by omega) (by rw [rowf_R]; exact h2) ha
      rw [rsR_R] at e'
      exact ⟨f', by simp only [f_X12_selectAll_42, nI_1, e'], h'⟩
    simp only [f_X12_selectAll_2, hs, bso, e1, r_g18, a6, r_g19, a7]
    rw [if_neg (by rw [leF rfl rfl hks (show stM S < 2 ^ 31 by omega)]; exact id)]
    obtain ⟨J, bx, rd, s1, s2, s3⟩ := hp.2.2 k hks
    by_cases e : sxB (stS S k) = -1
    · rw [if_pos e]
      refine fin f1 ?_
      have hx : lvS (stub (stS S k)) = ent S (stS S k) := by
        rw [ent, if_pos e]
        rw [s1] at e ⊢
        have e : bx = -1 := e
        rw [s3 e, e]; rfl
      rw [slS_step hx] at h1
      exact h1
    · rw [if_neg e]
      rcases s2 with rfl | ⟨b, hb, rfl⟩
      · exact absurd (by rw [s1]; rfl) e
      · have hb' : sxB (stS S k) = nI b := by rw [s1]; rfl
        obtain ⟨f2, e2, h2⟩ := X12_takeBox_e (M := M) (m := m) (R := rsR R f1) (S := setSx (slS S k) k (lvS (stub (stS S k)))) (by rw [rowf_R]; exact h1) (s := k) hks (b := b) hb ((hp.2.1 b hb).2.1.1) (sxR (stS S k))
        rw [rsR_R] at e2
        rw [stS_set, setSx_setSx] at h2
        have hx : ((lvS (stub (stS S k))).1, nI b, sxR (stS S k), sxI (lvS (stub (stS S k))), (nw 0 [] (stB S b).2.2).1, (nw 0 [] (stB S b).2.2).2, sxC (lvS (stub (stS S k)))) = ent S (stS S k) := by
          rw [ent, if_neg e, hb', bof_in (by omega), s1]; rfl
        have h2 : rep f2 (setSx (slS S k) k ((lvS (stub (stS S k))).1, nI b, sxR (stS S k), sxI (lvS (stub (stS S k))), (nw 0 [] (stB S b).2.2).1, (nw 0 [] (stB S b).2.2).2, sxC (lvS (stub (stS S k))))) := h2
        rw [slS_step hx] at h2
        rw [hb', e2, bso]
        exact fin f2 h2
theorem selAll_e (hp : pOK S) (h : rep (rowf R) (stb S)) (ha : ∀ j, j < stM S → R.2.2.2 6 j = sxB (stS S j) ∧ R.2.2.2 7 j = b2i (sxR (stS S j))) :
    ∃ f', f_X12_selectAll m (ov M m R) = some (ov M m (rsR R f')) ∧ rep f' (entS S) := by
  have h4 : stM S ≤ 4 := hp.1.2
  obtain ⟨f', e', h'⟩ := selAll_loop (M := M) (m := m) hp (stM S) 0 FU R (Nat.zero_add _) (by rw [FU_eq]; omega) (by rw [slS_0]; exact h) ha
  have e' : f_X12_selectAll_2 FU m 0 (ov M m R) = some (ov M m (rsR R f')) := e'
  refine ⟨f', by rw [f_X12_selectAll, ov_ob]; exact e', h'.agr ⟨rfl, rfl, rfl, fun _ _ => rfl, fun k hk => ?_⟩⟩
  exact if_pos hk
theorem load_126_e : ∀ (d k fu : Nat) (R : Rs), k + d = 806 → d < fu → ∃ p', f_X12_load_126 fu m (nI k) (ov M m R) = some (R.1 17, ov M m (rsS (rsJ R 1 p') 5 0)) ∧ ∀ q, p' q = if k ≤ q ∧ q < 806 then R.2.2.1 2 q else R.2.2.1 1 q := by
  intro d
  induction d with
  | zero =>
    intro k fu R hk hf
    obtain ⟨fu, rfl⟩ : ∃ x, fu = x + 1 := ⟨fu - 1, by omega⟩
    obtain rfl : k = 806 := by omega
    refine ⟨R.2.2.1 1, ?_, fun q => by rw [if_neg (by omega)]⟩
    have g17 : gI (ov M m (rsS R 5 0)) 11 17 m = some (R.1 17) := by rw [r_g17]; rfl
    rw [rsJ_id]
    simp only [f_X12_load_126, r_p5, bso, g17]
    rw [if_pos (show (806 : Int32) ≤ nI 806 by decide)]
  | succ d ih =>
    intro k fu R hk hf
    obtain ⟨fu, rfl⟩ : ∃ x, fu = x + 1 := ⟨fu - 1, by omega⟩
    obtain ⟨p', e', h'⟩ := ih (k + 1) fu (rsJ R 1 (vp_updL (R.2.2.1 1) k (R.2.2.1 2 k))) (by omega) (by omega)
    rw [rsJ_J] at e'
    have e' : f_X12_load_126 fu m (nI (k + 1)) (ov M m (rsJ R 1 (vp_updL (R.2.2.1 1) k (R.2.2.1 2 k)))) = some (R.1 17, ov M m (rsS (rsJ R 1 p') 5 0)) := e'
    have h2 : (rsJ R 1 (vp_updL (R.2.2.1 1) k (R.2.2.1 2 k))).2.2.1 2 = R.2.2.1 2 := rfl
    rw [rsJ_at, h2] at h'
    refine ⟨p', ?_, fun q => ?_⟩
    · have hr := r_a2 M m R (show k < 806 by omega)
      have hs := r_s1 M m R (show k < 806 by omega) (R.2.2.1 2 k)
      simp only [f_X12_load_126, r_g1, r_g2, bso, nI_1, hr, hs, e']
      rw [if_neg (show ¬ ((806 : Int32) ≤ nI k) from fun z => absurd ((nI_leI (a := 806) (by omega) (by omega)).mp z) (by omega))]
    · rw [h' q]
      by_cases e1 : k + 1 ≤ q ∧ q < 806
      · rw [if_pos e1, if_pos ⟨by omega, e1.2⟩]
      · rw [if_neg e1]
        by_cases e2 : q = k
        · subst e2; rw [pk_uLs, if_pos ⟨Nat.le_refl _, by omega⟩]
        · rw [pk_uLn e2, if_neg (by omega)]
theorem load_17_e : ∀ (d k fu : Nat) (R : Rs), k + d = 806 → d < fu → (∀ q, q < k → R.2.2.1 2 q = 0) → ∃ p', f_X12_load_17 fu m (nI k) (ov M m R) = f_X12_load_17 1 m 806 (ov M m (rsJ R 2 p')) ∧ ∀ q, q < 806 → p' q = 0 := by
  intro d
  induction d with
  | zero =>
    intro k fu R hk hf h0
    obtain ⟨fu, rfl⟩ : ∃ x, fu = x + 1 := ⟨fu - 1, by omega⟩
    obtain rfl : k = 806 := by omega
    refine ⟨R.2.2.1 2, ?_, h0⟩
    rw [rsJ_id]
    have h6 : (806 : Int32) ≤ 806 := by decide
    have h7 : (806 : Int32) ≤ nI 806 := by decide
    rw [f_X12_load_17, f_X12_load_17]
    simp only [h6, h7, if_true]
  | succ d ih =>
    intro k fu R hk hf h0
    obtain ⟨fu, rfl⟩ : ∃ x, fu = x + 1 := ⟨fu - 1, by omega⟩
    obtain ⟨p', e', h'⟩ := ih (k + 1) fu (rsJ R 2 (vp_updL (R.2.2.1 2) k 0)) (by omega) (by omega) (fun q hq => by
      rw [rsJ_at]
      by_cases e : q = k
      · rw [e, pk_uLs]
      · rw [pk_uLn e]; exact h0 q (by omega))
    rw [rsJ_J] at e'
    refine ⟨p', ?_, h'⟩
    have hs := r_s2 M m R (show k < 806 by omega) 0
    rw [f_X12_load_17]
    simp only [r_g2, bso, hs, nI_1]
    rw [if_neg (show ¬ ((806 : Int32) ≤ nI k) from fun z => absurd ((nI_leI (a := 806) (by omega) (by omega)).mp z) (by omega)), e']
theorem X12_begin_e (h8 : R.1 8 = nI l.length) (hl : l.length ≤ 700) (h5 : ∀ k, k < l.length → R.2.2.2 5 k = l.getD k 0) (hy : byR l) : ∃ R', f_X12_beginText m (ov M m R) = some (ov M m R') ∧ rL R' l 0 ∧ R'.2 = R.2 ∧ R'.1 8 = 0 ∧ ∀ k, (k < 8 ∨ 15 < k) → R'.1 k = R.1 k := by
  obtain ⟨R5, hR5⟩ : ∃ R5, R5 = rsS (rsS (rsS (rsS (rsS R 9 (nI l.length)) 8 0) 10 0) 14 0) 15 (-1) := ⟨_, rfl⟩
  have hx : rTx R5 l := by rw [hR5]; exact ⟨rfl, hl, h5⟩
  have h10 : R5.1 10 = nI 0 := by rw [hR5]; rfl
  obtain ⟨x, e, hv⟩ := X12_scan_at (M := M) (m := m) hx (Nat.zero_le _) h10
  refine ⟨scR R5 (nI (tkE (tkAt l 0))) (nI (tkS (tkAt l 0))) (nI (tkK (tkAt l 0))) x, ?_, ⟨⟨hx.sc _ _ _ _, hy⟩, rfl, rfl, rfl, hv, ?_, ?_⟩, ?_, ?_, fun k hk => ?_⟩
  · rw [hR5] at e
    simp only [f_X12_beginText, ov_ob, r_g8, h8, bso, r_p9, r_p8, r_p10, r_p14, r_p15, e]
    rw [hR5]
  · rw [hR5]; rfl
  · rw [hR5]; rfl
  · rw [hR5]; rfl
  · rw [hR5]; rfl
  · show scF R5.1 _ _ _ _ k = R.1 k
    unfold scF
    rw [if_neg (by omega), if_neg (by omega), if_neg (by omega), if_neg (by omega), hR5]
    show va_up (va_up (va_up (va_up (va_up R.1 9 _) 8 _) 10 _) 14 _) 15 _ k = R.1 k
    rw [va_up_n _ _ (by omega), va_up_n _ _ (by omega), va_up_n _ _ (by omega), va_up_n _ _ (by omega), va_up_n _ _ (by omega)]
theorem load_102_F (h : rF R l c p) : f_X12_load_102 m (ov M m R) = some (-4, ov M m (rsW R false)) := by
  have p3 : pV (ov M m R) 11 3 m (.ref (m + 1)) = some (ov M m (rsW R false)) := r_p3 M m R false
  have h' : rF (rsW R false) l c p := h
  simp only [f_X12_load_102, r_g1, bso, p3, X12_good_F h', cond_false]
theorem load_102_L {S0 : St} {cnt : Nat} {hk : Nat → St} (h : rL R l i) (hn : rep (R.2.2.1 1) S0) (hh : hsR R cnt hk) :
    ∃ R', f_X12_load_102 m (ov M m R) = some (R.1 17, ov M m R') ∧ R'.2.1 = false ∧ (∀ q, q < 806 → rowf R' q = R.2.2.1 2 q) ∧ hsR R' (if cnt < 6 then cnt + 1 else 6) (fun i => if i = 0 then S0 else hk (i - 1)) ∧ R'.1 5 = 0 ∧ (∀ k, k ≠ 5 → k ≠ 25 → R'.1 k = R.1 k) ∧ (∀ a, a ≠ 1 → a ≠ 10 → R'.2.2.1 a = R.2.2.1 a) ∧ R'.2.2.2 = R.2.2.2 := by
  have p3 : pV (ov M m R) 11 3 m (.ref (m + 1)) = some (ov M m (rsW R false)) := r_p3 M m R false
  have h' : rL (rsW R false) l i := h
  have hn' : rep (rowf (rsW R false)) S0 := hn
  have hh' : hsR (rsW R false) cnt hk := hh
  obtain ⟨R1, e1, h1, k1⟩ := X12_rem_e (M := M) (m := m) hn' rfl hh'
  obtain ⟨p', e2, h2⟩ := load_126_e (M := M) (m := m) 806 0 FU R1 (by omega) (by rw [FU_eq]; omega)
  have e2 : f_X12_load_126 FU m 0 (ov M m R1) = some (R1.1 17, ov M m (rsS (rsJ R1 1 p') 5 0)) := e2
  have h17 : R1.1 17 = R.1 17 := k1.2.1 17 (by simp)
  have hw1 : R1.2.1 = false := k1.1
  refine ⟨rsS (rsJ R1 1 p') 5 0, ?_, hw1, fun q hq => ?_, ⟨?_, h1.2.1, fun i hi => ?_⟩, rsS_at _ _ _, fun k k5 k25 => ?_, fun a a1 a10 => ?_, ?_⟩
  · simp only [f_X12_load_102, r_g1, bso, p3, X12_good_L h', cond_true, e1, e2, h17]
  · have hr : rowf (rsS (rsJ R1 1 p') 5 0) = p' := by
      have : rowN (rsS (rsJ R1 1 p') 5 0) = 1 := row1 hw1
      rw [rowf, this]
      exact rsJ_at R1 1 p'
    have e3 : 0 ≤ q ∧ q < 806 := ⟨Nat.zero_le _, hq⟩
    rw [hr, h2 q, if_pos e3, k1.2.2.1 2 (by simp)]; rfl
  · exact rfl.trans h1.1
  · have := h1.2.2 i hi
    have hj : (rsS (rsJ R1 1 p') 5 0).2.2.1 10 = R1.2.2.1 10 := rfl
    rw [hj]; exact this
  · exact (va_up_n _ _ k5).trans (k1.2.1 k (by simp; exact k25))
  · exact (va_up_n _ _ a1).trans (k1.2.2.1 a (by simp; exact a10))
  · funext a
    exact k1.2.2.2 a (by simp)
end
