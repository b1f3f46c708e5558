/-! PURE: the reference reads a session's statement -/
theorem stb_ses (S : St) (J : Int64) (bx : Int32) (rd : Bool) : stb (addSs S J bx rd) = (stL S, stN S, stM S + 1, stB S, va_up (stS (stb S)) (stM S) (stub (J, bx, rd, false, 0, [], [0, 0, 0, 0, 0]))) := by
  refine Prod.ext rfl (Prod.ext rfl (Prod.ext rfl (Prod.ext rfl ?_)))
  funext k
  show stub (va_up (stS S) (stM S) (J, bx, rd, false, 0, [], [0, 0, 0, 0, 0]) k) = va_up (fun k => stub (stS S k)) (stM S) (stub (J, bx, rd, false, 0, [], [0, 0, 0, 0, 0])) k
  by_cases e : k = stM S
  · subst e; rw [va_up_s, va_up_s]
  · rw [va_up_n _ _ e, va_up_n _ _ e]
theorem dR_ses {R R' : Rs} {P : Ps} (hd : dR R P) (hn : stM P.2.1 < 4) {J : Int64} {bx : Int32} {rd : Bool} {q : Nat} {f' : Nat → Int64} (hf : rowf R' = f') (hJ : nmR J (f' (sAt (stM P.2.1)))) (f2 : f' 2 = rowf R 2 + 1) (fr : ∀ q, q ≠ 2 → q ≠ sAt (stM P.2.1) → f' q = rowf R q)
    (h6 : ∀ k, k ≠ stM P.2.1 → R'.2.2.2 6 k = R.2.2.2 6 k) (h6n : R'.2.2.2 6 (stM P.2.1) = bx) (h7 : ∀ k, k ≠ stM P.2.1 → R'.2.2.2 7 k = R.2.2.2 7 k) (h7n : R'.2.2.2 7 (stM P.2.1) = b2i rd) (h16 : R'.1 16 = R.1 16) (h17 : R'.1 17 = R.1 17) : dR R' (q, addSs P.2.1 J bx rd, P.2.2) := by
  obtain ⟨d1, d2, d3, d4, d5, d6, d7, d8⟩ := hd
  have hsA : 282 ≤ sAt (stM P.2.1) := by unfold sAt; omega
  refine ⟨?_, fun k hk => ?_, ?_, ?_, h16.trans d5, h17.trans d6, d7, d8⟩
  · show rep (rowf R') (stb (addSs P.2.1 J bx rd))
    rw [stb_ses, hf]
    refine rep.addS (S := stb P.2.1) d1 hn (x := (J, bx, rd, false, 0, [], [0, 0, 0, 0, 0])) hJ (fun j j1 j2 => ?_) ?_ (fun q q1 q2 => ?_)
    · show Int64.toInt32 (f' (sAt (stM P.2.1) + j)) = 0
      rw [fr _ (by omega) (by omega), d3 _ (Nat.le_refl _) hn j (by omega)]; rfl
    · show Int64.toInt32 (f' 2) = nI (stM P.2.1 + 1)
      rw [f2, Int64.toInt32_add, show Int64.toInt32 (rowf R 2) = nI (stM P.2.1) from d1.2.2.1, ← nI_1]; rfl
    · have q2 : q < sAt (stM P.2.1) ∨ sAt (stM P.2.1) + 131 ≤ q := q2
      exact fr q q1 (by omega)
  · have hk : k < stM P.2.1 + 1 := hk
    show _ = sxB (va_up (stS P.2.1) (stM P.2.1) (J, bx, rd, false, 0, [], [0, 0, 0, 0, 0]) k) ∧ _ = b2i (sxR (va_up (stS P.2.1) (stM P.2.1) (J, bx, rd, false, 0, [], [0, 0, 0, 0, 0]) k))
    by_cases e : k = stM P.2.1
    · subst e; rw [va_up_s]; exact ⟨h6n, h7n⟩
    · rw [va_up_n _ _ e, h6 k e, h7 k e]; exact d2 k (by omega)
  · rw [hf]
    intro k a1 a2 j hj
    have a1 : stM P.2.1 + 1 ≤ k := a1
    have : sAt (stM P.2.1) + 131 ≤ sAt k := by unfold sAt; omega
    rw [fr _ (by omega) (by omega)]; exact d3 k (by omega) a2 j hj
  · rw [hf]
    intro k a1 a2 j hj
    have : bAt k + 93 ≤ 282 ∧ 3 ≤ bAt k := by unfold bAt; omega
    rw [fr _ (by omega) (by omega)]; exact d4 k a1 a2 j hj
section
variable {M : Mem} {m : Nat} {R : Rs} {l : List Int32} {i : Nat} {c p : Int32} {P : Ps}
theorem ses45_F (h : rF R l c p) (x : Int32) (y : Int64) : f_X12_parseSession_45 m x y (ov M m R) = some (ov M m R) := by
  simp only [f_X12_parseSession_45, X12_good_F h, bso, cond_false]
theorem ses15_F (h : rF R l c p) (x : Int32) : f_X12_parseSession_15 m x (ov M m R) = some (ov M m R) := by
  simp only [f_X12_parseSession_15, X12_goOn_F h, bso, X12_nameHere_F h, X12_good_F h, cond_false, ses45_F h]
/-- the session's box, at the token q -/
theorem ses116_L {n q : Nat} {S : St} (h : rL R l q) (hr : rep (rowf R) S) (hn : n < 4) : ∃ R', f_X12_parseSession_116 m (nI n) (ov M m R) = some (ov M m R') ∧ dk R R' ∧
    ((tName l (toks l q) = true ∧ bnm S (nmOf l (toks l q)) ≠ -1 ∧ rL R' l (q + 1) ∧ rk (rsI R 6 (upd (R.2.2.2 6) n (bnm S (nmOf l (toks l q))))) R') ∨ (tName l (toks l q) = true ∧ bnm S (nmOf l (toks l q)) = -1 ∧ rF R' l 3 (nI (tkS (toks l q)))) ∨ (tName l (toks l q) = false ∧ rF R' l 1 (nI (tkS (toks l q))))) := by
  obtain ⟨x, R1, e1, k1, r1⟩ := X12_boxHere_L (M := M) (m := m) h hr
  have s2 := r_s6 M m R1 hn x
  have k2 := dk.I R1 (a := 6) (.inl rfl) (upd (R1.2.2.2 6) n x)
  have bad : ∀ c p, rF R1 l c p → ∃ R', f_X12_parseSession_116 m (nI n) (ov M m R) = some (ov M m R') ∧ dk R R' ∧ rF R' l c p := by
    intro c p hF
    have hF2 : rF (rsI R1 6 (upd (R1.2.2.2 6) n x)) l c p := hF.d k2 rfl rfl
    exact ⟨_, by simp only [f_X12_parseSession_116, r_g18, e1, s2, bso, X12_goOn_F hF2], k1.d.trans k2, hF2⟩
  rcases r1 with ⟨hN, hb, rfl, rfl⟩ | ⟨hN, hb, hF⟩ | ⟨hN, hF⟩
  · have h2 : rL (rsI R1 6 (upd (R1.2.2.2 6) n (bnm S (nmOf l (toks l q))))) l q := h.d k2 (fun _ _ _ => rfl)
    obtain ⟨R3, e3, h3, k3⟩ := X12_goOn_L (M := M) (m := m) h2
    exact ⟨R3, by simp only [f_X12_parseSession_116, r_g18, e1, s2, bso, e3], k2.trans k3.d, .inl ⟨hN, hb, h3, k3⟩⟩
  · obtain ⟨R', e', k', h'⟩ := bad _ _ hF
    exact ⟨R', e', k', .inr (.inl ⟨hN, hb, h'⟩)⟩
  · obtain ⟨R', e', k', h'⟩ := bad _ _ hF
    exact ⟨R', e', k', .inr (.inr ⟨hN, h'⟩)⟩
end
section
variable {M : Mem} {m : Nat} {R : Rs} {l : List Int32} {i : Nat} {c p : Int32} {P : Ps}
theorem X12_ses_e (h : rL R l P.1) (hd : dR R P) : ∃ R' x', f_X12_parseSession m (ov M m R) = some (ov M m R') ∧ pR R' l x' ∧ pSem l x' = pSem l (pSes l P) ∧ dk R R' := by
  obtain ⟨d1, d2, d3, d4, d5, d6, d7, d8⟩ := id hd
  have hn4 : stM P.2.1 ≤ 4 := d1.2.2.2.2.1
  have hq : (nI (stM P.2.1) = 4) = (stM P.2.1 = 4) := eqI (b := 4) rfl rfl (by omega) (by omega)
  have hss : f_X12_sessions m (ov M m R) = some (nI (stM P.2.1)) := X12_sess_e (S := stb P.2.1) d1
  simp only [f_X12_parseSession, ov_ob, hss, bso, hq]
  unfold pSes
  simp only
  by_cases e : stM P.2.1 = 4
  · rw [if_pos e, if_pos e]
    obtain ⟨R1, e1, h1, k1⟩ := X12_errs_L (M := M) (m := m) h (e := 4) (by decide)
    exact ⟨R1, .inr (erA l P.1 4), by simp only [e1, bso, ses15_F h1], h1, rfl, k1.d⟩
  · rw [if_neg e, if_neg e]
    have hn : stM P.2.1 < 4 := by omega
    obtain ⟨n, hnn⟩ : ∃ n, n = stM P.2.1 := ⟨_, rfl⟩
    obtain ⟨R1, e1, h1, k1⟩ := X12_goOn_L (M := M) (m := m) h
    have hd1 := hd.rk k1
    obtain ⟨x, R2, e2, k2, r2⟩ := X12_nameHere_L (M := M) (m := m) h1
    simp only [f_X12_parseSession_15, e1, bso, e2]
    rcases r2 with ⟨hN, rfl, hJ⟩ | ⟨hN, hF⟩
    · have hsn : f_X12_sessionNamed m x (ov M m R2) = some (snm P.2.1 (nmOf l (toks l (P.1 + 1)))) := X12_sesNm_e (S := stb P.2.1) hd1.1 hJ
      simp only [X12_good_L h1, bso, cond_true, hsn, hN, Bool.true_eq_false, if_false]
      by_cases eb : snm P.2.1 (nmOf l (toks l (P.1 + 1))) = -1
      · rw [if_pos eb, if_neg (fun z => z eb), ← hnn]
        have hsA : sAt n + 131 ≤ 806 ∧ 282 ≤ sAt n := by unfold sAt; omega
        obtain ⟨f1, hf1⟩ : ∃ f1, f1 = vp_updL (rowf R2) (sAt n) x := ⟨_, rfl⟩
        obtain ⟨f2, hf2⟩ : ∃ f2, f2 = vp_updL f1 2 (f1 2 + 1) := ⟨_, rfl⟩
        have s1 := r_srow M m R2 (show sAt n < 806 by omega) x
        rw [← hf1] at s1
        have a2 : aJ (ov M m (rsR R2 f1)) 1 (m + rowN (rsR R2 f1)) 2 = some (rowf (rsR R2 f1) 2) := r_row M m (rsR R2 f1) (k := 2) (by omega)
        rw [rowf_R] at a2
        have s2 : sJ (ov M m (rsR R2 f1)) 1 (m + rowN (rsR R2 f1)) 2 (f1 2 + 1) = some (ov M m (rsR (rsR R2 f1) (vp_updL (rowf (rsR R2 f1)) 2 (f1 2 + 1)))) := r_srow M m (rsR R2 f1) (k := 2) (by omega) (f1 2 + 1)
        rw [rowf_R, rsR_R, ← hf2] at s2
        simp only [rowN_R] at a2 s2
        have s3 := r_s6 M m (rsR R2 f2) (show n < 4 by omega) (-1)
        obtain ⟨R3, hR3⟩ : ∃ R3, R3 = rsI (rsR R2 f2) 6 (upd ((rsR R2 f2).2.2.2 6) n (-1)) := ⟨_, rfl⟩
        rw [← hR3] at s3
        have kR3 : dk R2 R3 := by rw [hR3]; exact (dk.R R2 f2).trans (dk.I _ (.inl rfl) _)
        have h3 : rL R3 l (P.1 + 1) := h1.d kR3 (fun _ _ _ => by rw [hR3]; rfl)
        obtain ⟨R4, e4, h4, k4⟩ := X12_goOn_L (M := M) (m := m) h3
        obtain ⟨R5, e5, h5, k5⟩ := X12_takesW_L (M := M) (m := m) h4 (k := 5) (by omega)
        have e5 : f_X12_takesWord m 25 (ov M m R4) = some (tKw l (toks l (P.1 + 1 + 1)) 5, ov M m R5) := e5
        obtain ⟨rd, hrd⟩ : ∃ rd, rd = tKw l (toks l (P.1 + 1 + 1)) 5 := ⟨_, rfl⟩
        rw [← hrd] at e5 h5
        have s6 := r_s7 M m R5 (show n < 4 by omega) (b2i rd)
        obtain ⟨R6, hR6⟩ : ∃ R6, R6 = rsI R5 7 (upd (R5.2.2.2 7) n (b2i rd)) := ⟨_, rfl⟩
        rw [← hR6] at s6
        have kR6 : dk R5 R6 := by rw [hR6]; exact dk.I _ (.inr rfl) _
        obtain ⟨q, hqq⟩ : ∃ q, q = (bif rd then P.1 + 1 + 1 + 1 else P.1 + 1 + 1) := ⟨_, rfl⟩
        rw [← hqq] at h5
        have h6 : rL R6 l q := h5.d kR6 (fun _ _ _ => by rw [hR6]; rfl)
        have hJ' : nmR (nmOf l (toks l (P.1 + 1))) x := hJ
        have i5 : R5.2.2.2 = R3.2.2.2 := by rw [k5.1, k4.1]
        have a6 : R6.2.2.2 6 = upd (R.2.2.2 6) n (-1) := by
          have e1 : R6.2.2.2 6 = R5.2.2.2 6 := by rw [hR6]; rfl
          have e2 : R3.2.2.2 6 = upd (R2.2.2.2 6) n (-1) := by rw [hR3]; exact rsI_at _ _ _
          have e3 : R2.2.2.2 6 = R.2.2.2 6 := by rw [k1.1]
          rw [e1, i5, e2, e3]
        have a7 : R6.2.2.2 7 = upd (R.2.2.2 7) n (b2i rd) := by
          have e1 : R6.2.2.2 7 = upd (R5.2.2.2 7) n (b2i rd) := by rw [hR6]; exact rsI_at _ _ _
          have e2 : R3.2.2.2 7 = R2.2.2.2 7 := by rw [hR3]; rfl
          have e3 : R2.2.2.2 7 = R.2.2.2 7 := by rw [k1.1]
          rw [e1, i5, e2, e3]
        have hrow6 : rowf R6 = f2 := by
          have e1 : rowf R6 = rowf R5 := by rw [hR6]; rfl
          have e2 : rowf R3 = f2 := by rw [hR3, rowf_I]; exact rowf_R _ _
          rw [e1, k5.row, k4.row, e2]
        have hz : aZ (ov M m R6) 3 (m + 7) (nI n) = some rd := by
          unfold aZ
          rw [r_a7 M m R6 (show n < 4 by omega), a7, upd_s]
          exact vZ_b rd
        have hJn : f2 (sAt n) = x := by rw [hf2, pk_uLn (by omega), hf1, pk_uLs]
        have h22 : f2 2 = rowf R 2 + 1 := by rw [hf2, pk_uLs, hf1, pk_uLn (by omega), k1.row]
        have hfr : ∀ q, q ≠ 2 → q ≠ sAt n → f2 q = rowf R q := fun q q1 q2 => by rw [hf2, pk_uLn q1, hf1, pk_uLn q2, k1.row]
        have e16 : ∀ k, (k < 10 ∨ 15 < k) → R6.1 k = R.1 k := fun k hk => by
          have e1 : R6.1 k = R5.1 k := by rw [hR6]; rfl
          have e2 : R3.1 k = R2.1 k := by rw [hR3]; rfl
          rw [e1, k5.2 k hk, k4.2 k hk, e2, k1.2 k hk]
        have kk6 : dk R R6 := (((k1.d.trans kR3).trans k4.d).trans k5.d).trans kR6
        have mk : ∀ (R7 : Rs) (j : Nat) (bx : Int32), rowf R7 = f2 → (∀ k, k ≠ n → R7.2.2.2 6 k = R.2.2.2 6 k) → R7.2.2.2 6 n = bx → R7.2.2.2 7 = R6.2.2.2 7 → (∀ k, (k < 10 ∨ 15 < k) → R7.1 k = R.1 k) → dR R7 (j, addSs P.2.1 (nmOf l (toks l (P.1 + 1))) bx rd, P.2.2) := by
          intro R7 j bx g1 g2 g3 g4 g5
          have g7 : ∀ k, k ≠ n → R7.2.2.2 7 k = R.2.2.2 7 k := fun k hk => by rw [g4, a7, upd_n _ _ hk]
          have g7n : R7.2.2.2 7 n = b2i rd := by rw [g4, a7, upd_s]
          have gJ : nmR (nmOf l (toks l (P.1 + 1))) (f2 (sAt n)) := by rw [hJn]; exact hJ'
          rw [hnn] at g2 g3 g7 g7n gJ
          exact dR_ses hd hn g1 gJ h22 (fun q q1 q2 => hfr q q1 (by rw [hnn]; exact q2)) g2 g3 g7 g7n (g5 16 (by omega)) (g5 17 (by omega))
        have hdd := mk R6 q (-1) hrow6 (fun k hk => by rw [a6, upd_n _ _ hk]) (by rw [a6, upd_s]) rfl e16
        have main : f_X12_parseSession_45 m (nI n) x (ov M m R2) = bif rd then f_X12_parseSession_116 m (nI n) (ov M m R6) else (bif tName l (toks l q) then f_X12_parseSession_116 m (nI n) (ov M m R6) else some (ov M m R6)) := by
          simp only [f_X12_parseSession_45, X12_good_L h1, bso, cond_true, r_g3, rowN_R, X12_sesAt_e, nI0', s1, a2, s2, r_g18, s3, e4, r_g19, e5, s6, hz, X12_isName_L h6]
        obtain ⟨R7, e7, k7, r7⟩ := ses116_L (M := M) (m := m) (n := n) (S := stb (addSs P.2.1 (nmOf l (toks l (P.1 + 1))) (-1) rd)) h6 hdd.1 (by omega)
        have hbn : bnm (stb (addSs P.2.1 (nmOf l (toks l (P.1 + 1))) (-1) rd)) (nmOf l (toks l q)) = bnm P.2.1 (nmOf l (toks l q)) := rfl
        rw [hbn] at r7
        have fin : pR R7 l (if tName l (toks l q) = false then .inr (erA l q 1) else if bnm P.2.1 (nmOf l (toks l q)) = -1 then .inr (erA l q 3) else .inl (q + 1, addSs P.2.1 (nmOf l (toks l (P.1 + 1))) (bnm P.2.1 (nmOf l (toks l q))) rd, P.2.2)) := by
          rcases r7 with ⟨z1, z2, z3, z4⟩ | ⟨z1, z2, z3⟩ | ⟨z1, z3⟩
          · rw [if_neg (by rw [z1]; decide), if_neg z2]
            refine ⟨z3, mk R7 (q + 1) _ ?_ (fun k hk => ?_) ?_ ?_ (fun k hk => ?_)⟩
            · rw [z4.row, rowf_I]; exact hrow6
            · rw [z4.1]
              have : (rsI R6 6 (upd (R6.2.2.2 6) n (bnm P.2.1 (nmOf l (toks l q))))).2.2.2 6 = upd (R6.2.2.2 6) n (bnm P.2.1 (nmOf l (toks l q))) := rsI_at _ _ _
              rw [this, upd_n _ _ hk, a6, upd_n _ _ hk]
            · rw [z4.1]
              have : (rsI R6 6 (upd (R6.2.2.2 6) n (bnm P.2.1 (nmOf l (toks l q))))).2.2.2 6 = upd (R6.2.2.2 6) n (bnm P.2.1 (nmOf l (toks l q))) := rsI_at _ _ _
              rw [this, upd_s]
            · rw [z4.1]
              rfl
            · exact (z4.2 k hk).trans (e16 k hk)
          · rw [if_neg (by rw [z1]; decide), if_pos z2]; exact z3
          · rw [if_pos z1]; exact z3
        cases hrd2 : rd with
        | true =>
          rw [hrd2] at main hqq fin
          have hqq : q = P.1 + 1 + 2 := hqq
          refine ⟨R7, _, ?_, fin, ?_, kk6.trans k7⟩
          · rw [main, cond_true, e7]
          · rw [← hrd, hrd2, hqq]
            simp only [Bool.true_eq_false, false_and, if_false, if_true]
        | false =>
          rw [hrd2] at main hqq fin hdd
          have hqq : q = P.1 + 1 + 1 := hqq
          rw [← hrd, hrd2]
          simp only [Bool.false_eq_true, if_false, true_and]
          rw [← hqq]
          cases hnq : tName l (toks l q) with
          | true =>
            have hsq : tSym (toks l q) 59 = false := by
              cases z : tSym (toks l q) 59 with
              | false => rfl
              | true =>
                have := tName_K hnq
                have := tSym_K z
                omega
            rw [hnq] at main fin
            refine ⟨R7, _, ?_, fin, ?_, kk6.trans k7⟩
            · rw [main, cond_false, cond_true, e7]
            · rw [hsq]; simp only [Bool.false_eq_true, if_false]
          | false =>
            rw [hnq] at main
            refine ⟨R6, .inl (q, addSs P.2.1 (nmOf l (toks l (P.1 + 1))) (-1) false, P.2.2), ?_, ⟨h6, hdd⟩, ?_, kk6⟩
            · rw [main, cond_false, cond_false]
            · cases hsq : tSym (toks l q) 59 with
              | true => simp only [if_true]
              | false => simp only [Bool.false_eq_true, if_false, if_true, pSem, hsq]
      · rw [if_neg eb, if_pos eb]
        obtain ⟨R3, e3, h3, k3⟩ := X12_errs_L (M := M) (m := m) h1 (e := 3) (by decide)
        exact ⟨R3, .inr (erA l (P.1 + 1) 3), by simp only [e3, bso, ses45_F h3], h3, rfl, (k1.trans k3).d⟩
    · simp only [X12_good_F hF, bso, cond_false, hN, if_true, ses45_F hF]
      exact ⟨R2, .inr (erA l (P.1 + 1) 1), rfl, hF, rfl, (k1.trans k2).d⟩
end
