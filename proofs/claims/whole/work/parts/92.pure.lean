/-! PURE: the reference reads a message's statement -/
theorem cntN_le {f : Nat → Int64} {S : St} (h : rep f S) : cntN S ≤ 90 := by
  have hn := h.2.2.2.1
  have hb : ∀ b, b < stN S → (stB S b).2.2.length ≤ 30 := fun b hb => (h.2.2.2.2.2.1 b hb).1
  obtain ⟨L, n, q, B, Z⟩ := S
  have hn : n ≤ 3 := hn
  have hb : ∀ b, b < n → (B b).2.2.length ≤ 30 := hb
  have h3 : n = 0 ∨ n = 1 ∨ n = 2 ∨ n = 3 := by omega
  rcases h3 with rfl | rfl | rfl | rfl
  · simp [cntN, fd, stN, stB]
  · have := hb 0 (by omega)
    simp [cntN, fd, stN, stB]; omega
  · have := hb 0 (by omega)
    have := hb 1 (by omega)
    simp [cntN, fd, stN, stB]; omega
  · have := hb 0 (by omega)
    have := hb 1 (by omega)
    have := hb 2 (by omega)
    simp [cntN, fd, stN, stB]; omega
theorem bnm_ex {S : St} {J : Int64} (h3 : stN S ≤ 3) (h : bnm S J ≠ -1) : ∃ b, b < stN S ∧ bnm S J = nI b := by
  have key : ∀ n k, (lp (fun k (_ : Unit) => if (stB S k).1 = J then (.inr (nI k) : Unit ⊕ Int32) else .inl ()) (fun _ => -1) k n ()) = -1 ∨ ∃ b, b < k + n ∧ (lp (fun k (_ : Unit) => if (stB S k).1 = J then (.inr (nI k) : Unit ⊕ Int32) else .inl ()) (fun _ => -1) k n ()) = nI b := by
    intro n
    induction n with
    | zero => intro k; exact .inl rfl
    | succ n ih =>
      intro k
      by_cases e : (stB S k).1 = J
      · refine .inr ⟨k, by omega, ?_⟩
        simp only [lp, e, if_true]
      · rcases ih (k + 1) with g | ⟨b, g1, g2⟩
        · left; simp only [lp, e, if_false]; exact g
        · refine .inr ⟨b, by omega, ?_⟩
          simp only [lp, e, if_false]; exact g2
  rcases key (stN S) 0 with g | ⟨b, g1, g2⟩
  · exact absurd g h
  · exact ⟨b, by omega, g2⟩
section
variable {M : Mem} {m : Nat} {R : Rs} {l : List Int32} {i : Nat} {c p : Int32} {P : Ps}
theorem msg53_F (h : rF R l c p) (x : Int32) : f_X12_parseMessage_53 m x (ov M m R) = some (ov M m R) := by
  simp only [f_X12_parseMessage_53, X12_num_F h, bso, X12_flags_F h, X12_good_F h, cond_false]
theorem msg34_F (h : rF R l c p) (x : Int32) : f_X12_parseMessage_34 m x (ov M m R) = some (ov M m R) := by
  have hw : f_X12_takesWord m 23 (ov M m R) = some (false, ov M m R) := X12_takesW_F h (k := 3) (by omega)
  simp only [f_X12_parseMessage_34, X12_goOn_F h, bso, hw, cond_false, X12_errs_F h, msg53_F h]
theorem X12_msg_e (h : rL R l P.1) (hd : dR R P) (hL : okL P) : ∃ R', f_X12_parseMessage m (ov M m R) = some (ov M m R') ∧ pR R' l (pMsg l P) ∧ dk R R' := by
  obtain ⟨d1, d2, d3, d4, d5, d6, d7, d8⟩ := id hd
  obtain ⟨L, hL1, hL2, hL3⟩ := hL
  have hn3 : stN P.2.1 ≤ 3 := d1.2.2.2.1
  obtain ⟨R1, e1, h1, k1⟩ := X12_goOn_L (M := M) (m := m) h
  have hd1 := hd.rk k1
  obtain ⟨x, R2, e2, k2, r2⟩ := X12_boxHere_L (M := M) (m := m) (S := stb P.2.1) h1 hd1.1
  simp only [f_X12_parseMessage, ov_ob, e1, bso, e2, pMsg]
  have hbn : bnm (stb P.2.1) (nmOf l (toks l (P.1 + 1))) = bnm P.2.1 (nmOf l (toks l (P.1 + 1))) := rfl
  rw [hbn] at r2
  rcases r2 with ⟨hN, hb, rfl, rfl⟩ | ⟨hN, hb, hF⟩ | ⟨hN, hF⟩
  · obtain ⟨b, hb1, hb2⟩ := bnm_ex hn3 hb
    have hcl : (nI b).toNatClampNeg = b := nI_clamp (by omega)
    have hlen : (stB P.2.1 b).2.2.length ≤ 30 := (d1.2.2.2.2.2.1 b hb1).1
    have hmany : f_X12_manyIn m (nI b) (ov M m R2) = some (nI (stB P.2.1 b).2.2.length) := X12_many_e (S := stb P.2.1) hd1.1 hb1
    have hget : f_X12_get m 0 (ov M m R2) = some (nI L) := by
      have := X12_get_e (M := M) (m := m) (R := R2) (k := 0) (by omega)
      rw [hd1.1.1] at this
      exact this.trans (congrArg some hL1)
    have hlt : (nI (stB P.2.1 b).2.2.length < nI L) = ((stB P.2.1 b).2.2.length < L) := ltI rfl rfl (by omega) (by omega)
    have hle : (nI L ≤ nI (stB P.2.1 b).2.2.length) = (L ≤ (stB P.2.1 b).2.2.length) := leI rfl rfl (by omega) (by omega)
    simp only [X12_good_L h1, bso, cond_true, hb2, hmany, hget, hlt, hN, Bool.true_eq_false, if_false, hcl, hL1, hle]
    rw [if_neg (show ¬ (nI b = -1) from by rw [nI_m1 (by omega)]; exact id)]
    by_cases e : L ≤ (stB P.2.1 b).2.2.length
    · rw [if_neg (by omega), if_pos e]
      obtain ⟨R3, e3, h3, k3⟩ := X12_errs_L (M := M) (m := m) h1 (e := 4) (by decide)
      exact ⟨R3, by simp only [e3, bso, msg34_F h3], h3, (k1.trans k3).d⟩
    · rw [if_pos (by omega), if_neg e]
      obtain ⟨R3, e3, h3, k3⟩ := X12_goOn_L (M := M) (m := m) h1
      obtain ⟨R4, e4, h4, k4⟩ := X12_takesW_L (M := M) (m := m) h3 (k := 3) (by omega)
      have e4 : f_X12_takesWord m 23 (ov M m R3) = some (tKw l (toks l (P.1 + 1 + 1)) 3, ov M m R4) := e4
      simp only [f_X12_parseMessage_34, e3, bso, e4]
      cases hs : tKw l (toks l (P.1 + 1 + 1)) 3 with
      | false =>
        rw [hs] at h4
        have h4 : rL R4 l (P.1 + 1 + 1) := h4
        obtain ⟨R5, e5, h5, k5⟩ := X12_errs_L (M := M) (m := m) h4 (e := 1) (by decide)
        exact ⟨R5, by simp only [cond_false, e5, bso, msg53_F h5], by simp only [if_true]; exact h5, (((k1.trans k3).trans k4).trans k5).d⟩
      | true =>
        rw [hs] at h4
        have h4 : rL R4 l (P.1 + 1 + 2) := h4
        simp only [cond_true, Bool.true_eq_false, if_false, f_X12_parseMessage_53]
        obtain ⟨y, R5, e5, k5, r5⟩ := X12_num_L (M := M) (m := m) h4 (lo := 1) (hi := 9999) (by omega) (by omega)
        have e5 : f_X12_number m 1 9999 (ov M m R4) = some (y, ov M m R5) := e5
        simp only [e5, bso]
        rcases r5 with ⟨n0, rfl, h5⟩ | ⟨n0, h5⟩
        · have h5 : rL R5 l (P.1 + 1 + 3) := h5
          rw [if_neg (fun z => z n0)]
          obtain ⟨z, R6, e6, k6, r6⟩ := X12_flags_L (M := M) (m := m) h5
          have kk := ((((k1.trans k3).trans k4).trans k5).trans k6)
          simp only [e6, bso]
          cases hf : pFlg l 700 (P.1 + 1 + 3) 0 with
          | inr er =>
            rw [hf] at r6
            have r6 : rF R6 l er.1 er.2 := r6
            exact ⟨R6, by simp only [X12_good_F r6, bso, cond_false], r6, kk.d⟩
          | inl w =>
            rw [hf] at r6
            obtain ⟨rfl, r6⟩ := r6
            obtain ⟨j2, fl⟩ := w
            have r6 : rL R6 l j2 := r6
            have hd6 := hd.rk kk
            obtain ⟨f', e7, g7, q7⟩ := X12_comes_x (M := M) (m := m) (R := R6) (S := stb P.2.1) hd6.1 hb1 (show (stB P.2.1 b).2.2.length < 30 by omega) (nI (tkV (toks l (P.1 + 1 + 2)))) fl
            have g17 : gI (ov M m (rsR R6 f')) 11 17 m = some (nI (cntN P.2.1)) := by rw [r_g17]; exact congrArg some hd6.2.2.2.2.2.1
            have kd := kk.d.trans (dk.R R6 f')
            have kS := dk.S (rsR R6 f') (k := 17) (by omega) (nI (cntN P.2.1) + 1)
            have hr6 : rowf R6 = rowf R := kk.row
            have hbb : bAt b + 93 ≤ 282 ∧ 3 ≤ bAt b := by unfold bAt; omega
            have hc := cntN_msg (S := P.2.1) (k := b) (sz := nI (tkV (toks l (P.1 + 1 + 2)))) (fl := fl) hn3 hb1
            have hc90 : cntN (addMs P.2.1 b (nI (tkV (toks l (P.1 + 1 + 2)))) fl) ≤ 90 := cntN_le (S := stb (addMs P.2.1 b (nI (tkV (toks l (P.1 + 1 + 2)))) fl)) g7
            refine ⟨rsS (rsR R6 f') 17 (nI (cntN P.2.1) + 1), by simp only [X12_good_L r6, bso, cond_true, e7, g17, r_p17], ⟨(r6.d (dk.R R6 f') (fun _ _ _ => rfl)).d kS (fun q q1 q2 => va_up_n _ _ (by omega)), ?_, ?_, ?_, ?_, ?_, ?_, ?_, hc90⟩, kd.trans kS⟩
            · rw [rowf_S, rowf_R]; exact g7
            · have hI : R6.2.2.2 = R.2.2.2 := by rw [kk.1]
              show ∀ k, k < stM P.2.1 → R6.2.2.2 6 k = _ ∧ R6.2.2.2 7 k = _
              rw [hI]; exact d2
            · rw [rowf_S, rowf_R]
              intro k a1 a2 j hj
              have : 282 ≤ sAt k := by unfold sAt; omega
              rw [q7 _ (by omega), hr6]; exact d3 k a1 a2 j hj
            · rw [rowf_S, rowf_R]
              intro k a1 a2 j hj
              have a1 : stN P.2.1 ≤ k := a1
              have : bAt b + 93 ≤ bAt k := by unfold bAt; omega
              rw [q7 _ (by omega), hr6]; exact d4 k a1 a2 j hj
            · exact (va_up_n R6.1 (nI (cntN P.2.1) + 1) (show 16 ≠ 17 by decide)).trans hd6.2.2.2.2.1
            · show nI (cntN P.2.1) + 1 = nI (cntN (addMs P.2.1 b _ fl))
              rw [hc, nI_1]
            · show true = decide (0 < cntN (addMs P.2.1 b _ fl))
              rw [hc, decide_eq_true (by omega)]
        · rw [if_pos n0]
          exact ⟨R5, by simp only [X12_flags_F h5, bso, X12_good_F h5, cond_false], h5, (((k1.trans k3).trans k4).trans k5).d⟩
  · simp only [X12_good_F hF, bso, cond_false, msg34_F hF, hN, Bool.true_eq_false, if_false, hb, if_true]
    exact ⟨R2, rfl, hF, (k1.trans k2).d⟩
  · simp only [X12_good_F hF, bso, cond_false, msg34_F hF, hN, if_true]
    exact ⟨R2, rfl, hF, (k1.trans k2).d⟩
end
