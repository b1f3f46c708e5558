/-! PURE: the class reads a text, messages and sessions -/
def okL (P : Ps) : Prop := ∃ L, stL P.2.1 = nI L ∧ 1 ≤ L ∧ L ≤ 30
section
variable {M : Mem} {rp tk rt rl : Nat} {l : List Int32}
theorem X9_flags_e {P : Ps} (ap : apt rp tk rt rl) (h : cP M rp tk rt rl l P) :
    ∃ x M', f_X9_passFlags rp M = some (x, M') ∧ off M M' tk 6 ∧ (match pFlg l 700 P.1 0 with | .inl (j2, fl) => x = fl ∧ cP M' rp tk rt rl l (j2, P.2) | .inr e => cQ M' rp tk rt rl l e) := by
  obtain ⟨i, S, b1, b2⟩ := P
  obtain ⟨x, M', e', o', r'⟩ := X9_flags_loop (S := S) (b1 := b1) (b2 := b2) ap 700 i 0 FU 0 M (by omega) (by rw [FU_eq]; omega) h
  have e' : f_X9_passFlags_4 FU rp 0 0 M = some (x, M') := e'
  exact ⟨x, M', by rw [f_X9_passFlags, h.ob]; exact e', o', r'⟩
theorem X9_flags_F' {e : Er} (h : cQ M rp tk rt rl l e) : f_X9_passFlags rp M = some (0, M) := by
  obtain ⟨n, hn⟩ := FU_s
  rw [f_X9_passFlags, h.ob, hn]
  exact X9_flags_F h n 0 0
theorem X9_msg41_F {e : Er} (h : cQ M rp tk rt rl l e) (q : Nat) : f_X9_parseMessage_41 rp q M = some M := by
  obtain ⟨x, hx⟩ := X10_pnum_F h.2.1 1 9999
  simp only [f_X9_parseMessage_41, h.g0, X10_next_F h.2.1, X10_pkw_F h.2.1, hx, X9_flags_F' h, X10_failed_F h.2.1, bso, cond_true]
theorem X9_msg_e {P : Ps} (ap : apt rp tk rt rl) (h : cP M rp tk rt rl l P) (hL : okL P) (hk : tkK (toks l P.1) ≠ 0) : ∃ M', f_X9_parseMessage rp rl M = some M' ∧ cR M' rp tk rt rl l (pMsg l P) ∧ offP M M' rp tk rl := by
  obtain ⟨i, S, b1, b2⟩ := P
  obtain ⟨L, hL, -, hL30⟩ := hL
  have hL : stL S = nI L := hL
  have h3 := h.2.2.1.n3
  have h3 : stN S ≤ 3 := h3
  obtain ⟨M1, e1, t1, o1⟩ := X10_next_L h.2.1 hk
  have h1 := h.tok ap o1 t1
  simp only [pMsg]
  rcases X9_known_L ap h1 with ⟨n1, n2, e2⟩ | ⟨M2, e2, q2, o2, n1⟩
  · have n1 : tName l (toks l (i + 1)) = true := n1
    have n2 : bnm S (nmOf l (toks l (i + 1))) ≠ -1 := n2
    have e2 : f_X9_knownBox rp rl M1 = some (bnm S (nmOf l (toks l (i + 1))), M1) := e2
    obtain ⟨k, hk1, hk2, hk3⟩ := bnm_in n2 h3
    rw [n1, hk3, if_neg n2]
    simp only [Bool.true_eq_false, if_false]
    rw [hk2] at e2
    have hbx := h1.2.2.1.bx (k := k) (by omega)
    have hsz : f_X0_size (boxR rl k) M1 = some (nI (stB S k).2.2.length) := X0_size_e hbx
    have hlb : (stB S k).2.2.length ≤ 30 := hbx.len
    have hgL : gI M1 7 0 rl = some (stL S) := h1.2.2.1.gL
    have hbA : f_X8_boxAt rl (nI k) M1 = some (some (boxR rl k)) := X8_boxAt_in h1.2.2.1 hk1
    by_cases hfull : stL S ≤ nI (stB S k).2.2.length
    · rw [if_pos hfull]
      obtain ⟨M2, e3, t2, o2⟩ := X10_fail_L h1.2.1 (c := 4) (by decide)
      have q2 := h1.err ap o2 (e := erA l (i + 1) 4) t2
      refine ⟨M2, ?_, q2, (o1.pt ap).trans (o2.pt ap)⟩
      simp only [f_X9_parseMessage, h.ob, h.g0, e1, e2, bso, hbA, hsz, hgL, Int32.not_lt.mpr hfull, if_false, h1.g0, e3]
      exact X9_msg41_F q2 _
    · rw [if_neg hfull]
      have hlt : (stB S k).2.2.length < 30 := by
        rw [hL] at hfull
        have : ¬ (L ≤ (stB S k).2.2.length) := fun z => hfull ((nI_leI (by omega) (by omega)).mpr z)
        omega
      obtain ⟨M2, e3, t2, o2⟩ := X10_next_L h1.2.1 (show tkK (toks l (i + 1)) ≠ 0 by rw [tName_K n1]; decide)
      have h2 := h1.tok ap o2 t2
      have hd : f_X9_parseMessage rp rl M = f_X9_parseMessage_41 rp (boxR rl k) M1 := by
        simp only [f_X9_parseMessage, h.ob, h.g0, e1, e2, bso, hbA, hsz, hgL, Int32.not_le.mp hfull, if_true]
      rw [hd]
      rcases X10_pkw_L h2.2.1 (k := 3) (by omega) with ⟨w1, M3, e4, t3, o3⟩ | ⟨w1, M3, e4, t3, o3⟩
      · have w1 : tKw l (toks l (i + 1 + 1)) 3 = true := w1
        rw [w1]
        simp only [Bool.true_eq_false, if_false]
        have h3' := h2.tok ap o3 t3
        rcases X10_pnum_L h3'.2.1 (lo := 1) (hi := 9999) (by omega) (by omega) with ⟨n0, M4, e5, t4, o4⟩ | ⟨n0, x, M4, e5, t4, o4⟩
        · have n0 : tNum (toks l (i + 2 + 1)) 1 9999 = 0 := n0
          have n0' : tNum (toks l (i + 1 + 2)) 1 9999 = 0 := n0
          rw [n0']
          simp only [ne_eq, not_true_eq_false, if_false]
          have h4 := h3'.tok ap o4 t4
          have e5 : f_X10_passNumber tk 1 9999 M3 = some (nI (tkV (toks l (i + 1 + 2))), M4) := e5
          obtain ⟨x, M5, e6, o5, r5⟩ := X9_flags_e ap h4
          have r5 : (match pFlg l 700 (i + 1 + 3) 0 with | .inl (j2, fl) => x = fl ∧ cP M5 rp tk rt rl l (j2, S, b1, b2) | .inr e => cQ M5 rp tk rt rl l e) := r5
          cases hp : pFlg l 700 (i + 1 + 3) 0 with
          | inr e =>
            rw [hp] at r5
            refine ⟨M5, ?_, r5, ((((o1.pt ap).trans (o2.pt ap)).trans (o3.pt ap)).trans (o4.pt ap)).trans (o5.pt ap)⟩
            simp only [f_X9_parseMessage_41, h1.g0, e3, h2.g0, e4, h3'.g0, e5, e6, bso, r5.g0, X10_failed_F r5.2.1, cond_true]
          | inl y =>
            obtain ⟨j2, fl⟩ := y
            rw [hp] at r5
            obtain ⟨rfl, h5⟩ := r5
            have hb5 := h5.2.2.1.bx (k := k) (by omega)
            obtain ⟨M6, e7, b6, o6⟩ := X0_add_e hb5 (nI (tkV (toks l (i + 1 + 2)))) x hlt
            have s6 := h5.2.2.1.setB (k := k) (b := ((stB S k).1, (stB S k).2.1 + 1, (stB S k).2.2 ++ [((stB S k).2.1, nI (tkV (toks l (i + 1 + 2))), x)])) (by omega) b6 (fun q _ _ q3 => o6.2 q q3)
            have o6' : off M5 M6 rl 59 := o6.wide (by unfold boxR; omega) (by unfold boxR; omega)
            have h6 := h5.sta ap o6' s6 h.2.2.2.2
            obtain ⟨M7, e8, h7, o7⟩ := h6.p2 ap true
            refine ⟨M7, ?_, h7, ((((((o1.pt ap).trans (o2.pt ap)).trans (o3.pt ap)).trans (o4.pt ap)).trans (o5.pt ap)).trans o6'.pl).trans (o7.po ap)⟩
            simp only [f_X9_parseMessage_41, h1.g0, e3, h2.g0, e4, h3'.g0, e5, e6, bso, h5.g0, X10_failed_L h5.2.1, cond_false, e7, e8]
        · have n0 : tNum (toks l (i + 1 + 2)) 1 9999 ≠ 0 := n0
          have q4 := h3'.err ap o4 (e := erA l (i + 1 + 2) (tNum (toks l (i + 1 + 2)) 1 9999)) t4
          have e5 : f_X10_passNumber tk 1 9999 M3 = some (x, M4) := e5
          rw [if_pos n0]
          refine ⟨M4, ?_, q4, (((o1.pt ap).trans (o2.pt ap)).trans (o3.pt ap)).trans (o4.pt ap)⟩
          simp only [f_X9_parseMessage_41, h1.g0, e3, h2.g0, e4, h3'.g0, e5, X9_flags_F' q4, bso, q4.g0, X10_failed_F q4.2.1, cond_true]
      · have w1 : tKw l (toks l (i + 1 + 1)) 3 = false := w1
        rw [w1]
        simp only [if_true]
        have q3 := h2.err ap o3 (e := erA l (i + 1 + 1) 1) t3
        obtain ⟨x, hx⟩ := X10_pnum_F q3.2.1 1 9999
        refine ⟨M3, ?_, q3, ((o1.pt ap).trans (o2.pt ap)).trans (o3.pt ap)⟩
        simp only [f_X9_parseMessage_41, h1.g0, e3, h2.g0, e4, q3.g0, hx, X9_flags_F' q3, bso, X10_failed_F q3.2.1, cond_true]
  · have n1 : tName l (toks l (i + 1)) = false ∨ bnm S (nmOf l (toks l (i + 1))) = -1 := n1
    have q2 : cQ M2 rp tk rt rl l (erA l (i + 1) (if tName l (toks l (i + 1)) = false then 1 else 3)) := q2
    obtain ⟨S2, hS2, hw2⟩ := q2.2.2.1
    refine ⟨M2, ?_, ?_, (o1.pt ap).trans (o2.pt ap)⟩
    · simp only [f_X9_parseMessage, h.ob, h.g0, e1, e2, bso, X8_boxAt_out hS2 (.inl (show (-1 : Int32) < 0 by decide))]
    · by_cases z : tName l (toks l (i + 1)) = false
      · rw [if_pos z] at q2 ⊢
        exact q2
      · rw [if_neg z] at q2 ⊢
        rw [if_pos (n1.resolve_left z)]
        exact q2
/-! sessions -/
theorem X9_ses97_F {e : Er} (h : cQ M rp tk rt rl l e) (n : Int64) (rd : Bool) (bx : Int32) : f_X9_parseSession_97 rp rl n rd bx M = some M := by
  simp only [f_X9_parseSession_97, h.g0, X10_failed_F h.2.1, bso, cond_true, f_X9_parseSession_115]
theorem X9_ses83_F {e : Er} (h : cQ M rp tk rt rl l e) (n : Int64) (rd : Bool) : f_X9_parseSession_83 rp rl n rd M = some M := by
  simp only [f_X9_parseSession_83, X9_known_F h, h.g0, X10_next_F h.2.1, bso, X9_ses97_F h]
theorem X9_ses63_F {e : Er} (h : cQ M rp tk rt rl l e) (n : Int64) (rd : Bool) : f_X9_parseSession_63 rp rl n rd M = some M := by
  cases rd with
  | true => simp only [f_X9_parseSession_63, cond_true, X9_ses83_F h]
  | false => simp only [f_X9_parseSession_63, cond_false, h.g0, X10_sym_F h.2.1, bso, X9_ses83_F h]
theorem X9_ses16_F {e : Er} (h : cQ M rp tk rt rl l e) : f_X9_parseSession_16 rp rl M = some M := by
  obtain ⟨x, hx⟩ := X10_nm_F h.2.1.x
  obtain ⟨S, hS, hw⟩ := h.2.2.1
  obtain ⟨y, hy⟩ := X9_newName_F h (snm S x)
  simp only [f_X9_parseSession_16, h.g0, X10_next_F h.2.1, hx, X8_sesNamed_e hS, hy, X10_kw_F h.2.1, bso, cond_false, X9_ses63_F h]
/-- a session is added -/
theorem X9_ses97_L {P : Ps} (ap : apt rp tk rt rl) (h : cP M rp tk rt rl l P) (h4 : stM P.2.1 < 4) (n : Int64) (rd : Bool) (bx : Int32) (hbx : okB P.2.1 bx) : ∃ M', f_X9_parseSession_97 rp rl n rd bx M = some M' ∧ cP M' rp tk rt rl l (P.1, addSs P.2.1 n bx rd, P.2.2) ∧ offP M M' rp tk rl := by
  obtain ⟨M1, e1, s1, o1⟩ := X8_addSes_e h.2.2.1 h4
  have hx := s1.sx (k := stM P.2.1) h4
  obtain ⟨M2, e2, b2, o2⟩ := X7_begin_e hx n bx rd
  have s2 := s1.setS (k := stM P.2.1) (b := (n, bx, rd, false, 0, [], [0, 0, 0, 0, 0])) h4 b2 (fun q _ _ q3 => o2.2 q q3)
  have o12 : off M M2 rl 59 := (o1.wide (by omega) (by omega)).trans (o2.wide (by unfold sesR; omega) (by unfold sesR; omega))
  have h2 := h.sta ap o12 s2 (fun k hk => by
    have hk : k < stM P.2.1 + 1 := hk
    show okB _ (sxB (va_up (stS P.2.1) (stM P.2.1) (n, bx, rd, false, 0, [], [0, 0, 0, 0, 0]) k))
    by_cases e : k = stM P.2.1
    · subst e; rw [va_up_s]; exact hbx
    · rw [va_up_n _ _ e]; exact h.2.2.2.2 k (by omega))
  refine ⟨M2, ?_, h2, o12.pl⟩
  simp only [f_X9_parseSession_97, h.g0, X10_failed_L h.2.1, bso, cond_false, e1, f_X9_parseSession_115, e2]
theorem X9_ses83_L {P : Ps} (ap : apt rp tk rt rl) (h : cP M rp tk rt rl l P) (h4 : stM P.2.1 < 4) (n : Int64) (rd : Bool) : ∃ M', f_X9_parseSession_83 rp rl n rd M = some M' ∧ offP M M' rp tk rl ∧
    cR M' rp tk rt rl l (if tName l (toks l P.1) = false then .inr (erA l P.1 1) else if bnm P.2.1 (nmOf l (toks l P.1)) = -1 then .inr (erA l P.1 3) else .inl (P.1 + 1, addSs P.2.1 n (bnm P.2.1 (nmOf l (toks l P.1))) rd, P.2.2)) := by
  rcases X9_known_L ap h with ⟨n1, n2, e2⟩ | ⟨M2, e2, q2, o2, n1⟩
  · obtain ⟨M1, e1, t1, o1⟩ := X10_next_L h.2.1 (show tkK (toks l P.1) ≠ 0 by rw [tName_K n1]; decide)
    have h1 := h.tok ap o1 t1
    obtain ⟨M3, e3, h3, o3⟩ := X9_ses97_L ap h1 h4 n rd (bnm P.2.1 (nmOf l (toks l P.1))) (bnm_ok _ _)
    refine ⟨M3, by simp only [f_X9_parseSession_83, e2, h.g0, e1, bso, e3], (o1.pt ap).trans o3, ?_⟩
    rw [n1, if_neg n2]
    simp only [Bool.true_eq_false, if_false]
    exact h3
  · refine ⟨M2, by simp only [f_X9_parseSession_83, e2, q2.g0, X10_next_F q2.2.1, bso, X9_ses97_F q2], o2.pt ap, ?_⟩
    by_cases z : tName l (toks l P.1) = false
    · rw [if_pos z] at q2 ⊢
      exact q2
    · rw [if_neg z] at q2 ⊢
      rw [if_pos (n1.resolve_left z)]
      exact q2
theorem X9_ses_e {P : Ps} (ap : apt rp tk rt rl) (h : cP M rp tk rt rl l P) (hk : tkK (toks l P.1) ≠ 0) : ∃ M', f_X9_parseSession rp rl M = some M' ∧ cR M' rp tk rt rl l (pSes l P) ∧ offP M M' rp tk rl := by
  obtain ⟨i, S, b1, b2⟩ := P
  have hS := h.2.2.1
  have h4 : stM S ≤ 4 := hS.m4
  have gM : gI M 7 2 rl = some (nI (stM S)) := hS.gM
  simp only [f_X9_parseSession, h.ob, gM, bso, pSes]
  by_cases e4 : stM S = 4
  · obtain ⟨M1, e1, t1, o1⟩ := X10_fail_L h.2.1 (c := 4) (by decide)
    have q1 := h.err ap o1 (e := erA l i 4) t1
    rw [if_neg (show ¬ (nI (stM S) < 4) by rw [e4]; decide), if_pos e4]
    exact ⟨M1, by simp only [h.g0, e1, bso]; exact X9_ses16_F q1, q1, o1.pt ap⟩
  · rw [if_pos (show nI (stM S) < 4 from (nI_ltI (b := 4) (by omega) (by omega)).mpr (by omega)), if_neg e4]
    obtain ⟨M1, e1, t1, o1⟩ := X10_next_L h.2.1 hk
    have h1 := h.tok ap o1 t1
    have sN : f_X8_sessionNamed rl (nmOf l (toks l (i + 1))) M1 = some (snm S (nmOf l (toks l (i + 1)))) := X8_sesNamed_e h1.2.2.1 _
    rcases X9_newName_L ap h1 (snm S (nmOf l (toks l (i + 1)))) with ⟨n1, n2, M2, e2, h2, o2⟩ | ⟨M2, x, e2, q2, o2, n1⟩
    · have n1 : tName l (toks l (i + 1)) = true := n1
      have e2 : f_X9_passNewName rp (snm S (nmOf l (toks l (i + 1)))) M1 = some (nmOf l (toks l (i + 1)), M2) := e2
      rw [n1, if_neg (show ¬ (snm S (nmOf l (toks l (i + 1))) ≠ -1) from fun z => z n2)]
      simp only [Bool.true_eq_false, if_false]
      have hkw := X10_kw_L h2.2.1 (k := 5) (by omega)
      have hkw : f_X10_isKeyword tk 5 M2 = some (tKw l (toks l (i + 1 + 1)) 5) := hkw
      have hst : f_X9_parseSession_16 rp rl M = (bif tKw l (toks l (i + 1 + 1)) 5 then ((f_X10_next tk M2).bind fun M28 => f_X9_parseSession_63 rp rl (nmOf l (toks l (i + 1))) true M28) else f_X9_parseSession_63 rp rl (nmOf l (toks l (i + 1))) false M2) := by
        simp only [f_X9_parseSession_16, h.g0, e1, h1.g0, X10_nm_L t1, sN, e2, h2.g0, hkw, bso]
        cases tKw l (toks l (i + 1 + 1)) 5 <;> simp only [cond_true, cond_false]
      rw [hst]
      cases hrd : tKw l (toks l (i + 1 + 1)) 5 with
      | true =>
        simp only [cond_true, if_true, Bool.true_eq_false, false_and, if_false]
        obtain ⟨M3, e3, t3, o3⟩ := X10_next_L h2.2.1 (show tkK (toks l (i + 1 + 1)) ≠ 0 by rw [tKw_K hrd]; decide)
        have h3 := h2.tok ap o3 t3
        obtain ⟨M4, e5, o5, r5⟩ := X9_ses83_L ap h3 (show stM S < 4 by omega) (nmOf l (toks l (i + 1))) true
        exact ⟨M4, by simp only [e3, bso, f_X9_parseSession_63, cond_true, e5], r5, (((o1.pt ap).trans (o2.pt ap)).trans (o3.pt ap)).trans o5⟩
      | false =>
        simp only [cond_false, Bool.false_eq_true, if_false, true_and]
        have hsy := X10_sym_L h2.2.1 (c := 59) (by omega)
        have hsy : f_X10_isSymbol tk 59 M2 = some (tSym (toks l (i + 1 + 1)) 59) := hsy
        cases hsm : tSym (toks l (i + 1 + 1)) 59 with
        | true =>
          rw [hsm] at hsy
          simp only [if_true]
          obtain ⟨M4, e5, r5, o5⟩ := X9_ses97_L ap h2 (show stM S < 4 by omega) (nmOf l (toks l (i + 1))) false (-1) (.inl rfl)
          exact ⟨M4, by simp only [f_X9_parseSession_63, cond_false, h2.g0, hsy, bso, cond_true, e5], r5, ((o1.pt ap).trans (o2.pt ap)).trans o5⟩
        | false =>
          rw [hsm] at hsy
          simp only [Bool.false_eq_true, if_false]
          obtain ⟨M4, e5, o5, r5⟩ := X9_ses83_L ap h2 (show stM S < 4 by omega) (nmOf l (toks l (i + 1))) false
          exact ⟨M4, by simp only [f_X9_parseSession_63, cond_false, h2.g0, hsy, bso, e5], r5, ((o1.pt ap).trans (o2.pt ap)).trans o5⟩
    · have e2 : f_X9_passNewName rp (snm S (nmOf l (toks l (i + 1)))) M1 = some (x, M2) := e2
      have n1 : tName l (toks l (i + 1)) = false ∨ snm S (nmOf l (toks l (i + 1))) ≠ -1 := n1
      have q2 : cQ M2 rp tk rt rl l (erA l (i + 1) (if tName l (toks l (i + 1)) = false then 1 else 3)) := q2
      refine ⟨M2, ?_, ?_, (o1.pt ap).trans (o2.pt ap)⟩
      · simp only [f_X9_parseSession_16, h.g0, e1, h1.g0, X10_nm_L t1, sN, e2, q2.g0, X10_kw_F q2.2.1, bso, cond_false, X9_ses63_F q2]
      · by_cases z : tName l (toks l (i + 1)) = false
        · rw [if_pos z] at q2 ⊢
          exact q2
        · rw [if_neg z] at q2 ⊢
          rw [if_pos (n1.resolve_left z)]
          exact q2
end
