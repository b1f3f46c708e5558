/-! PURE: the class reads tokens -/
def nmOf (l : List Int32) (t : Tk) : Int64 := if tkK t = 1 then cnm ((l.take (tkE t)).drop (tkS t)) else 0
def kwTk (l : List Int32) (t : Tk) : Option Nat := if tkK t = 1 then kwOf (sub l (tkS t) (tkE t)) else none
def valR (x : Int32) (t : Tk) : Prop := if tkK t = 3 then x = nI (tkV t) else if tkK t = 2 then numR x (tkV t) else x = 0
def hTok (A : Ta) (l : List Int32) (C : Nat) : Prop := ∀ j, j < C → A.1 j = nI (tkK (toks l j)) ∧ A.2.1 j = nI (tkS (toks l j)) ∧ valR (A.2.2.1 j) (toks l j) ∧ A.2.2.2.1 j = nmOf l (toks l j) ∧ A.2.2.2.2 j = kwTk l (toks l j)
theorem hTok_up {A : Ta} {l : List Int32} {c : Nat} (h : hTok A l c) {k s v : Int32} {nm : Int64} {w : Option Nat} (h1 : k = nI (tkK (toks l c))) (h2 : s = nI (tkS (toks l c))) (h3 : valR v (toks l c)) (h4 : nm = nmOf l (toks l c)) (h5 : w = kwTk l (toks l c)) : hTok (upd A.1 c k, upd A.2.1 c s, upd A.2.2.1 c v, vp_updL A.2.2.2.1 c nm, va_up A.2.2.2.2 c w) l (c + 1) := by
  intro j hj
  by_cases e : j = c
  · subst e
    refine ⟨(upd_s _ _ _).trans h1, (upd_s _ _ _).trans h2, ?_, pk_uLs.trans h4, (va_up_s _ _ _).trans h5⟩
    show valR (upd A.2.2.1 j v j) (toks l j)
    rw [upd_s]; exact h3
  · obtain ⟨g1, g2, g3, g4, g5⟩ := h j (by omega)
    refine ⟨(upd_n _ _ e).trans g1, (upd_n _ _ e).trans g2, ?_, (pk_uLn e).trans g4, (va_up_n _ _ e).trans g5⟩
    show valR (upd A.2.2.1 c v j) (toks l j)
    rw [upd_n _ _ e]; exact g3
section
variable {M : Mem} {r rt : Nat} {X : Tx} {A : Ta} {l : List Int32}
theorem X10_eW_loop (h : tkM M r rt X A) (hy : yA M rt 700 l) : ∀ (n k fu : Nat), l.length - k ≤ n → k ≤ l.length → n < fu → f_X10_endOfWord_2 fu r (nI k) M = some (nI (rn isL l k)) := by
  have hl := hy.len
  intro n
  induction n with
  | zero =>
    intro k fu hk hkl hf
    obtain ⟨fu, rfl⟩ : ∃ m, fu = m + 1 := ⟨fu - 1, by omega⟩
    simp only [f_X10_endOfWord_2, h.g0, X1_size_e hy, bso, leT rfl rfl (show l.length ≤ k by omega) (show k < 2 ^ 31 by omega), if_true]
    rw [rn_n (by rw [ch_out (by omega)]; exact isL_m)]
  | succ n ih =>
    intro k fu hk hkl hf
    obtain ⟨fu, rfl⟩ : ∃ m, fu = m + 1 := ⟨fu - 1, by omega⟩
    simp only [f_X10_endOfWord_2, h.g0, X1_size_e hy, bso]
    by_cases e : l.length ≤ k
    · rw [if_pos (nI_le e (by omega)), rn_n (by rw [ch_out e]; exact isL_m)]
    · rw [if_neg (nI_ge (by omega) (by omega))]
      simp only [X1_get_e hy (show k < 2 ^ 31 by omega), X10_isL_e, bso, nI_1]
      cases e2 : isL (ch l k) with
      | true => simp only [cond_true]; rw [ih (k + 1) fu (by omega) (by omega) (by omega), rn_y isL_m e2]
      | false => simp only [cond_false]; rw [rn_n e2]
theorem X10_eN_loop (h : tkM M r rt X A) (hy : yA M rt 700 l) : ∀ (n k fu : Nat), l.length - k ≤ n → k ≤ l.length → n < fu → f_X10_endOfNumber_2 fu r (nI k) M = some (nI (rn isD l k)) := by
  have hl := hy.len
  intro n
  induction n with
  | zero =>
    intro k fu hk hkl hf
    obtain ⟨fu, rfl⟩ : ∃ m, fu = m + 1 := ⟨fu - 1, by omega⟩
    simp only [f_X10_endOfNumber_2, h.g0, X1_size_e hy, bso, leT rfl rfl (show l.length ≤ k by omega) (show k < 2 ^ 31 by omega), if_true]
    rw [rn_n (by rw [ch_out (by omega)]; exact isD_m)]
  | succ n ih =>
    intro k fu hk hkl hf
    obtain ⟨fu, rfl⟩ : ∃ m, fu = m + 1 := ⟨fu - 1, by omega⟩
    simp only [f_X10_endOfNumber_2, h.g0, X1_size_e hy, bso]
    by_cases e : l.length ≤ k
    · rw [if_pos (nI_le e (by omega)), rn_n (by rw [ch_out e]; exact isD_m)]
    · rw [if_neg (nI_ge (by omega) (by omega))]
      simp only [X1_get_e hy (show k < 2 ^ 31 by omega), X10_isD_e, bso, nI_1]
      cases e2 : isD (ch l k) with
      | true => simp only [cond_true]; rw [ih (k + 1) fu (by omega) (by omega) (by omega), rn_y isD_m e2]
      | false => simp only [cond_false]; rw [rn_n e2]
theorem X10_num_loop (h : tkM M r rt X A) (hy : yA M rt 700 l) {b : Nat} (hb : b ≤ l.length) : ∀ (n k fu w v : Nat), k + n = b → n < fu → (∀ j, k ≤ j → j < b → isD (ch l j) = true) → w ≤ 99999 → ((v ≤ 9999 ∧ w = v) ∨ (v = 10000 ∧ 10000 ≤ w)) →
    ∃ x, f_X10_numberAt_5 fu r (nI b) (nI w) (nI k) M = some x ∧ numR x (nvF l n k v) := by
  have hl := hy.len
  intro n
  induction n with
  | zero =>
    intro k fu w v hk hf hd hw hv
    obtain ⟨fu, rfl⟩ : ∃ m, fu = m + 1 := ⟨fu - 1, by omega⟩
    obtain rfl : k = b := by omega
    refine ⟨nI w, by simp only [f_X10_numberAt_5, leT rfl rfl (Nat.le_refl k) (show k < 2 ^ 31 by omega), if_true], w, rfl, hw, ?_⟩
    rcases hv with ⟨h1, h2⟩ | ⟨h1, h2⟩
    · exact .inl ⟨h1, h2⟩
    · exact .inr ⟨by show 10000 ≤ v; omega, h2⟩
  | succ n ih =>
    intro k fu w v hk hf hd hw hv
    obtain ⟨fu, rfl⟩ : ∃ m, fu = m + 1 := ⟨fu - 1, by omega⟩
    simp only [f_X10_numberAt_5, leF rfl rfl (show k < b by omega) (show b < 2 ^ 31 by omega), if_false]
    rcases hv with ⟨h1, h2⟩ | ⟨h1, h2⟩
    · subst h2
      obtain ⟨d, d1, d2, d3⟩ := isD_v (hd k (Nat.le_refl _) (by omega))
      rw [if_neg (show ¬ ((9999 : Int32) < nI w) from fun z => absurd ((nI_ltI (a := 9999) (by omega) (by omega)).mp z) (by omega))]
      have hx : nI w * 10 + nI (48 + d) - 48 = nI (10 * w + d) := by
        rw [show (10 : Int32) = nI 10 from rfl, nI_mul, nI_add, show (48 : Int32) = nI 48 from rfl, nI_sub (by omega)]
        congr 1; omega
      simp only [h.g0, X1_get_e hy (show k < 2 ^ 31 by omega), d2, bso, hx, nI_1]
      obtain ⟨x, e, hn⟩ := ih (k + 1) fu (10 * w + d) (min 10000 (10 * w + d)) (by omega) (by omega) (fun j j1 j2 => hd j (by omega) j2) (by omega) (by omega)
      refine ⟨x, e, ?_⟩
      rw [nvF, d3]; exact hn
    · rw [if_pos (show (9999 : Int32) < nI w from (nI_ltI (a := 9999) (by omega) (by omega)).mpr (by omega))]
      refine ⟨nI w, rfl, w, rfl, hw, .inr ⟨?_, h2⟩⟩
      rw [nvF, h1, Nat.min_eq_left (by omega), nvF_big]
      exact Nat.le_refl _
theorem kq_kwOf (w : List Int32) : kq (kwOf w) = true := by
  cases e : kwOf w with
  | none => rfl
  | some i =>
    show decide (i < 15) = true
    rw [decide_eq_true_eq]
    exact (kwOf_s e).1
theorem X10_read_e (h : tkM M r rt X A) (hy : yA M rt 700 l) (d : rt + 2 ≤ r ∨ r + 6 ≤ rt) {p c : Nat} (hp : p < l.length) (hc : c < 701) (hX : X.1 = nI c) (hA : hTok A l c) (ht : tkAt l p = toks l c) :
    ∃ p' M' X' A' c', f_X10_readOne r (nI p) M = some (nI p', M') ∧ p < p' ∧ p' ≤ l.length ∧ tkM M' r rt X' A' ∧ X'.1 = nI c' ∧ hTok A' l c' ∧ tkAt l p' = toks l c' ∧ off M M' r 6 ∧ (c' = c ∨ (c' = c + 1 ∧ tkK (toks l c) ≠ 0)) := by
  have hl := hy.len
  obtain ⟨dd, hdd, hch⟩ := ch_in hp
  have hget : f_X1_get rt (nI p) M = some (ch l p) := X1_get_e hy (by omega)
  have addd : ∀ (kk v : Int32) (nm : Int64) (w : Option Nat) (e : Nat), kq w = true → kk = nI (tkK (toks l c)) → nI p = nI (tkS (toks l c)) → valR v (toks l c) → nm = nmOf l (toks l c) → w = kwTk l (toks l c) → e = tkE (toks l c) → tkK (toks l c) ≠ 0 →
      ∃ M', f_X10_addToken r kk (nI p) v nm w M = some M' ∧ (∃ X' A' c', p < e ∧ e ≤ l.length ∧ tkM M' r rt X' A' ∧ X'.1 = nI c' ∧ hTok A' l c' ∧ tkAt l e = toks l c' ∧ off M M' r 6 ∧ (c' = c ∨ (c' = c + 1 ∧ tkK (toks l c) ≠ 0))) := by
    intro kk v nm w e hw k1 k2 k3 k4 k5 k6 k7
    obtain ⟨M', e1, t1, o1⟩ := X10_add_e h hc hX kk (nI p) v nm w hw
    have hE := tkAt_E (l := l) (p := p)
    rw [ht] at hE
    refine ⟨M', e1, _, _, c + 1, ?_, ?_, t1, rfl, hTok_up hA k1 k2 k3 k4 k5, ?_, o1, .inr ⟨rfl, k7⟩⟩
    · rw [k6]; exact (hE.2 k7).1
    · rw [k6]; exact hE.1
    · rw [k6]; rfl
  have gapn : isG (ch l p) = false → rn isG l p = p := fun z => rn_n z
  simp only [f_X10_readOne, h.ob, h.g0, hget, X10_isL_e, X10_isD_e, bso]
  cases hL : isL (ch l p) with
  | true =>
    have hg : isG (ch l p) = false := by
      rw [hch] at hL ⊢
      have := (isL_n hdd).mp hL
      have h1 : (nI dd = 32) = (dd = 32) := eqI (b := 32) rfl rfl (by omega) (by omega)
      have h2 : (nI dd = 10) = (dd = 10) := eqI (b := 10) rfl rfl (by omega) (by omega)
      simp only [isG, h1, h2, Bool.or_eq_false_iff, decide_eq_false_iff_not]
      omega
    have htok : toks l c = (1, p, rn isL l p, 0) := by
      rw [← ht]; unfold tkAt
      simp only [gapn hg, show ¬ (l.length ≤ p) by omega, if_false, hL, if_true]
    have heW : f_X10_endOfWord r (nI p) M = some (nI (rn isL l p)) := by
      rw [f_X10_endOfWord, h.ob]; exact X10_eW_loop h hy (l.length - p) p FU (Nat.le_refl _) (by omega) (by rw [FU_eq]; omega)
    have hge := rn_ge isL l p
    have hle := rn_le (p := isL) (l := l) (k := p) (by omega)
    obtain ⟨M', e1, X', A', c', rest⟩ := addd 1 0 (cnm ((l.take (rn isL l p)).drop p)) (kwOf (sub l p (rn isL l p))) (rn isL l p) (kq_kwOf _) (by rw [htok]; rfl) (by rw [htok]; rfl) (by rw [htok]; rfl) (by rw [htok]; rfl) (by rw [htok]; rfl) (by rw [htok]; rfl) (by rw [htok]; show 1 ≠ 0; decide)
    refine ⟨rn isL l p, M', X', A', c', ?_, rest⟩
    simp only [cond_true, heW, X1_name_e hy (show p ≤ l.length by omega) hle, X3_spelled_e hy hge hle, bso, e1]
  | false =>
    simp only [cond_false]
    cases hD : isD (ch l p) with
    | true =>
      have hg : isG (ch l p) = false := by
        rw [hch] at hD ⊢
        have := (isD_n hdd).mp hD
        have h1 : (nI dd = 32) = (dd = 32) := eqI (b := 32) rfl rfl (by omega) (by omega)
        have h2 : (nI dd = 10) = (dd = 10) := eqI (b := 10) rfl rfl (by omega) (by omega)
        simp only [isG, h1, h2, Bool.or_eq_false_iff, decide_eq_false_iff_not]
        omega
      have htok : toks l c = (2, p, rn isD l p, nv l p (rn isD l p)) := by
        rw [← ht]; unfold tkAt
        simp only [gapn hg, show ¬ (l.length ≤ p) by omega, if_false, hL, hD, if_true, Bool.false_eq_true]
      have heN : f_X10_endOfNumber r (nI p) M = some (nI (rn isD l p)) := by
        rw [f_X10_endOfNumber, h.ob]; exact X10_eN_loop h hy (l.length - p) p FU (Nat.le_refl _) (by omega) (by rw [FU_eq]; omega)
      have hge := rn_ge isD l p
      have hle := rn_le (p := isD) (l := l) (k := p) (by omega)
      obtain ⟨x, hx, hnr⟩ := X10_num_loop h hy hle (rn isD l p - p) p FU 0 0 (by omega) (by rw [FU_eq]; omega) (fun j j1 j2 => rn_all j1 j2) (by omega) (.inl ⟨by omega, rfl⟩)
      have hx' : f_X10_numberAt r (nI p) (nI (rn isD l p)) M = some x := by rw [f_X10_numberAt, h.ob]; exact hx
      obtain ⟨M', e1, X', A', c', rest⟩ := addd 2 x 0 none (rn isD l p) rfl (by rw [htok]; rfl) (by rw [htok]; rfl) (by rw [htok]; exact hnr) (by rw [htok]; rfl) (by rw [htok]; rfl) (by rw [htok]; rfl) (by rw [htok]; show 2 ≠ 0; decide)
      refine ⟨rn isD l p, M', X', A', c', ?_, rest⟩
      simp only [cond_true, heN, hx', bso, e1]
    | false =>
      simp only [cond_false]
      have gap : isG (ch l p) = true → ∃ p' M' X' A' c', some (nI (p + 1), M) = some (nI p', M') ∧ p < p' ∧ p' ≤ l.length ∧ tkM M' r rt X' A' ∧ X'.1 = nI c' ∧ hTok A' l c' ∧ tkAt l p' = toks l c' ∧ off M M' r 6 ∧ (c' = c ∨ (c' = c + 1 ∧ tkK (toks l c) ≠ 0)) := fun z =>
        ⟨p + 1, M, X, A, c, rfl, by omega, by omega, h, hX, hA, by rw [← tkAt_gap z]; exact ht, off.rf _ _ _, .inl rfl⟩
      rw [nI_1]
      by_cases e1 : ch l p = 32
      · rw [if_pos e1]; exact gap (by simp [isG, e1])
      · rw [if_neg e1]
        by_cases e2 : ch l p = 10
        · rw [if_pos e2]; exact gap (by simp [isG, e2])
        · rw [if_neg e2]
          have hg : isG (ch l p) = false := by simp [isG, e1, e2]
          have htok : toks l c = (3, p, p + 1, (ch l p).toNatClampNeg) := by
            rw [← ht]; unfold tkAt
            simp only [gapn hg, show ¬ (l.length ≤ p) by omega, if_false, hL, hD, Bool.false_eq_true]
          obtain ⟨M', e1, X', A', c', rest⟩ := addd 3 (ch l p) 0 none (p + 1) rfl (by rw [htok]; rfl) (by rw [htok]; rfl) (by rw [htok]; show ch l p = nI ((ch l p).toNatClampNeg); rw [hch, nI_clamp (by omega)]) (by rw [htok]; rfl) (by rw [htok]; rfl) (by rw [htok]; rfl) (by rw [htok]; show 3 ≠ 0; decide)
          exact ⟨p + 1, M', X', A', c', by simp only [e1, bso], rest⟩
/-- the tokens stand, the i-th is the one at hand, no error -/
def tkL (M : Mem) (r rt : Nat) (l : List Int32) (i : Nat) : Prop :=
  ∃ X A N, tkM M r rt X A ∧ hTok A l (N + 1) ∧ tkK (toks l N) = 0 ∧ (∀ j, j < N → tkK (toks l j) ≠ 0) ∧ N ≤ 700 ∧ i ≤ N ∧ X.1 = nI (N + 1) ∧ X.2.1 = nI i ∧ X.2.2.1 = nI (tkK (toks l i)) ∧ X.2.2.2.1 = nI (tkS (toks l i)) ∧ valR X.2.2.2.2.1 (toks l i) ∧ X.2.2.2.2.2.1 = nmOf l (toks l i) ∧ X.2.2.2.2.2.2.1 = kwTk l (toks l i) ∧ X.2.2.2.2.2.2.2.1 = 0 ∧ X.2.2.2.2.2.2.2.2 = -1
/-- an error was told -/
def tkF (M : Mem) (r rt : Nat) (c p : Int32) : Prop := ∃ X A, tkM M r rt X A ∧ X.2.2.1 = 4 ∧ X.2.2.2.2.2.2.1 = none ∧ X.2.2.2.2.2.2.2.1 = c ∧ X.2.2.2.2.2.2.2.2 = p ∧ c ≠ 0
theorem tkL.sm {M' : Mem} {i : Nat} (h : tkL M r rt l i) (s : same M M' r 6) : tkL M' r rt l i := by
  obtain ⟨X, A, N, h1, h2⟩ := h
  exact ⟨X, A, N, h1.sm s, h2⟩
theorem tkF.sm {M' : Mem} {c p : Int32} (h : tkF M r rt c p) (s : same M M' r 6) : tkF M' r rt c p := by
  obtain ⟨X, A, h1, h2⟩ := h
  exact ⟨X, A, h1.sm s, h2⟩
/-- what next() makes of the fields -/
theorem X10_next_core (h : tkM M r rt X A) (hcode : X.2.2.2.2.2.2.2.1 = 0) {i C : Nat} (hat : X.2.1 + 1 = nI i) (hi : i < C) (hC : C ≤ 701) (hX : X.1 = nI C) :
    f_X10_next r M = some (mset M r (.inr (9, tob r rt (X.1, nI i, A.1 i, A.2.1 i, A.2.2.1 i, A.2.2.2.1 i, A.2.2.2.2 i, X.2.2.2.2.2.2.2.1, X.2.2.2.2.2.2.2.2)))) := by
  have hc := h.g13
  rw [hcode] at hc
  obtain ⟨t1, o1⟩ := h.put (X.1, nI i, X.2.2)
  obtain ⟨t2, o2⟩ := t1.put (X.1, nI i, A.1 i, X.2.2.2)
  obtain ⟨t3, o3⟩ := t2.put (X.1, nI i, A.1 i, A.2.1 i, X.2.2.2.2)
  obtain ⟨t4, o4⟩ := t3.put (X.1, nI i, A.1 i, A.2.1 i, A.2.2.1 i, X.2.2.2.2.2)
  obtain ⟨t5, o5⟩ := t4.put (X.1, nI i, A.1 i, A.2.1 i, A.2.2.1 i, A.2.2.2.1 i, X.2.2.2.2.2.2)
  rw [mset2] at t2
  rw [mset2, mset2] at t3
  rw [mset2, mset2, mset2] at t4
  rw [mset2, mset2, mset2, mset2] at t5
  have hi7 : i < 701 := by omega
  have hle : ¬ (nI 701 ≤ nI i) := nI_ge (by omega) (by omega)
  have hle2 : ¬ (nI C ≤ nI i) := nI_ge hi (by omega)
  have a1 := t1.els hi7
  have a2 := t2.els hi7
  have a3 := t3.els hi7
  have a4 := t4.els hi7
  have a5 := t5.els hi7
  have hpos : ¬ (nI i < 0) := nI_pos (by omega)
  have g6 : gI (mset M r (.inr (9, tob r rt (X.1, nI i, X.2.2)))) 9 6 r = some (nI C) := by rw [t1.g6]; exact congrArg some hX
  simp only [f_X10_next, h.ob, hc, if_true, h.g7, bso, hat, h.p7, t1.g7, hpos, if_false, g6, hle2]
  simp only [f_X10_next_41, cond_true, t1.g7, t1.g1, t1.rooms.1, bso, hle, if_false, a1.1, f_X10_next_72, t1.p8, mset2, t2.g7, t2.g2, t2.rooms.2.1, a2.2.1, f_X10_next_108, t2.p9, t3.g7, t3.g3, t3.rooms.2.2.1, a3.2.2.1, f_X10_next_141, t3.p10, t4.g7, t4.g4, t4.rooms.2.2.2.1, a4.2.2.2.1, f_X10_next_174, t4.p11, t5.g7, t5.g5, t5.rooms.2.2.2.2, a5.2.2.2.2, t5.p12]
theorem X10_next_L {i : Nat} (h : tkL M r rt l i) (hk : tkK (toks l i) ≠ 0) : ∃ M', f_X10_next r M = some M' ∧ tkL M' r rt l (i + 1) ∧ off M M' r 6 := by
  obtain ⟨X, A, N, h1, h2, h3, h4, h5, h6, h7, h8, h9, h10, h11, h12, h13, h14, h15⟩ := h
  have hiN : i < N := by
    by_cases e : i = N
    · subst e; exact absurd h3 hk
    · omega
  have e := X10_next_core h1 h14 (i := i + 1) (C := N + 1) (by rw [h8, nI_1]) (by omega) (by omega) h7
  obtain ⟨t, o⟩ := h1.put (X.1, nI (i + 1), A.1 (i + 1), A.2.1 (i + 1), A.2.2.1 (i + 1), A.2.2.2.1 (i + 1), A.2.2.2.2 (i + 1), X.2.2.2.2.2.2.2.1, X.2.2.2.2.2.2.2.2)
  obtain ⟨g1, g2, g3, g4, g5⟩ := h2 (i + 1) (by omega)
  exact ⟨_, e, ⟨_, A, N, t, h2, h3, h4, h5, by omega, h7, rfl, g1, g2, g3, g4, g5, h14, h15⟩, o⟩
theorem X10_next_F {c p : Int32} (h : tkF M r rt c p) : f_X10_next r M = some M := by
  obtain ⟨X, A, h1, h2, h3, h4, h5, h6⟩ := h
  have hc := h1.g13
  rw [h4] at hc
  simp only [f_X10_next, h1.ob, hc, bso, h6, if_false]
theorem X10_fail_L {i : Nat} (h : tkL M r rt l i) {c : Int32} (hc : c ≠ 0) : ∃ M', f_X10_fail r c M = some M' ∧ tkF M' r rt c (nI (tkS (toks l i))) ∧ off M M' r 6 := by
  obtain ⟨X, A, N, h1, h2, h3, h4, h5, h6, h7, h8, h9, h10, h11, h12, h13, h14, h15⟩ := h
  have hcd := h1.g13
  rw [h14] at hcd
  obtain ⟨t1, o1⟩ := h1.put (X.1, X.2.1, X.2.2.1, X.2.2.2.1, X.2.2.2.2.1, X.2.2.2.2.2.1, X.2.2.2.2.2.2.1, c, X.2.2.2.2.2.2.2.2)
  obtain ⟨t2, o2⟩ := t1.put (X.1, X.2.1, X.2.2.1, X.2.2.2.1, X.2.2.2.2.1, X.2.2.2.2.2.1, X.2.2.2.2.2.2.1, c, X.2.2.2.1)
  obtain ⟨t3, o3⟩ := t2.put (X.1, X.2.1, 4, X.2.2.2.1, X.2.2.2.2.1, X.2.2.2.2.2.1, X.2.2.2.2.2.2.1, c, X.2.2.2.1)
  rw [mset2] at t2
  rw [mset2, mset2] at t3
  obtain ⟨t4, o4⟩ := h1.put (X.1, X.2.1, 4, X.2.2.2.1, X.2.2.2.2.1, X.2.2.2.2.2.1, none, c, X.2.2.2.1)
  refine ⟨_, ?_, ⟨_, A, t4, rfl, rfl, rfl, h10, hc⟩, o4⟩
  simp only [f_X10_fail, h1.ob, hcd, bso, if_true, h1.p13, t1.g9, t1.p14, mset2, t2.p8, t3.p12]
theorem X10_fail_F {c p c2 : Int32} (h : tkF M r rt c p) : f_X10_fail r c2 M = some M := by
  obtain ⟨X, A, h1, h2, h3, h4, h5, h6⟩ := h
  have hc := h1.g13
  rw [h4] at hc
  simp only [f_X10_fail, h1.ob, hc, bso, h6, if_false]
end
