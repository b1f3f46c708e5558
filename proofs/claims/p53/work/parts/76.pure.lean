/-! PURE: the class's tokens, begun and asked -/
section
variable {M : Mem} {r rt : Nat} {l : List Int32}
theorem X10_beg_loop (hlen : l.length ≤ 700) (d : rt + 2 ≤ r ∨ r + 6 ≤ rt) : ∀ (n p reads c fu : Nat) (M : Mem) (X : Tx) (A : Ta), l.length - p ≤ n → p ≤ l.length → reads ≤ p → c ≤ p → n < fu → tkM M r rt X A → yA M rt 700 l → X.1 = nI c → hTok A l c → tkAt l p = toks l c → (∀ j, j < c → tkK (toks l j) ≠ 0) →
    ∃ M' X' A' c', f_X10_begin_9 fu r (nI p) (nI reads) M = f_X10_begin_39 r M' ∧ tkM M' r rt X' A' ∧ yA M' rt 700 l ∧ X'.1 = nI c' ∧ hTok A' l c' ∧ tkK (toks l c') = 0 ∧ c' ≤ 700 ∧ (∀ j, j < c' → tkK (toks l j) ≠ 0) ∧ off M M' r 6 := by
  intro n
  induction n with
  | zero =>
    intro p reads c fu M X A hn hp hr hc hf h hy hX hA ht hz
    obtain ⟨fu, rfl⟩ : ∃ m, fu = m + 1 := ⟨fu - 1, by omega⟩
    have hk : tkK (toks l c) = 0 := by rw [← ht, tkAt_end (by omega)]; rfl
    refine ⟨M, X, A, c, ?_, h, hy, hX, hA, hk, by omega, hz, off.rf _ _ _⟩
    simp only [f_X10_begin_9, h.g0, X1_size_e hy, bso]
    by_cases e : 700 ≤ reads
    · rw [if_pos (show (700 : Int32) ≤ nI reads from (nI_leI (a := 700) (by omega) (by omega)).mpr e)]
    · rw [if_neg (show ¬ ((700 : Int32) ≤ nI reads) from fun z => e ((nI_leI (a := 700) (by omega) (by omega)).mp z)), if_pos (nI_le (by omega) (by omega))]
  | succ n ih =>
    intro p reads c fu M X A hn hp hr hc hf h hy hX hA ht hz
    obtain ⟨fu, rfl⟩ : ∃ m, fu = m + 1 := ⟨fu - 1, by omega⟩
    by_cases e : l.length ≤ p
    · have hk : tkK (toks l c) = 0 := by rw [← ht, tkAt_end e]; rfl
      refine ⟨M, X, A, c, ?_, h, hy, hX, hA, hk, by omega, hz, off.rf _ _ _⟩
      simp only [f_X10_begin_9, h.g0, X1_size_e hy, bso]
      by_cases e : 700 ≤ reads
      · rw [if_pos (show (700 : Int32) ≤ nI reads from (nI_leI (a := 700) (by omega) (by omega)).mpr e)]
      · rw [if_neg (show ¬ ((700 : Int32) ≤ nI reads) from fun z => e ((nI_leI (a := 700) (by omega) (by omega)).mp z)), if_pos (nI_le (by omega) (by omega))]
    · obtain ⟨p', M1, X1, A1, c1, e1, q1, q2, t1, x1, a1, tk1, o1, hc1⟩ := X10_read_e h hy d (show p < l.length by omega) (show c < 701 by omega) hX hA ht
      have hz1 : ∀ j, j < c1 → tkK (toks l j) ≠ 0 := by
        rcases hc1 with rfl | ⟨rfl, hk⟩
        · exact hz
        · intro j hj
          by_cases ej : j = c
          · rw [ej]; exact hk
          · exact hz j (by omega)
      obtain ⟨M', X', A', c', e', rest⟩ := ih p' (reads + 1) c1 fu M1 X1 A1 (by omega) q2 (by omega) (by rcases hc1 with rfl | ⟨rfl, -⟩ <;> omega) (by omega) t1 (hy.sm (o1.same (by omega))) x1 a1 tk1 hz1
      obtain ⟨w1, w2, w3, w4, w5, w6, w7, w8⟩ := rest
      refine ⟨M', X', A', c', ?_, w1, w2, w3, w4, w5, w6, w7, o1.trans w8⟩
      simp only [f_X10_begin_9, h.g0, X1_size_e hy, bso, e1, nI_1, e']
      rw [if_neg (show ¬ ((700 : Int32) ≤ nI reads) from fun z => absurd ((nI_leI (a := 700) (by omega) (by omega)).mp z) (by omega)), if_neg (nI_ge (by omega) (by omega))]
/-- some tokens lie at r -/
def tkX (M : Mem) (r rt : Nat) : Prop := ∃ X A, tkM M r rt X A
theorem tkX.sm {M M' : Mem} (h : tkX M r rt) (s : same M M' r 6) : tkX M' r rt := by
  obtain ⟨X, A, h1⟩ := h
  exact ⟨X, A, h1.sm s⟩
theorem tkL.x {M : Mem} {i : Nat} (h : tkL M r rt l i) : tkX M r rt := by
  obtain ⟨X, A, N, h1, h2⟩ := h
  exact ⟨X, A, h1⟩
theorem tkF.x {M : Mem} {c p : Int32} (h : tkF M r rt c p) : tkX M r rt := by
  obtain ⟨X, A, h1, h2⟩ := h
  exact ⟨X, A, h1⟩
theorem X10_begin_e {M : Mem} (h : tkX M r rt) (hy : yA M rt 700 l) (d : rt + 2 ≤ r ∨ r + 6 ≤ rt) : ∃ M', f_X10_begin r M = some M' ∧ tkL M' r rt l 0 ∧ off M M' r 6 := by
  obtain ⟨X, A, h⟩ := h
  have hl := hy.len
  obtain ⟨t0, o0⟩ := h.put (nI 0, X.2)
  obtain ⟨M1, X1, A1, c, e1, t1, y1, x1, a1, k1, c1, z1, o1⟩ := X10_beg_loop (l := l) hl d l.length 0 0 0 FU _ _ A (by omega) (by omega) (by omega) (by omega) (by rw [FU_eq]; omega) t0 (hy.sm (o0.same (by omega))) rfl (fun j hj => absurd hj (Nat.not_lt_zero _)) rfl (fun j hj => absurd hj (Nat.not_lt_zero _))
  have e1 : f_X10_begin_9 FU r 0 0 (mset M r (.inr (9, tob r rt (nI 0, X.2)))) = f_X10_begin_39 r M1 := e1
  have hK := toks_K0 k1
  obtain ⟨M2, e2, t2, o2⟩ := X10_add_e t1 (c := c) (by omega) x1 0 (nI l.length) 0 0 none rfl
  have hA2 : hTok (upd A1.1 c 0, upd A1.2.1 c (nI l.length), upd A1.2.2.1 c 0, vp_updL A1.2.2.2.1 c 0, va_up A1.2.2.2.2 c none) l (c + 1) := hTok_up a1 (by rw [k1]; rfl) (by rw [hK]; rfl) (by rw [hK]; rfl) (by rw [hK]; rfl) (by rw [hK]; rfl)
  obtain ⟨t3, o3⟩ := t2.put (nI (c + 1), X1.2.1, X1.2.2.1, X1.2.2.2.1, X1.2.2.2.2.1, X1.2.2.2.2.2.1, X1.2.2.2.2.2.2.1, 0, X1.2.2.2.2.2.2.2.2)
  obtain ⟨t4, o4⟩ := t3.put (nI (c + 1), X1.2.1, X1.2.2.1, X1.2.2.2.1, X1.2.2.2.2.1, X1.2.2.2.2.2.1, X1.2.2.2.2.2.2.1, 0, -1)
  obtain ⟨t5, o5⟩ := t4.put (nI (c + 1), -1, X1.2.2.1, X1.2.2.2.1, X1.2.2.2.2.1, X1.2.2.2.2.2.1, X1.2.2.2.2.2.2.1, 0, -1)
  have e6 := X10_next_core t5 rfl (i := 0) (C := c + 1) (show (-1 : Int32) + 1 = nI 0 by decide) (by omega) (by omega) rfl
  obtain ⟨t6, o6⟩ := t5.put (nI (c + 1), nI 0, (upd A1.1 c 0) 0, (upd A1.2.1 c (nI l.length)) 0, (upd A1.2.2.1 c 0) 0, (vp_updL A1.2.2.2.1 c 0) 0, (va_up A1.2.2.2.2 c none) 0, 0, -1)
  obtain ⟨g1, g2, g3, g4, g5⟩ := hA2 0 (by omega)
  refine ⟨_, ?_, ⟨_, _, c, t6, hA2, k1, z1, c1, by omega, rfl, rfl, g1, g2, g3, g4, g5, rfl, rfl⟩, ((((((o0.trans o1).trans o2).trans o3).trans o4).trans o5).trans o6)⟩
  have p6 : pV M 9 6 r (.int 0) = some (mset M r (.inr (9, tob r rt (nI 0, X.2)))) := h.p6 0
  simp only [f_X10_begin, h.ob, p6, bso, e1, f_X10_begin_39, t1.g0, X1_size_e y1, e2, t2.p13, t3.p14, t4.p7, e6]
end
section
variable {M : Mem} {r rt : Nat} {l : List Int32} {i : Nat} {c p : Int32}
theorem tkK_le (l : List Int32) (i : Nat) : tkK (toks l i) ≤ 3 := by
  have : ∀ q, tkK (tkAt l q) ≤ 3 := by
    intro q
    unfold tkAt
    simp only
    split
    · exact Nat.zero_le _
    · split
      · show 1 ≤ 3; omega
      · split
        · show 2 ≤ 3; omega
        · exact Nat.le_refl _
  cases i with
  | zero => exact this _
  | succ i => exact this _
theorem tkV_sym {l : List Int32} {i : Nat} (h : tkK (toks l i) = 3) : tkV (toks l i) < 256 := by
  have : ∀ q, tkK (tkAt l q) = 3 → tkV (tkAt l q) < 256 := by
    intro q h
    unfold tkAt at h ⊢
    simp only at h ⊢
    by_cases e : l.length ≤ rn isG l q
    · rw [if_pos e] at h; cases h
    · rw [if_neg e] at h ⊢
      by_cases e2 : isL (ch l (rn isG l q)) = true
      · rw [if_pos e2] at h; cases h
      · rw [if_neg e2] at h ⊢
        by_cases e3 : isD (ch l (rn isG l q)) = true
        · rw [if_pos e3] at h; cases h
        · rw [if_neg e3] at h ⊢
          obtain ⟨d, h1, h2⟩ := ch_in (l := l) (k := rn isG l q) (by omega)
          show (ch l (rn isG l q)).toNatClampNeg < 256
          rw [h2, nI_clamp (by omega)]; exact h1
  cases i with
  | zero => exact this _ h
  | succ i => exact this _ h
/-- the token is a symbol -/
def tSym (t : Tk) (c : Nat) : Bool := decide (tkK t = 3 ∧ tkV t = c)
/-- the token is a keyword -/
def tKw (l : List Int32) (t : Tk) (k : Nat) : Bool := decide (tkK t = 1 ∧ sub l (tkS t) (tkE t) = kwWord k)
/-- the token is a name -/
def tName (l : List Int32) (t : Tk) : Bool := decide (tkK t = 1 ∧ kwOf (sub l (tkS t) (tkE t)) = none ∧ tkE t - tkS t ≤ 6)
/-- the token's flag -/
def tFlag (l : List Int32) (t : Tk) : Int32 := match kwTk l t with
  | none => 0
  | some k => kwFlag k
theorem X10_sym_L (h : tkL M r rt l i) {c : Nat} (hc : c < 256) : f_X10_isSymbol r (nI c) M = some (tSym (toks l i) c) := by
  obtain ⟨X, A, N, h1, h2, h3, h4, h5, h6, h7, h8, h9, h10, h11, h12, h13, h14, h15⟩ := h
  have hk := tkK_le l i
  simp only [f_X10_isSymbol, h1.ob, h1.g8, h1.g10, h9, bso, tSym]
  by_cases e : tkK (toks l i) = 3
  · have hv := tkV_sym e
    rw [valR, if_pos e] at h11
    rw [if_pos (by rw [e]; rfl), h11]
    by_cases e2 : tkV (toks l i) = c
    · rw [if_pos (by rw [e2])]; simp [e, e2]
    · rw [if_neg (fun z => e2 ((nI_eq (by omega) (by omega)).mp z))]; simp [e2]
  · rw [if_neg (show ¬ (nI (tkK (toks l i)) = 3) from fun z => e ((nI_eq (b := 3) (by omega) (by omega)).mp z))]; simp [e]
theorem X10_sym_F (h : tkF M r rt c p) (s : Int32) : f_X10_isSymbol r s M = some false := by
  obtain ⟨X, A, h1, h2, h3, h4, h5, h6⟩ := h
  simp only [f_X10_isSymbol, h1.ob, h1.g8, h2, bso]
  rw [if_neg (by decide)]
theorem kwTk_none {l : List Int32} {t : Tk} (h : tkK t ≠ 1) : kwTk l t = none := if_neg h
theorem X10_kw_L (h : tkL M r rt l i) {k : Nat} (hk : k < 15) : f_X10_isKeyword r k M = some (tKw l (toks l i) k) := by
  obtain ⟨X, A, N, h1, h2, h3, h4, h5, h6, h7, h8, h9, h10, h11, h12, h13, h14, h15⟩ := h
  have hkk := tkK_le l i
  simp only [f_X10_isKeyword, h1.ob, h1.g8, h9, bso, tKw]
  by_cases e : tkK (toks l i) = 1
  · rw [if_pos (by rw [e]; rfl)]
    have hq : h1.g12 = h1.g12 := rfl
    have h13' : X.2.2.2.2.2.2.1 = kwOf (sub l (tkS (toks l i)) (tkE (toks l i))) := by rw [h13, kwTk, if_pos e]
    simp only [h1.g12, bso, h13', acm, kq_kwOf, show kq (some k) = true from decide_eq_true hk, Bool.and_self, cond_true]
    by_cases e2 : sub l (tkS (toks l i)) (tkE (toks l i)) = kwWord k
    · rw [if_pos (by rw [e2]; exact kwOf_i k hk)]; simp [e, e2]
    · rw [if_neg (fun z => e2 ((kwOf_iff hk).mp z).symm)]; simp [e2]
  · rw [if_neg (show ¬ (nI (tkK (toks l i)) = 1) from fun z => e ((nI_eq (b := 1) (by omega) (by omega)).mp z))]; simp [e]
theorem X10_kw_F (h : tkF M r rt c p) (k : Nat) : f_X10_isKeyword r k M = some false := by
  obtain ⟨X, A, h1, h2, h3, h4, h5, h6⟩ := h
  simp only [f_X10_isKeyword, h1.ob, h1.g8, h2, bso]
  rw [if_neg (by decide)]
theorem X10_flag_L (h : tkL M r rt l i) : f_X10_flag r M = some (tFlag l (toks l i)) := by
  obtain ⟨X, A, N, h1, h2, h3, h4, h5, h6, h7, h8, h9, h10, h11, h12, h13, h14, h15⟩ := h
  simp only [f_X10_flag, h1.ob, h1.g12, h13, bso, tFlag]
  cases e : kwTk l (toks l i) with
  | none => rfl
  | some k =>
    have hk : k < 15 := by
      unfold kwTk at e
      by_cases e1 : tkK (toks l i) = 1
      · rw [if_pos e1] at e; exact (kwOf_s e).1
      · rw [if_neg e1] at e; cases e
    simp only [kFlag, hk, if_true, bso]
theorem X10_flag_F (h : tkF M r rt c p) : f_X10_flag r M = some 0 := by
  obtain ⟨X, A, h1, h2, h3, h4, h5, h6⟩ := h
  simp only [f_X10_flag, h1.ob, h1.g12, h3, bso]
theorem X10_end_L (h : tkL M r rt l i) : f_X10_atEnd r M = some (decide (tkK (toks l i) = 0)) := by
  obtain ⟨X, A, N, h1, h2, h3, h4, h5, h6, h7, h8, h9, h10, h11, h12, h13, h14, h15⟩ := h
  have hkk := tkK_le l i
  simp only [f_X10_atEnd, h1.ob, h1.g8, h9, bso]
  by_cases e : tkK (toks l i) = 0
  · rw [if_pos (by rw [e]; rfl)]; simp [e]
  · rw [if_neg (nI_ne0 (by omega) (by omega))]; simp [e]
theorem X10_end_F (h : tkF M r rt c p) : f_X10_atEnd r M = some false := by
  obtain ⟨X, A, h1, h2, h3, h4, h5, h6⟩ := h
  simp only [f_X10_atEnd, h1.ob, h1.g8, h2, bso]
  rw [if_neg (by decide)]
theorem X10_failed_L (h : tkL M r rt l i) : f_X10_failed r M = some false := by
  obtain ⟨X, A, N, h1, h2, h3, h4, h5, h6, h7, h8, h9, h10, h11, h12, h13, h14, h15⟩ := h
  simp only [f_X10_failed, h1.ob, h1.g13, h14, bso, if_true]
theorem X10_failed_F (h : tkF M r rt c p) : f_X10_failed r M = some true := by
  obtain ⟨X, A, h1, h2, h3, h4, h5, h6⟩ := h
  simp only [f_X10_failed, h1.ob, h1.g13, h4, bso, h6, if_false]
theorem X10_nm_L (h : tkL M r rt l i) : f_X10_name r M = some (nmOf l (toks l i)) := by
  obtain ⟨X, A, N, h1, h2, h3, h4, h5, h6, h7, h8, h9, h10, h11, h12, h13, h14, h15⟩ := h
  simp only [f_X10_name, h1.ob, h1.g11, h12, bso]
theorem X10_nm_F (h : tkX M r rt) : ∃ x, f_X10_name r M = some x := by
  obtain ⟨X, A, h1⟩ := h
  exact ⟨X.2.2.2.2.2.1, by simp only [f_X10_name, h1.ob, h1.g11, bso]⟩
theorem X10_isName_F (h : tkF M r rt c p) : f_X10_isName r M = some false := by
  obtain ⟨X, A, h1, h2, h3, h4, h5, h6⟩ := h
  simp only [f_X10_isName, h1.ob, h1.g8, h2, bso]
  rw [if_neg (by decide)]
theorem X10_psym_L (h : tkL M r rt l i) {s : Nat} (hs : s < 256) : (tSym (toks l i) s = true ∧ ∃ M', f_X10_passSymbol r (nI s) M = some M' ∧ tkL M' r rt l (i + 1) ∧ off M M' r 6) ∨ (tSym (toks l i) s = false ∧ ∃ M', f_X10_passSymbol r (nI s) M = some M' ∧ tkF M' r rt 1 (nI (tkS (toks l i))) ∧ off M M' r 6) := by
  have hob : ∀ x : Option Mem, ob M 9 r x = x := by
    obtain ⟨X, A, N, h1, -⟩ := id h
    exact fun x => h1.ob x
  have hq := X10_sym_L h hs
  cases e : tSym (toks l i) s with
  | true =>
    rw [e] at hq
    have hk : tkK (toks l i) ≠ 0 := by
      unfold tSym at e
      have := of_decide_eq_true e
      omega
    obtain ⟨M', e1, h1, o1⟩ := X10_next_L h hk
    exact .inl ⟨rfl, M', by simp only [f_X10_passSymbol, hob, hq, bso, cond_true, f_X10_passSymbol_13, e1], h1, o1⟩
  | false =>
    rw [e] at hq
    obtain ⟨M', e1, h1, o1⟩ := X10_fail_L h (c := 1) (by decide)
    exact .inr ⟨rfl, M', by simp only [f_X10_passSymbol, hob, hq, bso, cond_false, e1, f_X10_passSymbol_13, X10_next_F h1], h1, o1⟩
theorem X10_psym_F (h : tkF M r rt c p) (s : Int32) : f_X10_passSymbol r s M = some M := by
  have hob : ∀ x : Option Mem, ob M 9 r x = x := by
    obtain ⟨X, A, h1, -⟩ := id h
    exact fun x => h1.ob x
  simp only [f_X10_passSymbol, hob, X10_sym_F h, bso, cond_false, X10_fail_F h, f_X10_passSymbol_13, X10_next_F h]
theorem X10_pkw_L (h : tkL M r rt l i) {k : Nat} (hk : k < 15) : (tKw l (toks l i) k = true ∧ ∃ M', f_X10_passKeyword r k M = some M' ∧ tkL M' r rt l (i + 1) ∧ off M M' r 6) ∨ (tKw l (toks l i) k = false ∧ ∃ M', f_X10_passKeyword r k M = some M' ∧ tkF M' r rt 1 (nI (tkS (toks l i))) ∧ off M M' r 6) := by
  have hob : ∀ x : Option Mem, ob M 9 r x = x := by
    obtain ⟨X, A, N, h1, -⟩ := id h
    exact fun x => h1.ob x
  have hq := X10_kw_L h hk
  cases e : tKw l (toks l i) k with
  | true =>
    rw [e] at hq
    have hkk : tkK (toks l i) ≠ 0 := by
      unfold tKw at e
      have := of_decide_eq_true e
      omega
    obtain ⟨M', e1, h1, o1⟩ := X10_next_L h hkk
    exact .inl ⟨rfl, M', by simp only [f_X10_passKeyword, hob, hq, bso, cond_true, f_X10_passKeyword_13, e1], h1, o1⟩
  | false =>
    rw [e] at hq
    obtain ⟨M', e1, h1, o1⟩ := X10_fail_L h (c := 1) (by decide)
    exact .inr ⟨rfl, M', by simp only [f_X10_passKeyword, hob, hq, bso, cond_false, e1, f_X10_passKeyword_13, X10_next_F h1], h1, o1⟩
theorem X10_pkw_F (h : tkF M r rt c p) (k : Nat) : f_X10_passKeyword r k M = some M := by
  have hob : ∀ x : Option Mem, ob M 9 r x = x := by
    obtain ⟨X, A, h1, -⟩ := id h
    exact fun x => h1.ob x
  simp only [f_X10_passKeyword, hob, X10_kw_F h, bso, cond_false, X10_fail_F h, f_X10_passKeyword_13, X10_next_F h]
/-- what a number's token tells: 0 it passes, else the error -/
def tNum (t : Tk) (lo hi : Nat) : Int32 := if tkK t ≠ 2 then 1 else if lo ≤ tkV t ∧ tkV t ≤ hi then 0 else 2
theorem X10_pnum_L (h : tkL M r rt l i) {lo hi : Nat} (hlo : lo ≤ hi) (hh : hi ≤ 9999) : (tNum (toks l i) lo hi = 0 ∧ ∃ M', f_X10_passNumber r (nI lo) (nI hi) M = some (nI (tkV (toks l i)), M') ∧ tkL M' r rt l (i + 1) ∧ off M M' r 6) ∨ (tNum (toks l i) lo hi ≠ 0 ∧ ∃ x M', f_X10_passNumber r (nI lo) (nI hi) M = some (x, M') ∧ tkF M' r rt (tNum (toks l i) lo hi) (nI (tkS (toks l i))) ∧ off M M' r 6) := by
  obtain ⟨X, A, N, h1, h2, h3, h4, h5, h6, h7, h8, h9, h10, h11, h12, h13, h14, h15⟩ := id h
  have hkk := tkK_le l i
  by_cases e : tkK (toks l i) = 2
  · rw [valR, if_neg (by omega), if_pos e] at h11
    obtain ⟨w, w1, w2, w3⟩ := h11
    by_cases e2 : lo ≤ tkV (toks l i) ∧ tkV (toks l i) ≤ hi
    · have hw : w = tkV (toks l i) := by
        rcases w3 with ⟨a, b⟩ | ⟨a, b⟩
        · exact b
        · omega
      obtain ⟨M', e1, g1, o1⟩ := X10_next_L h (by omega)
      refine .inl ⟨by rw [tNum, if_neg (by omega), if_pos e2], M', ?_, g1, o1⟩
      simp only [f_X10_passNumber, h1.ob, h1.g10, h1.g8, h9, w1, bso, f_X10_passNumber_36, e1]
      rw [if_pos (by rw [e]; rfl), hw, if_neg (nI_nlt e2.1 (by omega)), if_pos (nI_le e2.2 (by omega))]
    · obtain ⟨M', e1, g1, o1⟩ := X10_fail_L h (c := 2) (by decide)
      have ht : tNum (toks l i) lo hi = 2 := by rw [tNum, if_neg (by omega), if_neg e2]
      refine .inr ⟨by rw [ht]; decide, nI w, M', ?_, by rw [ht]; exact g1, o1⟩
      simp only [f_X10_passNumber, h1.ob, h1.g10, h1.g8, h9, w1, bso, f_X10_passNumber_36, f_X10_passNumber_31, e1, X10_next_F g1]
      rw [if_pos (by rw [e]; rfl)]
      by_cases e3 : w < lo
      · rw [if_pos (nI_lt e3 (by omega))]
      · split
        · rfl
        · rw [if_neg (fun z => ?_)]
          have := (nI_leI (a := w) (b := hi) (by omega) (by omega)).mp z
          rcases w3 with ⟨a, b⟩ | ⟨a, b⟩ <;> omega
  · obtain ⟨M', e1, g1, o1⟩ := X10_fail_L h (c := 1) (by decide)
    have ht : tNum (toks l i) lo hi = 1 := by rw [tNum, if_pos e]
    refine .inr ⟨by rw [ht]; decide, X.2.2.2.2.1, M', ?_, by rw [ht]; exact g1, o1⟩
    simp only [f_X10_passNumber, h1.ob, h1.g10, h1.g8, h9, bso, f_X10_passNumber_36, e1, X10_next_F g1]
    rw [if_neg (show ¬ (nI (tkK (toks l i)) = 2) from fun z => e ((nI_eq (b := 2) (by omega) (by omega)).mp z))]
theorem X10_pnum_F (h : tkF M r rt c p) (lo hi : Int32) : ∃ x, f_X10_passNumber r lo hi M = some (x, M) := by
  obtain ⟨X, A, h1, h2, h3, h4, h5, h6⟩ := id h
  refine ⟨X.2.2.2.2.1, ?_⟩
  simp only [f_X10_passNumber, h1.ob, h1.g10, h1.g8, h2, bso, X10_fail_F h, f_X10_passNumber_36, X10_next_F h]
  rw [if_neg (by decide)]
end
