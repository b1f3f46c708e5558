/-! PURE: the reference at a token -/
/-- a letter's byte is held as it is -/
def byR (l : List Int32) : Prop := ∀ k, k < l.length → isL (ch l k) = true → l.getD k 0 = ch l k
def vlR (x : Int32) (t : Tk) : Prop := if tkK t = 3 then x = nI (tkV t) else if tkK t = 2 then numR x (tkV t) else True
/-- the reference stands at the i-th token, no error -/
def rL (R : Rs) (l : List Int32) (i : Nat) : Prop :=
  (rTx R l ∧ byR l) ∧ R.1 10 = nI (tkE (toks l i)) ∧ R.1 11 = nI (tkS (toks l i)) ∧ R.1 12 = nI (tkK (toks l i)) ∧ vlR (R.1 13) (toks l i) ∧ R.1 14 = 0 ∧ R.1 15 = -1
/-- the reference told an error -/
def rF (R : Rs) (l : List Int32) (c p : Int32) : Prop := (rTx R l ∧ byR l) ∧ R.1 14 = c ∧ R.1 15 = p ∧ c ≠ 0
/-- what the reader changes -/
def rk (R R' : Rs) : Prop := R'.2 = R.2 ∧ ∀ k, (k < 10 ∨ 15 < k) → R'.1 k = R.1 k
theorem rk.rf (R : Rs) : rk R R := ⟨rfl, fun _ _ => rfl⟩
theorem rk.trans {R R1 R2 : Rs} (h : rk R R1) (g : rk R1 R2) : rk R R2 := ⟨g.1.trans h.1, fun k hk => (g.2 k hk).trans (h.2 k hk)⟩
theorem rk.S (R : Rs) {k : Nat} (hk : 10 ≤ k ∧ k ≤ 15) (v : Int32) : rk R (rsS R k v) := ⟨rfl, fun j hj => va_up_n _ _ (by omega)⟩
theorem rk.sc (R : Rs) (a b c d : Int32) : rk R (scR R a b c d) := ⟨rfl, fun j hj => by
  show scF R.1 a b c d j = R.1 j
  unfold scF
  rw [if_neg (by omega), if_neg (by omega), if_neg (by omega), if_neg (by omega)]⟩
theorem rk.row {R R' : Rs} (h : rk R R') : rowf R' = rowf R := by unfold rowf rowN; rw [h.1]
theorem rTx.rk {R R' : Rs} {l : List Int32} (h : rTx R l) (k : rk R R') : rTx R' l := ⟨(k.2 9 (by omega)).trans h.1, h.2.1, by rw [k.1]; exact h.2.2⟩
section
variable {M : Mem} {m : Nat} {R : Rs} {l : List Int32} {i : Nat} {c p : Int32}
theorem X12_good_L (h : rL R l i) : f_X12_good m (ov M m R) = some true := by
  simp only [f_X12_good, ov_ob, r_g14, h.2.2.2.2.2.1, bso, if_true]
theorem X12_good_F (h : rF R l c p) : f_X12_good m (ov M m R) = some false := by
  simp only [f_X12_good, ov_ob, r_g14, h.2.1, bso, h.2.2.2, if_false]
theorem X12_errs_L (h : rL R l i) {e : Int32} (he : e ≠ 0) : ∃ R', f_X12_errs m e (ov M m R) = some (ov M m R') ∧ rF R' l e (nI (tkS (toks l i))) ∧ rk R R' := by
  have k := (rk.S R (k := 14) (by omega) e).trans (rk.S (rsS R 14 e) (k := 15) (by omega) (nI (tkS (toks l i))))
  have g11 : gI (ov M m (rsS R 14 e)) 11 11 m = some (nI (tkS (toks l i))) := by rw [r_g11]; exact congrArg some h.2.2.1
  refine ⟨rsS (rsS R 14 e) 15 (nI (tkS (toks l i))), ?_, ⟨⟨h.1.1.rk k, h.1.2⟩, rfl, rfl, he⟩, k⟩
  simp only [f_X12_errs, ov_ob, X12_good_L h, bso, cond_true, r_p14, g11, r_p15]
theorem X12_errs_F (h : rF R l c p) (e : Int32) : f_X12_errs m e (ov M m R) = some (ov M m R) := by
  simp only [f_X12_errs, ov_ob, X12_good_F h, bso, cond_false]
theorem rn_len {p : Int32 → Bool} {l : List Int32} {k : Nat} (h : k ≤ l.length) : ∃ n, rn p l k = k + n ∧ k + n ≤ l.length := by
  have h1 := rn_ge p l k
  have h2 := rn_le (p := p) h
  exact ⟨rn p l k - k, by omega, by omega⟩
/-- a scan from a byte on -/
theorem X12_scan_at (h : rTx R l) {k : Nat} (hk : k ≤ l.length) (e : R.1 10 = nI k) : ∃ x, f_X12_scan m (ov M m R) = some (ov M m (scR R (nI (tkE (tkAt l k))) (nI (tkS (tkAt l k))) (nI (tkK (tkAt l k))) x)) ∧ vlR x (tkAt l k) := by
  have hl := h.2.1
  obtain ⟨n, h1, h2⟩ := rn_len (p := isG) hk
  obtain ⟨x, hx, hv⟩ := scan_0_e (M := M) (m := m) h n k FU (R.1 11) (R.1 12) (R.1 13) h1 h2 (by rw [FU_eq]; omega)
  rw [← e, scR_self] at hx
  refine ⟨x, by rw [f_X12_scan, ov_ob]; exact hx, ?_⟩
  unfold scV at hv
  unfold vlR
  split
  · next z => rw [if_pos z] at hv; exact hv
  · next z =>
    rw [if_neg z] at hv
    split
    · next z2 => rw [if_pos z2] at hv; exact hv
    · trivial
theorem X12_scan_L (h : rL R l i) : ∃ R', f_X12_scan m (ov M m R) = some (ov M m R') ∧ rL R' l (i + 1) ∧ rk R R' := by
  obtain ⟨x, hx, hv⟩ := X12_scan_at (M := M) (m := m) h.1.1 (toks_le l i) h.2.1
  exact ⟨_, hx, ⟨⟨h.1.1, h.1.2⟩, rfl, rfl, rfl, hv, h.2.2.2.2.2.1, h.2.2.2.2.2.2⟩, rk.sc _ _ _ _ _⟩
theorem X12_goOn_L (h : rL R l i) : ∃ R', f_X12_goOn m (ov M m R) = some (ov M m R') ∧ rL R' l (i + 1) ∧ rk R R' := by
  obtain ⟨R', e1, h1, k1⟩ := X12_scan_L (M := M) (m := m) h
  exact ⟨R', by simp only [f_X12_goOn, ov_ob, X12_good_L h, bso, cond_true, e1], h1, k1⟩
theorem X12_goOn_F (h : rF R l c p) : f_X12_goOn m (ov M m R) = some (ov M m R) := by
  simp only [f_X12_goOn, ov_ob, X12_good_F h, bso, cond_false]
theorem X12_sym_L (h : rL R l i) {s : Nat} (hs : s < 256) : f_X12_isSymbol m (nI s) (ov M m R) = some (tSym (toks l i) s) := by
  have hk := tkK_le l i
  simp only [f_X12_isSymbol, ov_ob, X12_good_L h, bso, cond_true, r_g12, h.2.2.2.1, r_g13, tSym]
  have h5 := h.2.2.2.2.1
  by_cases e : tkK (toks l i) = 3
  · have hv := tkV_sym e
    rw [vlR, if_pos e] at h5
    rw [if_pos (by rw [e]; rfl), h5]
    by_cases e2 : tkV (toks l i) = s
    · rw [if_pos (by rw [e2])]; simp [e, e2]
    · rw [if_neg (fun z => e2 ((nI_eq (by omega) (by omega)).mp z))]; simp [e2]
  · rw [if_neg (show ¬ (nI (tkK (toks l i)) = 3) from fun z => e ((nI_eq (b := 3) (by omega) (by omega)).mp z))]; simp [e]
theorem X12_sym_F (h : rF R l c p) (s : Int32) : f_X12_isSymbol m s (ov M m R) = some false := by
  simp only [f_X12_isSymbol, ov_ob, X12_good_F h, bso, cond_false]
theorem sLen_k {k : Nat} (hk : k < 15) : sLen (20 + k) = some (nI (kwWord k).length) := by
  unfold sLen
  rw [if_pos (by omega), Nat.add_sub_cancel_left]; rfl
theorem sChr_k {k j : Nat} (hk : k < 15) (hj : j < (kwWord k).length) : sChr (20 + k) (nI j) = some ((kwWord k).getD j 0) := by
  have := kw_l8 k hk
  unfold sChr
  rw [Nat.add_sub_cancel_left, if_pos ⟨by omega, inR_n hj (by omega)⟩, nI_clamp (by omega)]
theorem word_no {k : Nat} (hk : k < 15) : f_X12_isWord_35 m (20 + k) (ov M m R) = some false := by
  obtain ⟨n, hn⟩ := FU_s
  have hp : ∀ k, k < 15 → 0 < (kwWord k).length := by decide
  simp only [f_X12_isWord_35, f_X12_isWord_36]
  rw [hn]
  simp only [f_X12_isWord_39, sLen_k hk, bso, cond_false]
  split <;> rfl
theorem word_loop (h : rTx R l) (hy : byR l) {k a : Nat} (hk : k < 15) (ha : a + (kwWord k).length ≤ l.length) (e11 : R.1 11 = nI a) (hl : ∀ j, a ≤ j → j < a + (kwWord k).length → isL (ch l j) = true) :
    ∀ (n j fu : Nat), j + n = (kwWord k).length → n < fu → ∃ b : Bool, f_X12_isWord_39 fu m (20 + k) true (nI j) (ov M m R) = some b ∧ (b = true ↔ ∀ q, j ≤ q → q < (kwWord k).length → ch l (a + q) = (kwWord k).getD q 0) := by
  have hlen := h.2.1
  have hw := kw_l8 k hk
  intro n
  induction n with
  | zero =>
    intro j fu hj hf
    obtain ⟨fu, rfl⟩ : ∃ x, fu = x + 1 := ⟨fu - 1, by omega⟩
    refine ⟨true, ?_, ⟨fun _ q q1 q2 => by omega, fun _ => rfl⟩⟩
    simp only [f_X12_isWord_39, sLen_k hk, bso]
    rw [if_pos (by rw [leT rfl rfl (show (kwWord k).length ≤ j by omega) (by omega)]; trivial)]
  | succ n ih =>
    intro j fu hj hf
    obtain ⟨fu, rfl⟩ : ∃ x, fu = x + 1 := ⟨fu - 1, by omega⟩
    have hjl : j < (kwWord k).length := by omega
    have g11 : gI (ov M m R) 11 11 m = some (nI a) := by rw [r_g11, e11]
    have hraw : R.2.2.2 5 (a + j) = ch l (a + j) := (h.2.2 _ (by omega)).trans (hy _ (by omega) (hl _ (by omega) (by omega)))
    have ha5 : aI (ov M m R) 2 (m + 5) (nI (a + j)) = some (ch l (a + j)) := by rw [r_a5 M m R (show a + j < 700 by omega), hraw]
    simp only [f_X12_isWord_39, sLen_k hk, bso, cond_true, r_g7, g11, nI_add, ha5, sChr_k hk hjl]
    rw [if_neg (by rw [leF rfl rfl hjl (by omega)]; exact id)]
    by_cases e : ch l (a + j) = (kwWord k).getD j 0
    · rw [if_pos e]
      obtain ⟨b, hb, hiff⟩ := ih (j + 1) fu (by omega) (by omega)
      refine ⟨b, by rw [f_X12_isWord_75, nI_1]; exact hb, hiff.trans ⟨fun z q q1 q2 => ?_, fun z q q1 q2 => z q (by omega) q2⟩⟩
      by_cases e2 : q = j
      · rw [e2]; exact e
      · exact z q (by omega) q2
    · rw [if_neg e]
      refine ⟨false, ?_, ⟨fun z => (by cases z), fun z => absurd (z j (Nat.le_refl _) hjl) e⟩⟩
      obtain ⟨fu, rfl⟩ : ∃ x, fu = x + 1 := ⟨fu - 1, by omega⟩
      rw [f_X12_isWord_75]
      simp only [f_X12_isWord_39, sLen_k hk, bso, cond_false]
      split <;> rfl
theorem toks_word {l : List Int32} {i : Nat} (h : tkK (toks l i) = 1) : tkS (toks l i) ≤ tkE (toks l i) ∧ ∀ j, tkS (toks l i) ≤ j → j < tkE (toks l i) → isL (ch l j) = true := by
  have key : ∀ p, tkK (tkAt l p) = 1 → tkS (tkAt l p) ≤ tkE (tkAt l p) ∧ ∀ j, tkS (tkAt l p) ≤ j → j < tkE (tkAt l p) → isL (ch l j) = true := by
    intro p h
    unfold tkAt at h ⊢
    simp only at h ⊢
    by_cases e : l.length ≤ rn isG l p
    · rw [if_pos e] at h; cases h
    · rw [if_neg e] at h ⊢
      by_cases e2 : isL (ch l (rn isG l p)) = true
      · rw [if_pos e2]
        exact ⟨rn_ge _ _ _, fun j j1 j2 => rn_all j1 j2⟩
      · rw [if_neg e2] at h
        by_cases e3 : isD (ch l (rn isG l p)) = true
        · rw [if_pos e3] at h; cases h
        · rw [if_neg e3] at h; cases h
  cases i with
  | zero => exact key _ h
  | succ i => exact key _ h
theorem X12_word_L (h : rL R l i) {k : Nat} (hk : k < 15) : f_X12_isWord m (20 + k) (ov M m R) = some (tKw l (toks l i) k) := by
  have hkk := tkK_le l i
  have hE := toks_le l i
  have hlen := h.1.1.2.1
  have hw := kw_l8 k hk
  have g10 : gI (ov M m R) 11 10 m = some (nI (tkE (toks l i))) := by rw [r_g10, h.2.1]
  have g11 : gI (ov M m R) 11 11 m = some (nI (tkS (toks l i))) := by rw [r_g11, h.2.2.1]
  simp only [f_X12_isWord, ov_ob, X12_good_L h, bso, cond_true, r_g12, h.2.2.2.1, g10, g11, sLen_k hk, tKw]
  by_cases e : tkK (toks l i) = 1
  · obtain ⟨hse, hlet⟩ := toks_word e
    rw [if_pos (by rw [e]; rfl), nI_sub hse]
    by_cases e2 : tkE (toks l i) - tkS (toks l i) = (kwWord k).length
    · rw [if_pos (by rw [e2])]
      obtain ⟨b, hb, hiff⟩ := word_loop (M := M) (m := m) h.1.1 h.1.2 hk (a := tkS (toks l i)) (by omega) h.2.2.1 (fun j j1 j2 => hlet j j1 (by omega)) (kwWord k).length 0 FU (Nat.zero_add _) (by rw [FU_eq]; omega)
      have hb : f_X12_isWord_36 m (20 + k) true (ov M m R) = some b := hb
      rw [hb]
      refine congrArg some ?_
      have hs : b = true ↔ sub l (tkS (toks l i)) (tkE (toks l i)) = kwWord k := by
        rw [hiff]
        constructor
        · intro z
          refine ext_getD (by rw [sub_len hE, e2]) (fun j hj => ?_)
          rw [sub_len hE] at hj
          rw [sub_at hE (by omega)]
          exact z j (Nat.zero_le _) (by omega)
        · intro z q _ q2
          rw [← z, sub_at hE (by omega)]
      cases b with
      | true => rw [decide_eq_true ⟨e, hs.mp rfl⟩]
      | false => rw [decide_eq_false (fun z => absurd (hs.mpr z.2) (by decide))]
    · rw [if_neg (fun z => e2 ((nI_eq (by omega) (by omega)).mp z)), word_no hk, decide_eq_false (fun z => e2 (by rw [← z.2, sub_len hE]))]
  · rw [if_neg (show ¬ (nI (tkK (toks l i)) = 1) from fun z => e ((nI_eq (b := 1) (by omega) (by omega)).mp z)), word_no hk, decide_eq_false (fun z => e z.1)]
theorem X12_word_F (h : rF R l c p) {k : Nat} (hk : k < 15) : f_X12_isWord m (20 + k) (ov M m R) = some false := by
  simp only [f_X12_isWord, ov_ob, X12_good_F h, bso, cond_false, word_no hk]
end
