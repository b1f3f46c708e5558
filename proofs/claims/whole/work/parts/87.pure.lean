/-! PURE: the reference reads words, numbers, names -/
theorem tKw_iff {l : List Int32} {t : Tk} {k : Nat} (hk : k < 15) : tKw l t k = decide (kwTk l t = some k) := by
  unfold tKw kwTk
  by_cases e : tkK t = 1
  · rw [if_pos e]
    by_cases e2 : sub l (tkS t) (tkE t) = kwWord k
    · rw [decide_eq_true ⟨e, e2⟩, decide_eq_true (by rw [e2]; exact kwOf_i k hk)]
    · rw [decide_eq_false (fun z => e2 z.2), decide_eq_false (fun z => e2 ((kwOf_iff hk).mp z).symm)]
  · rw [if_neg e, decide_eq_false (fun z => e z.1), decide_eq_false (fun z => by cases z)]
theorem kwTk_lt {l : List Int32} {t : Tk} {k : Nat} (h : kwTk l t = some k) : k < 15 := by
  unfold kwTk at h
  by_cases e : tkK t = 1
  · rw [if_pos e] at h; exact (kwOf_s h).1
  · rw [if_neg e] at h; cases h
/-- the number of the flag that the token names, or -1 -/
def kfI (x : Option Nat) : Int32 := match x with
  | none => -1
  | some k => if 6 ≤ k ∧ k ≤ 10 then nI (k - 6) else -1
def kwB (x : Option Nat) (k : Nat) : Bool := decide (x = some k)
theorem kf_sel (x : Option Nat) (hx : ∀ k, x = some k → k < 15) : (bif kwB x 6 then some 0 else bif kwB x 7 then some 1 else bif kwB x 8 then some 2 else bif kwB x 9 then some 3 else bif kwB x 10 then some 4 else some (-1) : Option Int32) = some (kfI x) := by
  cases x with
  | none => rfl
  | some k =>
    have hk := hx k rfl
    have : ∀ k, k < 15 → (bif kwB (some k) 6 then some 0 else bif kwB (some k) 7 then some 1 else bif kwB (some k) 8 then some 2 else bif kwB (some k) 9 then some 3 else bif kwB (some k) 10 then some 4 else some (-1) : Option Int32) = some (kfI (some k)) := by decide
    exact this k hk
theorem kw_sel (x : Option Nat) (hx : ∀ k, x = some k → k < 15) : (kwB x 0 || kwB x 1 || kwB x 2 || kwB x 3 || kwB x 4 || kwB x 5 || kwB x 11 || kwB x 12 || kwB x 13 || kwB x 14 || !decide (kfI x = -1)) = x.isSome := by
  cases x with
  | none => rfl
  | some k =>
    have : ∀ k, k < 15 → (kwB (some k) 0 || kwB (some k) 1 || kwB (some k) 2 || kwB (some k) 3 || kwB (some k) 4 || kwB (some k) 5 || kwB (some k) 11 || kwB (some k) 12 || kwB (some k) 13 || kwB (some k) 14 || !decide (kfI (some k) = -1)) = true := by decide
    exact this k (hx k rfl)
theorem kf_flag {l : List Int32} {t : Tk} : tFlag l t = if kfI (kwTk l t) = -1 then (0 : Int32) else (1 : Int32) <<< (kfI (kwTk l t) &&& 31) := by
  unfold tFlag
  cases h : kwTk l t with
  | none => rfl
  | some k =>
    have : ∀ k, k < 15 → kwFlag k = if kfI (some k) = -1 then (0 : Int32) else (1 : Int32) <<< (kfI (some k) &&& 31) := by decide
    exact this k (kwTk_lt h)
theorem kf_0 {l : List Int32} {t : Tk} : tFlag l t = 0 ↔ kfI (kwTk l t) = -1 := by
  unfold tFlag
  cases h : kwTk l t with
  | none => exact ⟨fun _ => rfl, fun _ => rfl⟩
  | some k =>
    have : ∀ k, k < 15 → (kwFlag k = 0 ↔ kfI (some k) = -1) := by decide
    exact this k (kwTk_lt h)
section
variable {M : Mem} {m : Nat} {R : Rs} {l : List Int32} {i : Nat} {c p : Int32}
theorem X12_kwB (h : rL R l i) {k : Nat} (hk : k < 15) : f_X12_isWord m (20 + k) (ov M m R) = some (kwB (kwTk l (toks l i)) k) := by
  rw [X12_word_L h hk, tKw_iff hk]; rfl
theorem X12_takes_L (h : rL R l i) {s : Nat} (hs : s < 256) : ∃ R', f_X12_takes m (nI s) (ov M m R) = some (tSym (toks l i) s, ov M m R') ∧ rL R' l (bif tSym (toks l i) s then i + 1 else i) ∧ rk R R' := by
  obtain ⟨R', e1, h1, k1⟩ := X12_scan_L (M := M) (m := m) h
  simp only [f_X12_takes, ov_ob, X12_sym_L h hs, bso]
  cases e : tSym (toks l i) s with
  | true => exact ⟨R', by simp only [cond_true, e1, bso], h1, k1⟩
  | false => exact ⟨R, by simp only [cond_false], h, rk.rf R⟩
theorem X12_takes_F (h : rF R l c p) (s : Int32) : f_X12_takes m s (ov M m R) = some (false, ov M m R) := by
  simp only [f_X12_takes, ov_ob, X12_sym_F h, bso, cond_false]
theorem X12_takesW_L (h : rL R l i) {k : Nat} (hk : k < 15) : ∃ R', f_X12_takesWord m (20 + k) (ov M m R) = some (tKw l (toks l i) k, ov M m R') ∧ rL R' l (bif tKw l (toks l i) k then i + 1 else i) ∧ rk R R' := by
  obtain ⟨R', e1, h1, k1⟩ := X12_scan_L (M := M) (m := m) h
  simp only [f_X12_takesWord, ov_ob, X12_word_L h hk, bso]
  cases e : tKw l (toks l i) k with
  | true => exact ⟨R', by simp only [cond_true, e1, bso], h1, k1⟩
  | false => exact ⟨R, by simp only [cond_false], h, rk.rf R⟩
theorem X12_takesW_F (h : rF R l c p) {k : Nat} (hk : k < 15) : f_X12_takesWord m (20 + k) (ov M m R) = some (false, ov M m R) := by
  simp only [f_X12_takesWord, ov_ob, X12_word_F h hk, bso, cond_false]
theorem X12_need_L (h : rL R l i) {s : Nat} (hs : s < 256) : ∃ R', f_X12_need m (nI s) (ov M m R) = some (ov M m R') ∧ rk R R' ∧ ((tSym (toks l i) s = true ∧ rL R' l (i + 1)) ∨ (tSym (toks l i) s = false ∧ rF R' l 1 (nI (tkS (toks l i))))) := by
  obtain ⟨R1, e1, h1, k1⟩ := X12_takes_L (M := M) (m := m) h hs
  simp only [f_X12_need, ov_ob, e1, bso]
  cases e : tSym (toks l i) s with
  | true =>
    rw [e] at h1
    exact ⟨R1, by simp only [cond_true], k1, .inl ⟨rfl, h1⟩⟩
  | false =>
    rw [e] at h1
    have h1 : rL R1 l i := h1
    obtain ⟨R2, e2, h2, k2⟩ := X12_errs_L (M := M) (m := m) h1 (e := 1) (by decide)
    exact ⟨R2, by simp only [cond_false, e2, bso], k1.trans k2, .inr ⟨rfl, h2⟩⟩
theorem X12_need_F (h : rF R l c p) (s : Int32) : f_X12_need m s (ov M m R) = some (ov M m R) := by
  simp only [f_X12_need, ov_ob, X12_takes_F h, bso, cond_false, X12_errs_F h]
theorem num47_F (h : rF R l c p) (x : Int32) : f_X12_number_47 m x (ov M m R) = some (x, ov M m R) := by
  simp only [f_X12_number_47, X12_good_F h, bso, cond_false, f_X12_number_62, X12_goOn_F h]
theorem X12_num_F (h : rF R l c p) (lo hi : Int32) : f_X12_number m lo hi (ov M m R) = some (lo, ov M m R) := by
  simp only [f_X12_number, ov_ob, X12_good_F h, bso, cond_false, f_X12_number_20, num47_F h]
theorem num20_F (h : rF R l c p) (lo hi : Int32) : f_X12_number_20 m lo hi (ov M m R) = some (lo, ov M m R) := by
  simp only [f_X12_number_20, X12_good_F h, bso, cond_false, num47_F h]
theorem X12_num_L (h : rL R l i) {lo hi : Nat} (hlo : lo ≤ hi) (hh : hi ≤ 9999) : ∃ x R', f_X12_number m (nI lo) (nI hi) (ov M m R) = some (x, ov M m R') ∧ rk R R' ∧ ((tNum (toks l i) lo hi = 0 ∧ x = nI (tkV (toks l i)) ∧ rL R' l (i + 1)) ∨ (tNum (toks l i) lo hi ≠ 0 ∧ rF R' l (tNum (toks l i) lo hi) (nI (tkS (toks l i))))) := by
  have hk := tkK_le l i
  simp only [f_X12_number, ov_ob, X12_good_L h, bso, cond_true, r_g12, h.2.2.2.1]
  by_cases e : tkK (toks l i) = 2
  · rw [if_pos (by rw [e]; rfl)]
    have hv := h.2.2.2.2.1
    rw [vlR, if_neg (by omega), if_pos e] at hv
    obtain ⟨w, hw, hw9, hwv⟩ := hv
    have g13 : gI (ov M m R) 11 13 m = some (nI w) := by rw [r_g13, hw]
    simp only [f_X12_number_20, X12_good_L h, bso, cond_true, g13, X12_in_e, btw_c]
    have q1 : (nI w < nI lo) = (w < lo) := ltI rfl rfl (by omega) (by omega)
    have q2 : (nI hi < nI w) = (hi < w) := ltI rfl rfl (by omega) (by omega)
    simp only [q1, q2]
    have hT : tNum (toks l i) lo hi = if lo ≤ tkV (toks l i) ∧ tkV (toks l i) ≤ hi then 0 else 2 := by
      unfold tNum; rw [if_neg (fun z => z e)]
    by_cases e2 : lo ≤ tkV (toks l i) ∧ tkV (toks l i) ≤ hi
    · rw [if_pos e2] at hT
      have hwV : w = tkV (toks l i) := by omega
      rw [decide_eq_false (show ¬ (w < lo) by omega), decide_eq_false (show ¬ (hi < w) by omega)]
      obtain ⟨R1, e1, h1, k1⟩ := X12_goOn_L (M := M) (m := m) h
      refine ⟨nI w, R1, ?_, k1, .inl ⟨hT, by rw [hwV], h1⟩⟩
      simp only [Bool.not_false, Bool.and_self, cond_true, f_X12_number_47, X12_good_L h, bso, g13, f_X12_number_62, e1]
    · rw [if_neg e2] at hT
      obtain ⟨R1, e1, h1, k1⟩ := X12_errs_L (M := M) (m := m) h (e := 2) (by decide)
      have hb : (!decide (w < lo) && !decide (hi < w)) = false := by
        by_cases z : w < lo
        · rw [decide_eq_true z]; rfl
        · rw [decide_eq_true (show hi < w by omega), Bool.and_comm]; rfl
      refine ⟨nI lo, R1, ?_, k1, .inr ⟨by rw [hT]; decide, by rw [hT]; exact h1⟩⟩
      rw [hb]
      simp only [cond_false, e1, bso, num47_F h1]
  · rw [if_neg (show ¬ (nI (tkK (toks l i)) = 2) from fun z => e ((nI_eq (b := 2) (by omega) (by omega)).mp z))]
    have hT : tNum (toks l i) lo hi = 1 := by unfold tNum; rw [if_pos e]
    obtain ⟨R1, e1, h1, k1⟩ := X12_errs_L (M := M) (m := m) h (e := 1) (by decide)
    exact ⟨nI lo, R1, by simp only [e1, bso, num20_F h1], k1, .inr ⟨by rw [hT]; decide, by rw [hT]; exact h1⟩⟩
theorem X12_flag_L (h : rL R l i) : f_X12_flagHere m (ov M m R) = some (kfI (kwTk l (toks l i))) := by
  have w6 : f_X12_isWord m 26 (ov M m R) = _ := X12_kwB h (k := 6) (by omega)
  have w7 : f_X12_isWord m 27 (ov M m R) = _ := X12_kwB h (k := 7) (by omega)
  have w8 : f_X12_isWord m 28 (ov M m R) = _ := X12_kwB h (k := 8) (by omega)
  have w9 : f_X12_isWord m 29 (ov M m R) = _ := X12_kwB h (k := 9) (by omega)
  have w10 : f_X12_isWord m 30 (ov M m R) = _ := X12_kwB h (k := 10) (by omega)
  simp only [f_X12_flagHere, ov_ob, w6, w7, w8, w9, w10, bso]
  exact kf_sel _ (fun k hk => kwTk_lt hk)
theorem X12_flag_F (h : rF R l c p) : f_X12_flagHere m (ov M m R) = some (-1) := by
  have w6 : f_X12_isWord m 26 (ov M m R) = _ := X12_word_F h (k := 6) (by omega)
  have w7 : f_X12_isWord m 27 (ov M m R) = _ := X12_word_F h (k := 7) (by omega)
  have w8 : f_X12_isWord m 28 (ov M m R) = _ := X12_word_F h (k := 8) (by omega)
  have w9 : f_X12_isWord m 29 (ov M m R) = _ := X12_word_F h (k := 9) (by omega)
  have w10 : f_X12_isWord m 30 (ov M m R) = _ := X12_word_F h (k := 10) (by omega)
  simp only [f_X12_flagHere, ov_ob, w6, w7, w8, w9, w10, bso, cond_false]
theorem X12_isKw_L (h : rL R l i) : f_X12_isKeyword m (ov M m R) = some (kwTk l (toks l i)).isSome := by
  have w0 : f_X12_isWord m 20 (ov M m R) = _ := X12_kwB h (k := 0) (by omega)
  have w1 : f_X12_isWord m 21 (ov M m R) = _ := X12_kwB h (k := 1) (by omega)
  have w2 : f_X12_isWord m 22 (ov M m R) = _ := X12_kwB h (k := 2) (by omega)
  have w3 : f_X12_isWord m 23 (ov M m R) = _ := X12_kwB h (k := 3) (by omega)
  have w4 : f_X12_isWord m 24 (ov M m R) = _ := X12_kwB h (k := 4) (by omega)
  have w5 : f_X12_isWord m 25 (ov M m R) = _ := X12_kwB h (k := 5) (by omega)
  have w11 : f_X12_isWord m 31 (ov M m R) = _ := X12_kwB h (k := 11) (by omega)
  have w12 : f_X12_isWord m 32 (ov M m R) = _ := X12_kwB h (k := 12) (by omega)
  have w13 : f_X12_isWord m 33 (ov M m R) = _ := X12_kwB h (k := 13) (by omega)
  have w14 : f_X12_isWord m 34 (ov M m R) = _ := X12_kwB h (k := 14) (by omega)
  rw [← kw_sel (kwTk l (toks l i)) (fun k hk => kwTk_lt hk)]
  simp only [f_X12_isKeyword, f_X12_isKeyword_60, f_X12_isKeyword_65, ov_ob, w0, w1, w2, w3, w4, w5, w11, w12, w13, w14, X12_flag_L h, bso, cond_true, cond_false]
  have hi : ∀ x : Int32, (if x = -1 then some false else some true : Option Bool) = some (!decide (x = -1)) := by
    intro x
    by_cases e : x = -1
    · rw [if_pos e, decide_eq_true e]; rfl
    · rw [if_neg e, decide_eq_false e]; rfl
  rw [hi]
  have hor : ∀ (a b : Bool), (bif a then some true else some b : Option Bool) = some (a || b) := by intro a b; cases a <;> rfl
  simp only [hor, Bool.or_assoc]
theorem X12_isName_L (h : rL R l i) : f_X12_isName m (ov M m R) = some (tName l (toks l i)) := by
  have hkk := tkK_le l i
  have hE := toks_le l i
  have hlen := h.1.1.2.1
  have g10 : gI (ov M m R) 11 10 m = some (nI (tkE (toks l i))) := by rw [r_g10, h.2.1]
  have g11 : gI (ov M m R) 11 11 m = some (nI (tkS (toks l i))) := by rw [r_g11, h.2.2.1]
  simp only [f_X12_isName, ov_ob, X12_good_L h, bso, cond_true, r_g12, h.2.2.2.1, g10, g11, X12_isKw_L h, tName]
  by_cases e : tkK (toks l i) = 1
  · obtain ⟨hse, hlet⟩ := toks_word e
    rw [if_pos (by rw [e]; rfl), nI_sub hse]
    by_cases e6 : tkE (toks l i) - tkS (toks l i) ≤ 6
    · rw [if_neg (of_eq_false (ltF (x := 6) (a := 6) rfl rfl e6 (by omega))), kwTk, if_pos e]
      cases ek : kwOf (sub l (tkS (toks l i)) (tkE (toks l i))) with
      | none => rw [decide_eq_true ⟨e, rfl, e6⟩]; rfl
      | some k => rw [decide_eq_false (fun z => by cases z.2.1)]; rfl
    · rw [if_pos (of_eq_true (ltT (x := 6) (a := 6) rfl rfl (show 6 < tkE (toks l i) - tkS (toks l i) by omega) (by omega))), decide_eq_false (fun z => e6 z.2.2)]
  · rw [if_neg (show ¬ (nI (tkK (toks l i)) = 1) from fun z => e ((nI_eq (b := 1) (by omega) (by omega)).mp z)), decide_eq_false (fun z => e z.1)]
theorem X12_isName_F (h : rF R l c p) : f_X12_isName m (ov M m R) = some false := by
  simp only [f_X12_isName, ov_ob, X12_good_F h, bso, cond_false]
end
