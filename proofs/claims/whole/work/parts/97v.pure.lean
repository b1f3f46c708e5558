/-! PURE: the reference writes -/
def outR (R : Rs) (l : List Int32) : Prop := R.1 27 = nI l.length ∧ ∀ k, k < l.length → R.2.2.2 11 k = l.getD k 0
theorem nk_eq {v j : Nat} (h1 : v / 10 ^ j < 10) (h2 : j = 0 ∨ 10 ≤ v / 10 ^ (j - 1)) : ∀ n, j < n → nk v n = j + 1 := by
  intro n
  induction n with
  | zero => intro h; exact absurd h (Nat.not_lt_zero _)
  | succ n ih =>
    intro h
    rw [nk]
    by_cases e : n = j
    · subst e
      rw [if_neg (fun z => ?_)]
      rcases h2 with h2 | h2
      · exact z.2 h2
      · obtain ⟨i, rfl⟩ : ∃ i, n = i + 1 := ⟨n - 1, by have := z.2; omega⟩
        rw [Nat.add_sub_cancel] at h2
        have z1 := z.1
        rw [Nat.pow_succ, ← Nat.div_div_eq_div_mul] at z1
        omega
    · have hz : v / 10 ^ n = 0 := by
        obtain ⟨d, rfl⟩ : ∃ d, n = j + 1 + d := ⟨n - j - 1, by omega⟩
        rw [Nat.pow_add, Nat.pow_succ, ← Nat.div_div_eq_div_mul, ← Nat.div_div_eq_div_mul, Nat.div_eq_of_lt h1, Nat.zero_div]
      rw [if_pos ⟨hz, by omega⟩]
      exact ih (by omega)
section
variable {M : Mem} {m : Nat} {R : Rs} {l : List Int32}
theorem X12_wr_e (h : outR R l) (hl : l.length < 12000) (v : Int32) : ∃ R', f_X12_write m v (ov M m R) = some (ov M m R') ∧ outR R' (l ++ [byt v]) ∧ kp [27] [] [11] R R' := by
  obtain ⟨y, hy⟩ : ∃ y, y = byt v := ⟨_, rfl⟩
  rw [← hy]
  obtain ⟨Ra, hRa⟩ : ∃ Ra, Ra = rsI R 11 (upd (R.2.2.2 11) l.length y) := ⟨_, rfl⟩
  have s5 : sI (ov M m R) 2 (m + 11) (nI l.length) (vp_nar .byte ((Int32.toInt8 v).toInt32)) = some (ov M m Ra) := by rw [hRa, hy]; exact r_s11 M m R hl _
  have g8 : gI (ov M m R) 11 27 m = some (nI l.length) := by rw [r_g27, h.1]
  have g8' : gI (ov M m Ra) 11 27 m = some (nI l.length) := by rw [r_g27, hRa]; exact congrArg some h.1
  refine ⟨rsS Ra 27 (nI (l.length + 1)), ?_, ⟨?_, ?_⟩, ?_⟩
  · simp only [f_X12_write, ov_ob, r_g26, g8, s5, g8', bso, nI_1, r_p27]
  · rw [rsS_at, List.length_append]; rfl
  · intro k hk
    show Ra.2.2.2 11 k = _
    rw [hRa, rsI_at]
    rw [List.length_append, List.length_singleton] at hk
    by_cases e : k = l.length
    · subst e; rw [upd_s]; simp [List.getD_eq_getElem?_getD]
    · rw [upd_n _ _ e, h.2 k (by omega)]; simp [List.getD_eq_getElem?_getD, List.getElem?_append_left (show k < l.length by omega)]
  · rw [hRa]; exact ((kp_I R 11 _).up (by simp) (by simp) (by simp)).trans ((kp_S _ 27 _).up (by simp) (by simp) (by simp))
theorem wn_20 {v : Nat} (hv : v < 2 ^ 31) : ∀ (n fu : Nat) (R : Rs) (l : List Int32), n ≤ 10 → n < fu → outR R l → l.length + n ≤ 12000 →
    ∃ R', f_X12_writeNumber_20 fu m (nI v) (nI (10 ^ n / 10)) (ov M m R) = some (ov M m R') ∧ outR R' (l ++ dl v n) ∧ kp [27] [] [11] R R' := by
  intro n
  induction n with
  | zero =>
    intro fu R l h10 hf h hc
    obtain ⟨fu, rfl⟩ : ∃ x, fu = x + 1 := ⟨fu - 1, by omega⟩
    refine ⟨R, ?_, by rw [dl, List.append_nil]; exact h, kp.rf _ _ _ _⟩
    simp only [f_X12_writeNumber_20]
    rw [if_pos (show nI (10 ^ 0 / 10) ≤ 0 by decide)]
  | succ n ih =>
    intro fu R l h10 hf h hc
    obtain ⟨fu, rfl⟩ : ∃ x, fu = x + 1 := ⟨fu - 1, by omega⟩
    obtain ⟨p1, p2⟩ := p10 (show n < 10 by omega)
    have hpw : 10 ^ (n + 1) / 10 = 10 ^ n := by rw [Nat.pow_succ]; exact Nat.mul_div_cancel _ (by decide)
    have hq : v / 10 ^ n < 2 ^ 31 := Nat.lt_of_le_of_lt (Nat.div_le_self _ _) hv
    have hdig : nI v / nI (10 ^ n) - nI v / nI (10 ^ n) / 10 * 10 = nI (v / 10 ^ n % 10) := by
      rw [pk_div hv p1 p2, show (10 : Int32) = nI 10 from rfl, pk_div hq (by decide) (by decide), nI_mul, nI_sub (by omega)]
      congr 1
      omega
    have hd10 : v / 10 ^ n % 10 < 10 := Nat.mod_lt _ (by decide)
    have hnext : nI (10 ^ n) / 10 = nI (10 ^ n / 10) := pk_div (d := 10) p2 (by decide) (by decide)
    have hne : ¬ (nI (10 ^ n) = 0) := nI_ne0 p1 p2
    obtain ⟨R1, e1, h1, k1⟩ := X12_wr_e (M := M) (m := m) h (by omega) (48 + nI (v / 10 ^ n % 10))
    rw [byt_d _ hd10] at h1
    obtain ⟨R2, e2, h2, k2⟩ := ih fu R1 _ (by omega) (by omega) h1 (by rw [List.length_append, List.length_singleton]; omega)
    refine ⟨R2, ?_, ?_, k1.trans k2⟩
    · simp only [f_X12_writeNumber_20]
      rw [hpw, if_neg (nI_nle p1 p2), dv, if_neg hne, hdig]
      simp only [e1, bso, hnext, e2]
    · rw [List.append_assoc] at h2
      exact h2
theorem wn_2 {v : Nat} (hv : v < 2 ^ 31) : ∀ (d j fu : Nat), j + d = 9 → d < fu → (j = 0 ∨ 10 ≤ v / 10 ^ (j - 1)) → f_X12_writeNumber_2 fu m (nI v) (nI (10 ^ j)) (ov M m R) = f_X12_writeNumber_20 FU m (nI v) (nI (10 ^ (nk v 10) / 10)) (ov M m R) := by
  intro d
  induction d with
  | zero =>
    intro j fu hj hf h2
    obtain ⟨fu, rfl⟩ : ∃ x, fu = x + 1 := ⟨fu - 1, by omega⟩
    obtain rfl : j = 9 := by omega
    obtain ⟨p1, p2⟩ := p10 (show 9 < 10 by omega)
    have hlt : v / 10 ^ 9 < 10 := by omega
    have hk := nk_eq hlt h2 10 (by omega)
    simp only [f_X12_writeNumber_2]
    rw [dv, if_neg (nI_ne0 p1 p2), pk_div hv p1 p2, if_pos (show nI (v / 10 ^ 9) < 10 from (nI_ltI (a := v / 10 ^ 9) (b := 10) (by omega) (by omega)).mpr hlt), hk, show 10 ^ (9 + 1) / 10 = 10 ^ 9 from by decide]
  | succ d ih =>
    intro j fu hj hf h2
    obtain ⟨fu, rfl⟩ : ∃ x, fu = x + 1 := ⟨fu - 1, by omega⟩
    obtain ⟨p1, p2⟩ := p10 (show j < 10 by omega)
    have hq : v / 10 ^ j < 2 ^ 31 := Nat.lt_of_le_of_lt (Nat.div_le_self _ _) hv
    simp only [f_X12_writeNumber_2]
    rw [dv, if_neg (nI_ne0 p1 p2), pk_div hv p1 p2]
    by_cases hlt : v / 10 ^ j < 10
    · have hk := nk_eq hlt h2 10 (by omega)
      rw [if_pos (show nI (v / 10 ^ j) < 10 from (nI_ltI (a := v / 10 ^ j) (b := 10) hq (by omega)).mpr hlt), hk, Nat.pow_succ, Nat.mul_div_cancel _ (by decide)]
    · rw [if_neg (show ¬ (nI (v / 10 ^ j) < 10) from fun z => hlt ((nI_ltI (a := v / 10 ^ j) (b := 10) hq (by omega)).mp z))]
      have : nI (10 ^ j) * 10 = nI (10 ^ (j + 1)) := by rw [Nat.pow_succ]; exact nI_mul _ 10
      rw [this]
      exact ih (j + 1) fu (by omega) (by omega) (.inr (by rw [Nat.add_sub_cancel]; omega))
theorem X12_num_e (h : outR R l) {v : Nat} (hv : v < 2 ^ 31) (hl : l.length + 10 ≤ 12000) : ∃ R', f_X12_writeNumber m (nI v) (ov M m R) = some (ov M m R') ∧ outR R' (l ++ numB v) ∧ kp [27] [] [11] R R' := by
  have hk := nk_le v 10
  obtain ⟨R', e, o, k⟩ := wn_20 (M := M) (m := m) hv (nk v 10) FU R l hk (by rw [FU_eq]; omega) h (by omega)
  refine ⟨R', ?_, o, k⟩
  have w := wn_2 (M := M) (m := m) (R := R) hv 9 0 FU (by omega) (by rw [FU_eq]; omega) (.inl rfl)
  have w : f_X12_writeNumber_2 FU m (nI v) 1 (ov M m R) = _ := w
  rw [f_X12_writeNumber, ov_ob, w, e]
theorem X12_gap_e (h : outR R l) (hl : l.length < 12000) : ∃ R', f_X12_writeGap m (ov M m R) = some (ov M m R') ∧ outR R' (sepB l) ∧ kp [27] [] [11] R R' := by
  have le0 : (nI l.length ≤ 0) = (l.length ≤ 0) := leI (y := 0) (b := 0) rfl rfl (by omega) (by omega)
  have g : gI (ov M m R) 11 27 m = some (nI l.length) := by rw [r_g27, h.1]
  by_cases e : l = []
  · refine ⟨R, ?_, by rw [sepB, if_pos e]; exact h, kp.rf _ _ _ _⟩
    simp only [f_X12_writeGap, ov_ob, g, bso]
    rw [if_pos (by rw [le0, e]; exact Nat.le_refl 0)]
  · obtain ⟨R', e1, o, k⟩ := X12_wr_e (M := M) (m := m) h hl 32
    rw [show byt 32 = 32 from byt_c.1] at o
    refine ⟨R', ?_, by rw [sepB, if_neg e]; exact o, k⟩
    simp only [f_X12_writeGap, ov_ob, g, bso]
    rw [if_neg (by rw [le0]; exact fun z => e (List.eq_nil_of_length_eq_zero (Nat.le_zero.mp z)))]
    simp only [e1, bso]
theorem wif (h : outR R l) (hl : l.length < 12000) (x : Int32) {j : Nat} (hj : j < 32) (b : Int32) (hb : b1 j = b) {cc : Int32} (hc : byt cc = cc) (k1 k2 : Mem → Option Mem) (hk : ∀ M', k1 M' = (f_X12_write m cc M').bind k2) :
    ∃ R', ((f_X12_has x (nI j) (ov M m R)).bind fun z => bif z then k1 (ov M m R) else k2 (ov M m R)) = k2 (ov M m R') ∧ outR R' (l ++ (if x &&& b = 0 then [] else [cc])) ∧ kp [27] [] [11] R R' := by
  rw [X12_has_e x hj, hb]
  by_cases e : x &&& b = 0
  · refine ⟨R, ?_, by rw [if_pos e, List.append_nil]; exact h, kp.rf _ _ _ _⟩
    rw [decide_eq_true e]; rfl
  · obtain ⟨R', e1, o, k⟩ := X12_wr_e (M := M) (m := m) h hl cc
    rw [hc] at o
    refine ⟨R', ?_, by rw [if_neg e]; exact o, k⟩
    rw [decide_eq_false e]
    show k1 (ov M m R) = _
    rw [hk, e1]; rfl
theorem X12_flags_e (h : outR R l) (hl : l.length + 5 ≤ 12000) (x : Int32) : ∃ R', f_X12_writeFlags m x (ov M m R) = some (ov M m R') ∧ outR R' (l ++ flB x) ∧ kp [27] [] [11] R R' := by
  have L : ∀ (p : Prop) [Decidable p] (y : Int32), (if p then ([] : List Int32) else [y]).length ≤ 1 := fun p _ y => ifl p y
  obtain ⟨q0, q1, q2, q3, q4, q5, c1, c2, c3, c4, c5⟩ := byt_c
  obtain ⟨R1, e1, o1, k1⟩ := wif (M := M) (m := m) h (by omega) x (j := 0) (by omega) 1 (by decide) c1 (fun M => (f_X12_write m 115 M).bind fun M15 => f_X12_writeFlags_14 m x M15) (fun M => f_X12_writeFlags_14 m x M) (fun _ => rfl)
  have l1 : (l ++ (if x &&& 1 = 0 then [] else [115])).length ≤ l.length + 1 := by rw [List.length_append]; have := L (x &&& 1 = 0) 115; omega
  obtain ⟨R2, e2, o2, k2⟩ := wif (M := M) (m := m) o1 (by omega) x (j := 1) (by omega) 2 (by decide) c2 (fun M => (f_X12_write m 97 M).bind fun M13 => f_X12_writeFlags_28 m x M13) (fun M => f_X12_writeFlags_28 m x M) (fun _ => rfl)
  have l2 : (l ++ (if x &&& 1 = 0 then [] else [115]) ++ (if x &&& 2 = 0 then [] else [97])).length ≤ l.length + 2 := by rw [List.length_append]; have := L (x &&& 2 = 0) 97; omega
  obtain ⟨R3, e3, o3, k3⟩ := wif (M := M) (m := m) o2 (by omega) x (j := 2) (by omega) 4 (by decide) c3 (fun M => (f_X12_write m 102 M).bind fun M11 => f_X12_writeFlags_42 m x M11) (fun M => f_X12_writeFlags_42 m x M) (fun _ => rfl)
  have l3 : (l ++ (if x &&& 1 = 0 then [] else [115]) ++ (if x &&& 2 = 0 then [] else [97]) ++ (if x &&& 4 = 0 then [] else [102])).length ≤ l.length + 3 := by rw [List.length_append]; have := L (x &&& 4 = 0) 102; omega
  obtain ⟨R4, e4, o4, k4⟩ := wif (M := M) (m := m) o3 (by omega) x (j := 3) (by omega) 8 (by decide) c4 (fun M => (f_X12_write m 100 M).bind fun M9 => f_X12_writeFlags_56 m x M9) (fun M => f_X12_writeFlags_56 m x M) (fun _ => rfl)
  have l4 : (l ++ (if x &&& 1 = 0 then [] else [115]) ++ (if x &&& 2 = 0 then [] else [97]) ++ (if x &&& 4 = 0 then [] else [102]) ++ (if x &&& 8 = 0 then [] else [100])).length ≤ l.length + 4 := by rw [List.length_append]; have := L (x &&& 8 = 0) 100; omega
  obtain ⟨R5, e5, o5, k5⟩ := wif (M := M) (m := m) o4 (by omega) x (j := 4) (by omega) 16 (by decide) c5 (fun M => (f_X12_write m 114 M).bind fun M7 => some M7) (fun M => some M) (fun _ => rfl)
  refine ⟨R5, ?_, ?_, (((k1.trans k2).trans k3).trans k4).trans k5⟩
  · rw [f_X12_writeFlags, ov_ob]
    refine e1.trans ?_
    rw [f_X12_writeFlags_14]
    refine e2.trans ?_
    rw [f_X12_writeFlags_28]
    refine e3.trans ?_
    rw [f_X12_writeFlags_42]
    refine e4.trans ?_
    rw [f_X12_writeFlags_56]
    exact e5
  · unfold flB
    simp only [List.append_assoc] at o5
    exact o5
end
