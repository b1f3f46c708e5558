/-! PURE: the class reads a text, its statements -/
/-- a name has 1 to 6 letters -/
theorem nm_ne0 {l : List Int32} {t : Tk} (hk : tkK t = 1) (hE : tkE t ≤ l.length) (hS : tkS t < tkE t) : nmOf l t ≠ 0 ↔ tkE t - tkS t ≤ 6 := by
  rw [nmOf, if_pos hk]
  have hL : ((l.take (tkE t)).drop (tkS t)).length = tkE t - tkS t := by rw [List.length_drop, List.length_take]; omega
  rw [Ne, cnm_0, hL]
  omega
theorem toks_SE (l : List Int32) (i : Nat) : tkK (toks l i) ≠ 0 → tkS (toks l i) < tkE (toks l i) := by
  cases i with
  | zero => exact fun h => (tkAt_E.2 h).2.1
  | succ i => exact fun h => (tkAt_E.2 h).2.1
section
variable {M : Mem} {r rt : Nat} {l : List Int32} {i : Nat}
theorem X10_isName_L (h : tkL M r rt l i) : f_X10_isName r M = some (tName l (toks l i)) := by
  obtain ⟨X, A, N, h1, h2, h3, h4, h5, h6, h7, h8, h9, h10, h11, h12, h13, h14, h15⟩ := h
  have hkk := tkK_le l i
  simp only [f_X10_isName, h1.ob, h1.g8, h9, bso, tName]
  by_cases e : tkK (toks l i) = 1
  · have hne := nm_ne0 (l := l) e (toks_le l i) (toks_SE l i (by omega))
    have h13' : X.2.2.2.2.2.2.1 = kwOf (sub l (tkS (toks l i)) (tkE (toks l i))) := by rw [h13, kwTk, if_pos e]
    rw [if_pos (by rw [e]; rfl)]
    simp only [h1.g12, h13', bso]
    cases e2 : kwOf (sub l (tkS (toks l i)) (tkE (toks l i))) with
    | none =>
      simp only [h1.g11, h12, bso, lg_cmp_eq]
      by_cases e3 : nmOf l (toks l i) = 0
      · rw [if_pos e3]
        have : ¬ (tkE (toks l i) - tkS (toks l i) ≤ 6) := fun z => (hne.mpr z) e3
        simp [this]
      · rw [if_neg e3]
        have := hne.mp e3
        simp [e, this]
    | some k => simp
  · rw [if_neg (show ¬ (nI (tkK (toks l i)) = 1) from fun z => e ((nI_eq (b := 1) (by omega) (by omega)).mp z))]; simp [e]
theorem tName_K {l : List Int32} {t : Tk} (h : tName l t = true) : tkK t = 1 := (of_decide_eq_true h).1
theorem tKw_K {l : List Int32} {t : Tk} {k : Nat} (h : tKw l t k = true) : tkK t = 1 := (of_decide_eq_true h).1
theorem tSym_K {t : Tk} {k : Nat} (h : tSym t k = true) : tkK t = 3 := (of_decide_eq_true h).1
theorem tFlag_K {l : List Int32} {t : Tk} (h : tFlag l t ≠ 0) : tkK t = 1 := by
  by_cases e : tkK t = 1
  · exact e
  · rw [tFlag, kwTk_none e] at h; exact absurd rfl h
end
theorem lp_res {α β : Type} (g : Nat → α → α ⊕ β) (fin : α → β) (Q : β → Prop) : ∀ (n k : Nat) (a : α), (∀ a, Q (fin a)) → (∀ j a b, k ≤ j → j < k + n → g j a = .inr b → Q b) → Q (lp g fin k n a) := by
  intro n
  induction n with
  | zero => intro k a h1 _; exact h1 a
  | succ n ih =>
    intro k a h1 h2
    rw [lp]
    cases e : g k a with
    | inl a' => exact ih (k + 1) a' h1 (fun j a b q1 q2 => h2 j a b (by omega) (by omega))
    | inr b => exact h2 k a b (Nat.le_refl _) (by omega) e
theorem bnm_ok (S : St) (J : Int64) : okB S (bnm S J) := by
  refine lp_res _ _ (fun x => okB S x) (stN S) 0 () (fun _ => .inl rfl) (fun j a b _ hj h => ?_)
  by_cases e : (stB S j).1 = J
  · rw [if_pos e] at h
    cases h
    exact .inr ⟨j, by omega, rfl⟩
  · rw [if_neg e] at h; cases h
theorem bnm_in {S : St} {J : Int64} (h : bnm S J ≠ -1) (h3 : stN S ≤ 3) : ∃ k, k < stN S ∧ bnm S J = nI k ∧ (bnm S J).toNatClampNeg = k := by
  rcases bnm_ok S J with e | ⟨b, hb, e⟩
  · exact absurd e h
  · exact ⟨b, hb, e, by rw [e, nI_clamp (by omega)]⟩
section
variable {M : Mem} {rp tk rt rl : Nat} {l : List Int32}
/-- a new name: passed, or an error -/
theorem X9_newName_L {P : Ps} (ap : apt rp tk rt rl) (h : cP M rp tk rt rl l P) (holder : Int32) :
    (tName l (toks l P.1) = true ∧ holder = -1 ∧ ∃ M', f_X9_passNewName rp holder M = some (nmOf l (toks l P.1), M') ∧ cP M' rp tk rt rl l (P.1 + 1, P.2) ∧ off M M' tk 6) ∨
    (∃ M' x, f_X9_passNewName rp holder M = some (x, M') ∧ cQ M' rp tk rt rl l (erA l P.1 (if tName l (toks l P.1) = false then 1 else 3)) ∧ off M M' tk 6 ∧ (tName l (toks l P.1) = false ∨ holder ≠ -1)) := by
  have hn := X10_isName_L h.2.1
  have hm := X10_nm_L h.2.1
  cases e : tName l (toks l P.1) with
  | true =>
    rw [e] at hn
    by_cases e2 : holder = -1
    · obtain ⟨M1, e1, t1, o1⟩ := X10_next_L h.2.1 (by rw [tName_K e]; decide)
      exact .inl ⟨rfl, e2, M1, by simp only [f_X9_passNewName, h.ob, h.g0, hm, hn, bso, cond_true, e2, if_true, f_X9_passNewName_42, e1], h.tok ap o1 t1, o1⟩
    · obtain ⟨M1, e1, t1, o1⟩ := X10_fail_L h.2.1 (c := 3) (by decide)
      have q1 := h.err ap o1 (e := erA l P.1 3) t1
      exact .inr ⟨M1, nmOf l (toks l P.1), by simp only [f_X9_passNewName, h.ob, h.g0, hm, hn, bso, cond_true, e2, if_false, e1, f_X9_passNewName_42, q1.g0, X10_next_F t1], by simpa using q1, o1, .inr e2⟩
  | false =>
    rw [e] at hn
    obtain ⟨M1, e1, t1, o1⟩ := X10_fail_L h.2.1 (c := 1) (by decide)
    have q1 := h.err ap o1 (e := erA l P.1 1) t1
    exact .inr ⟨M1, nmOf l (toks l P.1), by simp only [f_X9_passNewName, h.ob, h.g0, hm, hn, bso, cond_false, e1, f_X9_passNewName_42, q1.g0, X10_next_F t1], by simpa using q1, o1, .inl rfl⟩
theorem X9_newName_F {e : Er} (h : cQ M rp tk rt rl l e) (holder : Int32) : ∃ x, f_X9_passNewName rp holder M = some (x, M) := by
  obtain ⟨x, hx⟩ := X10_nm_F h.2.1.x
  exact ⟨x, by simp only [f_X9_passNewName, h.ob, h.g0, hx, X10_isName_F h.2.1, bso, cond_false, X10_fail_F h.2.1, f_X9_passNewName_42, X10_next_F h.2.1]⟩
theorem X9_box_F {e : Er} (h : cQ M rp tk rt rl l e) : f_X9_parseBox_16 rp rl M = some M := by
  obtain ⟨x, hx⟩ := X10_nm_F h.2.1.x
  obtain ⟨S, hS, hw⟩ := h.2.2.1
  obtain ⟨y, hy⟩ := X9_newName_F h (bnm S x)
  simp only [f_X9_parseBox_16, h.g0, X10_next_F h.2.1, hx, X8_boxNamed_e hS, hy, X10_failed_F h.2.1, bso, cond_true, f_X9_parseBox_57]
theorem X9_box_e {P : Ps} (ap : apt rp tk rt rl) (h : cP M rp tk rt rl l P) (hk : tkK (toks l P.1) ≠ 0) : ∃ M', f_X9_parseBox rp rl M = some M' ∧ cR M' rp tk rt rl l (pBox l P) ∧ offP M M' rp tk rl := by
  have hS := h.2.2.1
  have h3 := hS.n3
  simp only [f_X9_parseBox, h.ob, hS.gN, bso, pBox]
  by_cases e3 : stN P.2.1 = 3
  · obtain ⟨M1, e1, t1, o1⟩ := X10_fail_L h.2.1 (c := 4) (by decide)
    have q1 := h.err ap o1 (e := erA l P.1 4) t1
    rw [if_neg (show ¬ (nI (stN P.2.1) < 3) by rw [e3]; decide), if_pos e3]
    exact ⟨M1, by simp only [h.g0, e1, bso]; exact X9_box_F q1, q1, o1.pt ap⟩
  · rw [if_pos (show nI (stN P.2.1) < 3 from (nI_ltI (b := 3) (by omega) (by omega)).mpr (by omega)), if_neg e3]
    obtain ⟨M1, e1, t1, o1⟩ := X10_next_L h.2.1 hk
    have h1 := h.tok ap o1 t1
    rcases X9_newName_L ap h1 (bnm P.2.1 (nmOf l (toks l (P.1 + 1)))) with ⟨n1, n2, M2, e2, h2, o2⟩ | ⟨M2, x, e2, q2, o2, n1⟩
    · obtain ⟨M3, e3', s3, o3⟩ := X8_addBox_e h2.2.2.1 (by show stN P.2.1 < 3; omega)
      have hb := s3.bx (k := stN P.2.1) (by show stN P.2.1 < 3; omega)
      obtain ⟨M4, e4, b4, o4⟩ := X0_begin_e hb (nmOf l (toks l (P.1 + 1)))
      have s4 := s3.setB (k := stN P.2.1) (b := (nmOf l (toks l (P.1 + 1)), 1, [])) (by omega) b4 (fun q _ _ q3 => o4.2 q q3)
      have o34 : off M2 M4 rl 59 := (o3.wide (by omega) (by omega)).trans (o4.wide (by unfold boxR; omega) (by unfold boxR; omega))
      have h4 := h2.sta ap o34 s4 (fun k hk => by
        rcases h.2.2.2.2 k hk with z | ⟨b, hb, z⟩
        · exact .inl z
        · exact .inr ⟨b, by show b < stN P.2.1 + 1; omega, z⟩)
      refine ⟨M4, ?_, ?_, ((o1.pt ap).trans (o2.pt ap)).trans o34.pl⟩
      · simp only [f_X9_parseBox_16, h.g0, e1, h1.g0, X10_nm_L t1, X8_boxNamed_e h1.2.2.1, bso]
        have e2' : f_X9_passNewName rp (bnm P.2.1 (nmOf l (toks l (P.1 + 1)))) M1 = some (nmOf l (toks l (P.1 + 1)), M2) := e2
        have e3'' : f_X8_addBox rl M2 = some (some (boxR rl (stN P.2.1)), M3) := e3'
        simp only [e2', bso, h2.g0, X10_failed_L h2.2.1, cond_false, e3'', f_X9_parseBox_57, e4]
      · rw [show tName l (toks l (P.1 + 1)) = true from n1, n2]
        simp only [Bool.true_eq_false, if_false, if_true]
        exact h4
    · refine ⟨M2, ?_, ?_, (o1.pt ap).trans (o2.pt ap)⟩
      · simp only [f_X9_parseBox_16, h.g0, e1, h1.g0, X10_nm_L t1, X8_boxNamed_e h1.2.2.1, bso]
        have e2' : f_X9_passNewName rp (bnm P.2.1 (nmOf l (toks l (P.1 + 1)))) M1 = some (x, M2) := e2
        simp only [e2', bso, q2.g0, X10_failed_F q2.2.1, cond_true, f_X9_parseBox_57]
      · have n1' : tName l (toks l (P.1 + 1)) = false ∨ bnm P.2.1 (nmOf l (toks l (P.1 + 1))) ≠ -1 := n1
        by_cases z : tName l (toks l (P.1 + 1)) = false
        · have q2' : cQ M2 rp tk rt rl l (erA l (P.1 + 1) (if tName l (toks l (P.1 + 1)) = false then 1 else 3)) := q2
          rw [if_pos z] at q2' ⊢
          exact q2'
        · have q2' : cQ M2 rp tk rt rl l (erA l (P.1 + 1) (if tName l (toks l (P.1 + 1)) = false then 1 else 3)) := q2
          rw [if_neg z] at q2' ⊢
          rw [if_neg (n1'.resolve_left z)]
          exact q2'
/-- the box that a token names -/
theorem X9_known_L {P : Ps} (ap : apt rp tk rt rl) (h : cP M rp tk rt rl l P) :
    (tName l (toks l P.1) = true ∧ bnm P.2.1 (nmOf l (toks l P.1)) ≠ -1 ∧ f_X9_knownBox rp rl M = some (bnm P.2.1 (nmOf l (toks l P.1)), M)) ∨
    (∃ M', f_X9_knownBox rp rl M = some (-1, M') ∧ cQ M' rp tk rt rl l (erA l P.1 (if tName l (toks l P.1) = false then 1 else 3)) ∧ off M M' tk 6 ∧ (tName l (toks l P.1) = false ∨ bnm P.2.1 (nmOf l (toks l P.1)) = -1)) := by
  have hn := X10_isName_L h.2.1
  have hm := X10_nm_L h.2.1
  cases e : tName l (toks l P.1) with
  | true =>
    rw [e] at hn
    by_cases e2 : bnm P.2.1 (nmOf l (toks l P.1)) = -1
    · obtain ⟨M1, e1, t1, o1⟩ := X10_fail_L h.2.1 (c := 3) (by decide)
      have q1 := h.err ap o1 (e := erA l P.1 3) t1
      exact .inr ⟨M1, by simp only [f_X9_knownBox, h.ob, h.g0, hm, hn, bso, cond_true, X8_boxNamed_e h.2.2.1, e2, if_true, e1], by simpa using q1, o1, .inr e2⟩
    · exact .inl ⟨rfl, e2, by simp only [f_X9_knownBox, h.ob, h.g0, hm, hn, bso, cond_true, X8_boxNamed_e h.2.2.1, e2, if_false]⟩
  | false =>
    rw [e] at hn
    obtain ⟨M1, e1, t1, o1⟩ := X10_fail_L h.2.1 (c := 1) (by decide)
    have q1 := h.err ap o1 (e := erA l P.1 1) t1
    exact .inr ⟨M1, by simp only [f_X9_knownBox, h.ob, h.g0, hn, bso, cond_false, e1], by simpa using q1, o1, .inl rfl⟩
theorem X9_known_F {e : Er} (h : cQ M rp tk rt rl l e) : f_X9_knownBox rp rl M = some (-1, M) := by
  simp only [f_X9_knownBox, h.ob, h.g0, X10_isName_F h.2.1, bso, cond_false, X10_fail_F h.2.1]
theorem X9_flags_F {e : Er} (h : cQ M rp tk rt rl l e) (fu : Nat) (a k : Int32) : f_X9_passFlags_4 (fu + 1) rp a k M = some (a, M) := by
  simp only [f_X9_passFlags_4, h.g0, X10_flag_F h.2.1, bso, if_true]
  split <;> rfl
theorem X9_flags_loop {S : St} {b1 b2 : Bool} (ap : apt rp tk rt rl) : ∀ (n j k fu : Nat) (a : Int32) (M : Mem), k + n = 700 → n + 1 < fu → cP M rp tk rt rl l (j, S, b1, b2) →
    ∃ x M', f_X9_passFlags_4 fu rp a (nI k) M = some (x, M') ∧ off M M' tk 6 ∧ (match pFlg l n j a with | .inl (j2, fl) => x = fl ∧ cP M' rp tk rt rl l (j2, S, b1, b2) | .inr e => cQ M' rp tk rt rl l e) := by
  intro n
  induction n with
  | zero =>
    intro j k fu a M hk hf h
    obtain ⟨fu, rfl⟩ : ∃ m, fu = m + 1 := ⟨fu - 1, by omega⟩
    obtain rfl : k = 700 := by omega
    refine ⟨a, M, ?_, off.rf _ _ _, rfl, h⟩
    simp only [f_X9_passFlags_4]
    rw [if_pos (show (700 : Int32) ≤ nI 700 by decide)]
  | succ n ih =>
    intro j k fu a M hk hf h
    obtain ⟨fu, rfl⟩ : ∃ m, fu = m + 1 := ⟨fu - 1, by omega⟩
    have hfl := X10_flag_L h.2.1
    have hfl : f_X10_flag tk M = some (tFlag l (toks l j)) := hfl
    simp only [f_X9_passFlags_4, h.g0, hfl, bso, pFlg]
    rw [if_neg (show ¬ ((700 : Int32) ≤ nI k) from fun z => absurd ((nI_leI (a := 700) (by omega) (by omega)).mp z) (by omega))]
    by_cases e : tFlag l (toks l j) = 0
    · simp only [e, if_true]
      exact ⟨a, M, rfl, off.rf _ _ _, rfl, h⟩
    · simp only [e, if_false]
      by_cases e2 : a &&& tFlag l (toks l j) = 0
      · simp only [e2, if_true]
        obtain ⟨M1, e1, t1, o1⟩ := X10_next_L h.2.1 (show tkK (toks l j) ≠ 0 by rw [tFlag_K e]; decide)
        have h1 := h.tok ap o1 t1
        obtain ⟨x, M', e', o', r'⟩ := ih (j + 1) (k + 1) fu (a ||| tFlag l (toks l j)) M1 (by omega) (by omega) h1
        refine ⟨x, M', ?_, o1.trans o', r'⟩
        simp only [f_X9_passFlags_41, h.g0, hfl, e1, bso, nI_1, e']
      · simp only [e2, if_false]
        obtain ⟨M1, e1, t1, o1⟩ := X10_fail_L h.2.1 (c := 3) (by decide)
        have q1 := h.err ap o1 (e := erA l j 3) t1
        obtain ⟨fu, rfl⟩ : ∃ m, fu = m + 1 := ⟨fu - 1, by omega⟩
        refine ⟨a ||| 0, M1, ?_, o1, q1⟩
        simp only [e1, f_X9_passFlags_41, q1.g0, X10_flag_F q1.2.1, X10_next_F q1.2.1, bso, X9_flags_F q1]
end
