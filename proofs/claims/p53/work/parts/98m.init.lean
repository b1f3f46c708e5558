/-! PURE, p53: what a constructor leaves alone: all but its own places; the next reference moves -/
def ofc (M M' : Mem) (a n : Nat) : Prop := M'.2.2 = M.2.2 ∧ ∀ q, (q < a ∨ a + n ≤ q) → M'.1 q = M.1 q
theorem ofc.trans {M M1 M2 : Mem} {a n : Nat} (h : ofc M M1 a n) (g : ofc M1 M2 a n) : ofc M M2 a n := ⟨g.1.trans h.1, fun q hq => (g.2 q hq).trans (h.2 q hq)⟩
theorem ofc.wide {M M1 : Mem} {a n b m : Nat} (h : ofc M M1 a n) (h1 : b ≤ a) (h2 : a + n ≤ b + m) : ofc M M1 b m := ⟨h.1, fun q hq => h.2 q (by omega)⟩
theorem ofc.same {M M' : Mem} {a n c k : Nat} (o : ofc M M' a n) (d : c + k ≤ a ∨ a + n ≤ c) : same M M' c k := fun q h1 h2 => o.2 q (by omega)
theorem ofc_set (M : Mem) (r : Nat) (c : PC) : ofc M (mset M r c) r 1 := ⟨rfl, fun q hq => mset_ne M c (by omega)⟩
/-! PURE: the constructors -/
theorem al_e {M : Mem} {r : Nat} (h : M.2.1 = r) (h0 : r ≠ 0) : alc M = some r := by
  unfold alc
  rw [h, if_neg h0]
theorem mk_e {M : Mem} {r : Nat} (h : M.2.1 = r) (c : PC) : (mnew M c).1 r = some c ∧ ofc M (mnew M c) r 1 ∧ (mnew M c).2.1 = r + 1 := by
  subst h
  exact ⟨if_pos rfl, ⟨rfl, fun q hq => if_neg (by omega)⟩, rfl⟩
theorem pv_e {M : Mem} {ci r : Nat} {fs : List Value} (h : M.1 r = some (.inr (ci, fs))) {i : Nat} (hi : i < fs.length) (v : Value) : ∃ M', pV M ci i r v = some M' ∧ M'.1 r = some (.inr (ci, fs.set i v)) ∧ ofc M M' r 1 ∧ M'.2 = M.2 :=
  ⟨_, pV_h h hi v, mset_at _ _ _, ofc_set _ _ _, rfl⟩
theorem sq_e {M : Mem} {a t n : Nat} {f : Nat → Option Nat} (h : M.1 a = some (.inl (t, (n, .inr (.inr (.inr (.inr f))))))) {i : Int32} {k : Nat} (hi : i = nI k) (hk : k < n) (hn : n < 2 ^ 31) (x : Option Nat) : ∃ M', sQ M t a i x = some M' ∧ M'.1 a = some (.inl (t, (n, .inr (.inr (.inr (.inr (va_up f k x))))))) ∧ ofc M M' a 1 ∧ M'.2 = M.2 := by
  subst hi
  refine ⟨_, sQ_h h (inR_n hk hn) x, ?_, ofc_set _ _ _, rfl⟩
  rw [mset_at, nI_clamp (by omega)]
theorem nd (r x k a n : Nat) (h : x + k ≤ a ∨ a + n ≤ x) : r + x + k ≤ r + a ∨ r + a + n ≤ r + x := by omega
theorem nd0 (r x k n : Nat) (h : n ≤ x) : r + x + k ≤ r ∨ r + n ≤ r + x := by omega
theorem nq (r x a n : Nat) (h : x < a ∨ a + n ≤ x) : r + x < r + a ∨ r + a + n ≤ r + x := by omega
theorem nq0 (r x n : Nat) (h : n ≤ x) : r + x < r ∨ r + n ≤ r + x := by omega
theorem np (r a n : Nat) (h : 0 < a) : r < r + a ∨ r + a + n ≤ r := by omega
theorem nw0 (r n m : Nat) (h : n ≤ m) : r + n ≤ r + m := by omega
theorem nw2 (r a n m : Nat) (h : a + n ≤ m) : r + a + n ≤ r + m := by omega
theorem X5_i30 {M : Mem} {r : Nat} (h : M.2.1 = r) (h0 : r ≠ 0) : ∃ M', f_X5_init_30 r (mnew M (.inr (4, [.null, .int 0]))) = some M' ∧ nA M' r 30 [] ∧ ofc M M' r 2 ∧ M'.2.1 = r + 2 := by
  obtain ⟨p0, o0, n0⟩ := mk_e h (.inr (4, [.null, .int 0]))
  obtain ⟨M0, hM0⟩ : ∃ M0, M0 = mnew M (.inr (4, [.null, .int 0])) := ⟨_, rfl⟩
  rw [← hM0] at p0 o0 n0 ⊢
  have al1 := al_e n0 (Nat.succ_ne_zero _)
  obtain ⟨A1, o1, n1⟩ := mk_e n0 (.inl (0, (30, .inl (fun _ => 0))))
  obtain ⟨M1, hM1⟩ : ∃ M1, M1 = mnew M0 (.inl (0, (30, .inl (fun _ => 0)))) := ⟨_, rfl⟩
  rw [← hM1] at A1 o1 n1
  have n1 : M1.2.1 = r + 2 := n1
  have p1 := (o1.2 r (np r 1 1 (by decide))).trans p0
  obtain ⟨M2, e2, p2, o2, q2⟩ := pv_e p1 (i := 0) (Nat.le_of_ble_eq_true rfl) (.ref (r + 1))
  have n2 : M2.2.1 = r + 2 := (congrArg Prod.fst q2).trans n1
  have A1 := (o2.2 _ (nq0 r 1 1 (by decide))).trans A1
  obtain ⟨M3, e3, p3, o3, q3⟩ := pv_e p2 (i := 1) (Nat.le_of_ble_eq_true rfl) (.int 0)
  have n3 : M3.2.1 = r + 2 := (congrArg Prod.fst q3).trans n2
  have A1 := (o3.2 _ (nq0 r 1 1 (by decide))).trans A1
  have oo : ofc M M3 r 2 := ((((o0.wide (Nat.le_refl r) (nw0 r 1 2 (by decide))).trans (o1.wide (Nat.le_add_right r 1) (nw2 r 1 1 2 (by decide)))).trans (o2.wide (Nat.le_refl r) (nw0 r 1 2 (by decide)))).trans (o3.wide (Nat.le_refl r) (nw0 r 1 2 (by decide))))
  refine ⟨M3, ?_, ⟨p3, _, A1, Nat.zero_le _, by decide, fun j hj => absurd hj (Nat.not_lt_zero j)⟩, oo, n3⟩
  simp only [f_X5_init_30, ob_h p0, al1, ← hM1, e2, e3, bso]
theorem X5_i60 {M : Mem} {r : Nat} (h : M.2.1 = r) (h0 : r ≠ 0) : ∃ M', f_X5_init_60 r (mnew M (.inr (4, [.null, .int 0]))) = some M' ∧ nA M' r 60 [] ∧ ofc M M' r 2 ∧ M'.2.1 = r + 2 := by
  obtain ⟨p0, o0, n0⟩ := mk_e h (.inr (4, [.null, .int 0]))
  obtain ⟨M0, hM0⟩ : ∃ M0, M0 = mnew M (.inr (4, [.null, .int 0])) := ⟨_, rfl⟩
  rw [← hM0] at p0 o0 n0 ⊢
  have al1 := al_e n0 (Nat.succ_ne_zero _)
  obtain ⟨A1, o1, n1⟩ := mk_e n0 (.inl (0, (60, .inl (fun _ => 0))))
  obtain ⟨M1, hM1⟩ : ∃ M1, M1 = mnew M0 (.inl (0, (60, .inl (fun _ => 0)))) := ⟨_, rfl⟩
  rw [← hM1] at A1 o1 n1
  have n1 : M1.2.1 = r + 2 := n1
  have p1 := (o1.2 r (np r 1 1 (by decide))).trans p0
  obtain ⟨M2, e2, p2, o2, q2⟩ := pv_e p1 (i := 0) (Nat.le_of_ble_eq_true rfl) (.ref (r + 1))
  have n2 : M2.2.1 = r + 2 := (congrArg Prod.fst q2).trans n1
  have A1 := (o2.2 _ (nq0 r 1 1 (by decide))).trans A1
  obtain ⟨M3, e3, p3, o3, q3⟩ := pv_e p2 (i := 1) (Nat.le_of_ble_eq_true rfl) (.int 0)
  have n3 : M3.2.1 = r + 2 := (congrArg Prod.fst q3).trans n2
  have A1 := (o3.2 _ (nq0 r 1 1 (by decide))).trans A1
  have oo : ofc M M3 r 2 := ((((o0.wide (Nat.le_refl r) (nw0 r 1 2 (by decide))).trans (o1.wide (Nat.le_add_right r 1) (nw2 r 1 1 2 (by decide)))).trans (o2.wide (Nat.le_refl r) (nw0 r 1 2 (by decide)))).trans (o3.wide (Nat.le_refl r) (nw0 r 1 2 (by decide))))
  refine ⟨M3, ?_, ⟨p3, _, A1, Nat.zero_le _, by decide, fun j hj => absurd hj (Nat.not_lt_zero j)⟩, oo, n3⟩
  simp only [f_X5_init_60, ob_h p0, al1, ← hM1, e2, e3, bso]
theorem X5_i5 {M : Mem} {r : Nat} (h : M.2.1 = r) (h0 : r ≠ 0) : ∃ M', f_X5_init_5 r (mnew M (.inr (4, [.null, .int 0]))) = some M' ∧ nA M' r 5 [] ∧ ofc M M' r 2 ∧ M'.2.1 = r + 2 := by
  obtain ⟨p0, o0, n0⟩ := mk_e h (.inr (4, [.null, .int 0]))
  obtain ⟨M0, hM0⟩ : ∃ M0, M0 = mnew M (.inr (4, [.null, .int 0])) := ⟨_, rfl⟩
  rw [← hM0] at p0 o0 n0 ⊢
  have al1 := al_e n0 (Nat.succ_ne_zero _)
  obtain ⟨A1, o1, n1⟩ := mk_e n0 (.inl (0, (5, .inl (fun _ => 0))))
  obtain ⟨M1, hM1⟩ : ∃ M1, M1 = mnew M0 (.inl (0, (5, .inl (fun _ => 0)))) := ⟨_, rfl⟩
  rw [← hM1] at A1 o1 n1
  have n1 : M1.2.1 = r + 2 := n1
  have p1 := (o1.2 r (np r 1 1 (by decide))).trans p0
  obtain ⟨M2, e2, p2, o2, q2⟩ := pv_e p1 (i := 0) (Nat.le_of_ble_eq_true rfl) (.ref (r + 1))
  have n2 : M2.2.1 = r + 2 := (congrArg Prod.fst q2).trans n1
  have A1 := (o2.2 _ (nq0 r 1 1 (by decide))).trans A1
  obtain ⟨M3, e3, p3, o3, q3⟩ := pv_e p2 (i := 1) (Nat.le_of_ble_eq_true rfl) (.int 0)
  have n3 : M3.2.1 = r + 2 := (congrArg Prod.fst q3).trans n2
  have A1 := (o3.2 _ (nq0 r 1 1 (by decide))).trans A1
  have oo : ofc M M3 r 2 := ((((o0.wide (Nat.le_refl r) (nw0 r 1 2 (by decide))).trans (o1.wide (Nat.le_add_right r 1) (nw2 r 1 1 2 (by decide)))).trans (o2.wide (Nat.le_refl r) (nw0 r 1 2 (by decide)))).trans (o3.wide (Nat.le_refl r) (nw0 r 1 2 (by decide))))
  refine ⟨M3, ?_, ⟨p3, _, A1, Nat.zero_le _, by decide, fun j hj => absurd hj (Nat.not_lt_zero j)⟩, oo, n3⟩
  simp only [f_X5_init_5, ob_h p0, al1, ← hM1, e2, e3, bso]
theorem X5_i244 {M : Mem} {r : Nat} (h : M.2.1 = r) (h0 : r ≠ 0) : ∃ M', f_X5_init_244 r (mnew M (.inr (4, [.null, .int 0]))) = some M' ∧ nA M' r 244 [] ∧ ofc M M' r 2 ∧ M'.2.1 = r + 2 := by
  obtain ⟨p0, o0, n0⟩ := mk_e h (.inr (4, [.null, .int 0]))
  obtain ⟨M0, hM0⟩ : ∃ M0, M0 = mnew M (.inr (4, [.null, .int 0])) := ⟨_, rfl⟩
  rw [← hM0] at p0 o0 n0 ⊢
  have al1 := al_e n0 (Nat.succ_ne_zero _)
  obtain ⟨A1, o1, n1⟩ := mk_e n0 (.inl (0, (244, .inl (fun _ => 0))))
  obtain ⟨M1, hM1⟩ : ∃ M1, M1 = mnew M0 (.inl (0, (244, .inl (fun _ => 0)))) := ⟨_, rfl⟩
  rw [← hM1] at A1 o1 n1
  have n1 : M1.2.1 = r + 2 := n1
  have p1 := (o1.2 r (np r 1 1 (by decide))).trans p0
  obtain ⟨M2, e2, p2, o2, q2⟩ := pv_e p1 (i := 0) (Nat.le_of_ble_eq_true rfl) (.ref (r + 1))
  have n2 : M2.2.1 = r + 2 := (congrArg Prod.fst q2).trans n1
  have A1 := (o2.2 _ (nq0 r 1 1 (by decide))).trans A1
  obtain ⟨M3, e3, p3, o3, q3⟩ := pv_e p2 (i := 1) (Nat.le_of_ble_eq_true rfl) (.int 0)
  have n3 : M3.2.1 = r + 2 := (congrArg Prod.fst q3).trans n2
  have A1 := (o3.2 _ (nq0 r 1 1 (by decide))).trans A1
  have oo : ofc M M3 r 2 := ((((o0.wide (Nat.le_refl r) (nw0 r 1 2 (by decide))).trans (o1.wide (Nat.le_add_right r 1) (nw2 r 1 1 2 (by decide)))).trans (o2.wide (Nat.le_refl r) (nw0 r 1 2 (by decide)))).trans (o3.wide (Nat.le_refl r) (nw0 r 1 2 (by decide))))
  refine ⟨M3, ?_, ⟨p3, _, A1, Nat.zero_le _, by decide, fun j hj => absurd hj (Nat.not_lt_zero j)⟩, oo, n3⟩
  simp only [f_X5_init_244, ob_h p0, al1, ← hM1, e2, e3, bso]
theorem X1_i700 {M : Mem} {r : Nat} (h : M.2.1 = r) (h0 : r ≠ 0) : ∃ M', f_X1_init_700 r (mnew M (.inr (1, [.null, .int 0]))) = some M' ∧ yA M' r 700 [] ∧ ofc M M' r 2 ∧ M'.2.1 = r + 2 := by
  obtain ⟨p0, o0, n0⟩ := mk_e h (.inr (1, [.null, .int 0]))
  obtain ⟨M0, hM0⟩ : ∃ M0, M0 = mnew M (.inr (1, [.null, .int 0])) := ⟨_, rfl⟩
  rw [← hM0] at p0 o0 n0 ⊢
  have al1 := al_e n0 (Nat.succ_ne_zero _)
  obtain ⟨A1, o1, n1⟩ := mk_e n0 (.inl (2, (700, .inl (fun _ => 0))))
  obtain ⟨M1, hM1⟩ : ∃ M1, M1 = mnew M0 (.inl (2, (700, .inl (fun _ => 0)))) := ⟨_, rfl⟩
  rw [← hM1] at A1 o1 n1
  have n1 : M1.2.1 = r + 2 := n1
  have p1 := (o1.2 r (np r 1 1 (by decide))).trans p0
  obtain ⟨M2, e2, p2, o2, q2⟩ := pv_e p1 (i := 0) (Nat.le_of_ble_eq_true rfl) (.ref (r + 1))
  have n2 : M2.2.1 = r + 2 := (congrArg Prod.fst q2).trans n1
  have A1 := (o2.2 _ (nq0 r 1 1 (by decide))).trans A1
  obtain ⟨M3, e3, p3, o3, q3⟩ := pv_e p2 (i := 1) (Nat.le_of_ble_eq_true rfl) (.int 0)
  have n3 : M3.2.1 = r + 2 := (congrArg Prod.fst q3).trans n2
  have A1 := (o3.2 _ (nq0 r 1 1 (by decide))).trans A1
  have oo : ofc M M3 r 2 := ((((o0.wide (Nat.le_refl r) (nw0 r 1 2 (by decide))).trans (o1.wide (Nat.le_add_right r 1) (nw2 r 1 1 2 (by decide)))).trans (o2.wide (Nat.le_refl r) (nw0 r 1 2 (by decide)))).trans (o3.wide (Nat.le_refl r) (nw0 r 1 2 (by decide))))
  refine ⟨M3, ?_, ⟨p3, _, A1, Nat.zero_le _, by decide, fun j hj => absurd hj (Nat.not_lt_zero j)⟩, oo, n3⟩
  simp only [f_X1_init_700, ob_h p0, al1, ← hM1, e2, e3, bso]
theorem X1_i4096 {M : Mem} {r : Nat} (h : M.2.1 = r) (h0 : r ≠ 0) : ∃ M', f_X1_init_4096 r (mnew M (.inr (1, [.null, .int 0]))) = some M' ∧ yA M' r 4096 [] ∧ ofc M M' r 2 ∧ M'.2.1 = r + 2 := by
  obtain ⟨p0, o0, n0⟩ := mk_e h (.inr (1, [.null, .int 0]))
  obtain ⟨M0, hM0⟩ : ∃ M0, M0 = mnew M (.inr (1, [.null, .int 0])) := ⟨_, rfl⟩
  rw [← hM0] at p0 o0 n0 ⊢
  have al1 := al_e n0 (Nat.succ_ne_zero _)
  obtain ⟨A1, o1, n1⟩ := mk_e n0 (.inl (2, (4096, .inl (fun _ => 0))))
  obtain ⟨M1, hM1⟩ : ∃ M1, M1 = mnew M0 (.inl (2, (4096, .inl (fun _ => 0)))) := ⟨_, rfl⟩
  rw [← hM1] at A1 o1 n1
  have n1 : M1.2.1 = r + 2 := n1
  have p1 := (o1.2 r (np r 1 1 (by decide))).trans p0
  obtain ⟨M2, e2, p2, o2, q2⟩ := pv_e p1 (i := 0) (Nat.le_of_ble_eq_true rfl) (.ref (r + 1))
  have n2 : M2.2.1 = r + 2 := (congrArg Prod.fst q2).trans n1
  have A1 := (o2.2 _ (nq0 r 1 1 (by decide))).trans A1
  obtain ⟨M3, e3, p3, o3, q3⟩ := pv_e p2 (i := 1) (Nat.le_of_ble_eq_true rfl) (.int 0)
  have n3 : M3.2.1 = r + 2 := (congrArg Prod.fst q3).trans n2
  have A1 := (o3.2 _ (nq0 r 1 1 (by decide))).trans A1
  have oo : ofc M M3 r 2 := ((((o0.wide (Nat.le_refl r) (nw0 r 1 2 (by decide))).trans (o1.wide (Nat.le_add_right r 1) (nw2 r 1 1 2 (by decide)))).trans (o2.wide (Nat.le_refl r) (nw0 r 1 2 (by decide)))).trans (o3.wide (Nat.le_refl r) (nw0 r 1 2 (by decide))))
  refine ⟨M3, ?_, ⟨p3, _, A1, Nat.zero_le _, by decide, fun j hj => absurd hj (Nat.not_lt_zero j)⟩, oo, n3⟩
  simp only [f_X1_init_4096, ob_h p0, al1, ← hM1, e2, e3, bso]
theorem X0_i {M : Mem} {r : Nat} (h : M.2.1 = r) (h0 : r ≠ 0) : ∃ M', f_X0_init r (mnew M (.inr (0, [.long 0, .int 0, .null, .null, .null]))) = some M' ∧ bA M' r 0 1 [] ∧ ofc M M' r 7 ∧ M'.2.1 = r + 7 := by
  obtain ⟨p0, o0, n0⟩ := mk_e h (.inr (0, [.long 0, .int 0, .null, .null, .null]))
  obtain ⟨M0, hM0⟩ : ∃ M0, M0 = mnew M (.inr (0, [.long 0, .int 0, .null, .null, .null])) := ⟨_, rfl⟩
  rw [← hM0] at p0 o0 n0 ⊢
  obtain ⟨M1, e1, p1, o1, q1⟩ := pv_e p0 (i := 0) (Nat.le_of_ble_eq_true rfl) (.long 0)
  have n1 : M1.2.1 = r + 1 := (congrArg Prod.fst q1).trans n0
  obtain ⟨M2, e2, p2, o2, q2⟩ := pv_e p1 (i := 1) (Nat.le_of_ble_eq_true rfl) (.int 1)
  have n2 : M2.2.1 = r + 1 := (congrArg Prod.fst q2).trans n1
  have al3 := al_e n2 (Nat.succ_ne_zero _)
  obtain ⟨M3, e3, x1, o3, n3'⟩ := X5_i30 n2 (Nat.succ_ne_zero _)
  have n3 : M3.2.1 = r + 3 := n3'
  have p3 := (o3.2 r (np r 1 2 (by decide))).trans p2
  obtain ⟨M4, e4, p4, o4, q4⟩ := pv_e p3 (i := 2) (Nat.le_of_ble_eq_true rfl) (.ref (r + 1))
  have n4 : M4.2.1 = r + 3 := (congrArg Prod.fst q4).trans n3
  have x1 := x1.sm (o4.same (nd0 r 1 2 1 (by decide)))
  have al5 := al_e n4 (Nat.succ_ne_zero _)
  obtain ⟨M5, e5, x3, o5, n5'⟩ := X5_i30 n4 (Nat.succ_ne_zero _)
  have n5 : M5.2.1 = r + 5 := n5'
  have p5 := (o5.2 r (np r 3 2 (by decide))).trans p4
  have x1 := x1.sm (o5.same (nd r 1 2 3 2 (by decide)))
  obtain ⟨M6, e6, p6, o6, q6⟩ := pv_e p5 (i := 3) (Nat.le_of_ble_eq_true rfl) (.ref (r + 3))
  have n6 : M6.2.1 = r + 5 := (congrArg Prod.fst q6).trans n5
  have x1 := x1.sm (o6.same (nd0 r 1 2 1 (by decide)))
  have x3 := x3.sm (o6.same (nd0 r 3 2 1 (by decide)))
  have al7 := al_e n6 (Nat.succ_ne_zero _)
  obtain ⟨M7, e7, x5, o7, n7'⟩ := X5_i30 n6 (Nat.succ_ne_zero _)
  have n7 : M7.2.1 = r + 7 := n7'
  have p7 := (o7.2 r (np r 5 2 (by decide))).trans p6
  have x1 := x1.sm (o7.same (nd r 1 2 5 2 (by decide)))
  have x3 := x3.sm (o7.same (nd r 3 2 5 2 (by decide)))
  obtain ⟨M8, e8, p8, o8, q8⟩ := pv_e p7 (i := 4) (Nat.le_of_ble_eq_true rfl) (.ref (r + 5))
  have n8 : M8.2.1 = r + 7 := (congrArg Prod.fst q8).trans n7
  have x1 := x1.sm (o8.same (nd0 r 1 2 1 (by decide)))
  have x3 := x3.sm (o8.same (nd0 r 3 2 1 (by decide)))
  have x5 := x5.sm (o8.same (nd0 r 5 2 1 (by decide)))
  have oo : ofc M M8 r 7 := (((((((((o0.wide (Nat.le_refl r) (nw0 r 1 7 (by decide))).trans (o1.wide (Nat.le_refl r) (nw0 r 1 7 (by decide)))).trans (o2.wide (Nat.le_refl r) (nw0 r 1 7 (by decide)))).trans (o3.wide (Nat.le_add_right r 1) (nw2 r 1 2 7 (by decide)))).trans (o4.wide (Nat.le_refl r) (nw0 r 1 7 (by decide)))).trans (o5.wide (Nat.le_add_right r 3) (nw2 r 3 2 7 (by decide)))).trans (o6.wide (Nat.le_refl r) (nw0 r 1 7 (by decide)))).trans (o7.wide (Nat.le_add_right r 5) (nw2 r 5 2 7 (by decide)))).trans (o8.wide (Nat.le_refl r) (nw0 r 1 7 (by decide))))
  refine ⟨M8, ?_, ⟨p8, x1, x3, x5⟩, oo, n8⟩
  simp only [f_X0_init, ob_h p0, e1, e2, al3, e3, e4, al5, e5, e6, al7, e7, e8, bso]
theorem X7_i {M : Mem} {r : Nat} (h : M.2.1 = r) (h0 : r ≠ 0) : ∃ M', f_X7_init r (mnew M (.inr (6, [.long 0, .int 0, .int 0, .int 0, .int 0, .null, .null, .null]))) = some M' ∧ sA M' r 0 (-1) false false 0 [] [] ∧ ofc M M' r 7 ∧ M'.2.1 = r + 7 := by
  obtain ⟨p0, o0, n0⟩ := mk_e h (.inr (6, [.long 0, .int 0, .int 0, .int 0, .int 0, .null, .null, .null]))
  obtain ⟨M0, hM0⟩ : ∃ M0, M0 = mnew M (.inr (6, [.long 0, .int 0, .int 0, .int 0, .int 0, .null, .null, .null])) := ⟨_, rfl⟩
  rw [← hM0] at p0 o0 n0 ⊢
  obtain ⟨M1, e1, p1, o1, q1⟩ := pv_e p0 (i := 0) (Nat.le_of_ble_eq_true rfl) (.long 0)
  have n1 : M1.2.1 = r + 1 := (congrArg Prod.fst q1).trans n0
  obtain ⟨M2, e2, p2, o2, q2⟩ := pv_e p1 (i := 1) (Nat.le_of_ble_eq_true rfl) (.int (-1))
  have n2 : M2.2.1 = r + 1 := (congrArg Prod.fst q2).trans n1
  have al3 := al_e n2 (Nat.succ_ne_zero _)
  obtain ⟨M3, e3, x1, o3, n3'⟩ := X5_i60 n2 (Nat.succ_ne_zero _)
  have n3 : M3.2.1 = r + 3 := n3'
  have p3 := (o3.2 r (np r 1 2 (by decide))).trans p2
  obtain ⟨M4, e4, p4, o4, q4⟩ := pv_e p3 (i := 5) (Nat.le_of_ble_eq_true rfl) (.ref (r + 1))
  have n4 : M4.2.1 = r + 3 := (congrArg Prod.fst q4).trans n3
  have x1 := x1.sm (o4.same (nd0 r 1 2 1 (by decide)))
  have al5 := al_e n4 (Nat.succ_ne_zero _)
  obtain ⟨M5, e5, x3, o5, n5'⟩ := X5_i60 n4 (Nat.succ_ne_zero _)
  have n5 : M5.2.1 = r + 5 := n5'
  have p5 := (o5.2 r (np r 3 2 (by decide))).trans p4
  have x1 := x1.sm (o5.same (nd r 1 2 3 2 (by decide)))
  obtain ⟨M6, e6, p6, o6, q6⟩ := pv_e p5 (i := 6) (Nat.le_of_ble_eq_true rfl) (.ref (r + 3))
  have n6 : M6.2.1 = r + 5 := (congrArg Prod.fst q6).trans n5
  have x1 := x1.sm (o6.same (nd0 r 1 2 1 (by decide)))
  have x3 := x3.sm (o6.same (nd0 r 3 2 1 (by decide)))
  have al7 := al_e n6 (Nat.succ_ne_zero _)
  obtain ⟨M7, e7, x5, o7, n7'⟩ := X5_i5 n6 (Nat.succ_ne_zero _)
  have n7 : M7.2.1 = r + 7 := n7'
  have p7 := (o7.2 r (np r 5 2 (by decide))).trans p6
  have x1 := x1.sm (o7.same (nd r 1 2 5 2 (by decide)))
  have x3 := x3.sm (o7.same (nd r 3 2 5 2 (by decide)))
  obtain ⟨M8, e8, p8, o8, q8⟩ := pv_e p7 (i := 7) (Nat.le_of_ble_eq_true rfl) (.ref (r + 5))
  have n8 : M8.2.1 = r + 7 := (congrArg Prod.fst q8).trans n7
  have x1 := x1.sm (o8.same (nd0 r 1 2 1 (by decide)))
  have x3 := x3.sm (o8.same (nd0 r 3 2 1 (by decide)))
  have x5 := x5.sm (o8.same (nd0 r 5 2 1 (by decide)))
  have oo : ofc M M8 r 7 := (((((((((o0.wide (Nat.le_refl r) (nw0 r 1 7 (by decide))).trans (o1.wide (Nat.le_refl r) (nw0 r 1 7 (by decide)))).trans (o2.wide (Nat.le_refl r) (nw0 r 1 7 (by decide)))).trans (o3.wide (Nat.le_add_right r 1) (nw2 r 1 2 7 (by decide)))).trans (o4.wide (Nat.le_refl r) (nw0 r 1 7 (by decide)))).trans (o5.wide (Nat.le_add_right r 3) (nw2 r 3 2 7 (by decide)))).trans (o6.wide (Nat.le_refl r) (nw0 r 1 7 (by decide)))).trans (o7.wide (Nat.le_add_right r 5) (nw2 r 5 2 7 (by decide)))).trans (o8.wide (Nat.le_refl r) (nw0 r 1 7 (by decide))))
  refine ⟨M8, ?_, ⟨p8, x1, x3, x5⟩, oo, n8⟩
  simp only [f_X7_init, ob_h p0, e1, e2, al3, e3, e4, al5, e5, e6, al7, e7, e8, bso]
theorem X4_i {M : Mem} {r : Nat} (h : M.2.1 = r) (h0 : r ≠ 0) : ∃ M', f_X4_init r (mnew M (.inr (3, [.null, .null, .null, .null]))) = some M' ∧ ntA M' r [] ∧ ofc M M' r 9 ∧ M'.2.1 = r + 9 := by
  obtain ⟨p0, o0, n0⟩ := mk_e h (.inr (3, [.null, .null, .null, .null]))
  obtain ⟨M0, hM0⟩ : ∃ M0, M0 = mnew M (.inr (3, [.null, .null, .null, .null])) := ⟨_, rfl⟩
  rw [← hM0] at p0 o0 n0 ⊢
  have al1 := al_e n0 (Nat.succ_ne_zero _)
  obtain ⟨M1, e1, x1, o1, n1'⟩ := X5_i244 n0 (Nat.succ_ne_zero _)
  have n1 : M1.2.1 = r + 3 := n1'
  have p1 := (o1.2 r (np r 1 2 (by decide))).trans p0
  obtain ⟨M2, e2, p2, o2, q2⟩ := pv_e p1 (i := 0) (Nat.le_of_ble_eq_true rfl) (.ref (r + 1))
  have n2 : M2.2.1 = r + 3 := (congrArg Prod.fst q2).trans n1
  have x1 := x1.sm (o2.same (nd0 r 1 2 1 (by decide)))
  have al3 := al_e n2 (Nat.succ_ne_zero _)
  obtain ⟨M3, e3, x3, o3, n3'⟩ := X5_i244 n2 (Nat.succ_ne_zero _)
  have n3 : M3.2.1 = r + 5 := n3'
  have p3 := (o3.2 r (np r 3 2 (by decide))).trans p2
  have x1 := x1.sm (o3.same (nd r 1 2 3 2 (by decide)))
  obtain ⟨M4, e4, p4, o4, q4⟩ := pv_e p3 (i := 1) (Nat.le_of_ble_eq_true rfl) (.ref (r + 3))
  have n4 : M4.2.1 = r + 5 := (congrArg Prod.fst q4).trans n3
  have x1 := x1.sm (o4.same (nd0 r 1 2 1 (by decide)))
  have x3 := x3.sm (o4.same (nd0 r 3 2 1 (by decide)))
  have al5 := al_e n4 (Nat.succ_ne_zero _)
  obtain ⟨M5, e5, x5, o5, n5'⟩ := X5_i244 n4 (Nat.succ_ne_zero _)
  have n5 : M5.2.1 = r + 7 := n5'
  have p5 := (o5.2 r (np r 5 2 (by decide))).trans p4
  have x1 := x1.sm (o5.same (nd r 1 2 5 2 (by decide)))
  have x3 := x3.sm (o5.same (nd r 3 2 5 2 (by decide)))
  obtain ⟨M6, e6, p6, o6, q6⟩ := pv_e p5 (i := 2) (Nat.le_of_ble_eq_true rfl) (.ref (r + 5))
  have n6 : M6.2.1 = r + 7 := (congrArg Prod.fst q6).trans n5
  have x1 := x1.sm (o6.same (nd0 r 1 2 1 (by decide)))
  have x3 := x3.sm (o6.same (nd0 r 3 2 1 (by decide)))
  have x5 := x5.sm (o6.same (nd0 r 5 2 1 (by decide)))
  have al7 := al_e n6 (Nat.succ_ne_zero _)
  obtain ⟨M7, e7, x7, o7, n7'⟩ := X5_i244 n6 (Nat.succ_ne_zero _)
  have n7 : M7.2.1 = r + 9 := n7'
  have p7 := (o7.2 r (np r 7 2 (by decide))).trans p6
  have x1 := x1.sm (o7.same (nd r 1 2 7 2 (by decide)))
  have x3 := x3.sm (o7.same (nd r 3 2 7 2 (by decide)))
  have x5 := x5.sm (o7.same (nd r 5 2 7 2 (by decide)))
  obtain ⟨M8, e8, p8, o8, q8⟩ := pv_e p7 (i := 3) (Nat.le_of_ble_eq_true rfl) (.ref (r + 7))
  have n8 : M8.2.1 = r + 9 := (congrArg Prod.fst q8).trans n7
  have x1 := x1.sm (o8.same (nd0 r 1 2 1 (by decide)))
  have x3 := x3.sm (o8.same (nd0 r 3 2 1 (by decide)))
  have x5 := x5.sm (o8.same (nd0 r 5 2 1 (by decide)))
  have x7 := x7.sm (o8.same (nd0 r 7 2 1 (by decide)))
  have oo : ofc M M8 r 9 := (((((((((o0.wide (Nat.le_refl r) (nw0 r 1 9 (by decide))).trans (o1.wide (Nat.le_add_right r 1) (nw2 r 1 2 9 (by decide)))).trans (o2.wide (Nat.le_refl r) (nw0 r 1 9 (by decide)))).trans (o3.wide (Nat.le_add_right r 3) (nw2 r 3 2 9 (by decide)))).trans (o4.wide (Nat.le_refl r) (nw0 r 1 9 (by decide)))).trans (o5.wide (Nat.le_add_right r 5) (nw2 r 5 2 9 (by decide)))).trans (o6.wide (Nat.le_refl r) (nw0 r 1 9 (by decide)))).trans (o7.wide (Nat.le_add_right r 7) (nw2 r 7 2 9 (by decide)))).trans (o8.wide (Nat.le_refl r) (nw0 r 1 9 (by decide))))
  refine ⟨M8, ?_, ⟨p8, x1, x3, x5, x7⟩, oo, n8⟩
  simp only [f_X4_init, ob_h p0, al1, e1, e2, al3, e3, e4, al5, e5, e6, al7, e7, e8, bso]

/-! PURE: the constructors of state, history, tokens and parsers -/
def S00 : St := (30, 0, 0, fun _ => (0, 1, []), fun _ => (0, -1, false, false, 0, [], []))
theorem X9_i {M : Mem} {r : Nat} (h : M.2.1 = r) (a : Nat) : ∃ M', f_X9_init r a (mnew M (.inr (8, [.null, .int 0, .int 0]))) = some M' ∧ M'.1 r = some (.inr (8, [.ref a, .int 0, .int 0])) ∧ ofc M M' r 1 ∧ M'.2.1 = r + 1 := by
  obtain ⟨p0, o0, n0⟩ := mk_e h (.inr (8, [.null, .int 0, .int 0]))
  obtain ⟨M1, e1, p1, o1, q1⟩ := pv_e p0 (i := 0) (Nat.le_of_ble_eq_true rfl) (.ref a)
  exact ⟨M1, by simp only [f_X9_init, ob_h p0, e1, bso], p1, o0.trans o1, (congrArg Prod.fst q1).trans n0⟩
theorem X6_i {M : Mem} {r : Nat} (h : M.2.1 = r) (a : Nat) : ∃ M', f_X6_init r a (mnew M (.inr (5, [.null]))) = some M' ∧ M'.1 r = some (.inr (5, [.ref a])) ∧ ofc M M' r 1 ∧ M'.2.1 = r + 1 := by
  obtain ⟨p0, o0, n0⟩ := mk_e h (.inr (5, [.null]))
  obtain ⟨M1, e1, p1, o1, q1⟩ := pv_e p0 (i := 0) (Nat.le_of_ble_eq_true rfl) (.ref a)
  exact ⟨M1, by simp only [f_X6_init, ob_h p0, e1, bso], p1, o0.trans o1, (congrArg Prod.fst q1).trans n0⟩
theorem X10_i {M : Mem} {r : Nat} (h : M.2.1 = r) (h0 : r ≠ 0) (a : Nat) : ∃ M', f_X10_init r a (mnew M (.inr (9, [.null, .null, .null, .null, .null, .null, .int 0, .int 0, .int 0, .int 0, .int 0, .long 0, .null, .int 0, .int 0]))) = some M' ∧ tkX M' r a ∧ ofc M M' r 6 ∧ M'.2.1 = r + 6 := by
  obtain ⟨p0, o0, n0⟩ := mk_e h (.inr (9, [.null, .null, .null, .null, .null, .null, .int 0, .int 0, .int 0, .int 0, .int 0, .long 0, .null, .int 0, .int 0]))
  obtain ⟨M0, hM0⟩ : ∃ M0, M0 = mnew M (.inr (9, [.null, .null, .null, .null, .null, .null, .int 0, .int 0, .int 0, .int 0, .int 0, .long 0, .null, .int 0, .int 0])) := ⟨_, rfl⟩
  rw [← hM0] at p0 o0 n0 ⊢
  obtain ⟨M1, e1, p1, o1, q1⟩ := pv_e p0 (i := 0) (Nat.le_of_ble_eq_true rfl) (.ref a)
  have n1 : M1.2.1 = r + 1 := (congrArg Prod.fst q1).trans n0
  have al2 := al_e n1 (Nat.succ_ne_zero _)
  obtain ⟨A1, o2, n2⟩ := mk_e n1 (.inl (0, (701, .inl (fun _ => 0))))
  obtain ⟨M2, hM2⟩ : ∃ M2, M2 = mnew M1 (.inl (0, (701, .inl (fun _ => 0)))) := ⟨_, rfl⟩
  rw [← hM2] at A1 o2 n2
  have n2 : M2.2.1 = r + 2 := n2
  have p2 := (o2.2 r (np r 1 1 (by decide))).trans p1
  obtain ⟨M3, e3, p3, o3, q3⟩ := pv_e p2 (i := 1) (Nat.le_of_ble_eq_true rfl) (.ref (r + 1))
  have n3 : M3.2.1 = r + 2 := (congrArg Prod.fst q3).trans n2
  have A1 := (o3.2 _ (nq0 r 1 1 (by decide))).trans A1
  have al4 := al_e n3 (Nat.succ_ne_zero _)
  obtain ⟨A2, o4, n4⟩ := mk_e n3 (.inl (0, (701, .inl (fun _ => 0))))
  obtain ⟨M4, hM4⟩ : ∃ M4, M4 = mnew M3 (.inl (0, (701, .inl (fun _ => 0)))) := ⟨_, rfl⟩
  rw [← hM4] at A2 o4 n4
  have n4 : M4.2.1 = r + 3 := n4
  have p4 := (o4.2 r (np r 2 1 (by decide))).trans p3
  have A1 := (o4.2 _ (nq r 1 2 1 (by decide))).trans A1
  obtain ⟨M5, e5, p5, o5, q5⟩ := pv_e p4 (i := 2) (Nat.le_of_ble_eq_true rfl) (.ref (r + 2))
  have n5 : M5.2.1 = r + 3 := (congrArg Prod.fst q5).trans n4
  have A1 := (o5.2 _ (nq0 r 1 1 (by decide))).trans A1
  have A2 := (o5.2 _ (nq0 r 2 1 (by decide))).trans A2
  have al6 := al_e n5 (Nat.succ_ne_zero _)
  obtain ⟨A3, o6, n6⟩ := mk_e n5 (.inl (0, (701, .inl (fun _ => 0))))
  obtain ⟨M6, hM6⟩ : ∃ M6, M6 = mnew M5 (.inl (0, (701, .inl (fun _ => 0)))) := ⟨_, rfl⟩
  rw [← hM6] at A3 o6 n6
  have n6 : M6.2.1 = r + 4 := n6
  have p6 := (o6.2 r (np r 3 1 (by decide))).trans p5
  have A1 := (o6.2 _ (nq r 1 3 1 (by decide))).trans A1
  have A2 := (o6.2 _ (nq r 2 3 1 (by decide))).trans A2
  obtain ⟨M7, e7, p7, o7, q7⟩ := pv_e p6 (i := 3) (Nat.le_of_ble_eq_true rfl) (.ref (r + 3))
  have n7 : M7.2.1 = r + 4 := (congrArg Prod.fst q7).trans n6
  have A1 := (o7.2 _ (nq0 r 1 1 (by decide))).trans A1
  have A2 := (o7.2 _ (nq0 r 2 1 (by decide))).trans A2
  have A3 := (o7.2 _ (nq0 r 3 1 (by decide))).trans A3
  have al8 := al_e n7 (Nat.succ_ne_zero _)
  obtain ⟨A4, o8, n8⟩ := mk_e n7 (.inl (1, (701, .inr (.inl (fun _ => 0)))))
  obtain ⟨M8, hM8⟩ : ∃ M8, M8 = mnew M7 (.inl (1, (701, .inr (.inl (fun _ => 0))))) := ⟨_, rfl⟩
  rw [← hM8] at A4 o8 n8
  have n8 : M8.2.1 = r + 5 := n8
  have p8 := (o8.2 r (np r 4 1 (by decide))).trans p7
  have A1 := (o8.2 _ (nq r 1 4 1 (by decide))).trans A1
  have A2 := (o8.2 _ (nq r 2 4 1 (by decide))).trans A2
  have A3 := (o8.2 _ (nq r 3 4 1 (by decide))).trans A3
  obtain ⟨M9, e9, p9, o9, q9⟩ := pv_e p8 (i := 4) (Nat.le_of_ble_eq_true rfl) (.ref (r + 4))
  have n9 : M9.2.1 = r + 5 := (congrArg Prod.fst q9).trans n8
  have A1 := (o9.2 _ (nq0 r 1 1 (by decide))).trans A1
  have A2 := (o9.2 _ (nq0 r 2 1 (by decide))).trans A2
  have A3 := (o9.2 _ (nq0 r 3 1 (by decide))).trans A3
  have A4 := (o9.2 _ (nq0 r 4 1 (by decide))).trans A4
  have al10 := al_e n9 (Nat.succ_ne_zero _)
  obtain ⟨A5, o10, n10⟩ := mk_e n9 (.inl (8, (701, .inr (.inr (.inr (.inr (fun _ => none)))))))
  obtain ⟨M10, hM10⟩ : ∃ M10, M10 = mnew M9 (.inl (8, (701, .inr (.inr (.inr (.inr (fun _ => none))))))) := ⟨_, rfl⟩
  rw [← hM10] at A5 o10 n10
  have n10 : M10.2.1 = r + 6 := n10
  have p10 := (o10.2 r (np r 5 1 (by decide))).trans p9
  have A1 := (o10.2 _ (nq r 1 5 1 (by decide))).trans A1
  have A2 := (o10.2 _ (nq r 2 5 1 (by decide))).trans A2
  have A3 := (o10.2 _ (nq r 3 5 1 (by decide))).trans A3
  have A4 := (o10.2 _ (nq r 4 5 1 (by decide))).trans A4
  obtain ⟨M11, e11, p11, o11, q11⟩ := pv_e p10 (i := 5) (Nat.le_of_ble_eq_true rfl) (.ref (r + 5))
  have n11 : M11.2.1 = r + 6 := (congrArg Prod.fst q11).trans n10
  have A1 := (o11.2 _ (nq0 r 1 1 (by decide))).trans A1
  have A2 := (o11.2 _ (nq0 r 2 1 (by decide))).trans A2
  have A3 := (o11.2 _ (nq0 r 3 1 (by decide))).trans A3
  have A4 := (o11.2 _ (nq0 r 4 1 (by decide))).trans A4
  have A5 := (o11.2 _ (nq0 r 5 1 (by decide))).trans A5
  obtain ⟨M12, e12, p12, o12, q12⟩ := pv_e p11 (i := 8) (Nat.le_of_ble_eq_true rfl) (.int 4)
  have n12 : M12.2.1 = r + 6 := (congrArg Prod.fst q12).trans n11
  have A1 := (o12.2 _ (nq0 r 1 1 (by decide))).trans A1
  have A2 := (o12.2 _ (nq0 r 2 1 (by decide))).trans A2
  have A3 := (o12.2 _ (nq0 r 3 1 (by decide))).trans A3
  have A4 := (o12.2 _ (nq0 r 4 1 (by decide))).trans A4
  have A5 := (o12.2 _ (nq0 r 5 1 (by decide))).trans A5
  obtain ⟨M13, e13, p13, o13, q13⟩ := pv_e p12 (i := 13) (Nat.le_of_ble_eq_true rfl) (.int 0)
  have n13 : M13.2.1 = r + 6 := (congrArg Prod.fst q13).trans n12
  have A1 := (o13.2 _ (nq0 r 1 1 (by decide))).trans A1
  have A2 := (o13.2 _ (nq0 r 2 1 (by decide))).trans A2
  have A3 := (o13.2 _ (nq0 r 3 1 (by decide))).trans A3
  have A4 := (o13.2 _ (nq0 r 4 1 (by decide))).trans A4
  have A5 := (o13.2 _ (nq0 r 5 1 (by decide))).trans A5
  obtain ⟨M14, e14, p14, o14, q14⟩ := pv_e p13 (i := 14) (Nat.le_of_ble_eq_true rfl) (.int (-1))
  have n14 : M14.2.1 = r + 6 := (congrArg Prod.fst q14).trans n13
  have A1 := (o14.2 _ (nq0 r 1 1 (by decide))).trans A1
  have A2 := (o14.2 _ (nq0 r 2 1 (by decide))).trans A2
  have A3 := (o14.2 _ (nq0 r 3 1 (by decide))).trans A3
  have A4 := (o14.2 _ (nq0 r 4 1 (by decide))).trans A4
  have A5 := (o14.2 _ (nq0 r 5 1 (by decide))).trans A5
  have oo : ofc M M14 r 6 := (((((((((((((((o0.wide (Nat.le_refl r) (nw0 r 1 6 (by decide))).trans (o1.wide (Nat.le_refl r) (nw0 r 1 6 (by decide)))).trans (o2.wide (Nat.le_add_right r 1) (nw2 r 1 1 6 (by decide)))).trans (o3.wide (Nat.le_refl r) (nw0 r 1 6 (by decide)))).trans (o4.wide (Nat.le_add_right r 2) (nw2 r 2 1 6 (by decide)))).trans (o5.wide (Nat.le_refl r) (nw0 r 1 6 (by decide)))).trans (o6.wide (Nat.le_add_right r 3) (nw2 r 3 1 6 (by decide)))).trans (o7.wide (Nat.le_refl r) (nw0 r 1 6 (by decide)))).trans (o8.wide (Nat.le_add_right r 4) (nw2 r 4 1 6 (by decide)))).trans (o9.wide (Nat.le_refl r) (nw0 r 1 6 (by decide)))).trans (o10.wide (Nat.le_add_right r 5) (nw2 r 5 1 6 (by decide)))).trans (o11.wide (Nat.le_refl r) (nw0 r 1 6 (by decide)))).trans (o12.wide (Nat.le_refl r) (nw0 r 1 6 (by decide)))).trans (o13.wide (Nat.le_refl r) (nw0 r 1 6 (by decide)))).trans (o14.wide (Nat.le_refl r) (nw0 r 1 6 (by decide))))
  refine ⟨M14, ?_, ⟨(0, 0, 4, 0, 0, 0, none, 0, -1), (fun _ => 0, fun _ => 0, fun _ => 0, fun _ => 0, fun _ => none), p14, A1, A2, A3, A4, A5⟩, oo, n14⟩
  simp only [f_X10_init, ob_h p0, e1, al2, ← hM2, e3, al4, ← hM4, e5, al6, ← hM6, e7, al8, ← hM8, e9, al10, ← hM10, e11, e12, e13, e14, bso]
theorem X8_i {M : Mem} {r : Nat} (h : M.2.1 = r) (h0 : r ≠ 0) : ∃ M', f_X8_init r (mnew M (.inr (7, [.int 0, .int 0, .int 0, .null, .null, .null]))) = some M' ∧ stA M' r S00 ∧ ofc M M' r 59 ∧ M'.2.1 = r + 59 := by
  obtain ⟨p0, o0, n0⟩ := mk_e h (.inr (7, [.int 0, .int 0, .int 0, .null, .null, .null]))
  obtain ⟨M0, hM0⟩ : ∃ M0, M0 = mnew M (.inr (7, [.int 0, .int 0, .int 0, .null, .null, .null])) := ⟨_, rfl⟩
  rw [← hM0] at p0 o0 n0 ⊢
  obtain ⟨M1, e1, p1, o1, q1⟩ := pv_e p0 (i := 0) (Nat.le_of_ble_eq_true rfl) (.int 30)
  have n1 : M1.2.1 = r + 1 := (congrArg Prod.fst q1).trans n0
  obtain ⟨M2, e2, p2, o2, q2⟩ := pv_e p1 (i := 1) (Nat.le_of_ble_eq_true rfl) (.int 0)
  have n2 : M2.2.1 = r + 1 := (congrArg Prod.fst q2).trans n1
  obtain ⟨M3, e3, p3, o3, q3⟩ := pv_e p2 (i := 2) (Nat.le_of_ble_eq_true rfl) (.int 0)
  have n3 : M3.2.1 = r + 1 := (congrArg Prod.fst q3).trans n2
  have al4 := al_e n3 (Nat.succ_ne_zero _)
  obtain ⟨A1, o4, n4⟩ := mk_e n3 (.inl (5, (3, .inr (.inr (.inr (.inr (fun _ => none)))))))
  obtain ⟨M4, hM4⟩ : ∃ M4, M4 = mnew M3 (.inl (5, (3, .inr (.inr (.inr (.inr (fun _ => none))))))) := ⟨_, rfl⟩
  rw [← hM4] at A1 o4 n4
  have n4 : M4.2.1 = r + 2 := n4
  have p4 := (o4.2 r (np r 1 1 (by decide))).trans p3
  obtain ⟨M5, e5, p5, o5, q5⟩ := pv_e p4 (i := 3) (Nat.le_of_ble_eq_true rfl) (.ref (r + 1))
  have n5 : M5.2.1 = r + 2 := (congrArg Prod.fst q5).trans n4
  have A1 := (o5.2 _ (nq0 r 1 1 (by decide))).trans A1
  have gp0 : gR M5 7 3 r = some (r + 1) := by rw [gR_h p5]; rfl
  have lp0 : aL M5 (r + 1) = some (nI 3) := aL_h A1
  have cp0 : (nI 3 ≤ (0 : Int32)) = False := eq_false (by decide)
  have al6 := al_e n5 (Nat.succ_ne_zero _)
  obtain ⟨M6, e6, x2, o6, n6'⟩ := X0_i n5 (Nat.succ_ne_zero _)
  have n6 : M6.2.1 = r + 9 := n6'
  have p6 := (o6.2 r (np r 2 7 (by decide))).trans p5
  have A1 := (o6.2 _ (nq r 1 2 7 (by decide))).trans A1
  have bp0 : ∀ {τ : Type} (x : Option τ), ob M6 0 (r + 2) x = x := fun x => ob_h x2.1 x
  obtain ⟨M7, e7, A', o7, q7⟩ := sq_e (i := 0) A1 (k := 0) (by decide) (by decide) (by decide) (some (r + 2))
  have n7 : M7.2.1 = r + 9 := (congrArg Prod.fst q7).trans n6
  have p7 := (o7.2 r (np r 1 1 (by decide))).trans p6
  have x2 := x2.sm (o7.same (nd r 2 7 1 1 (by decide)))
  have A1 := A'
  have gp1 : gR M7 7 3 r = some (r + 1) := by rw [gR_h p7]; rfl
  have lp1 : aL M7 (r + 1) = some (nI 3) := aL_h A1
  have cp1b : (nI 3 ≤ (1 : Int32)) = False := eq_false (by decide)
  have cp1 : (nI 3 ≤ ((0 + 1) : Int32)) = False := eq_false (by decide)
  have al8 := al_e n7 (Nat.succ_ne_zero _)
  obtain ⟨M8, e8, x9, o8, n8'⟩ := X0_i n7 (Nat.succ_ne_zero _)
  have n8 : M8.2.1 = r + 16 := n8'
  have p8 := (o8.2 r (np r 9 7 (by decide))).trans p7
  have A1 := (o8.2 _ (nq r 1 9 7 (by decide))).trans A1
  have x2 := x2.sm (o8.same (nd r 2 7 9 7 (by decide)))
  have bp1 : ∀ {τ : Type} (x : Option τ), ob M8 0 (r + 9) x = x := fun x => ob_h x9.1 x
  obtain ⟨M9, e9, A', o9, q9⟩ := sq_e (i := (0 + 1)) A1 (k := 1) (by decide) (by decide) (by decide) (some (r + 9))
  have n9 : M9.2.1 = r + 16 := (congrArg Prod.fst q9).trans n8
  have p9 := (o9.2 r (np r 1 1 (by decide))).trans p8
  have x2 := x2.sm (o9.same (nd r 2 7 1 1 (by decide)))
  have x9 := x9.sm (o9.same (nd r 9 7 1 1 (by decide)))
  have A1 := A'
  have e9b : sQ M8 5 (r + 1) 1 (some (r + 9)) = some M9 := e9
  have gp2 : gR M9 7 3 r = some (r + 1) := by rw [gR_h p9]; rfl
  have lp2 : aL M9 (r + 1) = some (nI 3) := aL_h A1
  have cp2 : (nI 3 ≤ (((0 + 1) + 1) : Int32)) = False := eq_false (by decide)
  have cp2b : (nI 3 ≤ (2 : Int32)) = False := eq_false (by decide)
  have al10 := al_e n9 (Nat.succ_ne_zero _)
  obtain ⟨M10, e10, x16, o10, n10'⟩ := X0_i n9 (Nat.succ_ne_zero _)
  have n10 : M10.2.1 = r + 23 := n10'
  have p10 := (o10.2 r (np r 16 7 (by decide))).trans p9
  have A1 := (o10.2 _ (nq r 1 16 7 (by decide))).trans A1
  have x2 := x2.sm (o10.same (nd r 2 7 16 7 (by decide)))
  have x9 := x9.sm (o10.same (nd r 9 7 16 7 (by decide)))
  have bp2 : ∀ {τ : Type} (x : Option τ), ob M10 0 (r + 16) x = x := fun x => ob_h x16.1 x
  obtain ⟨M11, e11, A', o11, q11⟩ := sq_e (i := ((0 + 1) + 1)) A1 (k := 2) (by decide) (by decide) (by decide) (some (r + 16))
  have n11 : M11.2.1 = r + 23 := (congrArg Prod.fst q11).trans n10
  have p11 := (o11.2 r (np r 1 1 (by decide))).trans p10
  have x2 := x2.sm (o11.same (nd r 2 7 1 1 (by decide)))
  have x9 := x9.sm (o11.same (nd r 9 7 1 1 (by decide)))
  have x16 := x16.sm (o11.same (nd r 16 7 1 1 (by decide)))
  have A1 := A'
  have e11b : sQ M10 5 (r + 1) 2 (some (r + 16)) = some M11 := e11
  have gp3 : gR M11 7 3 r = some (r + 1) := by rw [gR_h p11]; rfl
  have lp3 : aL M11 (r + 1) = some (nI 3) := aL_h A1
  have cp3b : (nI 3 ≤ (3 : Int32)) = True := eq_true (by decide)
  have cp3 : (nI 3 ≤ ((((0 + 1) + 1) + 1) : Int32)) = True := eq_true (by decide)
  have al12 := al_e n11 (Nat.succ_ne_zero _)
  obtain ⟨A23, o12, n12⟩ := mk_e n11 (.inl (6, (4, .inr (.inr (.inr (.inr (fun _ => none)))))))
  obtain ⟨M12, hM12⟩ : ∃ M12, M12 = mnew M11 (.inl (6, (4, .inr (.inr (.inr (.inr (fun _ => none))))))) := ⟨_, rfl⟩
  rw [← hM12] at A23 o12 n12
  have n12 : M12.2.1 = r + 24 := n12
  have p12 := (o12.2 r (np r 23 1 (by decide))).trans p11
  have A1 := (o12.2 _ (nq r 1 23 1 (by decide))).trans A1
  have x2 := x2.sm (o12.same (nd r 2 7 23 1 (by decide)))
  have x9 := x9.sm (o12.same (nd r 9 7 23 1 (by decide)))
  have x16 := x16.sm (o12.same (nd r 16 7 23 1 (by decide)))
  obtain ⟨M13, e13, p13, o13, q13⟩ := pv_e p12 (i := 4) (Nat.le_of_ble_eq_true rfl) (.ref (r + 23))
  have n13 : M13.2.1 = r + 24 := (congrArg Prod.fst q13).trans n12
  have A1 := (o13.2 _ (nq0 r 1 1 (by decide))).trans A1
  have x2 := x2.sm (o13.same (nd0 r 2 7 1 (by decide)))
  have x9 := x9.sm (o13.same (nd0 r 9 7 1 (by decide)))
  have x16 := x16.sm (o13.same (nd0 r 16 7 1 (by decide)))
  have A23 := (o13.2 _ (nq0 r 23 1 (by decide))).trans A23
  have gs0 : gR M13 7 4 r = some (r + 23) := by rw [gR_h p13]; rfl
  have ls0 : aL M13 (r + 23) = some (nI 4) := aL_h A23
  have cs0 : (nI 4 ≤ (0 : Int32)) = False := eq_false (by decide)
  have al14 := al_e n13 (Nat.succ_ne_zero _)
  obtain ⟨M14, e14, x24, o14, n14'⟩ := X7_i n13 (Nat.succ_ne_zero _)
  have n14 : M14.2.1 = r + 31 := n14'
  have p14 := (o14.2 r (np r 24 7 (by decide))).trans p13
  have A1 := (o14.2 _ (nq r 1 24 7 (by decide))).trans A1
  have x2 := x2.sm (o14.same (nd r 2 7 24 7 (by decide)))
  have x9 := x9.sm (o14.same (nd r 9 7 24 7 (by decide)))
  have x16 := x16.sm (o14.same (nd r 16 7 24 7 (by decide)))
  have A23 := (o14.2 _ (nq r 23 24 7 (by decide))).trans A23
  have bs0 : ∀ {τ : Type} (x : Option τ), ob M14 6 (r + 24) x = x := fun x => ob_h x24.1 x
  obtain ⟨M15, e15, A', o15, q15⟩ := sq_e (i := 0) A23 (k := 0) (by decide) (by decide) (by decide) (some (r + 24))
  have n15 : M15.2.1 = r + 31 := (congrArg Prod.fst q15).trans n14
  have p15 := (o15.2 r (np r 23 1 (by decide))).trans p14
  have A1 := (o15.2 _ (nq r 1 23 1 (by decide))).trans A1
  have x2 := x2.sm (o15.same (nd r 2 7 23 1 (by decide)))
  have x9 := x9.sm (o15.same (nd r 9 7 23 1 (by decide)))
  have x16 := x16.sm (o15.same (nd r 16 7 23 1 (by decide)))
  have x24 := x24.sm (o15.same (nd r 24 7 23 1 (by decide)))
  have A23 := A'
  have gs1 : gR M15 7 4 r = some (r + 23) := by rw [gR_h p15]; rfl
  have ls1 : aL M15 (r + 23) = some (nI 4) := aL_h A23
  have cs1b : (nI 4 ≤ (1 : Int32)) = False := eq_false (by decide)
  have cs1 : (nI 4 ≤ ((0 + 1) : Int32)) = False := eq_false (by decide)
  have al16 := al_e n15 (Nat.succ_ne_zero _)
  obtain ⟨M16, e16, x31, o16, n16'⟩ := X7_i n15 (Nat.succ_ne_zero _)
  have n16 : M16.2.1 = r + 38 := n16'
  have p16 := (o16.2 r (np r 31 7 (by decide))).trans p15
  have A1 := (o16.2 _ (nq r 1 31 7 (by decide))).trans A1
  have x2 := x2.sm (o16.same (nd r 2 7 31 7 (by decide)))
  have x9 := x9.sm (o16.same (nd r 9 7 31 7 (by decide)))
  have x16 := x16.sm (o16.same (nd r 16 7 31 7 (by decide)))
  have A23 := (o16.2 _ (nq r 23 31 7 (by decide))).trans A23
  have x24 := x24.sm (o16.same (nd r 24 7 31 7 (by decide)))
  have bs1 : ∀ {τ : Type} (x : Option τ), ob M16 6 (r + 31) x = x := fun x => ob_h x31.1 x
  obtain ⟨M17, e17, A', o17, q17⟩ := sq_e (i := (0 + 1)) A23 (k := 1) (by decide) (by decide) (by decide) (some (r + 31))
  have n17 : M17.2.1 = r + 38 := (congrArg Prod.fst q17).trans n16
  have p17 := (o17.2 r (np r 23 1 (by decide))).trans p16
  have A1 := (o17.2 _ (nq r 1 23 1 (by decide))).trans A1
  have x2 := x2.sm (o17.same (nd r 2 7 23 1 (by decide)))
  have x9 := x9.sm (o17.same (nd r 9 7 23 1 (by decide)))
  have x16 := x16.sm (o17.same (nd r 16 7 23 1 (by decide)))
  have x24 := x24.sm (o17.same (nd r 24 7 23 1 (by decide)))
  have x31 := x31.sm (o17.same (nd r 31 7 23 1 (by decide)))
  have A23 := A'
  have e17b : sQ M16 6 (r + 23) 1 (some (r + 31)) = some M17 := e17
  have gs2 : gR M17 7 4 r = some (r + 23) := by rw [gR_h p17]; rfl
  have ls2 : aL M17 (r + 23) = some (nI 4) := aL_h A23
  have cs2 : (nI 4 ≤ (((0 + 1) + 1) : Int32)) = False := eq_false (by decide)
  have cs2b : (nI 4 ≤ (2 : Int32)) = False := eq_false (by decide)
  have al18 := al_e n17 (Nat.succ_ne_zero _)
  obtain ⟨M18, e18, x38, o18, n18'⟩ := X7_i n17 (Nat.succ_ne_zero _)
  have n18 : M18.2.1 = r + 45 := n18'
  have p18 := (o18.2 r (np r 38 7 (by decide))).trans p17
  have A1 := (o18.2 _ (nq r 1 38 7 (by decide))).trans A1
  have x2 := x2.sm (o18.same (nd r 2 7 38 7 (by decide)))
  have x9 := x9.sm (o18.same (nd r 9 7 38 7 (by decide)))
  have x16 := x16.sm (o18.same (nd r 16 7 38 7 (by decide)))
  have A23 := (o18.2 _ (nq r 23 38 7 (by decide))).trans A23
  have x24 := x24.sm (o18.same (nd r 24 7 38 7 (by decide)))
  have x31 := x31.sm (o18.same (nd r 31 7 38 7 (by decide)))
  have bs2 : ∀ {τ : Type} (x : Option τ), ob M18 6 (r + 38) x = x := fun x => ob_h x38.1 x
  obtain ⟨M19, e19, A', o19, q19⟩ := sq_e (i := ((0 + 1) + 1)) A23 (k := 2) (by decide) (by decide) (by decide) (some (r + 38))
  have n19 : M19.2.1 = r + 45 := (congrArg Prod.fst q19).trans n18
  have p19 := (o19.2 r (np r 23 1 (by decide))).trans p18
  have A1 := (o19.2 _ (nq r 1 23 1 (by decide))).trans A1
  have x2 := x2.sm (o19.same (nd r 2 7 23 1 (by decide)))
  have x9 := x9.sm (o19.same (nd r 9 7 23 1 (by decide)))
  have x16 := x16.sm (o19.same (nd r 16 7 23 1 (by decide)))
  have x24 := x24.sm (o19.same (nd r 24 7 23 1 (by decide)))
  have x31 := x31.sm (o19.same (nd r 31 7 23 1 (by decide)))
  have x38 := x38.sm (o19.same (nd r 38 7 23 1 (by decide)))
  have A23 := A'
  have e19b : sQ M18 6 (r + 23) 2 (some (r + 38)) = some M19 := e19
  have gs3 : gR M19 7 4 r = some (r + 23) := by rw [gR_h p19]; rfl
  have ls3 : aL M19 (r + 23) = some (nI 4) := aL_h A23
  have cs3b : (nI 4 ≤ (3 : Int32)) = False := eq_false (by decide)
  have cs3 : (nI 4 ≤ ((((0 + 1) + 1) + 1) : Int32)) = False := eq_false (by decide)
  have al20 := al_e n19 (Nat.succ_ne_zero _)
  obtain ⟨M20, e20, x45, o20, n20'⟩ := X7_i n19 (Nat.succ_ne_zero _)
  have n20 : M20.2.1 = r + 52 := n20'
  have p20 := (o20.2 r (np r 45 7 (by decide))).trans p19
  have A1 := (o20.2 _ (nq r 1 45 7 (by decide))).trans A1
  have x2 := x2.sm (o20.same (nd r 2 7 45 7 (by decide)))
  have x9 := x9.sm (o20.same (nd r 9 7 45 7 (by decide)))
  have x16 := x16.sm (o20.same (nd r 16 7 45 7 (by decide)))
  have A23 := (o20.2 _ (nq r 23 45 7 (by decide))).trans A23
  have x24 := x24.sm (o20.same (nd r 24 7 45 7 (by decide)))
  have x31 := x31.sm (o20.same (nd r 31 7 45 7 (by decide)))
  have x38 := x38.sm (o20.same (nd r 38 7 45 7 (by decide)))
  have bs3 : ∀ {τ : Type} (x : Option τ), ob M20 6 (r + 45) x = x := fun x => ob_h x45.1 x
  obtain ⟨M21, e21, A', o21, q21⟩ := sq_e (i := (((0 + 1) + 1) + 1)) A23 (k := 3) (by decide) (by decide) (by decide) (some (r + 45))
  have n21 : M21.2.1 = r + 52 := (congrArg Prod.fst q21).trans n20
  have p21 := (o21.2 r (np r 23 1 (by decide))).trans p20
  have A1 := (o21.2 _ (nq r 1 23 1 (by decide))).trans A1
  have x2 := x2.sm (o21.same (nd r 2 7 23 1 (by decide)))
  have x9 := x9.sm (o21.same (nd r 9 7 23 1 (by decide)))
  have x16 := x16.sm (o21.same (nd r 16 7 23 1 (by decide)))
  have x24 := x24.sm (o21.same (nd r 24 7 23 1 (by decide)))
  have x31 := x31.sm (o21.same (nd r 31 7 23 1 (by decide)))
  have x38 := x38.sm (o21.same (nd r 38 7 23 1 (by decide)))
  have x45 := x45.sm (o21.same (nd r 45 7 23 1 (by decide)))
  have A23 := A'
  have e21b : sQ M20 6 (r + 23) 3 (some (r + 45)) = some M21 := e21
  have gs4 : gR M21 7 4 r = some (r + 23) := by rw [gR_h p21]; rfl
  have ls4 : aL M21 (r + 23) = some (nI 4) := aL_h A23
  have cs4b : (nI 4 ≤ (4 : Int32)) = True := eq_true (by decide)
  have cs4 : (nI 4 ≤ (((((0 + 1) + 1) + 1) + 1) : Int32)) = True := eq_true (by decide)
  have al22 := al_e n21 (Nat.succ_ne_zero _)
  obtain ⟨M22, e22, x52, o22, n22'⟩ := X0_i n21 (Nat.succ_ne_zero _)
  have n22 : M22.2.1 = r + 59 := n22'
  have p22 := (o22.2 r (np r 52 7 (by decide))).trans p21
  have A1 := (o22.2 _ (nq r 1 52 7 (by decide))).trans A1
  have x2 := x2.sm (o22.same (nd r 2 7 52 7 (by decide)))
  have x9 := x9.sm (o22.same (nd r 9 7 52 7 (by decide)))
  have x16 := x16.sm (o22.same (nd r 16 7 52 7 (by decide)))
  have A23 := (o22.2 _ (nq r 23 52 7 (by decide))).trans A23
  have x24 := x24.sm (o22.same (nd r 24 7 52 7 (by decide)))
  have x31 := x31.sm (o22.same (nd r 31 7 52 7 (by decide)))
  have x38 := x38.sm (o22.same (nd r 38 7 52 7 (by decide)))
  have x45 := x45.sm (o22.same (nd r 45 7 52 7 (by decide)))
  obtain ⟨M23, e23, p23, o23, q23⟩ := pv_e p22 (i := 5) (Nat.le_of_ble_eq_true rfl) (.ref (r + 52))
  have n23 : M23.2.1 = r + 59 := (congrArg Prod.fst q23).trans n22
  have A1 := (o23.2 _ (nq0 r 1 1 (by decide))).trans A1
  have x2 := x2.sm (o23.same (nd0 r 2 7 1 (by decide)))
  have x9 := x9.sm (o23.same (nd0 r 9 7 1 (by decide)))
  have x16 := x16.sm (o23.same (nd0 r 16 7 1 (by decide)))
  have A23 := (o23.2 _ (nq0 r 23 1 (by decide))).trans A23
  have x24 := x24.sm (o23.same (nd0 r 24 7 1 (by decide)))
  have x31 := x31.sm (o23.same (nd0 r 31 7 1 (by decide)))
  have x38 := x38.sm (o23.same (nd0 r 38 7 1 (by decide)))
  have x45 := x45.sm (o23.same (nd0 r 45 7 1 (by decide)))
  have x52 := x52.sm (o23.same (nd0 r 52 7 1 (by decide)))
  have oo : ofc M M23 r 59 := ((((((((((((((((((((((((o0.wide (Nat.le_refl r) (nw0 r 1 59 (by decide))).trans (o1.wide (Nat.le_refl r) (nw0 r 1 59 (by decide)))).trans (o2.wide (Nat.le_refl r) (nw0 r 1 59 (by decide)))).trans (o3.wide (Nat.le_refl r) (nw0 r 1 59 (by decide)))).trans (o4.wide (Nat.le_add_right r 1) (nw2 r 1 1 59 (by decide)))).trans (o5.wide (Nat.le_refl r) (nw0 r 1 59 (by decide)))).trans (o6.wide (Nat.le_add_right r 2) (nw2 r 2 7 59 (by decide)))).trans (o7.wide (Nat.le_add_right r 1) (nw2 r 1 1 59 (by decide)))).trans (o8.wide (Nat.le_add_right r 9) (nw2 r 9 7 59 (by decide)))).trans (o9.wide (Nat.le_add_right r 1) (nw2 r 1 1 59 (by decide)))).trans (o10.wide (Nat.le_add_right r 16) (nw2 r 16 7 59 (by decide)))).trans (o11.wide (Nat.le_add_right r 1) (nw2 r 1 1 59 (by decide)))).trans (o12.wide (Nat.le_add_right r 23) (nw2 r 23 1 59 (by decide)))).trans (o13.wide (Nat.le_refl r) (nw0 r 1 59 (by decide)))).trans (o14.wide (Nat.le_add_right r 24) (nw2 r 24 7 59 (by decide)))).trans (o15.wide (Nat.le_add_right r 23) (nw2 r 23 1 59 (by decide)))).trans (o16.wide (Nat.le_add_right r 31) (nw2 r 31 7 59 (by decide)))).trans (o17.wide (Nat.le_add_right r 23) (nw2 r 23 1 59 (by decide)))).trans (o18.wide (Nat.le_add_right r 38) (nw2 r 38 7 59 (by decide)))).trans (o19.wide (Nat.le_add_right r 23) (nw2 r 23 1 59 (by decide)))).trans (o20.wide (Nat.le_add_right r 45) (nw2 r 45 7 59 (by decide)))).trans (o21.wide (Nat.le_add_right r 23) (nw2 r 23 1 59 (by decide)))).trans (o22.wide (Nat.le_add_right r 52) (nw2 r 52 7 59 (by decide)))).trans (o23.wide (Nat.le_refl r) (nw0 r 1 59 (by decide))))
  refine ⟨M23, ?_, ⟨p23, ⟨_, A1, fun k hk => match k, hk with | 0, _ => rfl | 1, _ => rfl | 2, _ => rfl⟩, ⟨_, A23, fun k hk => match k, hk with | 0, _ => rfl | 1, _ => rfl | 2, _ => rfl | 3, _ => rfl⟩, Nat.zero_le 3, Nat.zero_le 4, fun k hk => match k, hk with | 0, _ => x2 | 1, _ => x9 | 2, _ => x16, fun k hk => match k, hk with | 0, _ => x24 | 1, _ => x31 | 2, _ => x38 | 3, _ => x45, 0, 1, x52⟩, oo, n23⟩
  simp only [f_X8_init, ob_h p0, e1, e2, e3, al4, ← hM4, e5, gp0, lp0, cp0, al6, e6, bp0, e7, gp1, lp1, cp1b, cp1, al8, e8, bp1, e9, e9b, gp2, lp2, cp2, cp2b, al10, e10, bp2, e11, e11b, gp3, lp3, cp3b, cp3, al12, ← hM12, e13, gs0, ls0, cs0, al14, e14, bs0, e15, gs1, ls1, cs1b, cs1, al16, e16, bs1, e17, e17b, gs2, ls2, cs2, cs2b, al18, e18, bs2, e19, e19b, gs3, ls3, cs3b, cs3, al20, e20, bs3, e21, e21b, gs4, ls4, cs4b, cs4, al22, e22, e23, f_X8_init_58, f_X8_init_96, if_false, if_true, bso]
theorem X2_i {M : Mem} {r : Nat} (h : M.2.1 = r) (h0 : r ≠ 0) (H : Nat → St) : ∃ M', f_X2_init r (mnew M (.inr (2, [.null, .int 0, .int 0]))) = some M' ∧ hA M' r 0 H ∧ ofc M M' r 356 ∧ M'.2.1 = r + 356 := by
  obtain ⟨p0, o0, n0⟩ := mk_e h (.inr (2, [.null, .int 0, .int 0]))
  obtain ⟨M0, hM0⟩ : ∃ M0, M0 = mnew M (.inr (2, [.null, .int 0, .int 0])) := ⟨_, rfl⟩
  rw [← hM0] at p0 o0 n0 ⊢
  have al1 := al_e n0 (Nat.succ_ne_zero _)
  obtain ⟨A1, o1, n1⟩ := mk_e n0 (.inl (7, (6, .inr (.inr (.inr (.inr (fun _ => none)))))))
  obtain ⟨M1, hM1⟩ : ∃ M1, M1 = mnew M0 (.inl (7, (6, .inr (.inr (.inr (.inr (fun _ => none))))))) := ⟨_, rfl⟩
  rw [← hM1] at A1 o1 n1
  have n1 : M1.2.1 = r + 2 := n1
  have p1 := (o1.2 r (np r 1 1 (by decide))).trans p0
  obtain ⟨M2, e2, p2, o2, q2⟩ := pv_e p1 (i := 0) (Nat.le_of_ble_eq_true rfl) (.ref (r + 1))
  have n2 : M2.2.1 = r + 2 := (congrArg Prod.fst q2).trans n1
  have A1 := (o2.2 _ (nq0 r 1 1 (by decide))).trans A1
  have gp0 : gR M2 2 0 r = some (r + 1) := by rw [gR_h p2]; rfl
  have lp0 : aL M2 (r + 1) = some (nI 6) := aL_h A1
  have cp0 : (nI 6 ≤ (0 : Int32)) = False := eq_false (by decide)
  have al3 := al_e n2 (Nat.succ_ne_zero _)
  obtain ⟨M3, e3, x2, o3, n3'⟩ := X8_i n2 (Nat.succ_ne_zero _)
  have n3 : M3.2.1 = r + 61 := n3'
  have p3 := (o3.2 r (np r 2 59 (by decide))).trans p2
  have A1 := (o3.2 _ (nq r 1 2 59 (by decide))).trans A1
  have bp0 : ∀ {τ : Type} (x : Option τ), ob M3 7 (r + 2) x = x := fun x => ob_h x2.1 x
  obtain ⟨M4, e4, A', o4, q4⟩ := sq_e (i := 0) A1 (k := 0) (by decide) (by decide) (by decide) (some (r + 2))
  have n4 : M4.2.1 = r + 61 := (congrArg Prod.fst q4).trans n3
  have p4 := (o4.2 r (np r 1 1 (by decide))).trans p3
  have x2 := x2.sm (o4.same (nd r 2 59 1 1 (by decide)))
  have A1 := A'
  have gp1 : gR M4 2 0 r = some (r + 1) := by rw [gR_h p4]; rfl
  have lp1 : aL M4 (r + 1) = some (nI 6) := aL_h A1
  have cp1b : (nI 6 ≤ (1 : Int32)) = False := eq_false (by decide)
  have cp1 : (nI 6 ≤ ((0 + 1) : Int32)) = False := eq_false (by decide)
  have al5 := al_e n4 (Nat.succ_ne_zero _)
  obtain ⟨M5, e5, x61, o5, n5'⟩ := X8_i n4 (Nat.succ_ne_zero _)
  have n5 : M5.2.1 = r + 120 := n5'
  have p5 := (o5.2 r (np r 61 59 (by decide))).trans p4
  have A1 := (o5.2 _ (nq r 1 61 59 (by decide))).trans A1
  have x2 := x2.sm (o5.same (nd r 2 59 61 59 (by decide)))
  have bp1 : ∀ {τ : Type} (x : Option τ), ob M5 7 (r + 61) x = x := fun x => ob_h x61.1 x
  obtain ⟨M6, e6, A', o6, q6⟩ := sq_e (i := (0 + 1)) A1 (k := 1) (by decide) (by decide) (by decide) (some (r + 61))
  have n6 : M6.2.1 = r + 120 := (congrArg Prod.fst q6).trans n5
  have p6 := (o6.2 r (np r 1 1 (by decide))).trans p5
  have x2 := x2.sm (o6.same (nd r 2 59 1 1 (by decide)))
  have x61 := x61.sm (o6.same (nd r 61 59 1 1 (by decide)))
  have A1 := A'
  have e6b : sQ M5 7 (r + 1) 1 (some (r + 61)) = some M6 := e6
  have gp2 : gR M6 2 0 r = some (r + 1) := by rw [gR_h p6]; rfl
  have lp2 : aL M6 (r + 1) = some (nI 6) := aL_h A1
  have cp2 : (nI 6 ≤ (((0 + 1) + 1) : Int32)) = False := eq_false (by decide)
  have cp2b : (nI 6 ≤ (2 : Int32)) = False := eq_false (by decide)
  have al7 := al_e n6 (Nat.succ_ne_zero _)
  obtain ⟨M7, e7, x120, o7, n7'⟩ := X8_i n6 (Nat.succ_ne_zero _)
  have n7 : M7.2.1 = r + 179 := n7'
  have p7 := (o7.2 r (np r 120 59 (by decide))).trans p6
  have A1 := (o7.2 _ (nq r 1 120 59 (by decide))).trans A1
  have x2 := x2.sm (o7.same (nd r 2 59 120 59 (by decide)))
  have x61 := x61.sm (o7.same (nd r 61 59 120 59 (by decide)))
  have bp2 : ∀ {τ : Type} (x : Option τ), ob M7 7 (r + 120) x = x := fun x => ob_h x120.1 x
  obtain ⟨M8, e8, A', o8, q8⟩ := sq_e (i := ((0 + 1) + 1)) A1 (k := 2) (by decide) (by decide) (by decide) (some (r + 120))
  have n8 : M8.2.1 = r + 179 := (congrArg Prod.fst q8).trans n7
  have p8 := (o8.2 r (np r 1 1 (by decide))).trans p7
  have x2 := x2.sm (o8.same (nd r 2 59 1 1 (by decide)))
  have x61 := x61.sm (o8.same (nd r 61 59 1 1 (by decide)))
  have x120 := x120.sm (o8.same (nd r 120 59 1 1 (by decide)))
  have A1 := A'
  have e8b : sQ M7 7 (r + 1) 2 (some (r + 120)) = some M8 := e8
  have gp3 : gR M8 2 0 r = some (r + 1) := by rw [gR_h p8]; rfl
  have lp3 : aL M8 (r + 1) = some (nI 6) := aL_h A1
  have cp3b : (nI 6 ≤ (3 : Int32)) = False := eq_false (by decide)
  have cp3 : (nI 6 ≤ ((((0 + 1) + 1) + 1) : Int32)) = False := eq_false (by decide)
  have al9 := al_e n8 (Nat.succ_ne_zero _)
  obtain ⟨M9, e9, x179, o9, n9'⟩ := X8_i n8 (Nat.succ_ne_zero _)
  have n9 : M9.2.1 = r + 238 := n9'
  have p9 := (o9.2 r (np r 179 59 (by decide))).trans p8
  have A1 := (o9.2 _ (nq r 1 179 59 (by decide))).trans A1
  have x2 := x2.sm (o9.same (nd r 2 59 179 59 (by decide)))
  have x61 := x61.sm (o9.same (nd r 61 59 179 59 (by decide)))
  have x120 := x120.sm (o9.same (nd r 120 59 179 59 (by decide)))
  have bp3 : ∀ {τ : Type} (x : Option τ), ob M9 7 (r + 179) x = x := fun x => ob_h x179.1 x
  obtain ⟨M10, e10, A', o10, q10⟩ := sq_e (i := (((0 + 1) + 1) + 1)) A1 (k := 3) (by decide) (by decide) (by decide) (some (r + 179))
  have n10 : M10.2.1 = r + 238 := (congrArg Prod.fst q10).trans n9
  have p10 := (o10.2 r (np r 1 1 (by decide))).trans p9
  have x2 := x2.sm (o10.same (nd r 2 59 1 1 (by decide)))
  have x61 := x61.sm (o10.same (nd r 61 59 1 1 (by decide)))
  have x120 := x120.sm (o10.same (nd r 120 59 1 1 (by decide)))
  have x179 := x179.sm (o10.same (nd r 179 59 1 1 (by decide)))
  have A1 := A'
  have e10b : sQ M9 7 (r + 1) 3 (some (r + 179)) = some M10 := e10
  have gp4 : gR M10 2 0 r = some (r + 1) := by rw [gR_h p10]; rfl
  have lp4 : aL M10 (r + 1) = some (nI 6) := aL_h A1
  have cp4b : (nI 6 ≤ (4 : Int32)) = False := eq_false (by decide)
  have cp4 : (nI 6 ≤ (((((0 + 1) + 1) + 1) + 1) : Int32)) = False := eq_false (by decide)
  have al11 := al_e n10 (Nat.succ_ne_zero _)
  obtain ⟨M11, e11, x238, o11, n11'⟩ := X8_i n10 (Nat.succ_ne_zero _)
  have n11 : M11.2.1 = r + 297 := n11'
  have p11 := (o11.2 r (np r 238 59 (by decide))).trans p10
  have A1 := (o11.2 _ (nq r 1 238 59 (by decide))).trans A1
  have x2 := x2.sm (o11.same (nd r 2 59 238 59 (by decide)))
  have x61 := x61.sm (o11.same (nd r 61 59 238 59 (by decide)))
  have x120 := x120.sm (o11.same (nd r 120 59 238 59 (by decide)))
  have x179 := x179.sm (o11.same (nd r 179 59 238 59 (by decide)))
  have bp4 : ∀ {τ : Type} (x : Option τ), ob M11 7 (r + 238) x = x := fun x => ob_h x238.1 x
  obtain ⟨M12, e12, A', o12, q12⟩ := sq_e (i := ((((0 + 1) + 1) + 1) + 1)) A1 (k := 4) (by decide) (by decide) (by decide) (some (r + 238))
  have n12 : M12.2.1 = r + 297 := (congrArg Prod.fst q12).trans n11
  have p12 := (o12.2 r (np r 1 1 (by decide))).trans p11
  have x2 := x2.sm (o12.same (nd r 2 59 1 1 (by decide)))
  have x61 := x61.sm (o12.same (nd r 61 59 1 1 (by decide)))
  have x120 := x120.sm (o12.same (nd r 120 59 1 1 (by decide)))
  have x179 := x179.sm (o12.same (nd r 179 59 1 1 (by decide)))
  have x238 := x238.sm (o12.same (nd r 238 59 1 1 (by decide)))
  have A1 := A'
  have e12b : sQ M11 7 (r + 1) 4 (some (r + 238)) = some M12 := e12
  have gp5 : gR M12 2 0 r = some (r + 1) := by rw [gR_h p12]; rfl
  have lp5 : aL M12 (r + 1) = some (nI 6) := aL_h A1
  have cp5 : (nI 6 ≤ ((((((0 + 1) + 1) + 1) + 1) + 1) : Int32)) = False := eq_false (by decide)
  have cp5b : (nI 6 ≤ (5 : Int32)) = False := eq_false (by decide)
  have al13 := al_e n12 (Nat.succ_ne_zero _)
  obtain ⟨M13, e13, x297, o13, n13'⟩ := X8_i n12 (Nat.succ_ne_zero _)
  have n13 : M13.2.1 = r + 356 := n13'
  have p13 := (o13.2 r (np r 297 59 (by decide))).trans p12
  have A1 := (o13.2 _ (nq r 1 297 59 (by decide))).trans A1
  have x2 := x2.sm (o13.same (nd r 2 59 297 59 (by decide)))
  have x61 := x61.sm (o13.same (nd r 61 59 297 59 (by decide)))
  have x120 := x120.sm (o13.same (nd r 120 59 297 59 (by decide)))
  have x179 := x179.sm (o13.same (nd r 179 59 297 59 (by decide)))
  have x238 := x238.sm (o13.same (nd r 238 59 297 59 (by decide)))
  have bp5 : ∀ {τ : Type} (x : Option τ), ob M13 7 (r + 297) x = x := fun x => ob_h x297.1 x
  obtain ⟨M14, e14, A', o14, q14⟩ := sq_e (i := (((((0 + 1) + 1) + 1) + 1) + 1)) A1 (k := 5) (by decide) (by decide) (by decide) (some (r + 297))
  have n14 : M14.2.1 = r + 356 := (congrArg Prod.fst q14).trans n13
  have p14 := (o14.2 r (np r 1 1 (by decide))).trans p13
  have x2 := x2.sm (o14.same (nd r 2 59 1 1 (by decide)))
  have x61 := x61.sm (o14.same (nd r 61 59 1 1 (by decide)))
  have x120 := x120.sm (o14.same (nd r 120 59 1 1 (by decide)))
  have x179 := x179.sm (o14.same (nd r 179 59 1 1 (by decide)))
  have x238 := x238.sm (o14.same (nd r 238 59 1 1 (by decide)))
  have x297 := x297.sm (o14.same (nd r 297 59 1 1 (by decide)))
  have A1 := A'
  have e14b : sQ M13 7 (r + 1) 5 (some (r + 297)) = some M14 := e14
  have gp6 : gR M14 2 0 r = some (r + 1) := by rw [gR_h p14]; rfl
  have lp6 : aL M14 (r + 1) = some (nI 6) := aL_h A1
  have cp6b : (nI 6 ≤ (6 : Int32)) = True := eq_true (by decide)
  have cp6 : (nI 6 ≤ (((((((0 + 1) + 1) + 1) + 1) + 1) + 1) : Int32)) = True := eq_true (by decide)
  obtain ⟨M15, e15, p15, o15, q15⟩ := pv_e p14 (i := 1) (Nat.le_of_ble_eq_true rfl) (.int 0)
  have n15 : M15.2.1 = r + 356 := (congrArg Prod.fst q15).trans n14
  have A1 := (o15.2 _ (nq0 r 1 1 (by decide))).trans A1
  have x2 := x2.sm (o15.same (nd0 r 2 59 1 (by decide)))
  have x61 := x61.sm (o15.same (nd0 r 61 59 1 (by decide)))
  have x120 := x120.sm (o15.same (nd0 r 120 59 1 (by decide)))
  have x179 := x179.sm (o15.same (nd0 r 179 59 1 (by decide)))
  have x238 := x238.sm (o15.same (nd0 r 238 59 1 (by decide)))
  have x297 := x297.sm (o15.same (nd0 r 297 59 1 (by decide)))
  obtain ⟨M16, e16, p16, o16, q16⟩ := pv_e p15 (i := 2) (Nat.le_of_ble_eq_true rfl) (.int 0)
  have n16 : M16.2.1 = r + 356 := (congrArg Prod.fst q16).trans n15
  have A1 := (o16.2 _ (nq0 r 1 1 (by decide))).trans A1
  have x2 := x2.sm (o16.same (nd0 r 2 59 1 (by decide)))
  have x61 := x61.sm (o16.same (nd0 r 61 59 1 (by decide)))
  have x120 := x120.sm (o16.same (nd0 r 120 59 1 (by decide)))
  have x179 := x179.sm (o16.same (nd0 r 179 59 1 (by decide)))
  have x238 := x238.sm (o16.same (nd0 r 238 59 1 (by decide)))
  have x297 := x297.sm (o16.same (nd0 r 297 59 1 (by decide)))
  have oo : ofc M M16 r 356 := (((((((((((((((((o0.wide (Nat.le_refl r) (nw0 r 1 356 (by decide))).trans (o1.wide (Nat.le_add_right r 1) (nw2 r 1 1 356 (by decide)))).trans (o2.wide (Nat.le_refl r) (nw0 r 1 356 (by decide)))).trans (o3.wide (Nat.le_add_right r 2) (nw2 r 2 59 356 (by decide)))).trans (o4.wide (Nat.le_add_right r 1) (nw2 r 1 1 356 (by decide)))).trans (o5.wide (Nat.le_add_right r 61) (nw2 r 61 59 356 (by decide)))).trans (o6.wide (Nat.le_add_right r 1) (nw2 r 1 1 356 (by decide)))).trans (o7.wide (Nat.le_add_right r 120) (nw2 r 120 59 356 (by decide)))).trans (o8.wide (Nat.le_add_right r 1) (nw2 r 1 1 356 (by decide)))).trans (o9.wide (Nat.le_add_right r 179) (nw2 r 179 59 356 (by decide)))).trans (o10.wide (Nat.le_add_right r 1) (nw2 r 1 1 356 (by decide)))).trans (o11.wide (Nat.le_add_right r 238) (nw2 r 238 59 356 (by decide)))).trans (o12.wide (Nat.le_add_right r 1) (nw2 r 1 1 356 (by decide)))).trans (o13.wide (Nat.le_add_right r 297) (nw2 r 297 59 356 (by decide)))).trans (o14.wide (Nat.le_add_right r 1) (nw2 r 1 1 356 (by decide)))).trans (o15.wide (Nat.le_refl r) (nw0 r 1 356 (by decide)))).trans (o16.wide (Nat.le_refl r) (nw0 r 1 356 (by decide))))
  refine ⟨M16, ?_, ⟨0, fun _ => S00, p16, ⟨_, A1, fun k hk => match k, hk with | 0, _ => rfl | 1, _ => rfl | 2, _ => rfl | 3, _ => rfl | 4, _ => rfl | 5, _ => rfl⟩, by omega, by omega, fun k hk => match k, hk with | 0, _ => x2 | 1, _ => x61 | 2, _ => x120 | 3, _ => x179 | 4, _ => x238 | 5, _ => x297, fun i hi => absurd hi (Nat.not_lt_zero i)⟩, oo, n16⟩
  simp only [f_X2_init, ob_h p0, al1, ← hM1, e2, gp0, lp0, cp0, al3, e3, bp0, e4, gp1, lp1, cp1b, cp1, al5, e5, bp1, e6, e6b, gp2, lp2, cp2, cp2b, al7, e7, bp2, e8, e8b, gp3, lp3, cp3b, cp3, al9, e9, bp3, e10, e10b, gp4, lp4, cp4b, cp4, al11, e11, bp4, e12, e12b, gp5, lp5, cp5, cp5b, al13, e13, bp5, e14, e14b, gp6, lp6, cp6b, cp6, e15, e16, f_X2_init_43, if_false, if_true, bso]

theorem X11_i {M : Mem} {r : Nat} (h : M.2.1 = r) (h0 : r ≠ 0) (hr : r = 100) (H : Nat → St) : ∃ M', f_X11_init r (mnew M (.inr (10, [.null, .null, .null, .null, .null, .null, .null, .null, .null, .null, .null, .int 0, .int 0]))) = some M' ∧ Cls M' [] [] S00 (fun _ => S00) (fun _ => false) 0 H [] (0, -1) ∧ ofc M M' r 616 ∧ M'.2.1 = r + 616 := by
  obtain ⟨p0, o0, n0⟩ := mk_e h (.inr (10, [.null, .null, .null, .null, .null, .null, .null, .null, .null, .null, .null, .int 0, .int 0]))
  obtain ⟨M0, hM0⟩ : ∃ M0, M0 = mnew M (.inr (10, [.null, .null, .null, .null, .null, .null, .null, .null, .null, .null, .null, .int 0, .int 0])) := ⟨_, rfl⟩
  rw [← hM0] at p0 o0 n0 ⊢
  have al1 := al_e n0 (Nat.succ_ne_zero _)
  obtain ⟨M1, e1, y1, o1, n1'⟩ := X1_i700 n0 (Nat.succ_ne_zero _)
  have n1 : M1.2.1 = r + 3 := n1'
  have p1 := (o1.2 r (np r 1 2 (by decide))).trans p0
  obtain ⟨M2, e2, p2, o2, q2⟩ := pv_e p1 (i := 0) (Nat.le_of_ble_eq_true rfl) (.ref (r + 1))
  have n2 : M2.2.1 = r + 3 := (congrArg Prod.fst q2).trans n1
  have y1 := y1.sm (o2.same (nd0 r 1 2 1 (by decide)))
  have al3 := al_e n2 (Nat.succ_ne_zero _)
  obtain ⟨M3, e3, y3, o3, n3'⟩ := X1_i4096 n2 (Nat.succ_ne_zero _)
  have n3 : M3.2.1 = r + 5 := n3'
  have p3 := (o3.2 r (np r 3 2 (by decide))).trans p2
  have y1 := y1.sm (o3.same (nd r 1 2 3 2 (by decide)))
  obtain ⟨M4, e4, p4, o4, q4⟩ := pv_e p3 (i := 1) (Nat.le_of_ble_eq_true rfl) (.ref (r + 3))
  have n4 : M4.2.1 = r + 5 := (congrArg Prod.fst q4).trans n3
  have y1 := y1.sm (o4.same (nd0 r 1 2 1 (by decide)))
  have y3 := y3.sm (o4.same (nd0 r 3 2 1 (by decide)))
  have al5 := al_e n4 (Nat.succ_ne_zero _)
  obtain ⟨M5, e5, x5, o5, n5'⟩ := X8_i n4 (Nat.succ_ne_zero _)
  have n5 : M5.2.1 = r + 64 := n5'
  have p5 := (o5.2 r (np r 5 59 (by decide))).trans p4
  have y1 := y1.sm (o5.same (nd r 1 2 5 59 (by decide)))
  have y3 := y3.sm (o5.same (nd r 3 2 5 59 (by decide)))
  obtain ⟨M6, e6, p6, o6, q6⟩ := pv_e p5 (i := 2) (Nat.le_of_ble_eq_true rfl) (.ref (r + 5))
  have n6 : M6.2.1 = r + 64 := (congrArg Prod.fst q6).trans n5
  have y1 := y1.sm (o6.same (nd0 r 1 2 1 (by decide)))
  have y3 := y3.sm (o6.same (nd0 r 3 2 1 (by decide)))
  have x5 := x5.sm (o6.same (nd0 r 5 59 1 (by decide)))
  have al7 := al_e n6 (Nat.succ_ne_zero _)
  obtain ⟨M7, e7, x64, o7, n7'⟩ := X8_i n6 (Nat.succ_ne_zero _)
  have n7 : M7.2.1 = r + 123 := n7'
  have p7 := (o7.2 r (np r 64 59 (by decide))).trans p6
  have y1 := y1.sm (o7.same (nd r 1 2 64 59 (by decide)))
  have y3 := y3.sm (o7.same (nd r 3 2 64 59 (by decide)))
  have x5 := x5.sm (o7.same (nd r 5 59 64 59 (by decide)))
  obtain ⟨M8, e8, p8, o8, q8⟩ := pv_e p7 (i := 3) (Nat.le_of_ble_eq_true rfl) (.ref (r + 64))
  have n8 : M8.2.1 = r + 123 := (congrArg Prod.fst q8).trans n7
  have y1 := y1.sm (o8.same (nd0 r 1 2 1 (by decide)))
  have y3 := y3.sm (o8.same (nd0 r 3 2 1 (by decide)))
  have x5 := x5.sm (o8.same (nd0 r 5 59 1 (by decide)))
  have x64 := x64.sm (o8.same (nd0 r 64 59 1 (by decide)))
  have al9 := al_e n8 (Nat.succ_ne_zero _)
  obtain ⟨A123, o9, n9⟩ := mk_e n8 (.inl (7, (2, .inr (.inr (.inr (.inr (fun _ => none)))))))
  obtain ⟨M9, hM9⟩ : ∃ M9, M9 = mnew M8 (.inl (7, (2, .inr (.inr (.inr (.inr (fun _ => none))))))) := ⟨_, rfl⟩
  rw [← hM9] at A123 o9 n9
  have n9 : M9.2.1 = r + 124 := n9
  have p9 := (o9.2 r (np r 123 1 (by decide))).trans p8
  have y1 := y1.sm (o9.same (nd r 1 2 123 1 (by decide)))
  have y3 := y3.sm (o9.same (nd r 3 2 123 1 (by decide)))
  have x5 := x5.sm (o9.same (nd r 5 59 123 1 (by decide)))
  have x64 := x64.sm (o9.same (nd r 64 59 123 1 (by decide)))
  obtain ⟨M10, e10, p10, o10, q10⟩ := pv_e p9 (i := 4) (Nat.le_of_ble_eq_true rfl) (.ref (r + 123))
  have n10 : M10.2.1 = r + 124 := (congrArg Prod.fst q10).trans n9
  have y1 := y1.sm (o10.same (nd0 r 1 2 1 (by decide)))
  have y3 := y3.sm (o10.same (nd0 r 3 2 1 (by decide)))
  have x5 := x5.sm (o10.same (nd0 r 5 59 1 (by decide)))
  have x64 := x64.sm (o10.same (nd0 r 64 59 1 (by decide)))
  have A123 := (o10.2 _ (nq0 r 123 1 (by decide))).trans A123
  have gp0 : gR M10 10 4 r = some (r + 123) := by rw [gR_h p10]; rfl
  have lp0 : aL M10 (r + 123) = some (nI 2) := aL_h A123
  have cp0 : (nI 2 ≤ (0 : Int32)) = False := eq_false (by decide)
  have al11 := al_e n10 (Nat.succ_ne_zero _)
  obtain ⟨M11, e11, x124, o11, n11'⟩ := X8_i n10 (Nat.succ_ne_zero _)
  have n11 : M11.2.1 = r + 183 := n11'
  have p11 := (o11.2 r (np r 124 59 (by decide))).trans p10
  have y1 := y1.sm (o11.same (nd r 1 2 124 59 (by decide)))
  have y3 := y3.sm (o11.same (nd r 3 2 124 59 (by decide)))
  have x5 := x5.sm (o11.same (nd r 5 59 124 59 (by decide)))
  have x64 := x64.sm (o11.same (nd r 64 59 124 59 (by decide)))
  have A123 := (o11.2 _ (nq r 123 124 59 (by decide))).trans A123
  have bp0 : ∀ {τ : Type} (x : Option τ), ob M11 7 (r + 124) x = x := fun x => ob_h x124.1 x
  obtain ⟨M12, e12, A', o12, q12⟩ := sq_e (i := 0) A123 (k := 0) (by decide) (by decide) (by decide) (some (r + 124))
  have n12 : M12.2.1 = r + 183 := (congrArg Prod.fst q12).trans n11
  have p12 := (o12.2 r (np r 123 1 (by decide))).trans p11
  have y1 := y1.sm (o12.same (nd r 1 2 123 1 (by decide)))
  have y3 := y3.sm (o12.same (nd r 3 2 123 1 (by decide)))
  have x5 := x5.sm (o12.same (nd r 5 59 123 1 (by decide)))
  have x64 := x64.sm (o12.same (nd r 64 59 123 1 (by decide)))
  have x124 := x124.sm (o12.same (nd r 124 59 123 1 (by decide)))
  have A123 := A'
  have gp1 : gR M12 10 4 r = some (r + 123) := by rw [gR_h p12]; rfl
  have lp1 : aL M12 (r + 123) = some (nI 2) := aL_h A123
  have cp1 : (nI 2 ≤ ((0 + 1) : Int32)) = False := eq_false (by decide)
  have cp1b : (nI 2 ≤ (1 : Int32)) = False := eq_false (by decide)
  have al13 := al_e n12 (Nat.succ_ne_zero _)
  obtain ⟨M13, e13, x183, o13, n13'⟩ := X8_i n12 (Nat.succ_ne_zero _)
  have n13 : M13.2.1 = r + 242 := n13'
  have p13 := (o13.2 r (np r 183 59 (by decide))).trans p12
  have y1 := y1.sm (o13.same (nd r 1 2 183 59 (by decide)))
  have y3 := y3.sm (o13.same (nd r 3 2 183 59 (by decide)))
  have x5 := x5.sm (o13.same (nd r 5 59 183 59 (by decide)))
  have x64 := x64.sm (o13.same (nd r 64 59 183 59 (by decide)))
  have A123 := (o13.2 _ (nq r 123 183 59 (by decide))).trans A123
  have x124 := x124.sm (o13.same (nd r 124 59 183 59 (by decide)))
  have bp1 : ∀ {τ : Type} (x : Option τ), ob M13 7 (r + 183) x = x := fun x => ob_h x183.1 x
  obtain ⟨M14, e14, A', o14, q14⟩ := sq_e (i := (0 + 1)) A123 (k := 1) (by decide) (by decide) (by decide) (some (r + 183))
  have n14 : M14.2.1 = r + 242 := (congrArg Prod.fst q14).trans n13
  have p14 := (o14.2 r (np r 123 1 (by decide))).trans p13
  have y1 := y1.sm (o14.same (nd r 1 2 123 1 (by decide)))
  have y3 := y3.sm (o14.same (nd r 3 2 123 1 (by decide)))
  have x5 := x5.sm (o14.same (nd r 5 59 123 1 (by decide)))
  have x64 := x64.sm (o14.same (nd r 64 59 123 1 (by decide)))
  have x124 := x124.sm (o14.same (nd r 124 59 123 1 (by decide)))
  have x183 := x183.sm (o14.same (nd r 183 59 123 1 (by decide)))
  have A123 := A'
  have e14b : sQ M13 7 (r + 123) 1 (some (r + 183)) = some M14 := e14
  have gp2 : gR M14 10 4 r = some (r + 123) := by rw [gR_h p14]; rfl
  have lp2 : aL M14 (r + 123) = some (nI 2) := aL_h A123
  have cp2 : (nI 2 ≤ (((0 + 1) + 1) : Int32)) = True := eq_true (by decide)
  have cp2b : (nI 2 ≤ (2 : Int32)) = True := eq_true (by decide)
  have al15 := al_e n14 (Nat.succ_ne_zero _)
  obtain ⟨A242, o15, n15⟩ := mk_e n14 (.inl (3, (2, .inl (fun _ => 0))))
  obtain ⟨M15, hM15⟩ : ∃ M15, M15 = mnew M14 (.inl (3, (2, .inl (fun _ => 0)))) := ⟨_, rfl⟩
  rw [← hM15] at A242 o15 n15
  have n15 : M15.2.1 = r + 243 := n15
  have p15 := (o15.2 r (np r 242 1 (by decide))).trans p14
  have y1 := y1.sm (o15.same (nd r 1 2 242 1 (by decide)))
  have y3 := y3.sm (o15.same (nd r 3 2 242 1 (by decide)))
  have x5 := x5.sm (o15.same (nd r 5 59 242 1 (by decide)))
  have x64 := x64.sm (o15.same (nd r 64 59 242 1 (by decide)))
  have A123 := (o15.2 _ (nq r 123 242 1 (by decide))).trans A123
  have x124 := x124.sm (o15.same (nd r 124 59 242 1 (by decide)))
  have x183 := x183.sm (o15.same (nd r 183 59 242 1 (by decide)))
  obtain ⟨M16, e16, p16, o16, q16⟩ := pv_e p15 (i := 5) (Nat.le_of_ble_eq_true rfl) (.ref (r + 242))
  have n16 : M16.2.1 = r + 243 := (congrArg Prod.fst q16).trans n15
  have y1 := y1.sm (o16.same (nd0 r 1 2 1 (by decide)))
  have y3 := y3.sm (o16.same (nd0 r 3 2 1 (by decide)))
  have x5 := x5.sm (o16.same (nd0 r 5 59 1 (by decide)))
  have x64 := x64.sm (o16.same (nd0 r 64 59 1 (by decide)))
  have A123 := (o16.2 _ (nq0 r 123 1 (by decide))).trans A123
  have x124 := x124.sm (o16.same (nd0 r 124 59 1 (by decide)))
  have x183 := x183.sm (o16.same (nd0 r 183 59 1 (by decide)))
  have A242 := (o16.2 _ (nq0 r 242 1 (by decide))).trans A242
  have al17 := al_e n16 (Nat.succ_ne_zero _)
  obtain ⟨M17, e17, hx, o17, n17'⟩ := X2_i n16 (Nat.succ_ne_zero _) H
  have n17 : M17.2.1 = r + 599 := n17'
  have p17 := (o17.2 r (np r 243 356 (by decide))).trans p16
  have y1 := y1.sm (o17.same (nd r 1 2 243 356 (by decide)))
  have y3 := y3.sm (o17.same (nd r 3 2 243 356 (by decide)))
  have x5 := x5.sm (o17.same (nd r 5 59 243 356 (by decide)))
  have x64 := x64.sm (o17.same (nd r 64 59 243 356 (by decide)))
  have A123 := (o17.2 _ (nq r 123 243 356 (by decide))).trans A123
  have x124 := x124.sm (o17.same (nd r 124 59 243 356 (by decide)))
  have x183 := x183.sm (o17.same (nd r 183 59 243 356 (by decide)))
  have A242 := (o17.2 _ (nq r 242 243 356 (by decide))).trans A242
  obtain ⟨M18, e18, p18, o18, q18⟩ := pv_e p17 (i := 6) (Nat.le_of_ble_eq_true rfl) (.ref (r + 243))
  have n18 : M18.2.1 = r + 599 := (congrArg Prod.fst q18).trans n17
  have y1 := y1.sm (o18.same (nd0 r 1 2 1 (by decide)))
  have y3 := y3.sm (o18.same (nd0 r 3 2 1 (by decide)))
  have x5 := x5.sm (o18.same (nd0 r 5 59 1 (by decide)))
  have x64 := x64.sm (o18.same (nd0 r 64 59 1 (by decide)))
  have A123 := (o18.2 _ (nq0 r 123 1 (by decide))).trans A123
  have x124 := x124.sm (o18.same (nd0 r 124 59 1 (by decide)))
  have x183 := x183.sm (o18.same (nd0 r 183 59 1 (by decide)))
  have A242 := (o18.2 _ (nq0 r 242 1 (by decide))).trans A242
  have hx := hx.sm (o18.same (nd0 r 243 356 1 (by decide)))
  have al19 := al_e n18 (Nat.succ_ne_zero _)
  obtain ⟨M19, e19, nt, o19, n19'⟩ := X4_i n18 (Nat.succ_ne_zero _)
  have n19 : M19.2.1 = r + 608 := n19'
  have p19 := (o19.2 r (np r 599 9 (by decide))).trans p18
  have y1 := y1.sm (o19.same (nd r 1 2 599 9 (by decide)))
  have y3 := y3.sm (o19.same (nd r 3 2 599 9 (by decide)))
  have x5 := x5.sm (o19.same (nd r 5 59 599 9 (by decide)))
  have x64 := x64.sm (o19.same (nd r 64 59 599 9 (by decide)))
  have A123 := (o19.2 _ (nq r 123 599 9 (by decide))).trans A123
  have x124 := x124.sm (o19.same (nd r 124 59 599 9 (by decide)))
  have x183 := x183.sm (o19.same (nd r 183 59 599 9 (by decide)))
  have A242 := (o19.2 _ (nq r 242 599 9 (by decide))).trans A242
  have hx := hx.sm (o19.same (nd r 243 356 599 9 (by decide)))
  obtain ⟨M20, e20, p20, o20, q20⟩ := pv_e p19 (i := 7) (Nat.le_of_ble_eq_true rfl) (.ref (r + 599))
  have n20 : M20.2.1 = r + 608 := (congrArg Prod.fst q20).trans n19
  have y1 := y1.sm (o20.same (nd0 r 1 2 1 (by decide)))
  have y3 := y3.sm (o20.same (nd0 r 3 2 1 (by decide)))
  have x5 := x5.sm (o20.same (nd0 r 5 59 1 (by decide)))
  have x64 := x64.sm (o20.same (nd0 r 64 59 1 (by decide)))
  have A123 := (o20.2 _ (nq0 r 123 1 (by decide))).trans A123
  have x124 := x124.sm (o20.same (nd0 r 124 59 1 (by decide)))
  have x183 := x183.sm (o20.same (nd0 r 183 59 1 (by decide)))
  have A242 := (o20.2 _ (nq0 r 242 1 (by decide))).trans A242
  have hx := hx.sm (o20.same (nd0 r 243 356 1 (by decide)))
  have nt := nt.sm (o20.same (nd0 r 599 9 1 (by decide)))
  have gx1 : gR (mnew M20 (.inr (9, [.null, .null, .null, .null, .null, .null, .int 0, .int 0, .int 0, .int 0, .int 0, .long 0, .null, .int 0, .int 0]))) 10 0 r = some (r + 1) := by rw [gR_h (((mk_e n20 (.inr (9, [.null, .null, .null, .null, .null, .null, .int 0, .int 0, .int 0, .int 0, .int 0, .long 0, .null, .int 0, .int 0]))).2.1.2 r (np r 608 1 (by decide))).trans p20)]; rfl
  have al21 := al_e n20 (Nat.succ_ne_zero _)
  obtain ⟨M21, e21, tk, o21, n21'⟩ := X10_i n20 (Nat.succ_ne_zero _) (r + 1)
  have n21 : M21.2.1 = r + 614 := n21'
  have p21 := (o21.2 r (np r 608 6 (by decide))).trans p20
  have y1 := y1.sm (o21.same (nd r 1 2 608 6 (by decide)))
  have y3 := y3.sm (o21.same (nd r 3 2 608 6 (by decide)))
  have x5 := x5.sm (o21.same (nd r 5 59 608 6 (by decide)))
  have x64 := x64.sm (o21.same (nd r 64 59 608 6 (by decide)))
  have A123 := (o21.2 _ (nq r 123 608 6 (by decide))).trans A123
  have x124 := x124.sm (o21.same (nd r 124 59 608 6 (by decide)))
  have x183 := x183.sm (o21.same (nd r 183 59 608 6 (by decide)))
  have A242 := (o21.2 _ (nq r 242 608 6 (by decide))).trans A242
  have hx := hx.sm (o21.same (nd r 243 356 608 6 (by decide)))
  have nt := nt.sm (o21.same (nd r 599 9 608 6 (by decide)))
  obtain ⟨M22, e22, p22, o22, q22⟩ := pv_e p21 (i := 8) (Nat.le_of_ble_eq_true rfl) (.ref (r + 608))
  have n22 : M22.2.1 = r + 614 := (congrArg Prod.fst q22).trans n21
  have y1 := y1.sm (o22.same (nd0 r 1 2 1 (by decide)))
  have y3 := y3.sm (o22.same (nd0 r 3 2 1 (by decide)))
  have x5 := x5.sm (o22.same (nd0 r 5 59 1 (by decide)))
  have x64 := x64.sm (o22.same (nd0 r 64 59 1 (by decide)))
  have A123 := (o22.2 _ (nq0 r 123 1 (by decide))).trans A123
  have x124 := x124.sm (o22.same (nd0 r 124 59 1 (by decide)))
  have x183 := x183.sm (o22.same (nd0 r 183 59 1 (by decide)))
  have A242 := (o22.2 _ (nq0 r 242 1 (by decide))).trans A242
  have hx := hx.sm (o22.same (nd0 r 243 356 1 (by decide)))
  have nt := nt.sm (o22.same (nd0 r 599 9 1 (by decide)))
  have tk := tk.sm (o22.same (nd0 r 608 6 1 (by decide)))
  have gx2 : gR (mnew M22 (.inr (8, [.null, .int 0, .int 0]))) 10 8 r = some (r + 608) := by rw [gR_h (((mk_e n22 (.inr (8, [.null, .int 0, .int 0]))).2.1.2 r (np r 614 1 (by decide))).trans p22)]; rfl
  have al23 := al_e n22 (Nat.succ_ne_zero _)
  obtain ⟨M23, e23, A614, o23, n23'⟩ := X9_i n22  (r + 608)
  have n23 : M23.2.1 = r + 615 := n23'
  have p23 := (o23.2 r (np r 614 1 (by decide))).trans p22
  have y1 := y1.sm (o23.same (nd r 1 2 614 1 (by decide)))
  have y3 := y3.sm (o23.same (nd r 3 2 614 1 (by decide)))
  have x5 := x5.sm (o23.same (nd r 5 59 614 1 (by decide)))
  have x64 := x64.sm (o23.same (nd r 64 59 614 1 (by decide)))
  have A123 := (o23.2 _ (nq r 123 614 1 (by decide))).trans A123
  have x124 := x124.sm (o23.same (nd r 124 59 614 1 (by decide)))
  have x183 := x183.sm (o23.same (nd r 183 59 614 1 (by decide)))
  have A242 := (o23.2 _ (nq r 242 614 1 (by decide))).trans A242
  have hx := hx.sm (o23.same (nd r 243 356 614 1 (by decide)))
  have nt := nt.sm (o23.same (nd r 599 9 614 1 (by decide)))
  have tk := tk.sm (o23.same (nd r 608 6 614 1 (by decide)))
  obtain ⟨M24, e24, p24, o24, q24⟩ := pv_e p23 (i := 9) (Nat.le_of_ble_eq_true rfl) (.ref (r + 614))
  have n24 : M24.2.1 = r + 615 := (congrArg Prod.fst q24).trans n23
  have y1 := y1.sm (o24.same (nd0 r 1 2 1 (by decide)))
  have y3 := y3.sm (o24.same (nd0 r 3 2 1 (by decide)))
  have x5 := x5.sm (o24.same (nd0 r 5 59 1 (by decide)))
  have x64 := x64.sm (o24.same (nd0 r 64 59 1 (by decide)))
  have A123 := (o24.2 _ (nq0 r 123 1 (by decide))).trans A123
  have x124 := x124.sm (o24.same (nd0 r 124 59 1 (by decide)))
  have x183 := x183.sm (o24.same (nd0 r 183 59 1 (by decide)))
  have A242 := (o24.2 _ (nq0 r 242 1 (by decide))).trans A242
  have hx := hx.sm (o24.same (nd0 r 243 356 1 (by decide)))
  have nt := nt.sm (o24.same (nd0 r 599 9 1 (by decide)))
  have tk := tk.sm (o24.same (nd0 r 608 6 1 (by decide)))
  have A614 := (o24.2 _ (nq0 r 614 1 (by decide))).trans A614
  have gx3 : gR (mnew M24 (.inr (5, [.null]))) 10 8 r = some (r + 608) := by rw [gR_h (((mk_e n24 (.inr (5, [.null]))).2.1.2 r (np r 615 1 (by decide))).trans p24)]; rfl
  have al25 := al_e n24 (Nat.succ_ne_zero _)
  obtain ⟨M25, e25, A615, o25, n25'⟩ := X6_i n24  (r + 608)
  have n25 : M25.2.1 = r + 616 := n25'
  have p25 := (o25.2 r (np r 615 1 (by decide))).trans p24
  have y1 := y1.sm (o25.same (nd r 1 2 615 1 (by decide)))
  have y3 := y3.sm (o25.same (nd r 3 2 615 1 (by decide)))
  have x5 := x5.sm (o25.same (nd r 5 59 615 1 (by decide)))
  have x64 := x64.sm (o25.same (nd r 64 59 615 1 (by decide)))
  have A123 := (o25.2 _ (nq r 123 615 1 (by decide))).trans A123
  have x124 := x124.sm (o25.same (nd r 124 59 615 1 (by decide)))
  have x183 := x183.sm (o25.same (nd r 183 59 615 1 (by decide)))
  have A242 := (o25.2 _ (nq r 242 615 1 (by decide))).trans A242
  have hx := hx.sm (o25.same (nd r 243 356 615 1 (by decide)))
  have nt := nt.sm (o25.same (nd r 599 9 615 1 (by decide)))
  have tk := tk.sm (o25.same (nd r 608 6 615 1 (by decide)))
  have A614 := (o25.2 _ (nq r 614 615 1 (by decide))).trans A614
  obtain ⟨M26, e26, p26, o26, q26⟩ := pv_e p25 (i := 10) (Nat.le_of_ble_eq_true rfl) (.ref (r + 615))
  have n26 : M26.2.1 = r + 616 := (congrArg Prod.fst q26).trans n25
  have y1 := y1.sm (o26.same (nd0 r 1 2 1 (by decide)))
  have y3 := y3.sm (o26.same (nd0 r 3 2 1 (by decide)))
  have x5 := x5.sm (o26.same (nd0 r 5 59 1 (by decide)))
  have x64 := x64.sm (o26.same (nd0 r 64 59 1 (by decide)))
  have A123 := (o26.2 _ (nq0 r 123 1 (by decide))).trans A123
  have x124 := x124.sm (o26.same (nd0 r 124 59 1 (by decide)))
  have x183 := x183.sm (o26.same (nd0 r 183 59 1 (by decide)))
  have A242 := (o26.2 _ (nq0 r 242 1 (by decide))).trans A242
  have hx := hx.sm (o26.same (nd0 r 243 356 1 (by decide)))
  have nt := nt.sm (o26.same (nd0 r 599 9 1 (by decide)))
  have tk := tk.sm (o26.same (nd0 r 608 6 1 (by decide)))
  have A614 := (o26.2 _ (nq0 r 614 1 (by decide))).trans A614
  have A615 := (o26.2 _ (nq0 r 615 1 (by decide))).trans A615
  obtain ⟨M27, e27, p27, o27, q27⟩ := pv_e p26 (i := 11) (Nat.le_of_ble_eq_true rfl) (.int 0)
  have n27 : M27.2.1 = r + 616 := (congrArg Prod.fst q27).trans n26
  have y1 := y1.sm (o27.same (nd0 r 1 2 1 (by decide)))
  have y3 := y3.sm (o27.same (nd0 r 3 2 1 (by decide)))
  have x5 := x5.sm (o27.same (nd0 r 5 59 1 (by decide)))
  have x64 := x64.sm (o27.same (nd0 r 64 59 1 (by decide)))
  have A123 := (o27.2 _ (nq0 r 123 1 (by decide))).trans A123
  have x124 := x124.sm (o27.same (nd0 r 124 59 1 (by decide)))
  have x183 := x183.sm (o27.same (nd0 r 183 59 1 (by decide)))
  have A242 := (o27.2 _ (nq0 r 242 1 (by decide))).trans A242
  have hx := hx.sm (o27.same (nd0 r 243 356 1 (by decide)))
  have nt := nt.sm (o27.same (nd0 r 599 9 1 (by decide)))
  have tk := tk.sm (o27.same (nd0 r 608 6 1 (by decide)))
  have A614 := (o27.2 _ (nq0 r 614 1 (by decide))).trans A614
  have A615 := (o27.2 _ (nq0 r 615 1 (by decide))).trans A615
  obtain ⟨M28, e28, p28, o28, q28⟩ := pv_e p27 (i := 12) (Nat.le_of_ble_eq_true rfl) (.int (-1))
  have n28 : M28.2.1 = r + 616 := (congrArg Prod.fst q28).trans n27
  have y1 := y1.sm (o28.same (nd0 r 1 2 1 (by decide)))
  have y3 := y3.sm (o28.same (nd0 r 3 2 1 (by decide)))
  have x5 := x5.sm (o28.same (nd0 r 5 59 1 (by decide)))
  have x64 := x64.sm (o28.same (nd0 r 64 59 1 (by decide)))
  have A123 := (o28.2 _ (nq0 r 123 1 (by decide))).trans A123
  have x124 := x124.sm (o28.same (nd0 r 124 59 1 (by decide)))
  have x183 := x183.sm (o28.same (nd0 r 183 59 1 (by decide)))
  have A242 := (o28.2 _ (nq0 r 242 1 (by decide))).trans A242
  have hx := hx.sm (o28.same (nd0 r 243 356 1 (by decide)))
  have nt := nt.sm (o28.same (nd0 r 599 9 1 (by decide)))
  have tk := tk.sm (o28.same (nd0 r 608 6 1 (by decide)))
  have A614 := (o28.2 _ (nq0 r 614 1 (by decide))).trans A614
  have A615 := (o28.2 _ (nq0 r 615 1 (by decide))).trans A615
  have oo : ofc M M28 r 616 := (((((((((((((((((((((((((((((o0.wide (Nat.le_refl r) (nw0 r 1 616 (by decide))).trans (o1.wide (Nat.le_add_right r 1) (nw2 r 1 2 616 (by decide)))).trans (o2.wide (Nat.le_refl r) (nw0 r 1 616 (by decide)))).trans (o3.wide (Nat.le_add_right r 3) (nw2 r 3 2 616 (by decide)))).trans (o4.wide (Nat.le_refl r) (nw0 r 1 616 (by decide)))).trans (o5.wide (Nat.le_add_right r 5) (nw2 r 5 59 616 (by decide)))).trans (o6.wide (Nat.le_refl r) (nw0 r 1 616 (by decide)))).trans (o7.wide (Nat.le_add_right r 64) (nw2 r 64 59 616 (by decide)))).trans (o8.wide (Nat.le_refl r) (nw0 r 1 616 (by decide)))).trans (o9.wide (Nat.le_add_right r 123) (nw2 r 123 1 616 (by decide)))).trans (o10.wide (Nat.le_refl r) (nw0 r 1 616 (by decide)))).trans (o11.wide (Nat.le_add_right r 124) (nw2 r 124 59 616 (by decide)))).trans (o12.wide (Nat.le_add_right r 123) (nw2 r 123 1 616 (by decide)))).trans (o13.wide (Nat.le_add_right r 183) (nw2 r 183 59 616 (by decide)))).trans (o14.wide (Nat.le_add_right r 123) (nw2 r 123 1 616 (by decide)))).trans (o15.wide (Nat.le_add_right r 242) (nw2 r 242 1 616 (by decide)))).trans (o16.wide (Nat.le_refl r) (nw0 r 1 616 (by decide)))).trans (o17.wide (Nat.le_add_right r 243) (nw2 r 243 356 616 (by decide)))).trans (o18.wide (Nat.le_refl r) (nw0 r 1 616 (by decide)))).trans (o19.wide (Nat.le_add_right r 599) (nw2 r 599 9 616 (by decide)))).trans (o20.wide (Nat.le_refl r) (nw0 r 1 616 (by decide)))).trans (o21.wide (Nat.le_add_right r 608) (nw2 r 608 6 616 (by decide)))).trans (o22.wide (Nat.le_refl r) (nw0 r 1 616 (by decide)))).trans (o23.wide (Nat.le_add_right r 614) (nw2 r 614 1 616 (by decide)))).trans (o24.wide (Nat.le_refl r) (nw0 r 1 616 (by decide)))).trans (o25.wide (Nat.le_add_right r 615) (nw2 r 615 1 616 (by decide)))).trans (o26.wide (Nat.le_refl r) (nw0 r 1 616 (by decide)))).trans (o27.wide (Nat.le_refl r) (nw0 r 1 616 (by decide)))).trans (o28.wide (Nat.le_refl r) (nw0 r 1 616 (by decide))))
  refine ⟨M28, ?_, (by subst hr; exact ⟨p28, y1, y3, x5, ⟨S00, x64⟩, ⟨_, A123, rfl, rfl⟩, x124, x183, ⟨_, A242, fun _ _ => rfl⟩, hx, nt, tk, ⟨false, false, A614⟩, A615⟩), oo, n28⟩
  simp only [f_X11_init, ob_h p0, al1, e1, e2, al3, e3, e4, al5, e5, e6, al7, e7, e8, al9, ← hM9, e10, gp0, lp0, cp0, al11, e11, bp0, e12, gp1, lp1, cp1, cp1b, al13, e13, bp1, e14, e14b, gp2, lp2, cp2, cp2b, al15, ← hM15, e16, al17, e17, e18, al19, e19, e20, gx1, al21, e21, e22, gx2, al23, e23, e24, gx3, al25, e25, e26, e27, e28, f_X11_init_92, if_false, if_true, bso]
