/-! PURE: the constructors -/
theorem al_e {M : Mem} {r : Nat} (h : M.2.1 = r) (h0 : r ≠ 0) : alc M = some r := by
  unfold alc
  rw [h, if_neg h0]
theorem mk_e {M : Mem} {r : Nat} (h : M.2.1 = r) (c : PC) : (mnew M c).1 r = some c ∧ off M (mnew M c) r 1 ∧ (mnew M c).2.1 = r + 1 := by
  subst h
  exact ⟨if_pos rfl, ⟨rfl, fun q hq => if_neg (by omega)⟩, rfl⟩
theorem pv_e {M : Mem} {ci r : Nat} {fs : List Value} (h : M.1 r = some (.inr (ci, fs))) {i : Nat} (hi : i < fs.length) (v : Value) : ∃ M', pV M ci i r v = some M' ∧ M'.1 r = some (.inr (ci, fs.set i v)) ∧ off M M' r 1 ∧ M'.2 = M.2 :=
  ⟨_, pV_h h hi v, mset_at _ _ _, off_set _ _ _, rfl⟩
theorem sq_e {M : Mem} {a t n : Nat} {f : Nat → Option Nat} (h : M.1 a = some (.inl (t, (n, .inr (.inr (.inr (.inr f))))))) {i : Int32} {k : Nat} (hi : i = nI k) (hk : k < n) (hn : n < 2 ^ 31) (x : Option Nat) : ∃ M', sQ M t a i x = some M' ∧ M'.1 a = some (.inl (t, (n, .inr (.inr (.inr (.inr (va_up f k x))))))) ∧ off M M' a 1 ∧ M'.2 = M.2 := by
  subst hi
  refine ⟨_, sQ_h h (inR_n hk hn) x, ?_, off_set _ _ _, rfl⟩
  rw [mset_at, nI_clamp (by omega)]
theorem nd (r x k a n : Nat) (h : x + k ≤ a ∨ a + n ≤ x) : r + x + k ≤ r + a ∨ r + a + n ≤ r + x := by omega
theorem nd0 (r x k n : Nat) (h : n ≤ x) : r + x + k ≤ r ∨ r + n ≤ r + x := by omega
theorem nq (r x a n : Nat) (h : x < a ∨ a + n ≤ x) : r + x < r + a ∨ r + a + n ≤ r + x := by omega
theorem nq0 (r x n : Nat) (h : n ≤ x) : r + x < r ∨ r + n ≤ r + x := by omega
theorem np (r a n : Nat) (h : 0 < a) : r < r + a ∨ r + a + n ≤ r := by omega
theorem nw0 (r n m : Nat) (h : n ≤ m) : r + n ≤ r + m := by omega
theorem nw2 (r a n m : Nat) (h : a + n ≤ m) : r + a + n ≤ r + m := by omega
theorem X5_i30 {M : Mem} {r : Nat} (h : M.2.1 = r) (h0 : r ≠ 0) : ∃ M', f_X5_init_30 r (mnew M (.inr (4, [.null, .int 0]))) = some M' ∧ nA M' r 30 [] ∧ off M M' r 2 ∧ M'.2.1 = r + 2 := by
  obtain ⟨p0, o0, n0⟩ := mk_e h (.inr (4, [.null, .int 0]))
  obtain ⟨M0, hM0⟩ : ∃ M0, M0 = mnew M (.inr (4, [.null, .int 0])) := ⟨_, rfl⟩
  rw [← hM0] at p0 o0 n0 ⊢
  have al1 := al_e n0 (Nat.succ_ne_zero _)
  obtain ⟨A1, o1, n1⟩ := mk_e n0 (.inl (0, (30, .inl (fun _ => 0))))
  obtain ⟨M1, hM1⟩ : ∃ M1, M1 = mnew M0 (.inl (0, (30, .inl (fun _ => 0)))) := ⟨_, rfl⟩
  rw [← hM1] at A1 o1 n1
  have n1 : M1.2.1 = r + 2 := n1
  have p1 := (o1.2 r (np r 1 1 (by decide))).trans p0
  obtain ⟨M2, e2, p2, o2, q2⟩ := pv_e p1 (i := 0) (Nat.le_of_ble_eq_true rfl) (.ref (r + 1))
  have n2 : M2.2.1 = r + 2 := (congrArg Prod.fst q2).trans n1
  have A1 := (o2.2 _ (nq0 r 1 1 (by decide))).trans A1
  obtain ⟨M3, e3, p3, o3, q3⟩ := pv_e p2 (i := 1) (Nat.le_of_ble_eq_true rfl) (.int 0)
  have n3 : M3.2.1 = r + 2 := (congrArg Prod.fst q3).trans n2
  have A1 := (o3.2 _ (nq0 r 1 1 (by decide))).trans A1
  have oo : off M M3 r 2 := ((((o0.wide (Nat.le_refl r) (nw0 r 1 2 (by decide))).trans (o1.wide (Nat.le_add_right r 1) (nw2 r 1 1 2 (by decide)))).trans (o2.wide (Nat.le_refl r) (nw0 r 1 2 (by decide)))).trans (o3.wide (Nat.le_refl r) (nw0 r 1 2 (by decide))))
  refine ⟨M3, ?_, ⟨p3, _, A1, Nat.zero_le _, by decide, fun j hj => absurd hj (Nat.not_lt_zero j)⟩, oo, n3⟩
  simp only [f_X5_init_30, ob_h p0, al1, ← hM1, e2, e3, bso]
theorem X5_i60 {M : Mem} {r : Nat} (h : M.2.1 = r) (h0 : r ≠ 0) : ∃ M', f_X5_init_60 r (mnew M (.inr (4, [.null, .int 0]))) = some M' ∧ nA M' r 60 [] ∧ off M M' r 2 ∧ M'.2.1 = r + 2 := by
  obtain ⟨p0, o0, n0⟩ := mk_e h (.inr (4, [.null, .int 0]))
  obtain ⟨M0, hM0⟩ : ∃ M0, M0 = mnew M (.inr (4, [.null, .int 0])) := ⟨_, rfl⟩
  rw [← hM0] at p0 o0 n0 ⊢
  have al1 := al_e n0 (Nat.succ_ne_zero _)
  obtain ⟨A1, o1, n1⟩ := mk_e n0 (.inl (0, (60, .inl (fun _ => 0))))
  obtain ⟨M1, hM1⟩ : ∃ M1, M1 = mnew M0 (.inl (0, (60, .inl (fun _ => 0)))) := ⟨_, rfl⟩
  rw [← hM1] at A1 o1 n1
  have n1 : M1.2.1 = r + 2 := n1
  have p1 := (o1.2 r (np r 1 1 (by decide))).trans p0
  obtain ⟨M2, e2, p2, o2, q2⟩ := pv_e p1 (i := 0) (Nat.le_of_ble_eq_true rfl) (.ref (r + 1))
  have n2 : M2.2.1 = r + 2 := (congrArg Prod.fst q2).trans n1
  have A1 := (o2.2 _ (nq0 r 1 1 (by decide))).trans A1
  obtain ⟨M3, e3, p3, o3, q3⟩ := pv_e p2 (i := 1) (Nat.le_of_ble_eq_true rfl) (.int 0)
  have n3 : M3.2.1 = r + 2 := (congrArg Prod.fst q3).trans n2
  have A1 := (o3.2 _ (nq0 r 1 1 (by decide))).trans A1
  have oo : off M M3 r 2 := ((((o0.wide (Nat.le_refl r) (nw0 r 1 2 (by decide))).trans (o1.wide (Nat.le_add_right r 1) (nw2 r 1 1 2 (by decide)))).trans (o2.wide (Nat.le_refl r) (nw0 r 1 2 (by decide)))).trans (o3.wide (Nat.le_refl r) (nw0 r 1 2 (by decide))))
  refine ⟨M3, ?_, ⟨p3, _, A1, Nat.zero_le _, by decide, fun j hj => absurd hj (Nat.not_lt_zero j)⟩, oo, n3⟩
  simp only [f_X5_init_60, ob_h p0, al1, ← hM1, e2, e3, bso]
theorem X5_i5 {M : Mem} {r : Nat} (h : M.2.1 = r) (h0 : r ≠ 0) : ∃ M', f_X5_init_5 r (mnew M (.inr (4, [.null, .int 0]))) = some M' ∧ nA M' r 5 [] ∧ off M M' r 2 ∧ M'.2.1 = r + 2 := by
  obtain ⟨p0, o0, n0⟩ := mk_e h (.inr (4, [.null, .int 0]))
  obtain ⟨M0, hM0⟩ : ∃ M0, M0 = mnew M (.inr (4, [.null, .int 0])) := ⟨_, rfl⟩
  rw [← hM0] at p0 o0 n0 ⊢
  have al1 := al_e n0 (Nat.succ_ne_zero _)
  obtain ⟨A1, o1, n1⟩ := mk_e n0 (.inl (0, (5, .inl (fun _ => 0))))
  obtain ⟨M1, hM1⟩ : ∃ M1, M1 = mnew M0 (.inl (0, (5, .inl (fun _ => 0)))) := ⟨_, rfl⟩
  rw [← hM1] at A1 o1 n1
  have n1 : M1.2.1 = r + 2 := n1
  have p1 := (o1.2 r (np r 1 1 (by decide))).trans p0
  obtain ⟨M2, e2, p2, o2, q2⟩ := pv_e p1 (i := 0) (Nat.le_of_ble_eq_true rfl) (.ref (r + 1))
  have n2 : M2.2.1 = r + 2 := (congrArg Prod.fst q2).trans n1
  have A1 := (o2.2 _ (nq0 r 1 1 (by decide))).trans A1
  obtain ⟨M3, e3, p3, o3, q3⟩ := pv_e p2 (i := 1) (Nat.le_of_ble_eq_true rfl) (.int 0)
  have n3 : M3.2.1 = r + 2 := (congrArg Prod.fst q3).trans n2
  have A1 := (o3.2 _ (nq0 r 1 1 (by decide))).trans A1
  have oo : off M M3 r 2 := ((((o0.wide (Nat.le_refl r) (nw0 r 1 2 (by decide))).trans (o1.wide (Nat.le_add_right r 1) (nw2 r 1 1 2 (by decide)))).trans (o2.wide (Nat.le_refl r) (nw0 r 1 2 (by decide)))).trans (o3.wide (Nat.le_refl r) (nw0 r 1 2 (by decide))))
  refine ⟨M3, ?_, ⟨p3, _, A1, Nat.zero_le _, by decide, fun j hj => absurd hj (Nat.not_lt_zero j)⟩, oo, n3⟩
  simp only [f_X5_init_5, ob_h p0, al1, ← hM1, e2, e3, bso]
theorem X5_i244 {M : Mem} {r : Nat} (h : M.2.1 = r) (h0 : r ≠ 0) : ∃ M', f_X5_init_244 r (mnew M (.inr (4, [.null, .int 0]))) = some M' ∧ nA M' r 244 [] ∧ off M M' r 2 ∧ M'.2.1 = r + 2 := by
  obtain ⟨p0, o0, n0⟩ := mk_e h (.inr (4, [.null, .int 0]))
  obtain ⟨M0, hM0⟩ : ∃ M0, M0 = mnew M (.inr (4, [.null, .int 0])) := ⟨_, rfl⟩
  rw [← hM0] at p0 o0 n0 ⊢
  have al1 := al_e n0 (Nat.succ_ne_zero _)
  obtain ⟨A1, o1, n1⟩ := mk_e n0 (.inl (0, (244, .inl (fun _ => 0))))
  obtain ⟨M1, hM1⟩ : ∃ M1, M1 = mnew M0 (.inl (0, (244, .inl (fun _ => 0)))) := ⟨_, rfl⟩
  rw [← hM1] at A1 o1 n1
  have n1 : M1.2.1 = r + 2 := n1
  have p1 := (o1.2 r (np r 1 1 (by decide))).trans p0
  obtain ⟨M2, e2, p2, o2, q2⟩ := pv_e p1 (i := 0) (Nat.le_of_ble_eq_true rfl) (.ref (r + 1))
  have n2 : M2.2.1 = r + 2 := (congrArg Prod.fst q2).trans n1
  have A1 := (o2.2 _ (nq0 r 1 1 (by decide))).trans A1
  obtain ⟨M3, e3, p3, o3, q3⟩ := pv_e p2 (i := 1) (Nat.le_of_ble_eq_true rfl) (.int 0)
  have n3 : M3.2.1 = r + 2 := (congrArg Prod.fst q3).trans n2
  have A1 := (o3.2 _ (nq0 r 1 1 (by decide))).trans A1
  have oo : off M M3 r 2 := ((((o0.wide (Nat.le_refl r) (nw0 r 1 2 (by decide))).trans (o1.wide (Nat.le_add_right r 1) (nw2 r 1 1 2 (by decide)))).trans (o2.wide (Nat.le_refl r) (nw0 r 1 2 (by decide)))).trans (o3.wide (Nat.le_refl r) (nw0 r 1 2 (by decide))))
  refine ⟨M3, ?_, ⟨p3, _, A1, Nat.zero_le _, by decide, fun j hj => absurd hj (Nat.not_lt_zero j)⟩, oo, n3⟩
  simp only [f_X5_init_244, ob_h p0, al1, ← hM1, e2, e3, bso]
theorem X1_i700 {M : Mem} {r : Nat} (h : M.2.1 = r) (h0 : r ≠ 0) : ∃ M', f_X1_init_700 r (mnew M (.inr (1, [.null, .int 0]))) = some M' ∧ yA M' r 700 [] ∧ off M M' r 2 ∧ M'.2.1 = r + 2 := by
  obtain ⟨p0, o0, n0⟩ := mk_e h (.inr (1, [.null, .int 0]))
  obtain ⟨M0, hM0⟩ : ∃ M0, M0 = mnew M (.inr (1, [.null, .int 0])) := ⟨_, rfl⟩
  rw [← hM0] at p0 o0 n0 ⊢
  have al1 := al_e n0 (Nat.succ_ne_zero _)
  obtain ⟨A1, o1, n1⟩ := mk_e n0 (.inl (2, (700, .inl (fun _ => 0))))
  obtain ⟨M1, hM1⟩ : ∃ M1, M1 = mnew M0 (.inl (2, (700, .inl (fun _ => 0)))) := ⟨_, rfl⟩
  rw [← hM1] at A1 o1 n1
  have n1 : M1.2.1 = r + 2 := n1
  have p1 := (o1.2 r (np r 1 1 (by decide))).trans p0
  obtain ⟨M2, e2, p2, o2, q2⟩ := pv_e p1 (i := 0) (Nat.le_of_ble_eq_true rfl) (.ref (r + 1))
  have n2 : M2.2.1 = r + 2 := (congrArg Prod.fst q2).trans n1
  have A1 := (o2.2 _ (nq0 r 1 1 (by decide))).trans A1
  obtain ⟨M3, e3, p3, o3, q3⟩ := pv_e p2 (i := 1) (Nat.le_of_ble_eq_true rfl) (.int 0)
  have n3 : M3.2.1 = r + 2 := (congrArg Prod.fst q3).trans n2
  have A1 := (o3.2 _ (nq0 r 1 1 (by decide))).trans A1
  have oo : off M M3 r 2 := ((((o0.wide (Nat.le_refl r) (nw0 r 1 2 (by decide))).trans (o1.wide (Nat.le_add_right r 1) (nw2 r 1 1 2 (by decide)))).trans (o2.wide (Nat.le_refl r) (nw0 r 1 2 (by decide)))).trans (o3.wide (Nat.le_refl r) (nw0 r 1 2 (by decide))))
  refine ⟨M3, ?_, ⟨p3, _, A1, Nat.zero_le _, by decide, fun j hj => absurd hj (Nat.not_lt_zero j)⟩, oo, n3⟩
  simp only [f_X1_init_700, ob_h p0, al1, ← hM1, e2, e3, bso]
theorem X1_i4096 {M : Mem} {r : Nat} (h : M.2.1 = r) (h0 : r ≠ 0) : ∃ M', f_X1_init_4096 r (mnew M (.inr (1, [.null, .int 0]))) = some M' ∧ yA M' r 4096 [] ∧ off M M' r 2 ∧ M'.2.1 = r + 2 := by
  obtain ⟨p0, o0, n0⟩ := mk_e h (.inr (1, [.null, .int 0]))
  obtain ⟨M0, hM0⟩ : ∃ M0, M0 = mnew M (.inr (1, [.null, .int 0])) := ⟨_, rfl⟩
  rw [← hM0] at p0 o0 n0 ⊢
  have al1 := al_e n0 (Nat.succ_ne_zero _)
  obtain ⟨A1, o1, n1⟩ := mk_e n0 (.inl (2, (4096, .inl (fun _ => 0))))
  obtain ⟨M1, hM1⟩ : ∃ M1, M1 = mnew M0 (.inl (2, (4096, .inl (fun _ => 0)))) := ⟨_, rfl⟩
  rw [← hM1] at A1 o1 n1
  have n1 : M1.2.1 = r + 2 := n1
  have p1 := (o1.2 r (np r 1 1 (by decide))).trans p0
  obtain ⟨M2, e2, p2, o2, q2⟩ := pv_e p1 (i := 0) (Nat.le_of_ble_eq_true rfl) (.ref (r + 1))
  have n2 : M2.2.1 = r + 2 := (congrArg Prod.fst q2).trans n1
  have A1 := (o2.2 _ (nq0 r 1 1 (by decide))).trans A1
  obtain ⟨M3, e3, p3, o3, q3⟩ := pv_e p2 (i := 1) (Nat.le_of_ble_eq_true rfl) (.int 0)
  have n3 : M3.2.1 = r + 2 := (congrArg Prod.fst q3).trans n2
  have A1 := (o3.2 _ (nq0 r 1 1 (by decide))).trans A1
  have oo : off M M3 r 2 := ((((o0.wide (Nat.le_refl r) (nw0 r 1 2 (by decide))).trans (o1.wide (Nat.le_add_right r 1) (nw2 r 1 1 2 (by decide)))).trans (o2.wide (Nat.le_refl r) (nw0 r 1 2 (by decide)))).trans (o3.wide (Nat.le_refl r) (nw0 r 1 2 (by decide))))
  refine ⟨M3, ?_, ⟨p3, _, A1, Nat.zero_le _, by decide, fun j hj => absurd hj (Nat.not_lt_zero j)⟩, oo, n3⟩
  simp only [f_X1_init_4096, ob_h p0, al1, ← hM1, e2, e3, bso]
theorem X0_i {M : Mem} {r : Nat} (h : M.2.1 = r) (h0 : r ≠ 0) : ∃ M', f_X0_init r (mnew M (.inr (0, [.long 0, .int 0, .null, .null, .null]))) = some M' ∧ bA M' r 0 1 [] ∧ off M M' r 7 ∧ M'.2.1 = r + 7 := by
  obtain ⟨p0, o0, n0⟩ := mk_e h (.inr (0, [.long 0, .int 0, .null, .null, .null]))
  obtain ⟨M0, hM0⟩ : ∃ M0, M0 = mnew M (.inr (0, [.long 0, .int 0, .null, .null, .null])) := ⟨_, rfl⟩
  rw [← hM0] at p0 o0 n0 ⊢
  obtain ⟨M1, e1, p1, o1, q1⟩ := pv_e p0 (i := 0) (Nat.le_of_ble_eq_true rfl) (.long 0)
  have n1 : M1.2.1 = r + 1 := (congrArg Prod.fst q1).trans n0
  obtain ⟨M2, e2, p2, o2, q2⟩ := pv_e p1 (i := 1) (Nat.le_of_ble_eq_true rfl) (.int 1)
  have n2 : M2.2.1 = r + 1 := (congrArg Prod.fst q2).trans n1
  have al3 := al_e n2 (Nat.succ_ne_zero _)
  obtain ⟨M3, e3, x1, o3, n3'⟩ := X5_i30 n2 (Nat.succ_ne_zero _)
  have n3 : M3.2.1 = r + 3 := n3'
  have p3 := (o3.2 r (np r 1 2 (by decide))).trans p2
  obtain ⟨M4, e4, p4, o4, q4⟩ := pv_e p3 (i := 2) (Nat.le_of_ble_eq_true rfl) (.ref (r + 1))
  have n4 : M4.2.1 = r + 3 := (congrArg Prod.fst q4).trans n3
  have x1 := x1.sm (o4.same (nd0 r 1 2 1 (by decide)))
  have al5 := al_e n4 (Nat.succ_ne_zero _)
  obtain ⟨M5, e5, x3, o5, n5'⟩ := X5_i30 n4 (Nat.succ_ne_zero _)
  have n5 : M5.2.1 = r + 5 := n5'
  have p5 := (o5.2 r (np r 3 2 (by decide))).trans p4
  have x1 := x1.sm (o5.same (nd r 1 2 3 2 (by decide)))
  obtain ⟨M6, e6, p6, o6, q6⟩ := pv_e p5 (i := 3) (Nat.le_of_ble_eq_true rfl) (.ref (r + 3))
  have n6 : M6.2.1 = r + 5 := (congrArg Prod.fst q6).trans n5
  have x1 := x1.sm (o6.same (nd0 r 1 2 1 (by decide)))
  have x3 := x3.sm (o6.same (nd0 r 3 2 1 (by decide)))
  have al7 := al_e n6 (Nat.succ_ne_zero _)
  obtain ⟨M7, e7, x5, o7, n7'⟩ := X5_i30 n6 (Nat.succ_ne_zero _)
  have n7 : M7.2.1 = r + 7 := n7'
  have p7 := (o7.2 r (np r 5 2 (by decide))).trans p6
  have x1 := x1.sm (o7.same (nd r 1 2 5 2 (by decide)))
  have x3 := x3.sm (o7.same (nd r 3 2 5 2 (by decide)))
  obtain ⟨M8, e8, p8, o8, q8⟩ := pv_e p7 (i := 4) (Nat.le_of_ble_eq_true rfl) (.ref (r + 5))
  have n8 : M8.2.1 = r + 7 := (congrArg Prod.fst q8).trans n7
  have x1 := x1.sm (o8.same (nd0 r 1 2 1 (by decide)))
  have x3 := x3.sm (o8.same (nd0 r 3 2 1 (by decide)))
  have x5 := x5.sm (o8.same (nd0 r 5 2 1 (by decide)))
  have oo : off M M8 r 7 := (((((((((o0.wide (Nat.le_refl r) (nw0 r 1 7 (by decide))).trans (o1.wide (Nat.le_refl r) (nw0 r 1 7 (by decide)))).trans (o2.wide (Nat.le_refl r) (nw0 r 1 7 (by decide)))).trans (o3.wide (Nat.le_add_right r 1) (nw2 r 1 2 7 (by decide)))).trans (o4.wide (Nat.le_refl r) (nw0 r 1 7 (by decide)))).trans (o5.wide (Nat.le_add_right r 3) (nw2 r 3 2 7 (by decide)))).trans (o6.wide (Nat.le_refl r) (nw0 r 1 7 (by decide)))).trans (o7.wide (Nat.le_add_right r 5) (nw2 r 5 2 7 (by decide)))).trans (o8.wide (Nat.le_refl r) (nw0 r 1 7 (by decide))))
  refine ⟨M8, ?_, ⟨p8, x1, x3, x5⟩, oo, n8⟩
  simp only [f_X0_init, ob_h p0, e1, e2, al3, e3, e4, al5, e5, e6, al7, e7, e8, bso]
theorem X7_i {M : Mem} {r : Nat} (h : M.2.1 = r) (h0 : r ≠ 0) : ∃ M', f_X7_init r (mnew M (.inr (6, [.long 0, .int 0, .int 0, .int 0, .int 0, .null, .null, .null]))) = some M' ∧ sA M' r 0 (-1) false false 0 [] [] ∧ off M M' r 7 ∧ M'.2.1 = r + 7 := by
  obtain ⟨p0, o0, n0⟩ := mk_e h (.inr (6, [.long 0, .int 0, .int 0, .int 0, .int 0, .null, .null, .null]))
  obtain ⟨M0, hM0⟩ : ∃ M0, M0 = mnew M (.inr (6, [.long 0, .int 0, .int 0, .int 0, .int 0, .null, .null, .null])) := ⟨_, rfl⟩
  rw [← hM0] at p0 o0 n0 ⊢
  obtain ⟨M1, e1, p1, o1, q1⟩ := pv_e p0 (i := 0) (Nat.le_of_ble_eq_true rfl) (.long 0)
  have n1 : M1.2.1 = r + 1 := (congrArg Prod.fst q1).trans n0
  obtain ⟨M2, e2, p2, o2, q2⟩ := pv_e p1 (i := 1) (Nat.le_of_ble_eq_true rfl) (.int (-1))
  have n2 : M2.2.1 = r + 1 := (congrArg Prod.fst q2).trans n1
  have al3 := al_e n2 (Nat.succ_ne_zero _)
  obtain ⟨M3, e3, x1, o3, n3'⟩ := X5_i60 n2 (Nat.succ_ne_zero _)
  have n3 : M3.2.1 = r + 3 := n3'
  have p3 := (o3.2 r (np r 1 2 (by decide))).trans p2
  obtain ⟨M4, e4, p4, o4, q4⟩ := pv_e p3 (i := 5) (Nat.le_of_ble_eq_true rfl) (.ref (r + 1))
  have n4 : M4.2.1 = r + 3 := (congrArg Prod.fst q4).trans n3
  have x1 := x1.sm (o4.same (nd0 r 1 2 1 (by decide)))
  have al5 := al_e n4 (Nat.succ_ne_zero _)
  obtain ⟨M5, e5, x3, o5, n5'⟩ := X5_i60 n4 (Nat.succ_ne_zero _)
  have n5 : M5.2.1 = r + 5 := n5'
  have p5 := (o5.2 r (np r 3 2 (by decide))).trans p4
  have x1 := x1.sm (o5.same (nd r 1 2 3 2 (by decide)))
  obtain ⟨M6, e6, p6, o6, q6⟩ := pv_e p5 (i := 6) (Nat.le_of_ble_eq_true rfl) (.ref (r + 3))
  have n6 : M6.2.1 = r + 5 := (congrArg Prod.fst q6).trans n5
  have x1 := x1.sm (o6.same (nd0 r 1 2 1 (by decide)))
  have x3 := x3.sm (o6.same (nd0 r 3 2 1 (by decide)))
  have al7 := al_e n6 (Nat.succ_ne_zero _)
  obtain ⟨M7, e7, x5, o7, n7'⟩ := X5_i5 n6 (Nat.succ_ne_zero _)
  have n7 : M7.2.1 = r + 7 := n7'
  have p7 := (o7.2 r (np r 5 2 (by decide))).trans p6
  have x1 := x1.sm (o7.same (nd r 1 2 5 2 (by decide)))
  have x3 := x3.sm (o7.same (nd r 3 2 5 2 (by decide)))
  obtain ⟨M8, e8, p8, o8, q8⟩ := pv_e p7 (i := 7) (Nat.le_of_ble_eq_true rfl) (.ref (r + 5))
  have n8 : M8.2.1 = r + 7 := (congrArg Prod.fst q8).trans n7
  have x1 := x1.sm (o8.same (nd0 r 1 2 1 (by decide)))
  have x3 := x3.sm (o8.same (nd0 r 3 2 1 (by decide)))
  have x5 := x5.sm (o8.same (nd0 r 5 2 1 (by decide)))
  have oo : off M M8 r 7 := (((((((((o0.wide (Nat.le_refl r) (nw0 r 1 7 (by decide))).trans (o1.wide (Nat.le_refl r) (nw0 r 1 7 (by decide)))).trans (o2.wide (Nat.le_refl r) (nw0 r 1 7 (by decide)))).trans (o3.wide (Nat.le_add_right r 1) (nw2 r 1 2 7 (by decide)))).trans (o4.wide (Nat.le_refl r) (nw0 r 1 7 (by decide)))).trans (o5.wide (Nat.le_add_right r 3) (nw2 r 3 2 7 (by decide)))).trans (o6.wide (Nat.le_refl r) (nw0 r 1 7 (by decide)))).trans (o7.wide (Nat.le_add_right r 5) (nw2 r 5 2 7 (by decide)))).trans (o8.wide (Nat.le_refl r) (nw0 r 1 7 (by decide))))
  refine ⟨M8, ?_, ⟨p8, x1, x3, x5⟩, oo, n8⟩
  simp only [f_X7_init, ob_h p0, e1, e2, al3, e3, e4, al5, e5, e6, al7, e7, e8, bso]
theorem X4_i {M : Mem} {r : Nat} (h : M.2.1 = r) (h0 : r ≠ 0) : ∃ M', f_X4_init r (mnew M (.inr (3, [.null, .null, .null, .null]))) = some M' ∧ ntA M' r [] ∧ off M M' r 9 ∧ M'.2.1 = r + 9 := by
  obtain ⟨p0, o0, n0⟩ := mk_e h (.inr (3, [.null, .null, .null, .null]))
  obtain ⟨M0, hM0⟩ : ∃ M0, M0 = mnew M (.inr (3, [.null, .null, .null, .null])) := ⟨_, rfl⟩
  rw [← hM0] at p0 o0 n0 ⊢
  have al1 := al_e n0 (Nat.succ_ne_zero _)
  obtain ⟨M1, e1, x1, o1, n1'⟩ := X5_i244 n0 (Nat.succ_ne_zero _)
  have n1 : M1.2.1 = r + 3 := n1'
  have p1 := (o1.2 r (np r 1 2 (by decide))).trans p0
  obtain ⟨M2, e2, p2, o2, q2⟩ := pv_e p1 (i := 0) (Nat.le_of_ble_eq_true rfl) (.ref (r + 1))
  have n2 : M2.2.1 = r + 3 := (congrArg Prod.fst q2).trans n1
  have x1 := x1.sm (o2.same (nd0 r 1 2 1 (by decide)))
  have al3 := al_e n2 (Nat.succ_ne_zero _)
  obtain ⟨M3, e3, x3, o3, n3'⟩ := X5_i244 n2 (Nat.succ_ne_zero _)
  have n3 : M3.2.1 = r + 5 := n3'
  have p3 := (o3.2 r (np r 3 2 (by decide))).trans p2
  have x1 := x1.sm (o3.same (nd r 1 2 3 2 (by decide)))
  obtain ⟨M4, e4, p4, o4, q4⟩ := pv_e p3 (i := 1) (Nat.le_of_ble_eq_true rfl) (.ref (r + 3))
  have n4 : M4.2.1 = r + 5 := (congrArg Prod.fst q4).trans n3
  have x1 := x1.sm (o4.same (nd0 r 1 2 1 (by decide)))
  have x3 := x3.sm (o4.same (nd0 r 3 2 1 (by decide)))
  have al5 := al_e n4 (Nat.succ_ne_zero _)
  obtain ⟨M5, e5, x5, o5, n5'⟩ := X5_i244 n4 (Nat.succ_ne_zero _)
  have n5 : M5.2.1 = r + 7 := n5'
  have p5 := (o5.2 r (np r 5 2 (by decide))).trans p4
  have x1 := x1.sm (o5.same (nd r 1 2 5 2 (by decide)))
  have x3 := x3.sm (o5.same (nd r 3 2 5 2 (by decide)))
  obtain ⟨M6, e6, p6, o6, q6⟩ := pv_e p5 (i := 2) (Nat.le_of_ble_eq_true rfl) (.ref (r + 5))
  have n6 : M6.2.1 = r + 7 := (congrArg Prod.fst q6).trans n5
  have x1 := x1.sm (o6.same (nd0 r 1 2 1 (by decide)))
  have x3 := x3.sm (o6.same (nd0 r 3 2 1 (by decide)))
  have x5 := x5.sm (o6.same (nd0 r 5 2 1 (by decide)))
  have al7 := al_e n6 (Nat.succ_ne_zero _)
  obtain ⟨M7, e7, x7, o7, n7'⟩ := X5_i244 n6 (Nat.succ_ne_zero _)
  have n7 : M7.2.1 = r + 9 := n7'
  have p7 := (o7.2 r (np r 7 2 (by decide))).trans p6
  have x1 := x1.sm (o7.same (nd r 1 2 7 2 (by decide)))
  have x3 := x3.sm (o7.same (nd r 3 2 7 2 (by decide)))
  have x5 := x5.sm (o7.same (nd r 5 2 7 2 (by decide)))
  obtain ⟨M8, e8, p8, o8, q8⟩ := pv_e p7 (i := 3) (Nat.le_of_ble_eq_true rfl) (.ref (r + 7))
  have n8 : M8.2.1 = r + 9 := (congrArg Prod.fst q8).trans n7
  have x1 := x1.sm (o8.same (nd0 r 1 2 1 (by decide)))
  have x3 := x3.sm (o8.same (nd0 r 3 2 1 (by decide)))
  have x5 := x5.sm (o8.same (nd0 r 5 2 1 (by decide)))
  have x7 := x7.sm (o8.same (nd0 r 7 2 1 (by decide)))
  have oo : off M M8 r 9 := (((((((((o0.wide (Nat.le_refl r) (nw0 r 1 9 (by decide))).trans (o1.wide (Nat.le_add_right r 1) (nw2 r 1 2 9 (by decide)))).trans (o2.wide (Nat.le_refl r) (nw0 r 1 9 (by decide)))).trans (o3.wide (Nat.le_add_right r 3) (nw2 r 3 2 9 (by decide)))).trans (o4.wide (Nat.le_refl r) (nw0 r 1 9 (by decide)))).trans (o5.wide (Nat.le_add_right r 5) (nw2 r 5 2 9 (by decide)))).trans (o6.wide (Nat.le_refl r) (nw0 r 1 9 (by decide)))).trans (o7.wide (Nat.le_add_right r 7) (nw2 r 7 2 9 (by decide)))).trans (o8.wide (Nat.le_refl r) (nw0 r 1 9 (by decide))))
  refine ⟨M8, ?_, ⟨p8, x1, x3, x5, x7⟩, oo, n8⟩
  simp only [f_X4_init, ob_h p0, al1, e1, e2, al3, e3, e4, al5, e5, e6, al7, e7, e8, bso]
