/-! PURE: the constructors of the class and of the reference -/
theorem sj_e {M : Mem} {a t n : Nat} {f : Nat → Int64} (h : M.1 a = some (.inl (t, (n, .inr (.inl f))))) {i : Int32} {k : Nat} (hi : i = nI k) (hk : k < n) (hn : n < 2 ^ 31) (x : Int64) : ∃ M', sJ M t a i x = some M' ∧ M'.1 a = some (.inl (t, (n, .inr (.inl (vp_updL f k x))))) ∧ off M M' a 1 ∧ M'.2 = M.2 := by
  subst hi
  refine ⟨_, sJ_h h (inR_n hk hn) x, ?_, off_set _ _ _, rfl⟩
  rw [mset_at, nI_clamp (by omega)]
def R00 : Rs := (fun k => if k = 15 then -1 else 0, false, fun a => if a = 1 then vp_updL (fun _ => 0) 0 30 else fun _ => 0, fun _ _ => 0)
theorem X11_i {M : Mem} {r : Nat} (h : M.2.1 = r) (h0 : r ≠ 0) (hr : r = 100) (H : Nat → St) : ∃ M', f_X11_init r (mnew M (.inr (10, [.null, .null, .null, .null, .null, .null, .null, .null, .null, .null, .null, .int 0, .int 0]))) = some M' ∧ Cls M' [] [] S00 (fun _ => S00) (fun _ => false) 0 H [] (0, -1) ∧ off M M' r 616 ∧ M'.2.1 = r + 616 := by
  obtain ⟨p0, o0, n0⟩ := mk_e h (.inr (10, [.null, .null, .null, .null, .null, .null, .null, .null, .null, .null, .null, .int 0, .int 0]))
  obtain ⟨M0, hM0⟩ : ∃ M0, M0 = mnew M (.inr (10, [.null, .null, .null, .null, .null, .null, .null, .null, .null, .null, .null, .int 0, .int 0])) := ⟨_, rfl⟩
  rw [← hM0] at p0 o0 n0 ⊢
  have al1 := al_e n0 (Nat.succ_ne_zero _)
  obtain ⟨M1, e1, y1, o1, n1'⟩ := X1_i700 n0 (Nat.succ_ne_zero _)
  have n1 : M1.2.1 = r + 3 := n1'
  have p1 := (o1.2 r (np r 1 2 (by decide))).trans p0
  obtain ⟨M2, e2, p2, o2, q2⟩ := pv_e p1 (i := 0) (Nat.le_of_ble_eq_true rfl) (.ref (r + 1))
  have n2 : M2.2.1 = r + 3 := (congrArg Prod.fst q2).trans n1
  have y1 := y1.sm (o2.same (nd0 r 1 2 1 (by decide)))
  have al3 := al_e n2 (Nat.succ_ne_zero _)
  obtain ⟨M3, e3, y3, o3, n3'⟩ := X1_i4096 n2 (Nat.succ_ne_zero _)
  have n3 : M3.2.1 = r + 5 := n3'
  have p3 := (o3.2 r (np r 3 2 (by decide))).trans p2
  have y1 := y1.sm (o3.same (nd r 1 2 3 2 (by decide)))
  obtain ⟨M4, e4, p4, o4, q4⟩ := pv_e p3 (i := 1) (Nat.le_of_ble_eq_true rfl) (.ref (r + 3))
  have n4 : M4.2.1 = r + 5 := (congrArg Prod.fst q4).trans n3
  have y1 := y1.sm (o4.same (nd0 r 1 2 1 (by decide)))
  have y3 := y3.sm (o4.same (nd0 r 3 2 1 (by decide)))
  have al5 := al_e n4 (Nat.succ_ne_zero _)
  obtain ⟨M5, e5, x5, o5, n5'⟩ := X8_i n4 (Nat.succ_ne_zero _)
  have n5 : M5.2.1 = r + 64 := n5'
  have p5 := (o5.2 r (np r 5 59 (by decide))).trans p4
  have y1 := y1.sm (o5.same (nd r 1 2 5 59 (by decide)))
  have y3 := y3.sm (o5.same (nd r 3 2 5 59 (by decide)))
  obtain ⟨M6, e6, p6, o6, q6⟩ := pv_e p5 (i := 2) (Nat.le_of_ble_eq_true rfl) (.ref (r + 5))
  have n6 : M6.2.1 = r + 64 := (congrArg Prod.fst q6).trans n5
  have y1 := y1.sm (o6.same (nd0 r 1 2 1 (by decide)))
  have y3 := y3.sm (o6.same (nd0 r 3 2 1 (by decide)))
  have x5 := x5.sm (o6.same (nd0 r 5 59 1 (by decide)))
  have al7 := al_e n6 (Nat.succ_ne_zero _)
  obtain ⟨M7, e7, x64, o7, n7'⟩ := X8_i n6 (Nat.succ_ne_zero _)
  have n7 : M7.2.1 = r + 123 := n7'
  have p7 := (o7.2 r (np r 64 59 (by decide))).trans p6
  have y1 := y1.sm (o7.same (nd r 1 2 64 59 (by decide)))
  have y3 := y3.sm (o7.same (nd r 3 2 64 59 (by decide)))
  have x5 := x5.sm (o7.same (nd r 5 59 64 59 (by decide)))
  obtain ⟨M8, e8, p8, o8, q8⟩ := pv_e p7 (i := 3) (Nat.le_of_ble_eq_true rfl) (.ref (r + 64))
  have n8 : M8.2.1 = r + 123 := (congrArg Prod.fst q8).trans n7
  have y1 := y1.sm (o8.same (nd0 r 1 2 1 (by decide)))
  have y3 := y3.sm (o8.same (nd0 r 3 2 1 (by decide)))
  have x5 := x5.sm (o8.same (nd0 r 5 59 1 (by decide)))
  have x64 := x64.sm (o8.same (nd0 r 64 59 1 (by decide)))
  have al9 := al_e n8 (Nat.succ_ne_zero _)
  obtain ⟨A123, o9, n9⟩ := mk_e n8 (.inl (7, (2, .inr (.inr (.inr (.inr (fun _ => none)))))))
  obtain ⟨M9, hM9⟩ : ∃ M9, M9 = mnew M8 (.inl (7, (2, .inr (.inr (.inr (.inr (fun _ => none))))))) := ⟨_, rfl⟩
  rw [← hM9] at A123 o9 n9
  have n9 : M9.2.1 = r + 124 := n9
  have p9 := (o9.2 r (np r 123 1 (by decide))).trans p8
  have y1 := y1.sm (o9.same (nd r 1 2 123 1 (by decide)))
  have y3 := y3.sm (o9.same (nd r 3 2 123 1 (by decide)))
  have x5 := x5.sm (o9.same (nd r 5 59 123 1 (by decide)))
  have x64 := x64.sm (o9.same (nd r 64 59 123 1 (by decide)))
  obtain ⟨M10, e10, p10, o10, q10⟩ := pv_e p9 (i := 4) (Nat.le_of_ble_eq_true rfl) (.ref (r + 123))
  have n10 : M10.2.1 = r + 124 := (congrArg Prod.fst q10).trans n9
  have y1 := y1.sm (o10.same (nd0 r 1 2 1 (by decide)))
  have y3 := y3.sm (o10.same (nd0 r 3 2 1 (by decide)))
  have x5 := x5.sm (o10.same (nd0 r 5 59 1 (by decide)))
  have x64 := x64.sm (o10.same (nd0 r 64 59 1 (by decide)))
  have A123 := (o10.2 _ (nq0 r 123 1 (by decide))).trans A123
  have gp0 : gR M10 10 4 r = some (r + 123) := by rw [gR_h p10]; rfl
  have lp0 : aL M10 (r + 123) = some (nI 2) := aL_h A123
  have cp0 : (nI 2 ≤ (0 : Int32)) = False := eq_false (by decide)
  have al11 := al_e n10 (Nat.succ_ne_zero _)
  obtain ⟨M11, e11, x124, o11, n11'⟩ := X8_i n10 (Nat.succ_ne_zero _)
  have n11 : M11.2.1 = r + 183 := n11'
  have p11 := (o11.2 r (np r 124 59 (by decide))).trans p10
  have y1 := y1.sm (o11.same (nd r 1 2 124 59 (by decide)))
  have y3 := y3.sm (o11.same (nd r 3 2 124 59 (by decide)))
  have x5 := x5.sm (o11.same (nd r 5 59 124 59 (by decide)))
  have x64 := x64.sm (o11.same (nd r 64 59 124 59 (by decide)))
  have A123 := (o11.2 _ (nq r 123 124 59 (by decide))).trans A123
  have bp0 : ∀ {τ : Type} (x : Option τ), ob M11 7 (r + 124) x = x := fun x => ob_h x124.1 x
  obtain ⟨M12, e12, A', o12, q12⟩ := sq_e (i := 0) A123 (k := 0) (by decide) (by decide) (by decide) (some (r + 124))
  have n12 : M12.2.1 = r + 183 := (congrArg Prod.fst q12).trans n11
  have p12 := (o12.2 r (np r 123 1 (by decide))).trans p11
  have y1 := y1.sm (o12.same (nd r 1 2 123 1 (by decide)))
  have y3 := y3.sm (o12.same (nd r 3 2 123 1 (by decide)))
  have x5 := x5.sm (o12.same (nd r 5 59 123 1 (by decide)))
  have x64 := x64.sm (o12.same (nd r 64 59 123 1 (by decide)))
  have x124 := x124.sm (o12.same (nd r 124 59 123 1 (by decide)))
  have A123 := A'
  have gp1 : gR M12 10 4 r = some (r + 123) := by rw [gR_h p12]; rfl
  have lp1 : aL M12 (r + 123) = some (nI 2) := aL_h A123
  have cp1 : (nI 2 ≤ ((0 + 1) : Int32)) = False := eq_false (by decide)
  have cp1b : (nI 2 ≤ (1 : Int32)) = False := eq_false (by decide)
  have al13 := al_e n12 (Nat.succ_ne_zero _)
  obtain ⟨M13, e13, x183, o13, n13'⟩ := X8_i n12 (Nat.succ_ne_zero _)
  have n13 : M13.2.1 = r + 242 := n13'
  have p13 := (o13.2 r (np r 183 59 (by decide))).trans p12
  have y1 := y1.sm (o13.same (nd r 1 2 183 59 (by decide)))
  have y3 := y3.sm (o13.same (nd r 3 2 183 59 (by decide)))
  have x5 := x5.sm (o13.same (nd r 5 59 183 59 (by decide)))
  have x64 := x64.sm (o13.same (nd r 64 59 183 59 (by decide)))
  have A123 := (o13.2 _ (nq r 123 183 59 (by decide))).trans A123
  have x124 := x124.sm (o13.same (nd r 124 59 183 59 (by decide)))
  have bp1 : ∀ {τ : Type} (x : Option τ), ob M13 7 (r + 183) x = x := fun x => ob_h x183.1 x
  obtain ⟨M14, e14, A', o14, q14⟩ := sq_e (i := (0 + 1)) A123 (k := 1) (by decide) (by decide) (by decide) (some (r + 183))
  have n14 : M14.2.1 = r + 242 := (congrArg Prod.fst q14).trans n13
  have p14 := (o14.2 r (np r 123 1 (by decide))).trans p13
  have y1 := y1.sm (o14.same (nd r 1 2 123 1 (by decide)))
  have y3 := y3.sm (o14.same (nd r 3 2 123 1 (by decide)))
  have x5 := x5.sm (o14.same (nd r 5 59 123 1 (by decide)))
  have x64 := x64.sm (o14.same (nd r 64 59 123 1 (by decide)))
  have x124 := x124.sm (o14.same (nd r 124 59 123 1 (by decide)))
  have x183 := x183.sm (o14.same (nd r 183 59 123 1 (by decide)))
  have A123 := A'
  have e14b : sQ M13 7 (r + 123) 1 (some (r + 183)) = some M14 := e14
  have gp2 : gR M14 10 4 r = some (r + 123) := by rw [gR_h p14]; rfl
  have lp2 : aL M14 (r + 123) = some (nI 2) := aL_h A123
  have cp2 : (nI 2 ≤ (((0 + 1) + 1) : Int32)) = True := eq_true (by decide)
  have cp2b : (nI 2 ≤ (2 : Int32)) = True := eq_true (by decide)
  have al15 := al_e n14 (Nat.succ_ne_zero _)
  obtain ⟨A242, o15, n15⟩ := mk_e n14 (.inl (3, (2, .inl (fun _ => 0))))
  obtain ⟨M15, hM15⟩ : ∃ M15, M15 = mnew M14 (.inl (3, (2, .inl (fun _ => 0)))) := ⟨_, rfl⟩
  rw [← hM15] at A242 o15 n15
  have n15 : M15.2.1 = r + 243 := n15
  have p15 := (o15.2 r (np r 242 1 (by decide))).trans p14
  have y1 := y1.sm (o15.same (nd r 1 2 242 1 (by decide)))
  have y3 := y3.sm (o15.same (nd r 3 2 242 1 (by decide)))
  have x5 := x5.sm (o15.same (nd r 5 59 242 1 (by decide)))
  have x64 := x64.sm (o15.same (nd r 64 59 242 1 (by decide)))
  have A123 := (o15.2 _ (nq r 123 242 1 (by decide))).trans A123
  have x124 := x124.sm (o15.same (nd r 124 59 242 1 (by decide)))
  have x183 := x183.sm (o15.same (nd r 183 59 242 1 (by decide)))
  obtain ⟨M16, e16, p16, o16, q16⟩ := pv_e p15 (i := 5) (Nat.le_of_ble_eq_true rfl) (.ref (r + 242))
  have n16 : M16.2.1 = r + 243 := (congrArg Prod.fst q16).trans n15
  have y1 := y1.sm (o16.same (nd0 r 1 2 1 (by decide)))
  have y3 := y3.sm (o16.same (nd0 r 3 2 1 (by decide)))
  have x5 := x5.sm (o16.same (nd0 r 5 59 1 (by decide)))
  have x64 := x64.sm (o16.same (nd0 r 64 59 1 (by decide)))
  have A123 := (o16.2 _ (nq0 r 123 1 (by decide))).trans A123
  have x124 := x124.sm (o16.same (nd0 r 124 59 1 (by decide)))
  have x183 := x183.sm (o16.same (nd0 r 183 59 1 (by decide)))
  have A242 := (o16.2 _ (nq0 r 242 1 (by decide))).trans A242
  have al17 := al_e n16 (Nat.succ_ne_zero _)
  obtain ⟨M17, e17, hx, o17, n17'⟩ := X2_i n16 (Nat.succ_ne_zero _) H
  have n17 : M17.2.1 = r + 599 := n17'
  have p17 := (o17.2 r (np r 243 356 (by decide))).trans p16
  have y1 := y1.sm (o17.same (nd r 1 2 243 356 (by decide)))
  have y3 := y3.sm (o17.same (nd r 3 2 243 356 (by decide)))
  have x5 := x5.sm (o17.same (nd r 5 59 243 356 (by decide)))
  have x64 := x64.sm (o17.same (nd r 64 59 243 356 (by decide)))
  have A123 := (o17.2 _ (nq r 123 243 356 (by decide))).trans A123
  have x124 := x124.sm (o17.same (nd r 124 59 243 356 (by decide)))
  have x183 := x183.sm (o17.same (nd r 183 59 243 356 (by decide)))
  have A242 := (o17.2 _ (nq r 242 243 356 (by decide))).trans A242
  obtain ⟨M18, e18, p18, o18, q18⟩ := pv_e p17 (i := 6) (Nat.le_of_ble_eq_true rfl) (.ref (r + 243))
  have n18 : M18.2.1 = r + 599 := (congrArg Prod.fst q18).trans n17
  have y1 := y1.sm (o18.same (nd0 r 1 2 1 (by decide)))
  have y3 := y3.sm (o18.same (nd0 r 3 2 1 (by decide)))
  have x5 := x5.sm (o18.same (nd0 r 5 59 1 (by decide)))
  have x64 := x64.sm (o18.same (nd0 r 64 59 1 (by decide)))
  have A123 := (o18.2 _ (nq0 r 123 1 (by decide))).trans A123
  have x124 := x124.sm (o18.same (nd0 r 124 59 1 (by decide)))
  have x183 := x183.sm (o18.same (nd0 r 183 59 1 (by decide)))
  have A242 := (o18.2 _ (nq0 r 242 1 (by decide))).trans A242
  have hx := hx.sm (o18.same (nd0 r 243 356 1 (by decide)))
  have al19 := al_e n18 (Nat.succ_ne_zero _)
  obtain ⟨M19, e19, nt, o19, n19'⟩ := X4_i n18 (Nat.succ_ne_zero _)
  have n19 : M19.2.1 = r + 608 := n19'
  have p19 := (o19.2 r (np r 599 9 (by decide))).trans p18
  have y1 := y1.sm (o19.same (nd r 1 2 599 9 (by decide)))
  have y3 := y3.sm (o19.same (nd r 3 2 599 9 (by decide)))
  have x5 := x5.sm (o19.same (nd r 5 59 599 9 (by decide)))
  have x64 := x64.sm (o19.same (nd r 64 59 599 9 (by decide)))
  have A123 := (o19.2 _ (nq r 123 599 9 (by decide))).trans A123
  have x124 := x124.sm (o19.same (nd r 124 59 599 9 (by decide)))
  have x183 := x183.sm (o19.same (nd r 183 59 599 9 (by decide)))
  have A242 := (o19.2 _ (nq r 242 599 9 (by decide))).trans A242
  have hx := hx.sm (o19.same (nd r 243 356 599 9 (by decide)))
  obtain ⟨M20, e20, p20, o20, q20⟩ := pv_e p19 (i := 7) (Nat.le_of_ble_eq_true rfl) (.ref (r + 599))
  have n20 : M20.2.1 = r + 608 := (congrArg Prod.fst q20).trans n19
  have y1 := y1.sm (o20.same (nd0 r 1 2 1 (by decide)))
  have y3 := y3.sm (o20.same (nd0 r 3 2 1 (by decide)))
  have x5 := x5.sm (o20.same (nd0 r 5 59 1 (by decide)))
  have x64 := x64.sm (o20.same (nd0 r 64 59 1 (by decide)))
  have A123 := (o20.2 _ (nq0 r 123 1 (by decide))).trans A123
  have x124 := x124.sm (o20.same (nd0 r 124 59 1 (by decide)))
  have x183 := x183.sm (o20.same (nd0 r 183 59 1 (by decide)))
  have A242 := (o20.2 _ (nq0 r 242 1 (by decide))).trans A242
  have hx := hx.sm (o20.same (nd0 r 243 356 1 (by decide)))
  have nt := nt.sm (o20.same (nd0 r 599 9 1 (by decide)))
  have gx1 : gR (mnew M20 (.inr (9, [.null, .null, .null, .null, .null, .null, .int 0, .int 0, .int 0, .int 0, .int 0, .long 0, .null, .int 0, .int 0]))) 10 0 r = some (r + 1) := by rw [gR_h (((mk_e n20 (.inr (9, [.null, .null, .null, .null, .null, .null, .int 0, .int 0, .int 0, .int 0, .int 0, .long 0, .null, .int 0, .int 0]))).2.1.2 r (np r 608 1 (by decide))).trans p20)]; rfl
  have al21 := al_e n20 (Nat.succ_ne_zero _)
  obtain ⟨M21, e21, tk, o21, n21'⟩ := X10_i n20 (Nat.succ_ne_zero _) (r + 1)
  have n21 : M21.2.1 = r + 614 := n21'
  have p21 := (o21.2 r (np r 608 6 (by decide))).trans p20
  have y1 := y1.sm (o21.same (nd r 1 2 608 6 (by decide)))
  have y3 := y3.sm (o21.same (nd r 3 2 608 6 (by decide)))
  have x5 := x5.sm (o21.same (nd r 5 59 608 6 (by decide)))
  have x64 := x64.sm (o21.same (nd r 64 59 608 6 (by decide)))
  have A123 := (o21.2 _ (nq r 123 608 6 (by decide))).trans A123
  have x124 := x124.sm (o21.same (nd r 124 59 608 6 (by decide)))
  have x183 := x183.sm (o21.same (nd r 183 59 608 6 (by decide)))
  have A242 := (o21.2 _ (nq r 242 608 6 (by decide))).trans A242
  have hx := hx.sm (o21.same (nd r 243 356 608 6 (by decide)))
  have nt := nt.sm (o21.same (nd r 599 9 608 6 (by decide)))
  obtain ⟨M22, e22, p22, o22, q22⟩ := pv_e p21 (i := 8) (Nat.le_of_ble_eq_true rfl) (.ref (r + 608))
  have n22 : M22.2.1 = r + 614 := (congrArg Prod.fst q22).trans n21
  have y1 := y1.sm (o22.same (nd0 r 1 2 1 (by decide)))
  have y3 := y3.sm (o22.same (nd0 r 3 2 1 (by decide)))
  have x5 := x5.sm (o22.same (nd0 r 5 59 1 (by decide)))
  have x64 := x64.sm (o22.same (nd0 r 64 59 1 (by decide)))
  have A123 := (o22.2 _ (nq0 r 123 1 (by decide))).trans A123
  have x124 := x124.sm (o22.same (nd0 r 124 59 1 (by decide)))
  have x183 := x183.sm (o22.same (nd0 r 183 59 1 (by decide)))
  have A242 := (o22.2 _ (nq0 r 242 1 (by decide))).trans A242
  have hx := hx.sm (o22.same (nd0 r 243 356 1 (by decide)))
  have nt := nt.sm (o22.same (nd0 r 599 9 1 (by decide)))
  have tk := tk.sm (o22.same (nd0 r 608 6 1 (by decide)))
  have gx2 : gR (mnew M22 (.inr (8, [.null, .int 0, .int 0]))) 10 8 r = some (r + 608) := by rw [gR_h (((mk_e n22 (.inr (8, [.null, .int 0, .int 0]))).2.1.2 r (np r 614 1 (by decide))).trans p22)]; rfl
  have al23 := al_e n22 (Nat.succ_ne_zero _)
  obtain ⟨M23, e23, A614, o23, n23'⟩ := X9_i n22  (r + 608)
  have n23 : M23.2.1 = r + 615 := n23'
  have p23 := (o23.2 r (np r 614 1 (by decide))).trans p22
  have y1 := y1.sm (o23.same (nd r 1 2 614 1 (by decide)))
  have y3 := y3.sm (o23.same (nd r 3 2 614 1 (by decide)))
  have x5 := x5.sm (o23.same (nd r 5 59 614 1 (by decide)))
  have x64 := x64.sm (o23.same (nd r 64 59 614 1 (by decide)))
  have A123 := (o23.2 _ (nq r 123 614 1 (by decide))).trans A123
  have x124 := x124.sm (o23.same (nd r 124 59 614 1 (by decide)))
  have x183 := x183.sm (o23.same (nd r 183 59 614 1 (by decide)))
  have A242 := (o23.2 _ (nq r 242 614 1 (by decide))).trans A242
  have hx := hx.sm (o23.same (nd r 243 356 614 1 (by decide)))
  have nt := nt.sm (o23.same (nd r 599 9 614 1 (by decide)))
  have tk := tk.sm (o23.same (nd r 608 6 614 1 (by decide)))
  obtain ⟨M24, e24, p24, o24, q24⟩ := pv_e p23 (i := 9) (Nat.le_of_ble_eq_true rfl) (.ref (r + 614))
  have n24 : M24.2.1 = r + 615 := (congrArg Prod.fst q24).trans n23
  have y1 := y1.sm (o24.same (nd0 r 1 2 1 (by decide)))
  have y3 := y3.sm (o24.same (nd0 r 3 2 1 (by decide)))
  have x5 := x5.sm (o24.same (nd0 r 5 59 1 (by decide)))
  have x64 := x64.sm (o24.same (nd0 r 64 59 1 (by decide)))
  have A123 := (o24.2 _ (nq0 r 123 1 (by decide))).trans A123
  have x124 := x124.sm (o24.same (nd0 r 124 59 1 (by decide)))
  have x183 := x183.sm (o24.same (nd0 r 183 59 1 (by decide)))
  have A242 := (o24.2 _ (nq0 r 242 1 (by decide))).trans A242
  have hx := hx.sm (o24.same (nd0 r 243 356 1 (by decide)))
  have nt := nt.sm (o24.same (nd0 r 599 9 1 (by decide)))
  have tk := tk.sm (o24.same (nd0 r 608 6 1 (by decide)))
  have A614 := (o24.2 _ (nq0 r 614 1 (by decide))).trans A614
  have gx3 : gR (mnew M24 (.inr (5, [.null]))) 10 8 r = some (r + 608) := by rw [gR_h (((mk_e n24 (.inr (5, [.null]))).2.1.2 r (np r 615 1 (by decide))).trans p24)]; rfl
  have al25 := al_e n24 (Nat.succ_ne_zero _)
  obtain ⟨M25, e25, A615, o25, n25'⟩ := X6_i n24  (r + 608)
  have n25 : M25.2.1 = r + 616 := n25'
  have p25 := (o25.2 r (np r 615 1 (by decide))).trans p24
  have y1 := y1.sm (o25.same (nd r 1 2 615 1 (by decide)))
  have y3 := y3.sm (o25.same (nd r 3 2 615 1 (by decide)))
  have x5 := x5.sm (o25.same (nd r 5 59 615 1 (by decide)))
  have x64 := x64.sm (o25.same (nd r 64 59 615 1 (by decide)))
  have A123 := (o25.2 _ (nq r 123 615 1 (by decide))).trans A123
  have x124 := x124.sm (o25.same (nd r 124 59 615 1 (by decide)))
  have x183 := x183.sm (o25.same (nd r 183 59 615 1 (by decide)))
  have A242 := (o25.2 _ (nq r 242 615 1 (by decide))).trans A242
  have hx := hx.sm (o25.same (nd r 243 356 615 1 (by decide)))
  have nt := nt.sm (o25.same (nd r 599 9 615 1 (by decide)))
  have tk := tk.sm (o25.same (nd r 608 6 615 1 (by decide)))
  have A614 := (o25.2 _ (nq r 614 615 1 (by decide))).trans A614
  obtain ⟨M26, e26, p26, o26, q26⟩ := pv_e p25 (i := 10) (Nat.le_of_ble_eq_true rfl) (.ref (r + 615))
  have n26 : M26.2.1 = r + 616 := (congrArg Prod.fst q26).trans n25
  have y1 := y1.sm (o26.same (nd0 r 1 2 1 (by decide)))
  have y3 := y3.sm (o26.same (nd0 r 3 2 1 (by decide)))
  have x5 := x5.sm (o26.same (nd0 r 5 59 1 (by decide)))
  have x64 := x64.sm (o26.same (nd0 r 64 59 1 (by decide)))
  have A123 := (o26.2 _ (nq0 r 123 1 (by decide))).trans A123
  have x124 := x124.sm (o26.same (nd0 r 124 59 1 (by decide)))
  have x183 := x183.sm (o26.same (nd0 r 183 59 1 (by decide)))
  have A242 := (o26.2 _ (nq0 r 242 1 (by decide))).trans A242
  have hx := hx.sm (o26.same (nd0 r 243 356 1 (by decide)))
  have nt := nt.sm (o26.same (nd0 r 599 9 1 (by decide)))
  have tk := tk.sm (o26.same (nd0 r 608 6 1 (by decide)))
  have A614 := (o26.2 _ (nq0 r 614 1 (by decide))).trans A614
  have A615 := (o26.2 _ (nq0 r 615 1 (by decide))).trans A615
  obtain ⟨M27, e27, p27, o27, q27⟩ := pv_e p26 (i := 11) (Nat.le_of_ble_eq_true rfl) (.int 0)
  have n27 : M27.2.1 = r + 616 := (congrArg Prod.fst q27).trans n26
  have y1 := y1.sm (o27.same (nd0 r 1 2 1 (by decide)))
  have y3 := y3.sm (o27.same (nd0 r 3 2 1 (by decide)))
  have x5 := x5.sm (o27.same (nd0 r 5 59 1 (by decide)))
  have x64 := x64.sm (o27.same (nd0 r 64 59 1 (by decide)))
  have A123 := (o27.2 _ (nq0 r 123 1 (by decide))).trans A123
  have x124 := x124.sm (o27.same (nd0 r 124 59 1 (by decide)))
  have x183 := x183.sm (o27.same (nd0 r 183 59 1 (by decide)))
  have A242 := (o27.2 _ (nq0 r 242 1 (by decide))).trans A242
  have hx := hx.sm (o27.same (nd0 r 243 356 1 (by decide)))
  have nt := nt.sm (o27.same (nd0 r 599 9 1 (by decide)))
  have tk := tk.sm (o27.same (nd0 r 608 6 1 (by decide)))
  have A614 := (o27.2 _ (nq0 r 614 1 (by decide))).trans A614
  have A615 := (o27.2 _ (nq0 r 615 1 (by decide))).trans A615
  obtain ⟨M28, e28, p28, o28, q28⟩ := pv_e p27 (i := 12) (Nat.le_of_ble_eq_true rfl) (.int (-1))
  have n28 : M28.2.1 = r + 616 := (congrArg Prod.fst q28).trans n27
  have y1 := y1.sm (o28.same (nd0 r 1 2 1 (by decide)))
  have y3 := y3.sm (o28.same (nd0 r 3 2 1 (by decide)))
  have x5 := x5.sm (o28.same (nd0 r 5 59 1 (by decide)))
  have x64 := x64.sm (o28.same (nd0 r 64 59 1 (by decide)))
  have A123 := (o28.2 _ (nq0 r 123 1 (by decide))).trans A123
  have x124 := x124.sm (o28.same (nd0 r 124 59 1 (by decide)))
  have x183 := x183.sm (o28.same (nd0 r 183 59 1 (by decide)))
  have A242 := (o28.2 _ (nq0 r 242 1 (by decide))).trans A242
  have hx := hx.sm (o28.same (nd0 r 243 356 1 (by decide)))
  have nt := nt.sm (o28.same (nd0 r 599 9 1 (by decide)))
  have tk := tk.sm (o28.same (nd0 r 608 6 1 (by decide)))
  have A614 := (o28.2 _ (nq0 r 614 1 (by decide))).trans A614
  have A615 := (o28.2 _ (nq0 r 615 1 (by decide))).trans A615
  have oo : off M M28 r 616 := (((((((((((((((((((((((((((((o0.wide (Nat.le_refl r) (nw0 r 1 616 (by decide))).trans (o1.wide (Nat.le_add_right r 1) (nw2 r 1 2 616 (by decide)))).trans (o2.wide (Nat.le_refl r) (nw0 r 1 616 (by decide)))).trans (o3.wide (Nat.le_add_right r 3) (nw2 r 3 2 616 (by decide)))).trans (o4.wide (Nat.le_refl r) (nw0 r 1 616 (by decide)))).trans (o5.wide (Nat.le_add_right r 5) (nw2 r 5 59 616 (by decide)))).trans (o6.wide (Nat.le_refl r) (nw0 r 1 616 (by decide)))).trans (o7.wide (Nat.le_add_right r 64) (nw2 r 64 59 616 (by decide)))).trans (o8.wide (Nat.le_refl r) (nw0 r 1 616 (by decide)))).trans (o9.wide (Nat.le_add_right r 123) (nw2 r 123 1 616 (by decide)))).trans (o10.wide (Nat.le_refl r) (nw0 r 1 616 (by decide)))).trans (o11.wide (Nat.le_add_right r 124) (nw2 r 124 59 616 (by decide)))).trans (o12.wide (Nat.le_add_right r 123) (nw2 r 123 1 616 (by decide)))).trans (o13.wide (Nat.le_add_right r 183) (nw2 r 183 59 616 (by decide)))).trans (o14.wide (Nat.le_add_right r 123) (nw2 r 123 1 616 (by decide)))).trans (o15.wide (Nat.le_add_right r 242) (nw2 r 242 1 616 (by decide)))).trans (o16.wide (Nat.le_refl r) (nw0 r 1 616 (by decide)))).trans (o17.wide (Nat.le_add_right r 243) (nw2 r 243 356 616 (by decide)))).trans (o18.wide (Nat.le_refl r) (nw0 r 1 616 (by decide)))).trans (o19.wide (Nat.le_add_right r 599) (nw2 r 599 9 616 (by decide)))).trans (o20.wide (Nat.le_refl r) (nw0 r 1 616 (by decide)))).trans (o21.wide (Nat.le_add_right r 608) (nw2 r 608 6 616 (by decide)))).trans (o22.wide (Nat.le_refl r) (nw0 r 1 616 (by decide)))).trans (o23.wide (Nat.le_add_right r 614) (nw2 r 614 1 616 (by decide)))).trans (o24.wide (Nat.le_refl r) (nw0 r 1 616 (by decide)))).trans (o25.wide (Nat.le_add_right r 615) (nw2 r 615 1 616 (by decide)))).trans (o26.wide (Nat.le_refl r) (nw0 r 1 616 (by decide)))).trans (o27.wide (Nat.le_refl r) (nw0 r 1 616 (by decide)))).trans (o28.wide (Nat.le_refl r) (nw0 r 1 616 (by decide))))
  refine ⟨M28, ?_, (by subst hr; exact ⟨p28, y1, y3, x5, ⟨S00, x64⟩, ⟨_, A123, rfl, rfl⟩, x124, x183, ⟨_, A242, fun _ _ => rfl⟩, hx, nt, tk, ⟨false, false, A614⟩, A615⟩), oo, n28⟩
  simp only [f_X11_init, ob_h p0, al1, e1, e2, al3, e3, e4, al5, e5, e6, al7, e7, e8, al9, ← hM9, e10, gp0, lp0, cp0, al11, e11, bp0, e12, gp1, lp1, cp1, cp1b, al13, e13, bp1, e14, e14b, gp2, lp2, cp2, cp2b, al15, ← hM15, e16, al17, e17, e18, al19, e19, e20, gx1, al21, e21, e22, gx2, al23, e23, e24, gx3, al25, e25, e26, e27, e28, f_X11_init_92, if_false, if_true, bso]
theorem X12_i {M : Mem} {r : Nat} (h : M.2.1 = r) (h0 : r ≠ 0) : ∃ M', f_X12_init r (mnew M (.inr (11, [.int 0, .null, .null, .null, .null, .int 0, .null, .null, .int 0, .int 0, .int 0, .int 0, .int 0, .int 0, .int 0, .int 0, .int 0, .int 0, .null, .null, .int 0, .int 0, .null, .null, .null, .int 0, .null, .int 0]))) = some M' ∧ rA M' r R00 ∧ off M M' r 12 ∧ M'.2.1 = r + 12 := by
  obtain ⟨p0, o0, n0⟩ := mk_e h (.inr (11, [.int 0, .null, .null, .null, .null, .int 0, .null, .null, .int 0, .int 0, .int 0, .int 0, .int 0, .int 0, .int 0, .int 0, .int 0, .int 0, .null, .null, .int 0, .int 0, .null, .null, .null, .int 0, .null, .int 0]))
  obtain ⟨M0, hM0⟩ : ∃ M0, M0 = mnew M (.inr (11, [.int 0, .null, .null, .null, .null, .int 0, .null, .null, .int 0, .int 0, .int 0, .int 0, .int 0, .int 0, .int 0, .int 0, .int 0, .int 0, .null, .null, .int 0, .int 0, .null, .null, .null, .int 0, .null, .int 0])) := ⟨_, rfl⟩
  rw [← hM0] at p0 o0 n0 ⊢
  have al1 := al_e n0 (Nat.succ_ne_zero _)
  obtain ⟨A1, o1, n1⟩ := mk_e n0 (.inl (1, (806, .inr (.inl (fun _ => 0)))))
  obtain ⟨M1, hM1⟩ : ∃ M1, M1 = mnew M0 (.inl (1, (806, .inr (.inl (fun _ => 0))))) := ⟨_, rfl⟩
  rw [← hM1] at A1 o1 n1
  have n1 : M1.2.1 = r + 2 := n1
  have p1 := (o1.2 r (np r 1 1 (by decide))).trans p0
  obtain ⟨M2, e2, p2, o2, q2⟩ := pv_e p1 (i := 1) (Nat.le_of_ble_eq_true rfl) (.ref (r + 1))
  have n2 : M2.2.1 = r + 2 := (congrArg Prod.fst q2).trans n1
  have A1 := (o2.2 _ (nq0 r 1 1 (by decide))).trans A1
  have al3 := al_e n2 (Nat.succ_ne_zero _)
  obtain ⟨A2, o3, n3⟩ := mk_e n2 (.inl (1, (806, .inr (.inl (fun _ => 0)))))
  obtain ⟨M3, hM3⟩ : ∃ M3, M3 = mnew M2 (.inl (1, (806, .inr (.inl (fun _ => 0))))) := ⟨_, rfl⟩
  rw [← hM3] at A2 o3 n3
  have n3 : M3.2.1 = r + 3 := n3
  have p3 := (o3.2 r (np r 2 1 (by decide))).trans p2
  have A1 := (o3.2 _ (nq r 1 2 1 (by decide))).trans A1
  obtain ⟨M4, e4, p4, o4, q4⟩ := pv_e p3 (i := 2) (Nat.le_of_ble_eq_true rfl) (.ref (r + 2))
  have n4 : M4.2.1 = r + 3 := (congrArg Prod.fst q4).trans n3
  have A1 := (o4.2 _ (nq0 r 1 1 (by decide))).trans A1
  have A2 := (o4.2 _ (nq0 r 2 1 (by decide))).trans A2
  have ga : gR M4 11 1 r = some (r + 1) := by rw [gR_h p4]; rfl
  obtain ⟨M5, e5, p5, o5, q5⟩ := pv_e p4 (i := 3) (Nat.le_of_ble_eq_true rfl) (.ref (r + 1))
  have n5 : M5.2.1 = r + 3 := (congrArg Prod.fst q5).trans n4
  have A1 := (o5.2 _ (nq0 r 1 1 (by decide))).trans A1
  have A2 := (o5.2 _ (nq0 r 2 1 (by decide))).trans A2
  have al6 := al_e n5 (Nat.succ_ne_zero _)
  obtain ⟨A3, o6, n6⟩ := mk_e n5 (.inl (0, (4000, .inl (fun _ => 0))))
  obtain ⟨M6, hM6⟩ : ∃ M6, M6 = mnew M5 (.inl (0, (4000, .inl (fun _ => 0)))) := ⟨_, rfl⟩
  rw [← hM6] at A3 o6 n6
  have n6 : M6.2.1 = r + 4 := n6
  have p6 := (o6.2 r (np r 3 1 (by decide))).trans p5
  have A1 := (o6.2 _ (nq r 1 3 1 (by decide))).trans A1
  have A2 := (o6.2 _ (nq r 2 3 1 (by decide))).trans A2
  obtain ⟨M7, e7, p7, o7, q7⟩ := pv_e p6 (i := 4) (Nat.le_of_ble_eq_true rfl) (.ref (r + 3))
  have n7 : M7.2.1 = r + 4 := (congrArg Prod.fst q7).trans n6
  have A1 := (o7.2 _ (nq0 r 1 1 (by decide))).trans A1
  have A2 := (o7.2 _ (nq0 r 2 1 (by decide))).trans A2
  have A3 := (o7.2 _ (nq0 r 3 1 (by decide))).trans A3
  have al8 := al_e n7 (Nat.succ_ne_zero _)
  obtain ⟨A4, o8, n8⟩ := mk_e n7 (.inl (0, (60, .inl (fun _ => 0))))
  obtain ⟨M8, hM8⟩ : ∃ M8, M8 = mnew M7 (.inl (0, (60, .inl (fun _ => 0)))) := ⟨_, rfl⟩
  rw [← hM8] at A4 o8 n8
  have n8 : M8.2.1 = r + 5 := n8
  have p8 := (o8.2 r (np r 4 1 (by decide))).trans p7
  have A1 := (o8.2 _ (nq r 1 4 1 (by decide))).trans A1
  have A2 := (o8.2 _ (nq r 2 4 1 (by decide))).trans A2
  have A3 := (o8.2 _ (nq r 3 4 1 (by decide))).trans A3
  obtain ⟨M9, e9, p9, o9, q9⟩ := pv_e p8 (i := 6) (Nat.le_of_ble_eq_true rfl) (.ref (r + 4))
  have n9 : M9.2.1 = r + 5 := (congrArg Prod.fst q9).trans n8
  have A1 := (o9.2 _ (nq0 r 1 1 (by decide))).trans A1
  have A2 := (o9.2 _ (nq0 r 2 1 (by decide))).trans A2
  have A3 := (o9.2 _ (nq0 r 3 1 (by decide))).trans A3
  have A4 := (o9.2 _ (nq0 r 4 1 (by decide))).trans A4
  have al10 := al_e n9 (Nat.succ_ne_zero _)
  obtain ⟨A5, o10, n10⟩ := mk_e n9 (.inl (2, (700, .inl (fun _ => 0))))
  obtain ⟨M10, hM10⟩ : ∃ M10, M10 = mnew M9 (.inl (2, (700, .inl (fun _ => 0)))) := ⟨_, rfl⟩
  rw [← hM10] at A5 o10 n10
  have n10 : M10.2.1 = r + 6 := n10
  have p10 := (o10.2 r (np r 5 1 (by decide))).trans p9
  have A1 := (o10.2 _ (nq r 1 5 1 (by decide))).trans A1
  have A2 := (o10.2 _ (nq r 2 5 1 (by decide))).trans A2
  have A3 := (o10.2 _ (nq r 3 5 1 (by decide))).trans A3
  have A4 := (o10.2 _ (nq r 4 5 1 (by decide))).trans A4
  obtain ⟨M11, e11, p11, o11, q11⟩ := pv_e p10 (i := 7) (Nat.le_of_ble_eq_true rfl) (.ref (r + 5))
  have n11 : M11.2.1 = r + 6 := (congrArg Prod.fst q11).trans n10
  have A1 := (o11.2 _ (nq0 r 1 1 (by decide))).trans A1
  have A2 := (o11.2 _ (nq0 r 2 1 (by decide))).trans A2
  have A3 := (o11.2 _ (nq0 r 3 1 (by decide))).trans A3
  have A4 := (o11.2 _ (nq0 r 4 1 (by decide))).trans A4
  have A5 := (o11.2 _ (nq0 r 5 1 (by decide))).trans A5
  obtain ⟨M12, e12, p12, o12, q12⟩ := pv_e p11 (i := 15) (Nat.le_of_ble_eq_true rfl) (.int (-1))
  have n12 : M12.2.1 = r + 6 := (congrArg Prod.fst q12).trans n11
  have A1 := (o12.2 _ (nq0 r 1 1 (by decide))).trans A1
  have A2 := (o12.2 _ (nq0 r 2 1 (by decide))).trans A2
  have A3 := (o12.2 _ (nq0 r 3 1 (by decide))).trans A3
  have A4 := (o12.2 _ (nq0 r 4 1 (by decide))).trans A4
  have A5 := (o12.2 _ (nq0 r 5 1 (by decide))).trans A5
  have al13 := al_e n12 (Nat.succ_ne_zero _)
  obtain ⟨A6, o13, n13⟩ := mk_e n12 (.inl (0, (4, .inl (fun _ => 0))))
  obtain ⟨M13, hM13⟩ : ∃ M13, M13 = mnew M12 (.inl (0, (4, .inl (fun _ => 0)))) := ⟨_, rfl⟩
  rw [← hM13] at A6 o13 n13
  have n13 : M13.2.1 = r + 7 := n13
  have p13 := (o13.2 r (np r 6 1 (by decide))).trans p12
  have A1 := (o13.2 _ (nq r 1 6 1 (by decide))).trans A1
  have A2 := (o13.2 _ (nq r 2 6 1 (by decide))).trans A2
  have A3 := (o13.2 _ (nq r 3 6 1 (by decide))).trans A3
  have A4 := (o13.2 _ (nq r 4 6 1 (by decide))).trans A4
  have A5 := (o13.2 _ (nq r 5 6 1 (by decide))).trans A5
  obtain ⟨M14, e14, p14, o14, q14⟩ := pv_e p13 (i := 18) (Nat.le_of_ble_eq_true rfl) (.ref (r + 6))
  have n14 : M14.2.1 = r + 7 := (congrArg Prod.fst q14).trans n13
  have A1 := (o14.2 _ (nq0 r 1 1 (by decide))).trans A1
  have A2 := (o14.2 _ (nq0 r 2 1 (by decide))).trans A2
  have A3 := (o14.2 _ (nq0 r 3 1 (by decide))).trans A3
  have A4 := (o14.2 _ (nq0 r 4 1 (by decide))).trans A4
  have A5 := (o14.2 _ (nq0 r 5 1 (by decide))).trans A5
  have A6 := (o14.2 _ (nq0 r 6 1 (by decide))).trans A6
  have al15 := al_e n14 (Nat.succ_ne_zero _)
  obtain ⟨A7, o15, n15⟩ := mk_e n14 (.inl (3, (4, .inl (fun _ => 0))))
  obtain ⟨M15, hM15⟩ : ∃ M15, M15 = mnew M14 (.inl (3, (4, .inl (fun _ => 0)))) := ⟨_, rfl⟩
  rw [← hM15] at A7 o15 n15
  have n15 : M15.2.1 = r + 8 := n15
  have p15 := (o15.2 r (np r 7 1 (by decide))).trans p14
  have A1 := (o15.2 _ (nq r 1 7 1 (by decide))).trans A1
  have A2 := (o15.2 _ (nq r 2 7 1 (by decide))).trans A2
  have A3 := (o15.2 _ (nq r 3 7 1 (by decide))).trans A3
  have A4 := (o15.2 _ (nq r 4 7 1 (by decide))).trans A4
  have A5 := (o15.2 _ (nq r 5 7 1 (by decide))).trans A5
  have A6 := (o15.2 _ (nq r 6 7 1 (by decide))).trans A6
  obtain ⟨M16, e16, p16, o16, q16⟩ := pv_e p15 (i := 19) (Nat.le_of_ble_eq_true rfl) (.ref (r + 7))
  have n16 : M16.2.1 = r + 8 := (congrArg Prod.fst q16).trans n15
  have A1 := (o16.2 _ (nq0 r 1 1 (by decide))).trans A1
  have A2 := (o16.2 _ (nq0 r 2 1 (by decide))).trans A2
  have A3 := (o16.2 _ (nq0 r 3 1 (by decide))).trans A3
  have A4 := (o16.2 _ (nq0 r 4 1 (by decide))).trans A4
  have A5 := (o16.2 _ (nq0 r 5 1 (by decide))).trans A5
  have A6 := (o16.2 _ (nq0 r 6 1 (by decide))).trans A6
  have A7 := (o16.2 _ (nq0 r 7 1 (by decide))).trans A7
  have al17 := al_e n16 (Nat.succ_ne_zero _)
  obtain ⟨A8, o17, n17⟩ := mk_e n16 (.inl (1, (1612, .inr (.inl (fun _ => 0)))))
  obtain ⟨M17, hM17⟩ : ∃ M17, M17 = mnew M16 (.inl (1, (1612, .inr (.inl (fun _ => 0))))) := ⟨_, rfl⟩
  rw [← hM17] at A8 o17 n17
  have n17 : M17.2.1 = r + 9 := n17
  have p17 := (o17.2 r (np r 8 1 (by decide))).trans p16
  have A1 := (o17.2 _ (nq r 1 8 1 (by decide))).trans A1
  have A2 := (o17.2 _ (nq r 2 8 1 (by decide))).trans A2
  have A3 := (o17.2 _ (nq r 3 8 1 (by decide))).trans A3
  have A4 := (o17.2 _ (nq r 4 8 1 (by decide))).trans A4
  have A5 := (o17.2 _ (nq r 5 8 1 (by decide))).trans A5
  have A6 := (o17.2 _ (nq r 6 8 1 (by decide))).trans A6
  have A7 := (o17.2 _ (nq r 7 8 1 (by decide))).trans A7
  obtain ⟨M18, e18, p18, o18, q18⟩ := pv_e p17 (i := 22) (Nat.le_of_ble_eq_true rfl) (.ref (r + 8))
  have n18 : M18.2.1 = r + 9 := (congrArg Prod.fst q18).trans n17
  have A1 := (o18.2 _ (nq0 r 1 1 (by decide))).trans A1
  have A2 := (o18.2 _ (nq0 r 2 1 (by decide))).trans A2
  have A3 := (o18.2 _ (nq0 r 3 1 (by decide))).trans A3
  have A4 := (o18.2 _ (nq0 r 4 1 (by decide))).trans A4
  have A5 := (o18.2 _ (nq0 r 5 1 (by decide))).trans A5
  have A6 := (o18.2 _ (nq0 r 6 1 (by decide))).trans A6
  have A7 := (o18.2 _ (nq0 r 7 1 (by decide))).trans A7
  have A8 := (o18.2 _ (nq0 r 8 1 (by decide))).trans A8
  have al19 := al_e n18 (Nat.succ_ne_zero _)
  obtain ⟨A9, o19, n19⟩ := mk_e n18 (.inl (3, (2, .inl (fun _ => 0))))
  obtain ⟨M19, hM19⟩ : ∃ M19, M19 = mnew M18 (.inl (3, (2, .inl (fun _ => 0)))) := ⟨_, rfl⟩
  rw [← hM19] at A9 o19 n19
  have n19 : M19.2.1 = r + 10 := n19
  have p19 := (o19.2 r (np r 9 1 (by decide))).trans p18
  have A1 := (o19.2 _ (nq r 1 9 1 (by decide))).trans A1
  have A2 := (o19.2 _ (nq r 2 9 1 (by decide))).trans A2
  have A3 := (o19.2 _ (nq r 3 9 1 (by decide))).trans A3
  have A4 := (o19.2 _ (nq r 4 9 1 (by decide))).trans A4
  have A5 := (o19.2 _ (nq r 5 9 1 (by decide))).trans A5
  have A6 := (o19.2 _ (nq r 6 9 1 (by decide))).trans A6
  have A7 := (o19.2 _ (nq r 7 9 1 (by decide))).trans A7
  have A8 := (o19.2 _ (nq r 8 9 1 (by decide))).trans A8
  obtain ⟨M20, e20, p20, o20, q20⟩ := pv_e p19 (i := 23) (Nat.le_of_ble_eq_true rfl) (.ref (r + 9))
  have n20 : M20.2.1 = r + 10 := (congrArg Prod.fst q20).trans n19
  have A1 := (o20.2 _ (nq0 r 1 1 (by decide))).trans A1
  have A2 := (o20.2 _ (nq0 r 2 1 (by decide))).trans A2
  have A3 := (o20.2 _ (nq0 r 3 1 (by decide))).trans A3
  have A4 := (o20.2 _ (nq0 r 4 1 (by decide))).trans A4
  have A5 := (o20.2 _ (nq0 r 5 1 (by decide))).trans A5
  have A6 := (o20.2 _ (nq0 r 6 1 (by decide))).trans A6
  have A7 := (o20.2 _ (nq0 r 7 1 (by decide))).trans A7
  have A8 := (o20.2 _ (nq0 r 8 1 (by decide))).trans A8
  have A9 := (o20.2 _ (nq0 r 9 1 (by decide))).trans A9
  have al21 := al_e n20 (Nat.succ_ne_zero _)
  obtain ⟨A10, o21, n21⟩ := mk_e n20 (.inl (1, (4836, .inr (.inl (fun _ => 0)))))
  obtain ⟨M21, hM21⟩ : ∃ M21, M21 = mnew M20 (.inl (1, (4836, .inr (.inl (fun _ => 0))))) := ⟨_, rfl⟩
  rw [← hM21] at A10 o21 n21
  have n21 : M21.2.1 = r + 11 := n21
  have p21 := (o21.2 r (np r 10 1 (by decide))).trans p20
  have A1 := (o21.2 _ (nq r 1 10 1 (by decide))).trans A1
  have A2 := (o21.2 _ (nq r 2 10 1 (by decide))).trans A2
  have A3 := (o21.2 _ (nq r 3 10 1 (by decide))).trans A3
  have A4 := (o21.2 _ (nq r 4 10 1 (by decide))).trans A4
  have A5 := (o21.2 _ (nq r 5 10 1 (by decide))).trans A5
  have A6 := (o21.2 _ (nq r 6 10 1 (by decide))).trans A6
  have A7 := (o21.2 _ (nq r 7 10 1 (by decide))).trans A7
  have A8 := (o21.2 _ (nq r 8 10 1 (by decide))).trans A8
  have A9 := (o21.2 _ (nq r 9 10 1 (by decide))).trans A9
  obtain ⟨M22, e22, p22, o22, q22⟩ := pv_e p21 (i := 24) (Nat.le_of_ble_eq_true rfl) (.ref (r + 10))
  have n22 : M22.2.1 = r + 11 := (congrArg Prod.fst q22).trans n21
  have A1 := (o22.2 _ (nq0 r 1 1 (by decide))).trans A1
  have A2 := (o22.2 _ (nq0 r 2 1 (by decide))).trans A2
  have A3 := (o22.2 _ (nq0 r 3 1 (by decide))).trans A3
  have A4 := (o22.2 _ (nq0 r 4 1 (by decide))).trans A4
  have A5 := (o22.2 _ (nq0 r 5 1 (by decide))).trans A5
  have A6 := (o22.2 _ (nq0 r 6 1 (by decide))).trans A6
  have A7 := (o22.2 _ (nq0 r 7 1 (by decide))).trans A7
  have A8 := (o22.2 _ (nq0 r 8 1 (by decide))).trans A8
  have A9 := (o22.2 _ (nq0 r 9 1 (by decide))).trans A9
  have A10 := (o22.2 _ (nq0 r 10 1 (by decide))).trans A10
  have al23 := al_e n22 (Nat.succ_ne_zero _)
  obtain ⟨A11, o23, n23⟩ := mk_e n22 (.inl (2, (12000, .inl (fun _ => 0))))
  obtain ⟨M23, hM23⟩ : ∃ M23, M23 = mnew M22 (.inl (2, (12000, .inl (fun _ => 0)))) := ⟨_, rfl⟩
  rw [← hM23] at A11 o23 n23
  have n23 : M23.2.1 = r + 12 := n23
  have p23 := (o23.2 r (np r 11 1 (by decide))).trans p22
  have A1 := (o23.2 _ (nq r 1 11 1 (by decide))).trans A1
  have A2 := (o23.2 _ (nq r 2 11 1 (by decide))).trans A2
  have A3 := (o23.2 _ (nq r 3 11 1 (by decide))).trans A3
  have A4 := (o23.2 _ (nq r 4 11 1 (by decide))).trans A4
  have A5 := (o23.2 _ (nq r 5 11 1 (by decide))).trans A5
  have A6 := (o23.2 _ (nq r 6 11 1 (by decide))).trans A6
  have A7 := (o23.2 _ (nq r 7 11 1 (by decide))).trans A7
  have A8 := (o23.2 _ (nq r 8 11 1 (by decide))).trans A8
  have A9 := (o23.2 _ (nq r 9 11 1 (by decide))).trans A9
  have A10 := (o23.2 _ (nq r 10 11 1 (by decide))).trans A10
  obtain ⟨M24, e24, p24, o24, q24⟩ := pv_e p23 (i := 26) (Nat.le_of_ble_eq_true rfl) (.ref (r + 11))
  have n24 : M24.2.1 = r + 12 := (congrArg Prod.fst q24).trans n23
  have A1 := (o24.2 _ (nq0 r 1 1 (by decide))).trans A1
  have A2 := (o24.2 _ (nq0 r 2 1 (by decide))).trans A2
  have A3 := (o24.2 _ (nq0 r 3 1 (by decide))).trans A3
  have A4 := (o24.2 _ (nq0 r 4 1 (by decide))).trans A4
  have A5 := (o24.2 _ (nq0 r 5 1 (by decide))).trans A5
  have A6 := (o24.2 _ (nq0 r 6 1 (by decide))).trans A6
  have A7 := (o24.2 _ (nq0 r 7 1 (by decide))).trans A7
  have A8 := (o24.2 _ (nq0 r 8 1 (by decide))).trans A8
  have A9 := (o24.2 _ (nq0 r 9 1 (by decide))).trans A9
  have A10 := (o24.2 _ (nq0 r 10 1 (by decide))).trans A10
  have A11 := (o24.2 _ (nq0 r 11 1 (by decide))).trans A11
  have gb : gR M24 11 1 r = some (r + 1) := by rw [gR_h p24]; rfl
  obtain ⟨M25, e25, A', o25, q25⟩ := sj_e (i := 0) A1 (k := 0) (by decide) (by decide) (by decide) (30 : Int64)
  have n25 : M25.2.1 = r + 12 := (congrArg Prod.fst q25).trans n24
  have p25 := (o25.2 r (np r 1 1 (by decide))).trans p24
  have A2 := (o25.2 _ (nq r 2 1 1 (by decide))).trans A2
  have A3 := (o25.2 _ (nq r 3 1 1 (by decide))).trans A3
  have A4 := (o25.2 _ (nq r 4 1 1 (by decide))).trans A4
  have A5 := (o25.2 _ (nq r 5 1 1 (by decide))).trans A5
  have A6 := (o25.2 _ (nq r 6 1 1 (by decide))).trans A6
  have A7 := (o25.2 _ (nq r 7 1 1 (by decide))).trans A7
  have A8 := (o25.2 _ (nq r 8 1 1 (by decide))).trans A8
  have A9 := (o25.2 _ (nq r 9 1 1 (by decide))).trans A9
  have A10 := (o25.2 _ (nq r 10 1 1 (by decide))).trans A10
  have A11 := (o25.2 _ (nq r 11 1 1 (by decide))).trans A11
  have A1 := A'
  have oo : off M M25 r 12 := ((((((((((((((((((((((((((o0.wide (Nat.le_refl r) (nw0 r 1 12 (by decide))).trans (o1.wide (Nat.le_add_right r 1) (nw2 r 1 1 12 (by decide)))).trans (o2.wide (Nat.le_refl r) (nw0 r 1 12 (by decide)))).trans (o3.wide (Nat.le_add_right r 2) (nw2 r 2 1 12 (by decide)))).trans (o4.wide (Nat.le_refl r) (nw0 r 1 12 (by decide)))).trans (o5.wide (Nat.le_refl r) (nw0 r 1 12 (by decide)))).trans (o6.wide (Nat.le_add_right r 3) (nw2 r 3 1 12 (by decide)))).trans (o7.wide (Nat.le_refl r) (nw0 r 1 12 (by decide)))).trans (o8.wide (Nat.le_add_right r 4) (nw2 r 4 1 12 (by decide)))).trans (o9.wide (Nat.le_refl r) (nw0 r 1 12 (by decide)))).trans (o10.wide (Nat.le_add_right r 5) (nw2 r 5 1 12 (by decide)))).trans (o11.wide (Nat.le_refl r) (nw0 r 1 12 (by decide)))).trans (o12.wide (Nat.le_refl r) (nw0 r 1 12 (by decide)))).trans (o13.wide (Nat.le_add_right r 6) (nw2 r 6 1 12 (by decide)))).trans (o14.wide (Nat.le_refl r) (nw0 r 1 12 (by decide)))).trans (o15.wide (Nat.le_add_right r 7) (nw2 r 7 1 12 (by decide)))).trans (o16.wide (Nat.le_refl r) (nw0 r 1 12 (by decide)))).trans (o17.wide (Nat.le_add_right r 8) (nw2 r 8 1 12 (by decide)))).trans (o18.wide (Nat.le_refl r) (nw0 r 1 12 (by decide)))).trans (o19.wide (Nat.le_add_right r 9) (nw2 r 9 1 12 (by decide)))).trans (o20.wide (Nat.le_refl r) (nw0 r 1 12 (by decide)))).trans (o21.wide (Nat.le_add_right r 10) (nw2 r 10 1 12 (by decide)))).trans (o22.wide (Nat.le_refl r) (nw0 r 1 12 (by decide)))).trans (o23.wide (Nat.le_add_right r 11) (nw2 r 11 1 12 (by decide)))).trans (o24.wide (Nat.le_refl r) (nw0 r 1 12 (by decide)))).trans (o25.wide (Nat.le_add_right r 1) (nw2 r 1 1 12 (by decide))))
  refine ⟨M25, ?_, rA.of (fun i hi => match i, hi with | 0, _ => p25 | 1, _ => A1 | 2, _ => A2 | 3, _ => A3 | 4, _ => A4 | 5, _ => A5 | 6, _ => A6 | 7, _ => A7 | 8, _ => A8 | 9, _ => A9 | 10, _ => A10 | 11, _ => A11), oo, n25⟩
  simp only [f_X12_init, ob_h p0, al1, ← hM1, e2, al3, ← hM3, e4, ga, e5, al6, ← hM6, e7, al8, ← hM8, e9, al10, ← hM10, e11, e12, al13, ← hM13, e14, al15, ← hM15, e16, al17, ← hM17, e18, al19, ← hM19, e20, al21, ← hM21, e22, al23, ← hM23, e24, gb, e25, bso]
theorem Ref00 (H : Nat → St) : Ref R00 [] [] S00 (fun _ => S00) (fun _ => false) 0 H [] (0, -1) := by
  refine ⟨rfl, ⟨by decide, by decide, by decide, Nat.zero_le 3, Nat.zero_le 4, fun b hb => absurd hb (Nat.not_lt_zero b), fun s hs => absurd hs (Nat.not_lt_zero s)⟩, ⟨rfl, Nat.zero_le 6, fun i hi => absurd hi (Nat.not_lt_zero i)⟩, ⟨rfl, fun i hi => absurd hi (Nat.not_lt_zero i)⟩, ⟨rfl, fun i hi => absurd hi (Nat.not_lt_zero i)⟩, ⟨rfl, fun i hi => absurd hi (Nat.not_lt_zero i)⟩, ⟨rfl, rfl⟩, fun j hj => ⟨rfl, fun z => nomatch z⟩⟩
theorem okW00 (H : Nat → St) : okW 0 [] [] S00 (fun _ => S00) (fun _ => false) 0 H [] := by
  refine ⟨⟨Nat.zero_le _, fun x hx => nomatch hx⟩, ⟨Nat.zero_le _, fun x hx => nomatch hx⟩, ⟨⟨30, rfl, by omega, by omega⟩, ⟨Nat.zero_le 3, Nat.zero_le 4⟩, fun b hb => absurd hb (Nat.not_lt_zero b), fun s hs => absurd hs (Nat.not_lt_zero s)⟩, fun j hj hB => absurd hB Bool.false_ne_true, fun i hi => absurd hi (Nat.not_lt_zero i), Nat.zero_le _, fun x hx => nomatch hx⟩
