/-! PURE: the law's walk comes to true -/
/-- the start: nothing of its own, the script -/
def M0 (L : Nat) (xs : Nat → Int32) : Mem := (fun _ => none, 100, L, xs)
/-- what is owed of the walk's function -/
def PureLaw : Prop := ∀ (L : Nat) (xs : Nat → Int32), L ≤ 3584 → ∃ M1, f_L_law 42 (M0 L xs) = some (true, M1)
theorem mnew_same {M : Mem} {n : Nat} (h : M.2.1 = n) (c : PC) : off M (mnew M c) n 1 := (mk_e h c).2.1
theorem pure_law (fl : FLq) : PureLaw := by
  intro L xs hL
  have h0 : (M0 L xs).2.1 = 100 := rfl
  obtain ⟨M3, e3, c3, o3, n3⟩ := X11_i h0 (by decide) rfl (fun _ => S00)
  have n3 : M3.2.1 = 716 := n3
  obtain ⟨M6, e6, r6, o6, n6⟩ := X12_i n3 (by decide)
  have n6 : M6.2.1 = 728 := n6
  have c6 := c3.sm (o6.same (by omega))
  obtain ⟨a7, o7, n7⟩ := mk_e n6 (.inl (1, (1, .inr (.inl (fun _ => 0)))))
  have n7 : (mnew M6 (.inl (1, (1, .inr (.inl (fun _ => 0)))))).2.1 = 729 := n7
  obtain ⟨a8, o8, n8⟩ := mk_e n7 (.inl (4, (1, .inr (.inr (.inr (.inl (fun _ => 0)))))))
  obtain ⟨M8, hM8⟩ : ∃ M8, M8 = mnew (mnew M6 (.inl (1, (1, .inr (.inl (fun _ => 0)))))) (.inl (4, (1, .inr (.inr (.inr (.inl (fun _ => 0))))))) := ⟨_, rfl⟩
  rw [← hM8] at a8 o8
  have c8 := (c6.sm (o7.same (by omega))).sm (o8.same (by omega))
  have r8 : rA M8 716 R00 := (r6.sm (o7.same (by omega))).sm (o8.same (by omega))
  have A8 : Aux M8 := ⟨⟨_, (o8.2 728 (by omega)).trans a7⟩, _, a8⟩
  have hM : M8.2.2 = (L, xs) := o8.1.trans (o7.1.trans (o6.1.trans o3.1))
  have hR : Rel 0 M8 := ⟨R00, [], [], S00, fun _ => S00, fun _ => false, 0, fun _ => S00, [], (0, -1), r8, c8, Ref00 _, okW00 _, A8⟩
  obtain ⟨M', e⟩ := law_loop fl hL 513 0 FU M8 (by omega) (by rw [FU_eq]; omega) hM hR
  have e : f_L_law_28 FU 42 100 716 728 729 0 M8 = some (true, M') := e
  refine ⟨M', ?_⟩
  have l0 := al_e h0 (by decide)
  have l3 := al_e n3 (by decide)
  have l6 := al_e n6 (by decide)
  have l7 := al_e n7 (by decide)
  simp only [f_L_law, l0, e3, l3, e6, l6, l7, bso, ← hM8]
  exact e
