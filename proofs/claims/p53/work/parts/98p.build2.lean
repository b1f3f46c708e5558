/-! PURE, p53: numbers put behind; builders made; texts made of builders -/
def dgs (n : Nat) : List Int32 := if n < 10 then [nI (48 + n)] else if n < 100 then [nI (48 + n / 10), nI (48 + n % 10)] else [nI (48 + n / 100), nI (48 + n % 100 / 10), nI (48 + n % 10)]
theorem dgs_len (n : Nat) : (dgs n).length = if n < 10 then 1 else if n < 100 then 2 else 3 := by
  unfold dgs
  split
  · rfl
  · split <;> rfl
theorem dgs_3 (n : Nat) : (dgs n).length ≤ 3 := by
  rw [dgs_len]
  split
  · omega
  · split <;> omega
theorem dgs_asc {n : Nat} (h : n < 1000) : asc (dgs n) := by
  intro x hx
  unfold dgs at hx
  split at hx
  · rw [List.mem_singleton.mp hx]; exact ⟨_, by omega, rfl⟩
  · split at hx
    · rcases List.mem_cons.mp hx with rfl | hx
      · exact ⟨_, by omega, rfl⟩
      · rw [List.mem_singleton.mp hx]; exact ⟨_, by omega, rfl⟩
    · rcases List.mem_cons.mp hx with rfl | hx
      · exact ⟨_, by omega, rfl⟩
      · rcases List.mem_cons.mp hx with rfl | hx
        · exact ⟨_, by omega, rfl⟩
        · rw [List.mem_singleton.mp hx]; exact ⟨_, by omega, rfl⟩
theorem asc_nar2 : ∀ d, d < 128 → vp_nar .byte (nI d) = nI d := by decide +kernel
theorem in_sz : ∀ n, n < 1000 → decide (-(nI n) ≤ (-10 : Int32)) = decide (10 ≤ n) ∧ decide (-(nI n) ≤ (10 : Int32) * (-10)) = decide (100 ≤ n) ∧ decide (-(nI n) ≤ (10 : Int32) * ((10 : Int32) * (-10))) = false := by decide +kernel
theorem in_lo : ∀ n, n < 100 → decide ((-100 : Int32) < -(nI n)) = true ∧ -(-(nI n)) = nI n ∧ decide ((-9 : Int32) ≤ -(nI n)) = decide (n < 10) := by decide +kernel
theorem in_hi : ∀ n, n < 1000 → 100 ≤ n → decide ((-100 : Int32) < -(nI n)) = false ∧ (-(nI n) / 100 * 100) - -(nI n) = nI (n % 100) ∧ -(nI n) / 100 = -(nI (n / 100)) := by decide +kernel
theorem in_dg : ∀ n, n < 100 → dgO.getD n 0 = nI (48 + n % 10) ∧ dgT.getD n 0 = nI (48 + n / 10) := by decide +kernel
theorem bI_90 {M : Mem} {n : Nat} (h : n < 100) : bI M 90 (nI n) = some (nI (48 + n % 10)) ∧ bI M 91 (nI n) = some (nI (48 + n / 10)) := by
  obtain ⟨d1, d2⟩ := in_dg n h
  have c90 : cB 90 = some dgO := by decide +kernel
  have c91 : cB 91 = some dgT := by decide +kernel
  have l90 : dgO.length = 100 := by decide +kernel
  have l91 : dgT.length = 100 := by decide +kernel
  unfold bI
  rw [c90, c91]
  constructor
  · show (if inR (nI n) dgO.length = true then some (dgO.getD (nI n).toNatClampNeg 0) else none) = _
    rw [l90, if_pos (inR_nx h (by omega)), nI_c (by omega), d1]
  · show (if inR (nI n) dgT.length = true then some (dgT.getD (nI n).toNatClampNeg 0) else none) = _
    rw [l91, if_pos (inR_nx h (by omega)), nI_c (by omega), d2]
theorem ssz_e {M : Mem} {n : Nat} (h : n < 1000) : f_J6_stringSize_0f7a4 (nI n) M = some (nI (dgs n).length) := by
  obtain ⟨s1, s2, s3⟩ := in_sz n h
  have n0 : ¬ nI n < 0 := Int32.not_lt.mpr (nI_ge0 (by omega))
  have key : ∀ fu, f_J6_stringSize_0f7a4_16 (fu + 1 + 1 + 1) (-(nI n)) false (-10) 1 M = some (nI (dgs n).length) := by
    intro fu
    rw [dgs_len]
    have u : ∀ fu l2 l3, f_J6_stringSize_0f7a4_16 (fu + 1) (-(nI n)) false l2 l3 M = if 10 ≤ l3 then some (10 + (b2i false)) else if -(nI n) ≤ l2 then f_J6_stringSize_0f7a4_16 fu (-(nI n)) false (10 * l2) (l3 + 1) M else some (l3 + b2i false) := fun fu l2 l3 => by rw [f_J6_stringSize_0f7a4_16]
    rw [u, if_neg (by decide)]
    by_cases a : 10 ≤ n
    · rw [if_pos (of_decide_eq_true (by rw [s1]; exact decide_eq_true a)), u, if_neg (by decide), if_neg (show ¬ n < 10 by omega)]
      by_cases b : 100 ≤ n
      · rw [if_pos (of_decide_eq_true (by rw [s2]; exact decide_eq_true b)), u, if_neg (by decide), if_neg (of_decide_eq_false s3), if_neg (show ¬ n < 100 by omega)]
        rfl
      · rw [if_neg (of_decide_eq_false (by rw [s2]; exact decide_eq_false b)), if_pos (show n < 100 by omega)]
        rfl
    · rw [if_neg (of_decide_eq_false (by rw [s1]; exact decide_eq_false a)), if_pos (show n < 10 by omega)]
      rfl
  obtain ⟨fu, hfu⟩ : ∃ fu, FU = fu + 1 + 1 + 1 := ⟨5997, FU_eq⟩
  unfold f_J6_stringSize_0f7a4
  rw [if_neg n0]
  unfold f_J6_stringSize_0f7a4_11
  rw [hfu]
  exact key fu
/-- the digits, written from behind -/
theorem gch_e {M : Mem} {a cap p n : Nat} {f : Nat → Int32} (hcap : cap ≤ 1024) (hf : M.1 a = some (.inl (2, (cap, .inl f)))) (hn : n < 1000) (hp : p + (dgs n).length ≤ cap) :
    ∃ x M' f', f_J6_getChars_ba4f3 (nI n) (nI (p + (dgs n).length)) a M = some (x, M') ∧ M'.1 a = some (.inl (2, (cap, .inl f'))) ∧ (∀ j, f' j = if p ≤ j ∧ j < p + (dgs n).length then (dgs n).getD (j - p) 0 else f j) ∧ M'.2 = M.2 ∧ ∀ q, q ≠ a → M'.1 q = M.1 q := by
  have n0 : (0 : Int32) ≤ nI n := nI_ge0 (by omega)
  have pm : ∀ k, 1 ≤ k → nI k + -1 = nI (k - 1) := fun k hk => by
    have := nI_sub1 hk
    rw [← this, Int32.sub_eq_add_neg]
  have u : ∀ fu l0 l5 (M : Mem), f_J6_getChars_ba4f3_22 (fu + 1) l0 a l5 false M = if (-100) < l0 then (
      (bI M 90 (-l0)).bind fun x1 =>
      (sI M 2 a (l5 + (-1)) (vp_nar .byte x1)).bind fun M2 =>
      if (-9) ≤ l0 then (
        f_J6_getChars_ba4f3_104 a (l5 + (-1)) false M2
      ) else (
        (bI M2 91 (-l0)).bind fun x4 =>
        (sI M2 2 a ((l5 + (-1)) + (-1)) (vp_nar .byte x4)).bind fun M5 =>
        f_J6_getChars_ba4f3_104 a ((l5 + (-1)) + (-1)) false M5
      )
    ) else (
      (bI M 90 (((l0 / 100) * 100) - l0)).bind fun x6 =>
      (sI M 2 a (l5 + (-1)) (vp_nar .byte x6)).bind fun M7 =>
      (bI M7 91 (((l0 / 100) * 100) - l0)).bind fun x8 =>
      (sI M7 2 a ((l5 + (-1)) + (-1)) (vp_nar .byte x8)).bind fun M9 =>
      (f_J6_getChars_ba4f3_22 fu) (l0 / 100) a ((l5 + (-1)) + (-1)) false M9
    ) := fun fu l0 l5 M => by rw [f_J6_getChars_ba4f3_22]
  have st : ∀ (M : Mem) (g : Nat → Int32) (k d : Nat), M.1 a = some (.inl (2, (cap, .inl g))) → k < cap → d < 128 → sI M 2 a (nI k) (vp_nar .byte (nI d)) = some (mset M a (.inl (2, (cap, .inl (upd g k (nI d)))))) := fun M g k d hg hk hd => byA_set hcap hg hk (asc_nar2 d hd)
  have one : ∀ fu (M : Mem) (g : Nat → Int32) (k m : Nat), M.1 a = some (.inl (2, (cap, .inl g))) → k < cap → m < 10 → f_J6_getChars_ba4f3_22 (fu + 1) (-(nI m)) a (nI (k + 1)) false M = some (nI k, mset M a (.inl (2, (cap, .inl (upd g k (nI (48 + m))))))) := by
    intro fu M g k m hg hk hm
    obtain ⟨t1, t2, t3⟩ := in_lo m (by omega)
    rw [u, if_pos (of_decide_eq_true t1), t2, (bI_90 (show m < 100 by omega)).1, pm (k + 1) (by omega), Nat.add_sub_cancel]
    simp only [bso]
    rw [show 48 + m % 10 = 48 + m by omega, st M g k (48 + m) hg hk (by omega)]
    simp only [bso]
    rw [if_pos (of_decide_eq_true (by rw [t3]; exact decide_eq_true hm))]
    rfl
  obtain ⟨fu, hfu⟩ : ∃ fu, FU = fu + 1 + 1 := ⟨5998, FU_eq⟩
  have hst : f_J6_getChars_ba4f3 (nI n) (nI (p + (dgs n).length)) a M = f_J6_getChars_ba4f3_22 (fu + 1 + 1) (-(nI n)) a (nI (p + (dgs n).length)) false M := by
    unfold f_J6_getChars_ba4f3
    rw [if_pos n0]
    unfold f_J6_getChars_ba4f3_12
    rw [cond_false, hfu]
  rw [hst]
  rw [dgs_len] at hp ⊢
  by_cases a1 : n < 10
  · rw [if_pos a1] at hp ⊢
    refine ⟨_, _, _, one (fu + 1) M f p n hf (by omega) a1, mset_at _ _ _, fun j => ?_, rfl, fun q hq => mset_ne _ _ hq⟩
    have hd : dgs n = [nI (48 + n)] := if_pos a1
    rw [hd]
    by_cases e : j = p
    · rw [e, upd_s, if_pos ⟨Nat.le_refl _, by omega⟩, Nat.sub_self]; rfl
    · rw [upd_n _ _ e, if_neg (by omega)]
  · rw [if_neg a1] at hp ⊢
    by_cases a2 : n < 100
    · rw [if_pos a2] at hp ⊢
      obtain ⟨t1, t2, t3⟩ := in_lo n a2
      have hd : dgs n = [nI (48 + n / 10), nI (48 + n % 10)] := by unfold dgs; rw [if_neg a1, if_pos a2]
      have hrun : f_J6_getChars_ba4f3_22 (fu + 1 + 1) (-(nI n)) a (nI (p + 2)) false M = some (nI p, mset (mset M a (.inl (2, (cap, .inl (upd f (p + 1) (nI (48 + n % 10))))))) a (.inl (2, (cap, .inl (upd (upd f (p + 1) (nI (48 + n % 10))) p (nI (48 + n / 10))))))) := by
        rw [u, if_pos (of_decide_eq_true t1), t2, (bI_90 a2).1, pm (p + 2) (by omega), show p + 2 - 1 = p + 1 from rfl]
        simp only [bso]
        rw [st M f (p + 1) (48 + n % 10) hf (by omega) (by omega)]
        simp only [bso]
        rw [if_neg (of_decide_eq_false (by rw [t3]; exact decide_eq_false a1)), (bI_90 a2).2, pm (p + 1) (by omega), Nat.add_sub_cancel]
        simp only [bso]
        rw [st _ _ p (48 + n / 10) (mset_at _ _ _) (by omega) (by omega)]
        rfl
      refine ⟨_, _, _, hrun, mset_at _ _ _, fun j => ?_, rfl, fun q hq => (mset_ne _ _ hq).trans (mset_ne _ _ hq)⟩
      rw [hd]
      by_cases e : j = p
      · rw [e, upd_s, if_pos ⟨Nat.le_refl _, by omega⟩, Nat.sub_self]; rfl
      · rw [upd_n _ _ e]
        by_cases e2 : j = p + 1
        · rw [e2, upd_s, if_pos ⟨by omega, by omega⟩, Nat.add_sub_cancel_left]; rfl
        · rw [upd_n _ _ e2, if_neg (by omega)]
    · rw [if_neg a2] at hp ⊢
      obtain ⟨t1, t2, t3⟩ := in_hi n hn (by omega)
      have hd : dgs n = [nI (48 + n / 100), nI (48 + n % 100 / 10), nI (48 + n % 10)] := by unfold dgs; rw [if_neg a1, if_neg a2]
      have m100 : n % 100 < 100 := Nat.mod_lt _ (by omega)
      have m10 : n % 100 % 10 = n % 10 := by omega
      obtain ⟨g2, hg2⟩ : ∃ g2, g2 = upd (upd f (p + 2) (nI (48 + n % 10))) (p + 1) (nI (48 + n % 100 / 10)) := ⟨_, rfl⟩
      obtain ⟨M2, hM2⟩ : ∃ M2, M2 = mset (mset M a (.inl (2, (cap, .inl (upd f (p + 2) (nI (48 + n % 10))))))) a (.inl (2, (cap, .inl g2))) := ⟨_, rfl⟩
      have hrun : f_J6_getChars_ba4f3_22 (fu + 1 + 1) (-(nI n)) a (nI (p + 3)) false M = f_J6_getChars_ba4f3_22 (fu + 1) (-(nI (n / 100))) a (nI (p + 1)) false M2 := by
        rw [u, if_neg (of_decide_eq_false t1), t2, t3, (bI_90 m100).1, pm (p + 3) (by omega), show p + 3 - 1 = p + 2 from rfl, m10]
        simp only [bso]
        rw [st M f (p + 2) (48 + n % 10) hf (by omega) (by omega)]
        simp only [bso]
        rw [(bI_90 m100).2, pm (p + 2) (by omega), show p + 2 - 1 = p + 1 from rfl]
        simp only [bso]
        rw [st _ _ (p + 1) (48 + n % 100 / 10) (mset_at _ _ _) (by omega) (by omega), hM2, hg2]
        rfl
      refine ⟨_, _, _, hrun.trans (one fu M2 g2 p (n / 100) (by rw [hM2]; exact mset_at _ _ _) (by omega) (by omega)), mset_at _ _ _, fun j => ?_, by rw [hM2]; rfl, fun q hq => (mset_ne _ _ hq).trans (by rw [hM2]; exact (mset_ne _ _ hq).trans (mset_ne _ _ hq))⟩
      rw [hd]
      by_cases e : j = p
      · rw [e, upd_s, if_pos ⟨Nat.le_refl _, by omega⟩, Nat.sub_self]; rfl
      · rw [upd_n _ _ e, hg2]
        by_cases e2 : j = p + 1
        · rw [e2, upd_s, if_pos ⟨by omega, by omega⟩, Nat.add_sub_cancel_left]; rfl
        · rw [upd_n _ _ e2]
          by_cases e3 : j = p + 2
          · rw [e3, upd_s, if_pos ⟨by omega, by omega⟩, Nat.add_sub_cancel_left]; rfl
          · rw [upd_n _ _ e3, if_neg (by omega)]
/-- a number put behind -/
theorem sb_int {M : Mem} {r a cap n : Nat} {l : List Int32} (h : sbA M r a cap l) (hn : n < 1000) (h1 : l.length + (dgs n).length ≤ cap ∨ (l.length + (dgs n).length ≤ 2 * cap + 2 ∧ 2 * cap + 2 ≤ 1024)) :
    ∃ M' a' cap', f_J4_append_bf812 r (nI n) M = some (r, M') ∧ sbA M' r a' cap' (l ++ dgs n) ∧ ((cap' = cap ∧ l.length + (dgs n).length ≤ cap) ∨ (cap' = 2 * cap + 2 ∧ cap < l.length + (dgs n).length)) ∧ (a' = a ∨ M.2.1 ≤ a') ∧ keepB M M' r a := by
  obtain ⟨⟨z0, p0⟩, -, hr0, ha0⟩ := id h
  obtain ⟨M1, a1, cap1, e1, h1', c1, c2, c3, k1, k2, k3⟩ := ens_e h (mn := l.length + (dgs n).length) h1
  have hne1 := h1'.ne
  obtain ⟨⟨z, p⟩, ⟨b1, b2, f, b3, b4, b5⟩, hr, ha⟩ := id h1'
  obtain ⟨x, M2, f2, e2, z2, v2, w2, q2⟩ := gch_e (p := l.length) b2 b3 hn c1
  have gL0 : gI M 12 3 r = some (nI l.length) := by rw [gI_h p0]; rfl
  have g0 : gR M1 12 0 r = some a1 := by rw [gR_h p]; rfl
  have g1 : gI M1 12 1 r = some 0 := by rw [gI_h p]; rfl
  have p2 : M2.1 r = some (.inr (12, [.ref a1, .int 0, z, .int (nI l.length)])) := (q2 r hne1).trans p
  obtain ⟨M3, hM3⟩ : ∃ M3, M3 = mset M2 r (.inr (12, [.ref a1, .int 0, z, .int (nI (l ++ dgs n).length)])) := ⟨_, rfl⟩
  have hp3 : pV M2 12 3 r (.int (nI l.length + nI (dgs n).length)) = some M3 := by
    rw [pV_h p2 (Nat.le_of_ble_eq_true rfl), hM3, nI_add, List.length_append]; rfl
  have w3 : M3.2 = M1.2 := by rw [hM3]; exact w2
  refine ⟨M3, a1, cap1, ?_, ⟨⟨z, by rw [hM3, mset_at]⟩, ⟨by rw [List.length_append]; exact c1, b2, f2, by rw [hM3, mset_ne _ _ (fun y => hne1 y.symm)]; exact z2, fun j hj => ?_, fun j hj => ?_⟩, by rw [w3]; exact hr, by rw [w3]; exact ha⟩, c2, c3, by rw [w3]; exact k1, by rw [w3]; exact k2, fun q q1 q2' q3 => ?_⟩
  · have e1' : f_J5_ensureCapacityInternal_d00df r (nI l.length + nI (dgs n).length) M = some M1 := by rw [nI_add]; exact e1
    have e2' : f_J6_getChars_ba4f3 (nI n) (nI l.length + nI (dgs n).length) a1 M1 = some (x, M2) := by rw [nI_add]; exact e2
    have hlat : f_J5_isLatin1_aae02 r M1 = some true := by
      rw [f_J5_isLatin1_aae02, ob_h p]
      simp only [g1, bso, if_true]
    rw [f_J4_append_bf812, ob_h p0, f_J5_append_c97b9, ob_h p0]
    simp only [gL0, ssz_e hn, e1', hlat, g0, e2', hp3, bso, cond_true]
  · rw [List.length_append] at hj
    rw [app_getD, v2]
    by_cases y : j < l.length
    · rw [if_neg (by omega), if_pos y]; exact b4 j y
    · rw [if_pos ⟨by omega, by omega⟩, if_neg y]
  · rw [v2]
    split
    · exact asc_fit (dgs_asc hn) (by omega)
    · exact b5 j hj
  · have : q ≠ a1 := by rcases c3 with c3 | c3 <;> omega
    rw [hM3, mset_ne _ _ q2', q2 q this]
    exact k3 q q1 q2' q3
/-- a builder without a text -/
theorem sb_new {M : Mem} (hn : 716 ≤ M.2.1) : ∃ M', f_J4_init_da8c8 M.2.1 (mnew M (.inr (12, [.null, .int 0, .int 0, .int 0]))) = some M' ∧ sbA M' M.2.1 (M.2.1 + 1) 16 [] ∧ M'.2 = (M.2.1 + 2, M.2.2) ∧ ∀ q, q < M.2.1 → M'.1 q = M.1 q := by
  obtain ⟨n, hn'⟩ : ∃ n, n = M.2.1 := ⟨_, rfl⟩
  obtain ⟨M1, hM1⟩ : ∃ M1, M1 = mnew M (.inr (12, [.null, .int 0, .int 0, .int 0])) := ⟨_, rfl⟩
  have p1 : M1.1 n = some (.inr (12, [.null, .int 0, .int 0, .int 0])) := by rw [hM1, hn']; exact if_pos rfl
  have k1 : ∀ q, q ≠ n → M1.1 q = M.1 q := fun q hq => by rw [hM1]; exact mnew_ne _ (by rw [← hn']; exact hq)
  have w1 : M1.2 = (n + 1, M.2.2) := by rw [hM1, hn']; rfl
  have al : alc M1 = some (n + 1) := by rw [alc_e (by rw [w1]; show n + 1 ≠ 0; omega), w1]
  obtain ⟨M2, hM2⟩ : ∃ M2, M2 = mnew M1 (.inl (2, (16, .inl (fun _ => 0)))) := ⟨_, rfl⟩
  have e1 : M1.2.1 = n + 1 := by rw [w1]
  have z2 : M2.1 (n + 1) = some (.inl (2, (16, .inl (fun _ => 0)))) := by rw [hM2, ← e1]; exact if_pos rfl
  have k2 : ∀ q, q ≠ n + 1 → M2.1 q = M1.1 q := fun q hq => by rw [hM2]; exact mnew_ne _ (by rw [e1]; exact hq)
  have w2 : M2.2 = (n + 2, M.2.2) := by rw [hM2]; show (M1.2.1 + 1, M1.2.2) = _; rw [w1]
  have p2 := (k2 n (by omega)).trans p1
  obtain ⟨M3, hM3⟩ : ∃ M3, M3 = mset M2 n (.inr (12, [.ref (n + 1), .int 0, .int 0, .int 0])) := ⟨_, rfl⟩
  have e3 : pV M2 12 0 n (.ref (n + 1)) = some M3 := by rw [pV_h p2 (Nat.le_of_ble_eq_true rfl), hM3]; rfl
  have p3 : M3.1 n = some (.inr (12, [.ref (n + 1), .int 0, .int 0, .int 0])) := by rw [hM3, mset_at]
  obtain ⟨M4, hM4⟩ : ∃ M4, M4 = mset M3 n (.inr (12, [.ref (n + 1), .int 0, .int 0, .int 0])) := ⟨_, rfl⟩
  have e4 : pV M3 12 1 n (.int 0) = some M4 := by rw [pV_h p3 (Nat.le_of_ble_eq_true rfl), hM4]; rfl
  have w4 : M4.2 = (n + 2, M.2.2) := by rw [hM4, hM3]; exact w2
  rw [← hn', ← hM1]
  refine ⟨M4, ?_, ⟨⟨.int 0, by rw [hM4, mset_at]; rfl⟩, ⟨Nat.zero_le _, by omega, fun _ => 0, by rw [hM4, mset_ne _ _ (by omega), hM3, mset_ne _ _ (by omega)]; exact z2, fun j hj => absurd hj (Nat.not_lt_zero j), fun _ _ => fitB_n 0 (by omega)⟩, by rw [w4]; exact ⟨by omega, by show n < n + 2; omega⟩, by rw [w4]; exact ⟨by omega, by show n + 1 < n + 2; omega⟩⟩, w4, fun q hq => ?_⟩
  · have ok16 : okN 1024 16 = true := by decide
    have cn16 : (16 : Int32).toNatClampNeg = 16 := by decide
    have isb : isB 0 = true := by decide
    rw [f_J4_init_da8c8, ob_h p1, f_J5_init_d00df, ob_h p1]
    simp only [ok16, gd, cond_true, al, bso, cn16, ← hM2, e3, isb, e4]
  · rw [hM4, mset_ne _ _ (by omega), hM3, mset_ne _ _ (by omega), k2 q (by omega), k1 q (by omega)]
/-- a builder with a text -/
theorem sb_newS {M : Mem} {s : Nat} {t : List Int32} (hn : 716 ≤ M.2.1) (hs : strA M s t) (hc : strc s = true) (ht : t.length ≤ 100) (hno : M.1 s = none) :
    ∃ M' a, f_J4_init_a7421 M.2.1 s (mnew M (.inr (12, [.null, .int 0, .int 0, .int 0]))) = some M' ∧ sbA M' M.2.1 a (t.length + 16) t ∧ M'.2.2 = M.2.2 ∧ M.2.1 ≤ M'.2.1 ∧ ∀ q, q < M.2.1 → M'.1 q = M.1 q := by
  obtain ⟨n, hn'⟩ : ∃ n, n = M.2.1 := ⟨_, rfl⟩
  have hsx : ∀ M : Mem, strA M s t := fun M => ⟨hs.1, hs.2.1, .inl ⟨hc, by
    rcases hs.2.2 with w | ⟨w, -⟩
    · exact w.2
    · rw [strc_hi w] at hc; cases hc⟩⟩
  obtain ⟨M1, hM1⟩ : ∃ M1, M1 = mnew M (.inr (12, [.null, .int 0, .int 0, .int 0])) := ⟨_, rfl⟩
  have p1 : M1.1 n = some (.inr (12, [.null, .int 0, .int 0, .int 0])) := by rw [hM1, hn']; exact if_pos rfl
  have k1 : ∀ q, q ≠ n → M1.1 q = M.1 q := fun q hq => by rw [hM1]; exact mnew_ne _ (by rw [← hn']; exact hq)
  have w1 : M1.2 = (n + 1, M.2.2) := by rw [hM1, hn']; rfl
  obtain ⟨M2, hM2⟩ : ∃ M2, M2 = mset M1 n (.inr (12, [.null, .int 0, .int 0, .int 0])) := ⟨_, rfl⟩
  have e2 : pV M1 12 1 n (.int 0) = some M2 := by rw [pV_h p1 (Nat.le_of_ble_eq_true rfl), hM2]; rfl
  have w2 : M2.2 = (n + 1, M.2.2) := by rw [hM2]; exact w1
  have e21 : M2.2.1 = n + 1 := by rw [w2]
  have al : alc M2 = some (n + 1) := by rw [alc_e (by rw [e21]; omega), e21]
  obtain ⟨M3, hM3⟩ : ∃ M3, M3 = mnew M2 (.inl (2, (t.length + 16, .inl (fun _ => 0)))) := ⟨_, rfl⟩
  have z3 : M3.1 (n + 1) = some (.inl (2, (t.length + 16, .inl (fun _ => 0)))) := by rw [hM3, ← e21]; exact if_pos rfl
  have k3 : ∀ q, q ≠ n + 1 → M3.1 q = M2.1 q := fun q hq => by rw [hM3]; exact mnew_ne _ (by rw [e21]; exact hq)
  have w3 : M3.2 = (n + 2, M.2.2) := by rw [hM3]; show (M2.2.1 + 1, M2.2.2) = _; rw [w2]
  have p3 : M3.1 n = some (.inr (12, [.null, .int 0, .int 0, .int 0])) := by rw [k3 n (by omega), hM2, mset_at]
  obtain ⟨M4, hM4⟩ : ∃ M4, M4 = mset M3 n (.inr (12, [.ref (n + 1), .int 0, .int 0, .int 0])) := ⟨_, rfl⟩
  have e4 : pV M3 12 0 n (.ref (n + 1)) = some M4 := by rw [pV_h p3 (Nat.le_of_ble_eq_true rfl), hM4]; rfl
  have w4 : M4.2 = (n + 2, M.2.2) := by rw [hM4]; exact w3
  have p4 : M4.1 n = some (.inr (12, [.ref (n + 1), .int 0, .int 0, .int (nI ([] : List Int32).length)])) := by rw [hM4, mset_at]; rfl
  have h4 : sbA M4 n (n + 1) (t.length + 16) [] := ⟨⟨.int 0, p4⟩, ⟨Nat.zero_le _, by omega, fun _ => 0, by rw [hM4, mset_ne _ _ (by omega)]; exact z3, fun j hj => absurd hj (Nat.not_lt_zero j), fun _ _ => fitB_n 0 (by omega)⟩, by rw [w4]; exact ⟨by omega, by show n < n + 2; omega⟩, by rw [w4]; exact ⟨by omega, by show n + 1 < n + 2; omega⟩⟩
  have hs100 : s < 100 := by
    rcases strc_of hc with ⟨i, hi, rfl⟩ | ⟨i, hi, rfl⟩ <;> omega
  obtain ⟨M5, a5, cap5, e5, h5, c5, d5, g1, g2, g3⟩ := sb_str h4 (hsx M4) (by omega) (fun v z w y => by
    have y2 : M.1 s = some (.inr (11, [.ref v, .int 0, z, w])) := by
      rw [← y, hM4, mset_ne _ _ (by omega), k3 s (by omega), hM2, mset_ne _ _ (by omega), k1 s (by omega)]
    rw [hno] at y2; cases y2) (.inl (by show 0 + t.length ≤ t.length + 16; omega))
  have hc5 : cap5 = t.length + 16 := by
    rcases c5 with ⟨c, -⟩ | ⟨-, c⟩
    · exact c
    · have c : t.length + 16 < 0 + t.length := c
      omega
  rw [List.nil_append, hc5] at h5
  rw [w4] at g1 g2 g3
  rw [← hn', ← hM1]
  refine ⟨M5, a5, ?_, h5, g2, by have g1 : n + 2 ≤ M5.2.1 := g1; omega, fun q hq => ?_⟩
  · have x1 : ¬ 2147483631 ≤ nI t.length := by
      have : ((2147483631 : Int32) ≤ nI t.length) = (2147483631 ≤ t.length) := leI (x := 2147483631) (a := 2147483631) rfl rfl (by omega) (by omega)
      rw [this]; omega
    have x2 : nI t.length + 16 = nI (t.length + 16) := nI_add _ 16
    have isb : isB 0 = true := by decide
    rw [f_J4_init_a7421, ob_h p1, f_J5_init_a7421, ob_h p1]
    simp only [str_len (hsx M1), bso]
    rw [if_neg x1]
    simp only [f_J5_init_a7421_24, str_coder (hsx M1), bso, gd, isb, cond_true, e2, if_true, x2, okN_n (show t.length + 16 ≤ 1024 by omega) (show t.length + 16 < 2 ^ 31 by omega), al, nI_c (show t.length + 16 < 2 ^ 31 by omega), ← hM3, e4]
    rw [f_J4_append_cf1ce, ob_h p4]
    simp only [e5, bso]
  · have g3 := g3 q (show q < n + 2 by omega) (by omega) (by omega)
    rw [g3, hM4, mset_ne _ _ (by omega), k3 q (by omega), hM2, mset_ne _ _ (by omega), k1 q (by omega)]
