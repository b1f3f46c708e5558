/-! PURE: the law's other calls, and its loop -/
theorem sD_h {M : Mem} {r t n : Nat} {f : Nat → UInt64} (h : M.1 r = some (.inl (t, (n, .inr (.inr (.inr (.inl f))))))) {i : Int32} (hi : inR i n = true) (x : UInt64) : sD M t r i x = some (mset M r (.inl (t, (n, .inr (.inr (.inr (.inl (vf_upd f i.toNatClampNeg x)))))))) := by
  unfold sD
  rw [h]
  simp [hi]
theorem aD_h {M : Mem} {r t n : Nat} {f : Nat → UInt64} (h : M.1 r = some (.inl (t, (n, .inr (.inr (.inr (.inl f))))))) {i : Int32} (hi : inR i n = true) : aD M t r i = some (f i.toNatClampNeg) := by
  unfold aD
  rw [h]
  simp [hi]
def atJ (M : Mem) (x : Int64) : Prop := ∃ g : Nat → Int64, M.1 728 = some (.inl (1, (1, .inr (.inl g)))) ∧ g 0 = x
def atD (M : Mem) (x : UInt64) : Prop := ∃ g : Nat → UInt64, M.1 729 = some (.inl (4, (1, .inr (.inr (.inr (.inl g)))))) ∧ g 0 = x
theorem atJ.a {M : Mem} {x : Int64} (h : atJ M x) : aJ M 1 728 0 = some x := by
  obtain ⟨g, hg, h0⟩ := h
  rw [aJ_h hg (i := 0) (by decide)]
  exact congrArg some h0
theorem atD.a {M : Mem} {x : UInt64} (h : atD M x) : aD M 4 729 0 = some x := by
  obtain ⟨g, hg, h0⟩ := h
  rw [aD_h hg (i := 0) (by decide)]
  exact congrArg some h0
theorem put_J {M : Mem} (A : Aux M) (x : Int64) : ∃ M2, sJ M 1 728 0 x = some M2 ∧ off M M2 728 2 ∧ Aux M2 ∧ atJ M2 x := by
  obtain ⟨⟨g, hg⟩, g2, hg2⟩ := A
  have o2 : off M (mset M 728 (.inl (1, (1, .inr (.inl (vp_updL g 0 x)))))) 728 1 := off_set _ _ _
  refine ⟨mset M 728 (.inl (1, (1, .inr (.inl (vp_updL g 0 x))))), ?_, o2.wide (by omega) (by omega), ⟨⟨_, mset_at _ _ _⟩, g2, (o2.2 729 (by omega)).trans hg2⟩, vp_updL g 0 x, mset_at _ _ _, pk_uLs ..⟩
  rw [sJ_h hg (i := 0) (by decide)]
  rfl
theorem put_D {M : Mem} (A : Aux M) (x : UInt64) : ∃ M2, sD M 4 729 0 x = some M2 ∧ off M M2 728 2 ∧ Aux M2 ∧ atD M2 x := by
  obtain ⟨⟨g, hg⟩, g2, hg2⟩ := A
  have o2 : off M (mset M 729 (.inl (4, (1, .inr (.inr (.inr (.inl (vf_upd g2 0 x)))))))) 729 1 := off_set _ _ _
  refine ⟨mset M 729 (.inl (4, (1, .inr (.inr (.inr (.inl (vf_upd g2 0 x))))))), ?_, o2.wide (by omega) (by omega), ⟨⟨g, (o2.2 728 (by omega)).trans hg⟩, _, mset_at _ _ _⟩, vf_upd g2 0 x, mset_at _ _ _, if_pos rfl⟩
  rw [sD_h hg2 (i := 0) (by decide)]
  rfl
section
variable {M : Mem} {R : Rs} {I O : List Int32} {S : St} {K : Nat → St} {B : Nat → Bool} {C : Nat} {H : Nat → St} {N : List Nt} {E : Er} {c : Nat}
theorem BothG.go {α : Type} {fX : Option ((α ⊕ String) × Mem)} {gX : Mem → Option (α × Mem)} {hs : List (String × Int32)} {Q : α → Prop} {kk : α → Mem → Option (Int32 × Mem)} {P : α → Mem → Prop}
    (hk : ∀ x M1, Q x → Aux M1 → ∃ M2, kk x M1 = some (0, M2) ∧ off M1 M2 728 2 ∧ Aux M2 ∧ P x M2) (hp : ∀ x M R, P x M → P x (ov M 716 R)) (hrA : rA M 716 R) (hA : Aux M) (b : BothG fX gX M R hs c Q) :
    ∃ t M2 v M3, bH hs fX kk = some (t, M2) ∧ M2.2.2 = M.2.2 ∧ gX M2 = some (v, M3) ∧ f_X12_thrown 716 M3 = some t ∧ (t = 0 → Q v ∧ P v M3) ∧ M3.2.2 = M.2.2 ∧ Rel c M3 := by
  obtain ⟨t, v, I', O', S', K', B', C', H', N', E', ⟨o, M1, e1, o1, c1, d⟩, hR, hW⟩ := b
  have A1 := hA.off o1
  have r1 : rA M1 716 R := hrA.sm (o1.same (by omega))
  rcases d with ⟨rfl, rfl, q⟩ | ⟨Ex, rfl, h1, h2⟩
  · obtain ⟨M2, e2, o2, A2, p2⟩ := hk v M1 q A1
    have r2 : ov M2 716 R = M2 := r1.sm (o2.same (by omega))
    obtain ⟨b, R', e3, t3, v3, p3⟩ := hR M2
    rw [r2] at e3
    have hb : b = v := v3 rfl
    subst hb
    exact ⟨0, M2, b, ov M2 716 R', by rw [bH_l e1]; exact e2, o2.1.trans o1.1, e3, by rw [thrown_e, t3], fun _ => ⟨q, hp _ _ _ p2⟩, o2.1.trans o1.1, R', I', O', S', K', B', C', H', N', E', rA.ov M2 716 R', (c1.sm (o2.same (by omega))).sm (ov_same M2 R'), p3, hW, A2.ov R'⟩
  · have r2 : ov M1 716 R = M1 := r1
    obtain ⟨b, R', e3, t3, v3, p3⟩ := hR M1
    rw [r2] at e3
    exact ⟨t, M1, b, ov M1 716 R', bH_r e1 h1 _, o1.1, e3, by rw [thrown_e, t3], fun z => absurd z h2, o1.1, R', I', O', S', K', B', C', H', N', E', rA.ov M1 716 R', c1.sm (ov_same M1 R'), p3, hW, A1.ov R'⟩
end
theorem atJ.ov {M : Mem} {x : Int64} (h : atJ M x) (R : Rs) : atJ (ov M 716 R) x := by
  obtain ⟨g, hg, h0⟩ := h
  exact ⟨g, (ov_out M 716 R (by omega)).trans hg, h0⟩
theorem atD.ov {M : Mem} {x : UInt64} (h : atD M x) (R : Rs) : atD (ov M 716 R) x := by
  obtain ⟨g, hg, h0⟩ := h
  exact ⟨g, (ov_out M 716 R (by omega)).trans hg, h0⟩
theorem blk_364 : Step f_L_law_364 := by
  intro rc c k L xs M hc hk hL hM hR
  obtain ⟨R, I, O, S, K, B, C, H, N, E, hrA, h, hr, w, hA⟩ := hR
  obtain ⟨t, I', ⟨o, M1, e1, o1, c1, hd⟩, hR', w'⟩ := cs_truncate h hr w (xs (k + 1))
  obtain ⟨R', f1, t1, r1⟩ := hR' M1
  have r2 : ov M1 716 R = M1 := hrA.sm (o1.same (by omega))
  rw [r2] at f1
  have e : f_L_truncate 100 (xs (k + 1)) M = some (t, M1) := by
    rcases hd with ⟨rfl, rfl⟩ | ⟨Ex, rfl, h1, h2⟩
    · exact bH_l e1 _
    · exact bH_r e1 h1 _
  have a1 : sC M 42 (nI k + 1) = some (xs (k + 1)) := sc_at (i := 1) hM (show k + 1 < L by omega) hL
  have b1 : sC M1 42 (nI k + 1) = some (xs (k + 1)) := sc_at (i := 1) (o1.1.trans hM) (show k + 1 < L by omega) hL
  have th : f_X12_thrown 716 (ov M1 716 R') = some t := by rw [thrown_e, t1]
  refine ⟨ov M1 716 R', ?_, o1.1.trans hM, R', I', O, S, K, B, C, H, N, E, rA.ov M1 716 R', c1.sm (ov_same M1 R'), r1, w', (hA.off o1).ov R'⟩
  simp only [f_L_law_364, a1, e, b1, f1, th, bso, if_true]
  rfl
theorem blk_1077 : Step f_L_law_1077 := by
  intro rc c k L xs M hc hk hL hM hR
  obtain ⟨R, I, O, S, K, B, C, H, N, E, hrA, h, hr, w, hA⟩ := hR
  have hk' : ∀ (x : Bool) (M1 : Mem), True → Aux M1 → ∃ M2, (bif x then ((sJ M1 1 728 0 1).bind fun M4 => some ((0 : Int32), M4)) else ((sJ M1 1 728 0 0).bind fun M3 => some (0, M3))) = some (0, M2) ∧ off M1 M2 728 2 ∧ Aux M2 ∧ atJ M2 (bif x then 1 else 0) := fun x M1 _ A => by
    cases x with
    | true =>
      obtain ⟨M2, e, o, A2, p⟩ := put_J A 1
      exact ⟨M2, by rw [cond_true, e]; rfl, o, A2, p⟩
    | false =>
      obtain ⟨M2, e, o, A2, p⟩ := put_J A 0
      exact ⟨M2, by rw [cond_false, e]; rfl, o, A2, p⟩
  obtain ⟨t, M2, v, M3, e1, m2, e2, e3, e4, m3, r3⟩ := (cs_isCurrent h hr w (xs (k + 1))).go (P := fun x M => atJ M (bif x then 1 else 0)) hk' (fun x M R p => p.ov R) hrA hA
  have e1 : f_L_isCurrent 100 (xs (k + 1)) 728 M = some (t, M2) := e1
  have a1 : sC M 42 (nI k + 1) = some (xs (k + 1)) := sc_at (i := 1) hM (show k + 1 < L by omega) hL
  have b1 : sC M2 42 (nI k + 1) = some (xs (k + 1)) := sc_at (i := 1) (m2.trans hM) (show k + 1 < L by omega) hL
  refine ⟨M3, ?_, m3.trans hM, r3⟩
  simp only [f_L_law_1077, a1, e1, b1, e2, e3, bso, if_true]
  by_cases z : t = 0
  · have p := (e4 z).2.a
    rw [if_pos z, p]
    cases v with
    | true =>
      show f_L_law_1131 rc 42 100 716 728 729 (nI k) 1 1 M3 = _
      rw [f_L_law_1131, if_pos (by decide)]; rfl
    | false =>
      show f_L_law_1131 rc 42 100 716 728 729 (nI k) 0 0 M3 = _
      rw [f_L_law_1131, if_pos (by decide)]; rfl
  · rw [if_neg z]; rfl
theorem blk_2358 : Step f_L_law_2358 := by
  intro rc c k L xs M hc hk hL hM hR
  obtain ⟨R, I, O, S, K, B, C, H, N, E, hrA, h, hr, w, hA⟩ := hR
  have hk' : ∀ (x : Int64) (M1 : Mem), True → Aux M1 → ∃ M2, ((sJ M1 1 728 0 x).bind fun M3 => some ((0 : Int32), M3)) = some (0, M2) ∧ off M1 M2 728 2 ∧ Aux M2 ∧ atJ M2 x := fun x M1 _ A => by
    obtain ⟨M2, e, o, A2, p⟩ := put_J A x
    exact ⟨M2, by rw [e]; rfl, o, A2, p⟩
  obtain ⟨t, M2, v, M3, e1, m2, e2, e3, e4, m3, r3⟩ := (BothG.ofJ (cs_search h hr w (xs (k + 1)))).go (P := fun x M => atJ M x) hk' (fun x M R p => p.ov R) hrA hA
  have e1 : f_L_search 100 (xs (k + 1)) 728 M = some (t, M2) := e1
  have a1 : sC M 42 (nI k + 1) = some (xs (k + 1)) := sc_at (i := 1) hM (show k + 1 < L by omega) hL
  have b1 : sC M2 42 (nI k + 1) = some (xs (k + 1)) := sc_at (i := 1) (m2.trans hM) (show k + 1 < L by omega) hL
  refine ⟨M3, ?_, m3.trans hM, r3⟩
  simp only [f_L_law_2358, a1, e1, b1, e2, e3, bso, if_true]
  by_cases z : t = 0
  · have p := (e4 z).2.a
    rw [if_pos z, p]
    exact if_pos ((lg_cmp_eq v v).mpr rfl)
  · rw [if_neg z]; rfl
theorem blk_1401 (fl : FLq) : Step f_L_law_1401 := by
  intro rc c k L xs M hc hk hL hM hR
  obtain ⟨R, I, O, S, K, B, C, H, N, E, hrA, h, hr, w, hA⟩ := hR
  have hk' : ∀ (x : UInt32) (M1 : Mem), nn32 x → Aux M1 → ∃ M2, (nf64 (FP.f2d x) ((sD M1 4 729 0 (FP.f2d x)).bind fun M3 => some ((0 : Int32), M3))) = some (0, M2) ∧ off M1 M2 728 2 ∧ Aux M2 ∧ atD M2 (FP.f2d x) := fun x M1 q A => by
    obtain ⟨M2, e, o, A2, p⟩ := put_D A (FP.f2d x)
    refine ⟨M2, ?_, o, A2, p⟩
    have q2 : nn64 (FP.f2d x) := fl.2.2.1 x q
    unfold nf64
    rw [e]
    exact if_pos q2
  obtain ⟨t, M2, v, M3, e1, m2, e2, e3, e4, m3, r3⟩ := (cs_unseen fl h hr w (xs (k + 1))).go (P := fun x M => atD M (FP.f2d x)) hk' (fun x M R p => p.ov R) hrA hA
  have e1 : f_L_unseen 100 (xs (k + 1)) 729 M = some (t, M2) := e1
  have a1 : sC M 42 (nI k + 1) = some (xs (k + 1)) := sc_at (i := 1) hM (show k + 1 < L by omega) hL
  have b1 : sC M2 42 (nI k + 1) = some (xs (k + 1)) := sc_at (i := 1) (m2.trans hM) (show k + 1 < L by omega) hL
  refine ⟨M3, ?_, m3.trans hM, r3⟩
  simp only [f_L_law_1401, a1, e1, b1, e2, e3, bso, if_true]
  by_cases z : t = 0
  · obtain ⟨q, p⟩ := e4 z
    have q2 : nn64 (FP.f2d v) := fl.2.2.1 v q
    have d := fl.2.2.2 _ q2
    have p := p.a
    rw [if_pos z]
    simp only [p, bso, d]
    unfold nf64
    rw [if_pos (show FP.f2d v &&& 0x7fffffffffffffff ≤ 0x7ff0000000000000 from q2), if_pos (by decide)]
    rfl
  · rw [if_neg z]; rfl
theorem blk_1479 (fl : FLq) : Step f_L_law_1479 := by
  intro rc c k L xs M hc hk hL hM hR
  obtain ⟨R, I, O, S, K, B, C, H, N, E, hrA, h, hr, w, hA⟩ := hR
  have hk' : ∀ (x : UInt64) (M1 : Mem), nn64 x → Aux M1 → ∃ M2, ((sD M1 4 729 0 x).bind fun M3 => some ((0 : Int32), M3)) = some (0, M2) ∧ off M1 M2 728 2 ∧ Aux M2 ∧ atD M2 x := fun x M1 q A => by
    obtain ⟨M2, e, o, A2, p⟩ := put_D A x
    exact ⟨M2, by rw [e]; rfl, o, A2, p⟩
  obtain ⟨t, M2, v, M3, e1, m2, e2, e3, e4, m3, r3⟩ := (cs_mean fl h hr w (xs (k + 1))).go (P := fun x M => atD M x) hk' (fun x M R p => p.ov R) hrA hA
  have e1 : f_L_mean 100 (xs (k + 1)) 729 M = some (t, M2) := e1
  have a1 : sC M 42 (nI k + 1) = some (xs (k + 1)) := sc_at (i := 1) hM (show k + 1 < L by omega) hL
  have b1 : sC M2 42 (nI k + 1) = some (xs (k + 1)) := sc_at (i := 1) (m2.trans hM) (show k + 1 < L by omega) hL
  refine ⟨M3, ?_, m3.trans hM, r3⟩
  simp only [f_L_law_1479, a1, e1, b1, e2, e3, bso, if_true]
  by_cases z : t = 0
  · obtain ⟨q, p⟩ := e4 z
    have d := fl.2.2.2 _ q
    have p := p.a
    rw [if_pos z]
    simp only [p, bso, d]
    rw [if_pos (by decide)]
    rfl
  · rw [if_neg z]; rfl
theorem blk_3275 : Step f_L_law_3275 := by
  intro rc c k L xs M hc hk hL hM hR
  refine ⟨M, rfl, hM, ?_⟩
  obtain ⟨R, I, O, S, K, B, C, H, N, E, hrA, h, hr, w, hA⟩ := hR
  exact ⟨R, I, O, S, K, B, C, H, N, E, hrA, h, hr, w.up (Nat.le_succ c), hA⟩
theorem law_end {L c : Nat} (hL : L ≤ 3584) (hc : c ≤ 600) : (nI L - 7 < nI (7 * c)) = (L < 7 * c + 7) := by
  by_cases e : 7 ≤ L
  · have : nI L - 7 = nI (L - 7) := nI_sub (b := 7) e
    rw [this, nI_ltI (by omega) (by omega)]
    exact propext ⟨fun h => by omega, fun h => by omega⟩
  · have h1 : nI L - 7 < 0 := by
      have : ∀ n, n < 7 → nI n - 7 < 0 := by decide +kernel
      exact this L (by omega)
    exact propext ⟨fun _ => by omega, fun _ => Int32.lt_of_lt_of_le h1 (nI_ge0 (by omega))⟩
theorem law_loop (fl : FLq) {L : Nat} {xs : Nat → Int32} (hL : L ≤ 3584) : ∀ (d c fu : Nat) (M : Mem), c + d = 513 → d < fu → M.2.2 = (L, xs) → Rel c M → ∃ M', f_L_law_28 fu 42 100 716 728 729 (nI (7 * c)) M = some (true, M') := by
  intro d
  induction d with
  | zero =>
    intro c fu M hc hf hM hR
    obtain ⟨fu, rfl⟩ : ∃ x, fu = x + 1 := ⟨fu - 1, by omega⟩
    have hs : sL M 42 = some (nI L) := by unfold sL; rw [if_pos rfl, hM]; rfl
    refine ⟨M, ?_⟩
    simp only [f_L_law_28, hs, bso]
    rw [if_pos (by rw [law_end hL (by omega)]; omega)]
  | succ d ih =>
    intro c fu M hc hf hM hR
    obtain ⟨fu, rfl⟩ : ∃ x, fu = x + 1 := ⟨fu - 1, by omega⟩
    have hs : sL M 42 = some (nI L) := by unfold sL; rw [if_pos rfl, hM]; rfl
    by_cases e : L < 7 * c + 7
    · refine ⟨M, ?_⟩
      simp only [f_L_law_28, hs, bso]
      rw [if_pos (by rw [law_end hL (by omega)]; exact e)]
    · have h0 : sC M 42 (nI (7 * c)) = some (xs (7 * c)) := by
        have := sc_at (i := 0) hM (k := 7 * c) (by omega) hL
        rw [nI_0, Int32.add_zero] at this
        exact this
      have go : ∀ {b : Blk}, Step b → ∃ M', b (f_L_law_28 fu) 42 100 716 728 729 (nI (7 * c)) M = some (true, M') := fun {b} st => by
        obtain ⟨M1, e1, m1, r1⟩ := st (f_L_law_28 fu) c (7 * c) L xs M (by omega) (by omega) hL hM hR
        obtain ⟨M2, e2⟩ := ih (c + 1) fu M1 (by omega) (by omega) m1 r1
        have h7 : nI (7 * c) + 7 = nI (7 * (c + 1)) := nI_add (7 * c) 7
        rw [h7, e2] at e1
        exact ⟨M2, e1⟩
      simp only [f_L_law_28, hs, h0, bso]
      rw [if_neg (by rw [law_end hL (by omega)]; exact e)]
      obtain ⟨x, hx⟩ : ∃ x, x = xs (7 * c) &&& 63 := ⟨_, rfl⟩
      rw [← hx]
      by_cases h0 : x = 0
      · rw [if_pos h0]; exact go blk_260
      rw [if_neg h0]
      by_cases h1 : x = 1
      · rw [if_pos h1]; exact go blk_364
      rw [if_neg h1]
      by_cases h2 : x = 2
      · rw [if_pos h2]; exact go blk_400
      rw [if_neg h2]
      by_cases h3 : x = 3
      · rw [if_pos h3]; exact go blk_413
      rw [if_neg h3]
      by_cases h4 : x = 4
      · rw [if_pos h4]; exact go blk_426
      rw [if_neg h4]
      by_cases h5 : x = 5
      · rw [if_pos h5]; exact go blk_439
      rw [if_neg h5]
      by_cases h6 : x = 6
      · rw [if_pos h6]; exact go blk_452
      rw [if_neg h6]
      by_cases h7 : x = 7
      · rw [if_pos h7]; exact go blk_465
      rw [if_neg h7]
      by_cases h8 : x = 8
      · rw [if_pos h8]; exact go blk_521
      rw [if_neg h8]
      by_cases h9 : x = 9
      · rw [if_pos h9]; exact go blk_589
      rw [if_neg h9]
      by_cases h10 : x = 10
      · rw [if_pos h10]; exact go blk_669
      rw [if_neg h10]
      by_cases h11 : x = 11
      · rw [if_pos h11]; exact go blk_737
      rw [if_neg h11]
      by_cases h12 : x = 12
      · rw [if_pos h12]; exact go blk_805
      rw [if_neg h12]
      by_cases h13 : x = 13
      · rw [if_pos h13]; exact go blk_885
      rw [if_neg h13]
      by_cases h14 : x = 14
      · rw [if_pos h14]; exact go blk_953
      rw [if_neg h14]
      by_cases h15 : x = 15
      · rw [if_pos h15]; exact go blk_1021
      rw [if_neg h15]
      by_cases h16 : x = 16
      · rw [if_pos h16]; exact go blk_1077
      rw [if_neg h16]
      by_cases h17 : x = 17
      · rw [if_pos h17]; exact go blk_1140
      rw [if_neg h17]
      by_cases h18 : x = 18
      · rw [if_pos h18]; exact go blk_1196
      rw [if_neg h18]
      by_cases h19 : x = 19
      · rw [if_pos h19]; exact go blk_1252
      rw [if_neg h19]
      by_cases h20 : x = 20
      · rw [if_pos h20]; exact go blk_1320
      rw [if_neg h20]
      by_cases h21 : x = 21
      · rw [if_pos h21]; exact go blk_1388
      rw [if_neg h21]
      by_cases h22 : x = 22
      · rw [if_pos h22]; exact go (blk_1401 fl)
      rw [if_neg h22]
      by_cases h23 : x = 23
      · rw [if_pos h23]; exact go (blk_1479 fl)
      rw [if_neg h23]
      by_cases h24 : x = 24
      · rw [if_pos h24]; exact go blk_1556
      rw [if_neg h24]
      by_cases h25 : x = 25
      · rw [if_pos h25]; exact go blk_1624
      rw [if_neg h25]
      by_cases h26 : x = 26
      · rw [if_pos h26]; exact go blk_1692
      rw [if_neg h26]
      by_cases h27 : x = 27
      · rw [if_pos h27]; exact go blk_1748
      rw [if_neg h27]
      by_cases h28 : x = 28
      · rw [if_pos h28]; exact go blk_1844
      rw [if_neg h28]
      by_cases h29 : x = 29
      · rw [if_pos h29]; exact go blk_1900
      rw [if_neg h29]
      by_cases h30 : x = 30
      · rw [if_pos h30]; exact go blk_1956
      rw [if_neg h30]
      by_cases h31 : x = 31
      · rw [if_pos h31]; exact go blk_2012
      rw [if_neg h31]
      by_cases h32 : x = 32
      · rw [if_pos h32]; exact go blk_2120
      rw [if_neg h32]
      by_cases h33 : x = 33
      · rw [if_pos h33]; exact go blk_2254
      rw [if_neg h33]
      by_cases h34 : x = 34
      · rw [if_pos h34]; exact go blk_2358
      rw [if_neg h34]
      by_cases h35 : x = 35
      · rw [if_pos h35]; exact go blk_2413
      rw [if_neg h35]
      by_cases h36 : x = 36
      · rw [if_pos h36]; exact go blk_2469
      rw [if_neg h36]
      by_cases h37 : x = 37
      · rw [if_pos h37]; exact go blk_2549
      rw [if_neg h37]
      by_cases h38 : x = 38
      · rw [if_pos h38]; exact go blk_2641
      rw [if_neg h38]
      by_cases h39 : x = 39
      · rw [if_pos h39]; exact go blk_2733
      rw [if_neg h39]
      by_cases h40 : x = 40
      · rw [if_pos h40]; exact go blk_2789
      rw [if_neg h40]
      by_cases h41 : x = 41
      · rw [if_pos h41]; exact go blk_2869
      rw [if_neg h41]
      by_cases h42 : x = 42
      · rw [if_pos h42]; exact go blk_2925
      rw [if_neg h42]
      by_cases h43 : x = 43
      · rw [if_pos h43]; exact go blk_2981
      rw [if_neg h43]
      by_cases h44 : x = 44
      · rw [if_pos h44]; exact go blk_3037
      rw [if_neg h44]
      by_cases h45 : x = 45
      · rw [if_pos h45]; exact go blk_3081
      rw [if_neg h45]
      by_cases h46 : x = 46
      · rw [if_pos h46]; exact go blk_3094
      rw [if_neg h46]
      by_cases h47 : x = 47
      · rw [if_pos h47]; exact go blk_3150
      rw [if_neg h47]
      by_cases h48 : x = 48
      · rw [if_pos h48]; exact go blk_3206
      rw [if_neg h48]
      by_cases h49 : x = 49
      · rw [if_pos h49]; exact go blk_3219
      rw [if_neg h49]
      exact go blk_3275
