/-! PURE: the reference loads a text whole -/
section
variable {M : Mem} {m : Nat} {R : Rs} {l : List Int32} {S0 S : St} {cnt : Nat} {hk : Nat → St}
/-- behind the reading -/
theorem load_91_F {c p : Int32} (h : rF R l c p) : f_X12_load_91 m (ov M m R) = some (-4, ov M m (rsW R false)) := by
  simp only [f_X12_load_91, X12_good_F h, bso, cond_false, load_102_F h]
theorem hsR.cg {R R' : Rs} (h : hsR R cnt hk) (e1 : R'.1 25 = R.1 25) (e2 : R'.2.2.1 10 = R.2.2.1 10) : hsR R' cnt hk := ⟨e1.trans h.1, h.2.1, fun i hi => by rw [e2]; exact h.2.2 i hi⟩
theorem load_91_L {P : Ps} (h : rL R l P.1) (hd : dR R P) (hp : pOK P.2.1) (hN : R.2.1 = true) (hn : rep (R.2.2.1 1) S0) (hh : hsR R cnt hk) :
    ∃ R', f_X12_load_91 m (ov M m R) = some (nI (cntN P.2.1), ov M m R') ∧ R'.2.1 = false ∧ rep (rowf R') (entS P.2.1) ∧ hsR R' (if cnt < 6 then cnt + 1 else 6) (fun i => if i = 0 then S0 else hk (i - 1)) ∧ R'.1 5 = 0 ∧ (∀ k, k ≠ 5 → k ≠ 25 → R'.1 k = R.1 k) ∧ R'.2.2.1 8 = R.2.2.1 8 ∧ R'.2.2.2 = R.2.2.2 := by
  obtain ⟨f', e1, h1⟩ := selAll_e (M := M) (m := m) hp hd.1 hd.2.1
  have hN2 : rowN R = 2 := by rw [rowN, hN]; rfl
  have hRR : rsR R f' = rsJ R 2 f' := by rw [rsR, hN2]
  have h6 : rL (rsR R f') l P.1 := h.d (dk.R R f') (fun _ _ _ => rfl)
  have hn6 : rep ((rsR R f').2.2.1 1) S0 := by
    rw [hRR]
    have : (rsJ R 2 f').2.2.1 1 = R.2.2.1 1 := rfl
    rw [this]; exact hn
  have hh6 : hsR (rsR R f') cnt hk := by
    rw [hRR]; exact hh.cg rfl rfl
  obtain ⟨R', e2, q1, q2, q3, q4, q5, q6, q7⟩ := load_102_L (M := M) (m := m) h6 hn6 hh6
  have h17 : (rsR R f').1 17 = nI (cntN P.2.1) := hd.2.2.2.2.2.1
  refine ⟨R', ?_, q1, ?_, q3, q4, fun k k5 k25 => (q5 k k5 k25).trans rfl, ?_, q7⟩
  · simp only [f_X12_load_91, X12_good_L h, bso, cond_true, e1, e2, h17]
  · refine h1.ext (fun q hq => ?_)
    rw [q2 q hq, hRR, rsJ_at]
  · rw [q6 8 (by decide) (by decide), hRR]
    rfl
theorem X12_load_e (hrep : rep (rowf R) S0) (hw : R.2.1 = false) (hh : hsR R cnt hk) (h8 : R.1 8 = nI l.length) (hl : l.length ≤ 700) (h5 : ∀ k, k < l.length → R.2.2.2 5 k = l.getD k 0) (hy : byR l) :
    ∃ v R', f_X12_load m (ov M m R) = some (v, ov M m R') ∧ R'.2.1 = false ∧ (R'.1 0 = 0 ∧ R'.1 8 = 0 ∧ R'.1 27 = R.1 27) ∧ (∀ a, a ≠ 6 → a ≠ 7 → R'.2.2.2 a = R.2.2.2 a) ∧ R'.2.2.1 8 = R.2.2.1 8 ∧
      (match pTxt l (clr S) with
        | .inl P => v = nI (cntN P.2.1) ∧ R'.1 14 = 0 ∧ R'.1 15 = -1 ∧ R'.1 5 = 0 ∧ rep (rowf R') (entS P.2.1) ∧ hsR R' (if cnt < 6 then cnt + 1 else 6) (fun i => if i = 0 then S0 else hk (i - 1))
        | .inr e => v = -4 ∧ R'.1 14 = e.1 ∧ R'.1 15 = e.2 ∧ e.1 ≠ 0 ∧ R'.1 5 = R.1 5 ∧ rowf R' = rowf R ∧ hsR R' cnt hk) := by
  obtain ⟨R1, hR1⟩ : ∃ R1, R1 = rsS (rsS (rsS R 0 0) 16 (b2i false)) 17 0 := ⟨_, rfl⟩
  have f1 : ∀ k, k ≠ 0 → k ≠ 16 → k ≠ 17 → R1.1 k = R.1 k := fun k k0 k1 k2 => by
    rw [hR1]
    show va_up (va_up (va_up R.1 0 _) 16 _) 17 _ k = R.1 k
    rw [va_up_n _ _ k2, va_up_n _ _ k1, va_up_n _ _ k0]
  have g1 : R1.1 0 = 0 ∧ R1.1 16 = b2i false ∧ R1.1 17 = 0 ∧ R1.2 = R.2 := by rw [hR1]; exact ⟨rfl, rfl, rfl, rfl⟩
  obtain ⟨p', e2, z2⟩ := load_17_e (M := M) (m := m) 806 0 FU R1 (by omega) (by rw [FU_eq]; omega) (fun q hq => absurd hq (Nat.not_lt_zero q))
  have e2 : f_X12_load_17 FU m 0 (ov M m R1) = f_X12_load_17 1 m 806 (ov M m (rsJ R1 2 p')) := e2
  obtain ⟨f0, hf0⟩ : ∃ f0, f0 = vp_updL p' 0 30 := ⟨_, rfl⟩
  have s2 : sJ (ov M m (rsJ R1 2 p')) 1 (m + 2) 0 30 = some (ov M m (rsJ (rsJ R1 2 p') 2 (vp_updL ((rsJ R1 2 p').2.2.1 2) 0 30))) := r_s2 M m (rsJ R1 2 p') (k := 0) (by omega) 30
  rw [rsJ_at, rsJ_J, ← hf0] at s2
  have p3 : pV (ov M m (rsJ R1 2 f0)) 11 3 m (.ref (m + 2)) = some (ov M m (rsW (rsJ R1 2 f0) true)) := r_p3 M m (rsJ R1 2 f0) true
  obtain ⟨R3, hR3⟩ : ∃ R3, R3 = rsW (rsJ R1 2 f0) true := ⟨_, rfl⟩
  rw [← hR3] at p3
  have k3 : R3.1 = R1.1 ∧ R3.2.1 = true ∧ R3.2.2.1 2 = f0 ∧ (∀ a, a ≠ 2 → R3.2.2.1 a = R.2.2.1 a) ∧ R3.2.2.2 = R.2.2.2 := by
    rw [hR3]
    refine ⟨rfl, rfl, rsJ_at R1 2 f0, fun a ha => ?_, ?_⟩
    · show va_up R1.2.2.1 2 f0 a = R.2.2.1 a
      rw [va_up_n _ _ ha, g1.2.2.2]
    · show R1.2.2.2 = R.2.2.2
      rw [g1.2.2.2]
  obtain ⟨R4, e4, h4, q4, q48, f4⟩ := X12_begin_e (M := M) (m := m) (R := R3) (l := l) (by rw [k3.1, f1 8 (by decide) (by decide) (by decide)]; exact h8) hl (by rw [k3.2.2.2.2]; exact h5) hy
  have hN4 : rowN R4 = 2 := by rw [rowN, q4, k3.2.1]; rfl
  have hr4 : rowf R4 = f0 := by rw [rowf, hN4, q4]; exact k3.2.2.1
  have hz : ∀ q, 1 ≤ q → q < 806 → f0 q = 0 := fun q q1 q2 => by rw [hf0, pk_uLn (by omega)]; exact z2 q q2
  have hcN : cntN (clr S) = 0 := rfl
  have hd4 : dR R4 (0, clr S, false, false) := by
    refine ⟨?_, fun k hk => absurd hk (Nat.not_lt_zero k), fun k _ hk j hj => ?_, fun k _ hk j hj => ?_, ?_, ?_, rfl, by rw [hcN]; omega⟩
    · rw [hr4]
      refine ⟨?_, ?_, ?_, Nat.zero_le _, Nat.zero_le _, fun b hb => absurd hb (Nat.not_lt_zero b), fun s hs => absurd hs (Nat.not_lt_zero s)⟩
      · rw [hf0, rg_s]; rfl
      · rw [rg, hz 1 (by omega) (by omega)]; rfl
      · rw [rg, hz 2 (by omega) (by omega)]; rfl
    · rw [hr4]; exact hz _ (by unfold sAt; omega) (by unfold sAt; omega)
    · rw [hr4]; exact hz _ (by unfold bAt; omega) (by unfold bAt; omega)
    · rw [f4 16 (by omega), k3.1]; exact g1.2.1
    · rw [f4 17 (by omega), k3.1]; exact g1.2.2.1
  obtain ⟨R5, e5, r5, k5⟩ := load_go (M := M) (m := m) h4 hd4 (clr_pOK S).2
  have hl17 : f_X12_load_17 1 m 806 (ov M m (rsJ R1 2 p')) = f_X12_load_91 m (ov M m R5) := by
    have h6 : (806 : Int32) ≤ 806 := by decide
    rw [f_X12_load_17]
    simp only [h6, if_true, r_g2, bso, s2, p3, e4]
    exact e5
  have hld : f_X12_load m (ov M m R) = f_X12_load_91 m (ov M m R5) := by
    simp only [f_X12_load, ov_ob, r_p0, r_p16, r_p17, bso]
    rw [← hR1, e2, hl17]
  have f5 : ∀ k, (k < 8 ∨ 17 < k) → R5.1 k = R1.1 k := fun k hk => by
    rw [k5.2.1 k (by omega), f4 k (by omega), k3.1]
  have n5 : R5.2.1 = true := by rw [k5.1, q4]; exact k3.2.1
  have j5 : ∀ a, a ≠ 2 → R5.2.2.1 a = R.2.2.1 a := fun a ha => by rw [k5.2.2.1 a (by rw [hN4]; exact ha), q4]; exact k3.2.2.2.1 a ha
  have i5 : ∀ a, a ≠ 6 → a ≠ 7 → R5.2.2.2 a = R.2.2.2 a := fun a a6 a7 => by rw [k5.2.2.2 a a6 a7, q4, k3.2.2.2.2]
  have s8 : R5.1 8 = 0 := by rw [k5.2.1 8 (by omega)]; exact q48
  have s0 : R5.1 0 = 0 := (f5 0 (by omega)).trans g1.1
  have s27 : R5.1 27 = R.1 27 := (f5 27 (by omega)).trans (f1 27 (by decide) (by decide) (by decide))
  have hh5 : hsR R5 cnt hk := hh.cg ((f5 25 (by omega)).trans (f1 25 (by decide) (by decide) (by decide))) (j5 10 (by decide))
  have hrow : rowf R = R.2.2.1 1 := by rw [rowf, row1 hw]
  cases hx : pTxt l (clr S) with
  | inr e =>
    rw [hx] at r5
    have r5 : rF R5 l e.1 e.2 := r5
    refine ⟨-4, rsW R5 false, ?_, rfl, ⟨s0, s8, s27⟩, i5, j5 8 (by decide), rfl, r5.2.1, r5.2.2.1, r5.2.2.2, ?_, ?_, hh5⟩
    · rw [hld, load_91_F r5]
    · exact (f5 5 (by omega)).trans (f1 5 (by decide) (by decide) (by decide))
    · rw [hrow]; exact j5 1 (by decide)
  | inl P =>
    rw [hx] at r5
    obtain ⟨r5, d5⟩ := r5
    obtain ⟨o1, o2⟩ := pTxt_pOK hx (clr_pOK S).2 (clr_pOK S).1
    obtain ⟨R6, e6, w1, w2, w3, w4, w5, w6, w7⟩ := load_91_L (M := M) (m := m) (S0 := S0) r5 d5 o2 n5 (by rw [j5 1 (by decide), ← hrow]; exact hrep) hh5
    refine ⟨_, R6, by rw [hld, e6], w1, ⟨(w5 0 (by decide) (by decide)).trans s0, (w5 8 (by decide) (by decide)).trans s8, (w5 27 (by decide) (by decide)).trans s27⟩, fun a a6 a7 => by rw [w7]; exact i5 a a6 a7, w6.trans (j5 8 (by decide)), rfl, (w5 14 (by decide) (by decide)).trans r5.2.2.2.2.2.1, (w5 15 (by decide) (by decide)).trans r5.2.2.2.2.2.2, w4, w2, w3⟩
end
