/-! PURE: what holds between calls; a call of the law -/
def okN (N : List Nt) : Prop := N.length ≤ 244 ∧ ∀ x ∈ N, (∃ a : Nat, a < 4 ∧ n0 x = nI a) ∧ ∃ b : Nat, b < 100 ∧ n2 x = nI b
def okI (I : List Int32) : Prop := I.length ≤ 700 ∧ ∀ x ∈ I, -128 ≤ x.toInt ∧ x.toInt ≤ 127
def okO (O : List Int32) : Prop := O.length ≤ 4096 ∧ ∀ x ∈ O, x &&& 255 = x
def okW (c : Nat) (I O : List Int32) (S : St) (K : Nat → St) (B : Nat → Bool) (C : Nat) (H : Nat → St) (N : List Nt) : Prop :=
  okI I ∧ okO O ∧ okS c S ∧ (∀ j, j < 2 → B j = true → okS c (K j)) ∧ (∀ i, i < C → okS c (H i)) ∧ okN N
def Aux (M : Mem) : Prop := (∃ g : Nat → Int64, M.1 728 = some (.inl (1, (1, .inr (.inl g))))) ∧ ∃ g : Nat → UInt64, M.1 729 = some (.inl (4, (1, .inr (.inr (.inr (.inl g))))))
def Rel (c : Nat) (M : Mem) : Prop := ∃ R I O S K B C H N E, rA M 716 R ∧ Cls M I O S K B C H N E ∧ Ref R I O S K B C H N E ∧ okW c I O S K B C H N ∧ Aux M
theorem okBx.up {c c' : Nat} {b : Bx} (h : okBx c b) (e : c ≤ c') : okBx c' b := by
  obtain ⟨⟨n, h1, h2, h3⟩, h4⟩ := h
  exact ⟨⟨n, h1, h2, by omega⟩, h4⟩
theorem okS.up {c c' : Nat} {S : St} (h : okS c S) (e : c ≤ c') : okS c' S := ⟨h.1, h.2.1, fun b hb => (h.2.2.1 b hb).up e, h.2.2.2⟩
theorem okB.eq {S T : St} {bx : Int32} (h : okB S bx) (e : stN S = stN T) : okB T bx := h.up (by omega)
theorem okS.agr {c : Nat} {S T : St} (h : okS c S) (g : agr S T) : okS c T := by
  obtain ⟨g1, g2, g3, g4, g5⟩ := g
  refine ⟨by rw [← g1]; exact h.1, by rw [← g2, ← g3]; exact h.2.1, fun b hb => by rw [← g4 b hb]; exact h.2.2.1 b (by omega), fun k hk => ?_⟩
  obtain ⟨⟨e1, e2⟩, e3, e4, e5, e6⟩ := h.2.2.2 k (by omega)
  rw [← g5 k hk]
  exact ⟨⟨e1.eq g2, e2⟩, e3, e4, e5, fun b hb z => by rw [← g4 b hb]; exact e6 b (by omega) z⟩
theorem okW.up {c c' : Nat} {I O : List Int32} {S : St} {K : Nat → St} {B : Nat → Bool} {C : Nat} {H : Nat → St} {N : List Nt} (h : okW c I O S K B C H N) (e : c ≤ c') : okW c' I O S K B C H N :=
  ⟨h.1, h.2.1, h.2.2.1.up e, fun j hj hB => (h.2.2.2.1 j hj hB).up e, fun i hi => (h.2.2.2.2.1 i hi).up e, h.2.2.2.2.2⟩
theorem ov_out (M : Mem) (m : Nat) (R : Rs) {q : Nat} (h : q < m ∨ m + 12 ≤ q) : (ov M m R).1 q = M.1 q := if_neg (by omega)
theorem ov_same (M : Mem) (R : Rs) : same M (ov M 716 R) 100 616 := fun q h1 h2 => ov_out M 716 R (by omega)
theorem Aux.ov {M : Mem} (h : Aux M) (R : Rs) : Aux (ov M 716 R) := by
  obtain ⟨⟨g, h1⟩, g2, h2⟩ := h
  exact ⟨⟨g, (ov_out M 716 R (by omega)).trans h1⟩, g2, (ov_out M 716 R (by omega)).trans h2⟩
theorem Aux.off {M M' : Mem} (h : Aux M) (o : off M M' 100 616) : Aux M' := by
  obtain ⟨⟨g, h1⟩, g2, h2⟩ := h
  exact ⟨⟨g, (o.2 728 (by omega)).trans h1⟩, g2, (o.2 729 (by omega)).trans h2⟩
/-- what a call of the class came to -/
def ClsO (f : Option ((Int32 ⊕ String) × Mem)) (M : Mem) (hs : List (String × Int32)) (t v : Int32) (P : Mem → Prop) : Prop :=
  ∃ o M', f = some (o, M') ∧ off M M' 100 616 ∧ P M' ∧ ((∃ x, o = .inl x ∧ t = 0 ∧ v = x) ∨ ∃ E, o = .inr E ∧ hFind E hs = some t ∧ t ≠ 0)
/-- what a call of the reference came to -/
def RefO (f : Option (Int32 × Mem)) (M : Mem) (t v : Int32) (P : Rs → Prop) : Prop := ∃ b R', f = some (b, ov M 716 R') ∧ R'.1 0 = t ∧ (t = 0 → b = v) ∧ P R'
theorem thrown_e (M : Mem) (R : Rs) : f_X12_thrown 716 (ov M 716 R) = some (R.1 0) := by simp only [f_X12_thrown, ov_ob, r_g0, bso]
theorem bH_l {α : Type} {hs : List (String × Int32)} {f : Option ((α ⊕ String) × Mem)} {x : α} {M1 : Mem} (h : f = some (.inl x, M1)) (kk : α → Mem → Option (Int32 × Mem)) : bH hs f kk = kk x M1 := by rw [h]; rfl
theorem bH_r {α : Type} {hs : List (String × Int32)} {f : Option ((α ⊕ String) × Mem)} {E : String} {M1 : Mem} {t : Int32} (h : f = some (.inr E, M1)) (hE : hFind E hs = some t) (kk : α → Mem → Option (Int32 × Mem)) : bH hs f kk = some (t, M1) := by
  rw [h]
  show (hFind E hs).map (fun c => (c, M1)) = some (t, M1)
  rw [hE]; rfl
theorem bX_l {α β : Type} {f : Option ((α ⊕ String) × Mem)} {x : α} {M1 : Mem} (h : f = some (.inl x, M1)) (kk : α → Mem → Option ((β ⊕ String) × Mem)) : bX f kk = kk x M1 := by rw [h]; rfl
theorem bX_r {α β : Type} {f : Option ((α ⊕ String) × Mem)} {E : String} {M1 : Mem} (h : f = some (.inr E, M1)) (kk : α → Mem → Option ((β ⊕ String) × Mem)) : bX f kk = some (.inr E, M1) := by rw [h]; rfl
theorem sC_cg {M M' : Mem} (h : M'.2.2 = M.2.2) (r : Nat) (i : Int32) : sC M' r i = sC M r i := by
  unfold sC; rw [h]
theorem sL_cg {M M' : Mem} (h : M'.2.2 = M.2.2) (r : Nat) : sL M' r = sL M r := by
  unfold sL; rw [h]
section
variable {M : Mem} {R : Rs} {I O : List Int32} {S : St} {K : Nat → St} {B : Nat → Bool} {C : Nat} {H : Nat → St} {N : List Nt} {E : Er} {c : Nat} {t v : Int32} {hs : List (String × Int32)}
theorem case_L {fX : Option ((Int32 ⊕ String) × Mem)} {gX : Mem → Option (Int32 × Mem)} (hrA : rA M 716 R) (hA : Aux M)
    (hC : ClsO fX M hs t v (fun M1 => Cls M1 I O S K B C H N E)) (hR : ∀ M2 : Mem, RefO (gX (ov M2 716 R)) M2 t v (fun R' => Ref R' I O S K B C H N E)) (hW : okW c I O S K B C H N) :
    ∃ M2 b M3, bH hs fX (fun x1 M2 => (sJ M2 1 728 0 (Int32.toInt64 x1)).bind fun M3 => some (0, M3)) = some (t, M2) ∧ M2.2.2 = M.2.2 ∧ gX M2 = some (b, M3) ∧ f_X12_thrown 716 M3 = some t ∧ (t = 0 → aJ M3 1 728 0 = some (Int32.toInt64 b)) ∧ M3.2.2 = M.2.2 ∧ Rel c M3 := by
  obtain ⟨o, M1, e1, o1, c1, d⟩ := hC
  have A1 := hA.off o1
  have r1 : rA M1 716 R := hrA.sm (o1.same (by omega))
  rcases d with ⟨x, rfl, rfl, rfl⟩ | ⟨Ex, rfl, h1, h2⟩
  · obtain ⟨⟨g, hg⟩, ⟨g2, hg2⟩⟩ := id A1
    obtain ⟨M2, hM2⟩ : ∃ M2, M2 = mset M1 728 (.inl (1, (1, .inr (.inl (vp_updL g 0 (Int32.toInt64 v)))))) := ⟨_, rfl⟩
    have o2 : off M1 M2 728 1 := by rw [hM2]; exact off_set _ _ _
    have es : sJ M1 1 728 0 (Int32.toInt64 v) = some M2 := by
      rw [hM2, sJ_h hg (i := 0) (by decide)]; rfl
    have hg' : M2.1 728 = some (.inl (1, (1, .inr (.inl (vp_updL g 0 (Int32.toInt64 v)))))) := by rw [hM2]; exact mset_at _ _ _
    have r2 : rA M2 716 R := r1.sm (o2.same (by omega))
    obtain ⟨b, R', e3, t3, v3, p3⟩ := hR M2
    have r2' : ov M2 716 R = M2 := r2
    rw [r2'] at e3
    have A2 : Aux M2 := ⟨⟨_, hg'⟩, g2, (o2.2 729 (by omega)).trans hg2⟩
    refine ⟨M2, b, ov M2 716 R', ?_, o2.1.trans o1.1, e3, by rw [thrown_e, t3], fun _ => ?_, o2.1.trans o1.1, R', I, O, S, K, B, C, H, N, E, rA.ov M2 716 R', (c1.sm (o2.same (by omega))).sm (ov_same M2 R'), p3, hW, A2.ov R'⟩
    · rw [bH_l e1]
      show (sJ M1 1 728 0 (Int32.toInt64 v)).bind _ = _
      rw [es]; rfl
    · have hg3 : (ov M2 716 R').1 728 = some (.inl (1, (1, .inr (.inl (vp_updL g 0 (Int32.toInt64 v)))))) := (ov_out M2 716 R' (by omega)).trans hg'
      rw [aJ_h hg3 (i := 0) (by decide), v3 rfl]
      show some (vp_updL g 0 (Int32.toInt64 v) 0) = _
      rw [pk_uLs]
  · obtain ⟨b, R', e3, t3, v3, p3⟩ := hR M1
    have r1' : ov M1 716 R = M1 := r1
    rw [r1'] at e3
    exact ⟨M1, b, ov M1 716 R', bH_r e1 h1 _, o1.1, e3, by rw [thrown_e, t3], fun z => absurd z h2, o1.1, R', I, O, S, K, B, C, H, N, E, rA.ov M1 716 R', c1.sm (ov_same M1 R'), p3, hW, A1.ov R'⟩
/-- a call that never throws -/
theorem case_N {fX gX : Mem → Option (Int32 × Mem)} (hrA : rA M 716 R) (hA : Aux M)
    (hC : ∃ M1, fX M = some (v, M1) ∧ off M M1 100 616 ∧ Cls M1 I O S K B C H N E) (hR : ∀ M2 : Mem, ∃ R', gX (ov M2 716 R) = some (v, ov M2 716 R') ∧ Ref R' I O S K B C H N E) (hW : okW c I O S K B C H N) :
    ∃ M2 M3, fX M = some (v, M2) ∧ gX M2 = some (v, M3) ∧ M3.2.2 = M.2.2 ∧ Rel c M3 := by
  obtain ⟨M1, e1, o1, c1⟩ := hC
  obtain ⟨R', e3, p3⟩ := hR M1
  have r1 : ov M1 716 R = M1 := hrA.sm (o1.same (by omega))
  rw [r1] at e3
  exact ⟨M1, ov M1 716 R', e1, e3, o1.1, R', I, O, S, K, B, C, H, N, E, rA.ov M1 716 R', c1.sm (ov_same M1 R'), p3, hW, (hA.off o1).ov R'⟩
/-! asking -/
theorem notin {i : Int32} {n : Nat} (hn : n < 2 ^ 31) (h : ¬ ∃ k, k < n ∧ i = nI k) : i < 0 ∨ nI n ≤ i := by
  rcases i_cases i with hi | ⟨k, hk, rfl⟩
  · exact .inl hi
  · refine .inr (nI_le ?_ hk)
    by_cases e : k < n
    · exact absurd ⟨k, e, rfl⟩ h
    · omega
theorem reqBox_in (h : Cls M I O S K B C H N E) {b : Nat} (hb : b < stN S) : f_X11_requireBox 100 (nI b) M = some (.inl (boxR 105 b), M) := by
  simp only [f_X11_requireBox, h.ob, h.g2, bso, X8_boxAt_in h.s hb]
theorem reqBox_no (h : Cls M I O S K B C H N E) {i : Int32} (hi : ¬ ∃ k, k < stN S ∧ i = nI k) : f_X11_requireBox 100 i M = some (.inr "java/lang/IndexOutOfBoundsException", mskip M) := by
  have := h.s.n3
  simp only [f_X11_requireBox, h.ob, h.g2, bso, X8_boxAt_out h.s (notin (by omega) hi)]
theorem reqSes_in (h : Cls M I O S K B C H N E) {b : Nat} (hb : b < stM S) : f_X11_requireSession 100 (nI b) M = some (.inl (sesR 105 b), M) := by
  simp only [f_X11_requireSession, h.ob, h.g2, bso, X8_sesAt_in h.s hb]
theorem reqSes_no (h : Cls M I O S K B C H N E) {i : Int32} (hi : ¬ ∃ k, k < stM S ∧ i = nI k) : f_X11_requireSession 100 i M = some (.inr "java/lang/IndexOutOfBoundsException", mskip M) := by
  have := h.s.m4
  simp only [f_X11_requireSession, h.ob, h.g2, bso, X8_sesAt_out h.s (notin (by omega) hi)]
theorem reqEnt_in {q : Nat} {s : Sx} (h : sxA M q s) {k : Nat} (hk : k < (sxE s).length) : f_X11_requireEntry q (nI (k + 1)) M = some (.inl (), M) := by
  have hl : (sxE s).length ≤ 60 := sA.len h
  have hs : f_X7_size q M = some (nI (sxE s).length) := X7_size_e h
  have h1 : (nI (k + 1) < 1) = False := ltF (y := 1) (b := 1) rfl rfl (by omega) (by omega)
  simp only [f_X11_requireEntry, h1, if_false, hs, bso, leT rfl rfl (show k + 1 ≤ (sxE s).length by omega) (show (sxE s).length < 2 ^ 31 by omega), if_true]
theorem reqEnt_no {q : Nat} {s : Sx} (h : sxA M q s) {i : Int32} (hi : ¬ ∃ k, k < (sxE s).length ∧ i = nI (k + 1)) : f_X11_requireEntry q i M = some (.inr "java/lang/IndexOutOfBoundsException", mskip M) := by
  have hl : (sxE s).length ≤ 60 := sA.len h
  have hs : f_X7_size q M = some (nI (sxE s).length) := X7_size_e h
  by_cases e : i < 1
  · simp only [f_X11_requireEntry, e, if_true, f_X11_requireEntry_13]
  · have hp : ¬ i < 0 := fun z => e (Int32.lt_trans z (by decide))
    obtain ⟨k, hk, rfl⟩ := nI_of hp
    have hk1 : 1 ≤ k := by
      by_cases z : 1 ≤ k
      · exact z
      · exfalso
        apply e
        obtain rfl : k = 0 := by omega
        decide
    have hg : ¬ (nI k ≤ nI (sxE s).length) := by
      rw [leI rfl rfl hk (show (sxE s).length < 2 ^ 31 by omega)]
      intro z
      exact hi ⟨k - 1, by omega, by rw [Nat.sub_add_cancel hk1]⟩
    simp only [f_X11_requireEntry, e, if_false, hs, bso, hg, f_X11_requireEntry_13]
theorem Cls.sx (h : Cls M I O S K B C H N E) {k : Nat} (hk : k < stM S) : sxA M (sesR 105 k) (stS S k) := h.s.sx (by have := h.s.m4; omega)
theorem Cls.bx (h : Cls M I O S K B C H N E) {b : Nat} (hb : b < stN S) : bxA M (boxR 105 b) (stB S b) := h.s.bx (by have := h.s.n3; omega)
end
