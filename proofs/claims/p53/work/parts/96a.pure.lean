/-! PURE: the class's object, the reference, and how they move -/
def obX (E : Er) : PC := .inr (10, [.ref 101, .ref 103, .ref 105, .ref 164, .ref 223, .ref 342, .ref 343, .ref 699, .ref 708, .ref 714, .ref 715, .int E.1, .int E.2])
/-- the class's object at 100 -/
def Cls (M : Mem) (I O : List Int32) (S : St) (K : Nat → St) (B : Nat → Bool) (C : Nat) (H : Nat → St) (N : List Nt) (E : Er) : Prop :=
  M.1 100 = some (obX E) ∧ yA M 101 700 I ∧ yA M 103 4096 O ∧ stA M 105 S ∧ (∃ Sl, stA M 164 Sl) ∧
  (∃ f : Nat → Option Nat, M.1 223 = some (.inl (7, (2, .inr (.inr (.inr (.inr f)))))) ∧ f 0 = some 224 ∧ f 1 = some 283) ∧ stA M 224 (K 0) ∧ stA M 283 (K 1) ∧
  (∃ g : Nat → Int32, M.1 342 = some (.inl (3, (2, .inl g))) ∧ ∀ j, j < 2 → g j = b2i (B j)) ∧ hA M 343 C H ∧ ntA M 699 N ∧ tkX M 708 101 ∧
  (∃ a b : Bool, M.1 714 = some (.inr (8, [.ref 708, .int (b2i a), .int (b2i b)]))) ∧ M.1 715 = some (.inr (5, [.ref 708]))
section
variable {M M' : Mem} {I O : List Int32} {S : St} {K : Nat → St} {B : Nat → Bool} {C : Nat} {H : Nat → St} {N : List Nt} {E : Er}
theorem Cls.mS {S' : St} (h : Cls M I O S K B C H N E) (s : stA M' 105 S') (o : off M M' 105 59) : Cls M' I O S' K B C H N E := by
  obtain ⟨h0, hI, hO, hS, ⟨Sl, hl⟩, ⟨f, hf, f0, f1⟩, k0, k1, ⟨g, hg, hg2⟩, hH, hN, ht, ⟨a, b, hp⟩, hq⟩ := h
  exact ⟨(o.2 100 (by omega)).trans h0, hI.sm (o.same (by omega)), hO.sm (o.same (by omega)), s, ⟨Sl, hl.sm (o.same (by omega))⟩, ⟨f, (o.2 223 (by omega)).trans hf, f0, f1⟩, k0.sm (o.same (by omega)), k1.sm (o.same (by omega)), ⟨g, (o.2 342 (by omega)).trans hg, hg2⟩, hH.sm (o.same (by omega)), hN.sm (o.same (by omega)), ht.sm (o.same (by omega)), ⟨a, b, (o.2 714 (by omega)).trans hp⟩, (o.2 715 (by omega)).trans hq⟩
theorem Cls.mSN {S' : St} {N' : List Nt} (h : Cls M I O S K B C H N E) (s : stA M' 105 S') (n : ntA M' 699 N') (o : off2 M M' 105 59 699 9) : Cls M' I O S' K B C H N' E := by
  obtain ⟨h0, hI, hO, hS, ⟨Sl, hl⟩, ⟨f, hf, f0, f1⟩, k0, k1, ⟨g, hg, hg2⟩, hH, hN, ht, ⟨a, b, hp⟩, hq⟩ := h
  exact ⟨(o.2 100 (by omega) (by omega)).trans h0, hI.sm (o.same (by omega) (by omega)), hO.sm (o.same (by omega) (by omega)), s, ⟨Sl, hl.sm (o.same (by omega) (by omega))⟩, ⟨f, (o.2 223 (by omega) (by omega)).trans hf, f0, f1⟩, k0.sm (o.same (by omega) (by omega)), k1.sm (o.same (by omega) (by omega)), ⟨g, (o.2 342 (by omega) (by omega)).trans hg, hg2⟩, hH.sm (o.same (by omega) (by omega)), n, ht.sm (o.same (by omega) (by omega)), ⟨a, b, (o.2 714 (by omega) (by omega)).trans hp⟩, (o.2 715 (by omega) (by omega)).trans hq⟩
theorem Cls.mSH {S' : St} {C' : Nat} {H' : Nat → St} (h : Cls M I O S K B C H N E) (s : stA M' 105 S') (n : hA M' 343 C' H') (o : off2 M M' 105 59 343 356) : Cls M' I O S' K B C' H' N E := by
  obtain ⟨h0, hI, hO, hS, ⟨Sl, hl⟩, ⟨f, hf, f0, f1⟩, k0, k1, ⟨g, hg, hg2⟩, hH, hN, ht, ⟨a, b, hp⟩, hq⟩ := h
  exact ⟨(o.2 100 (by omega) (by omega)).trans h0, hI.sm (o.same (by omega) (by omega)), hO.sm (o.same (by omega) (by omega)), s, ⟨Sl, hl.sm (o.same (by omega) (by omega))⟩, ⟨f, (o.2 223 (by omega) (by omega)).trans hf, f0, f1⟩, k0.sm (o.same (by omega) (by omega)), k1.sm (o.same (by omega) (by omega)), ⟨g, (o.2 342 (by omega) (by omega)).trans hg, hg2⟩, n, hN.sm (o.same (by omega) (by omega)), ht.sm (o.same (by omega) (by omega)), ⟨a, b, (o.2 714 (by omega) (by omega)).trans hp⟩, (o.2 715 (by omega) (by omega)).trans hq⟩
theorem Cls.mH {C' : Nat} {H' : Nat → St} (h : Cls M I O S K B C H N E) (s : hA M' 343 C' H') (o : off M M' 343 356) : Cls M' I O S K B C' H' N E := by
  obtain ⟨h0, hI, hO, hS, ⟨Sl, hl⟩, ⟨f, hf, f0, f1⟩, k0, k1, ⟨g, hg, hg2⟩, hH, hN, ht, ⟨a, b, hp⟩, hq⟩ := h
  exact ⟨(o.2 100 (by omega)).trans h0, hI.sm (o.same (by omega)), hO.sm (o.same (by omega)), hS.sm (o.same (by omega)), ⟨Sl, hl.sm (o.same (by omega))⟩, ⟨f, (o.2 223 (by omega)).trans hf, f0, f1⟩, k0.sm (o.same (by omega)), k1.sm (o.same (by omega)), ⟨g, (o.2 342 (by omega)).trans hg, hg2⟩, s, hN.sm (o.same (by omega)), ht.sm (o.same (by omega)), ⟨a, b, (o.2 714 (by omega)).trans hp⟩, (o.2 715 (by omega)).trans hq⟩
theorem Cls.mN {N' : List Nt} (h : Cls M I O S K B C H N E) (s : ntA M' 699 N') (o : off M M' 699 9) : Cls M' I O S K B C H N' E := by
  obtain ⟨h0, hI, hO, hS, ⟨Sl, hl⟩, ⟨f, hf, f0, f1⟩, k0, k1, ⟨g, hg, hg2⟩, hH, hN, ht, ⟨a, b, hp⟩, hq⟩ := h
  exact ⟨(o.2 100 (by omega)).trans h0, hI.sm (o.same (by omega)), hO.sm (o.same (by omega)), hS.sm (o.same (by omega)), ⟨Sl, hl.sm (o.same (by omega))⟩, ⟨f, (o.2 223 (by omega)).trans hf, f0, f1⟩, k0.sm (o.same (by omega)), k1.sm (o.same (by omega)), ⟨g, (o.2 342 (by omega)).trans hg, hg2⟩, hH.sm (o.same (by omega)), s, ht.sm (o.same (by omega)), ⟨a, b, (o.2 714 (by omega)).trans hp⟩, (o.2 715 (by omega)).trans hq⟩
theorem Cls.mI {I' : List Int32} (h : Cls M I O S K B C H N E) (s : yA M' 101 700 I') (o : off M M' 101 2) : Cls M' I' O S K B C H N E := by
  obtain ⟨h0, hI, hO, hS, ⟨Sl, hl⟩, ⟨f, hf, f0, f1⟩, k0, k1, ⟨g, hg, hg2⟩, hH, hN, ht, ⟨a, b, hp⟩, hq⟩ := h
  exact ⟨(o.2 100 (by omega)).trans h0, s, hO.sm (o.same (by omega)), hS.sm (o.same (by omega)), ⟨Sl, hl.sm (o.same (by omega))⟩, ⟨f, (o.2 223 (by omega)).trans hf, f0, f1⟩, k0.sm (o.same (by omega)), k1.sm (o.same (by omega)), ⟨g, (o.2 342 (by omega)).trans hg, hg2⟩, hH.sm (o.same (by omega)), hN.sm (o.same (by omega)), ht.sm (o.same (by omega)), ⟨a, b, (o.2 714 (by omega)).trans hp⟩, (o.2 715 (by omega)).trans hq⟩
theorem Cls.mO {O' : List Int32} (h : Cls M I O S K B C H N E) (s : yA M' 103 4096 O') (o : off M M' 103 2) : Cls M' I O' S K B C H N E := by
  obtain ⟨h0, hI, hO, hS, ⟨Sl, hl⟩, ⟨f, hf, f0, f1⟩, k0, k1, ⟨g, hg, hg2⟩, hH, hN, ht, ⟨a, b, hp⟩, hq⟩ := h
  exact ⟨(o.2 100 (by omega)).trans h0, hI.sm (o.same (by omega)), s, hS.sm (o.same (by omega)), ⟨Sl, hl.sm (o.same (by omega))⟩, ⟨f, (o.2 223 (by omega)).trans hf, f0, f1⟩, k0.sm (o.same (by omega)), k1.sm (o.same (by omega)), ⟨g, (o.2 342 (by omega)).trans hg, hg2⟩, hH.sm (o.same (by omega)), hN.sm (o.same (by omega)), ht.sm (o.same (by omega)), ⟨a, b, (o.2 714 (by omega)).trans hp⟩, (o.2 715 (by omega)).trans hq⟩
theorem Cls.mE {E' : Er} (h : Cls M I O S K B C H N E) (s : M'.1 100 = some (obX E')) (o : off M M' 100 1) : Cls M' I O S K B C H N E' := by
  obtain ⟨h0, hI, hO, hS, ⟨Sl, hl⟩, ⟨f, hf, f0, f1⟩, k0, k1, ⟨g, hg, hg2⟩, hH, hN, ht, ⟨a, b, hp⟩, hq⟩ := h
  exact ⟨s, hI.sm (o.same (by omega)), hO.sm (o.same (by omega)), hS.sm (o.same (by omega)), ⟨Sl, hl.sm (o.same (by omega))⟩, ⟨f, (o.2 223 (by omega)).trans hf, f0, f1⟩, k0.sm (o.same (by omega)), k1.sm (o.same (by omega)), ⟨g, (o.2 342 (by omega)).trans hg, hg2⟩, hH.sm (o.same (by omega)), hN.sm (o.same (by omega)), ht.sm (o.same (by omega)), ⟨a, b, (o.2 714 (by omega)).trans hp⟩, (o.2 715 (by omega)).trans hq⟩
theorem Cls.mT (h : Cls M I O S K B C H N E) (s : tkX M' 708 101) (o : off M M' 708 6) : Cls M' I O S K B C H N E := by
  obtain ⟨h0, hI, hO, hS, ⟨Sl, hl⟩, ⟨f, hf, f0, f1⟩, k0, k1, ⟨g, hg, hg2⟩, hH, hN, ht, ⟨a, b, hp⟩, hq⟩ := h
  exact ⟨(o.2 100 (by omega)).trans h0, hI.sm (o.same (by omega)), hO.sm (o.same (by omega)), hS.sm (o.same (by omega)), ⟨Sl, hl.sm (o.same (by omega))⟩, ⟨f, (o.2 223 (by omega)).trans hf, f0, f1⟩, k0.sm (o.same (by omega)), k1.sm (o.same (by omega)), ⟨g, (o.2 342 (by omega)).trans hg, hg2⟩, hH.sm (o.same (by omega)), hN.sm (o.same (by omega)), s, ⟨a, b, (o.2 714 (by omega)).trans hp⟩, (o.2 715 (by omega)).trans hq⟩
theorem Cls.mK0 {K' : Nat → St} (h : Cls M I O S K B C H N E) (e : K' 1 = K 1) (s : stA M' 224 (K' 0)) (o : off M M' 224 59) : Cls M' I O S K' B C H N E := by
  obtain ⟨h0, hI, hO, hS, ⟨Sl, hl⟩, ⟨f, hf, f0, f1⟩, k0, k1, ⟨g, hg, hg2⟩, hH, hN, ht, ⟨a, b, hp⟩, hq⟩ := h
  exact ⟨(o.2 100 (by omega)).trans h0, hI.sm (o.same (by omega)), hO.sm (o.same (by omega)), hS.sm (o.same (by omega)), ⟨Sl, hl.sm (o.same (by omega))⟩, ⟨f, (o.2 223 (by omega)).trans hf, f0, f1⟩, s, (by rw [e]; exact k1.sm (o.same (by omega))), ⟨g, (o.2 342 (by omega)).trans hg, hg2⟩, hH.sm (o.same (by omega)), hN.sm (o.same (by omega)), ht.sm (o.same (by omega)), ⟨a, b, (o.2 714 (by omega)).trans hp⟩, (o.2 715 (by omega)).trans hq⟩
theorem Cls.mK1 {K' : Nat → St} (h : Cls M I O S K B C H N E) (e : K' 0 = K 0) (s : stA M' 283 (K' 1)) (o : off M M' 283 59) : Cls M' I O S K' B C H N E := by
  obtain ⟨h0, hI, hO, hS, ⟨Sl, hl⟩, ⟨f, hf, f0, f1⟩, k0, k1, ⟨g, hg, hg2⟩, hH, hN, ht, ⟨a, b, hp⟩, hq⟩ := h
  exact ⟨(o.2 100 (by omega)).trans h0, hI.sm (o.same (by omega)), hO.sm (o.same (by omega)), hS.sm (o.same (by omega)), ⟨Sl, hl.sm (o.same (by omega))⟩, ⟨f, (o.2 223 (by omega)).trans hf, f0, f1⟩, (by rw [e]; exact k0.sm (o.same (by omega))), s, ⟨g, (o.2 342 (by omega)).trans hg, hg2⟩, hH.sm (o.same (by omega)), hN.sm (o.same (by omega)), ht.sm (o.same (by omega)), ⟨a, b, (o.2 714 (by omega)).trans hp⟩, (o.2 715 (by omega)).trans hq⟩
theorem Cls.mB {B' : Nat → Bool} {g' : Nat → Int32} (h : Cls M I O S K B C H N E) (s : M'.1 342 = some (.inl (3, (2, .inl g')))) (s2 : ∀ j, j < 2 → g' j = b2i (B' j)) (o : off M M' 342 1) : Cls M' I O S K B' C H N E := by
  obtain ⟨h0, hI, hO, hS, ⟨Sl, hl⟩, ⟨f, hf, f0, f1⟩, k0, k1, ⟨g, hg, hg2⟩, hH, hN, ht, ⟨a, b, hp⟩, hq⟩ := h
  exact ⟨(o.2 100 (by omega)).trans h0, hI.sm (o.same (by omega)), hO.sm (o.same (by omega)), hS.sm (o.same (by omega)), ⟨Sl, hl.sm (o.same (by omega))⟩, ⟨f, (o.2 223 (by omega)).trans hf, f0, f1⟩, k0.sm (o.same (by omega)), k1.sm (o.same (by omega)), ⟨g', s, s2⟩, hH.sm (o.same (by omega)), hN.sm (o.same (by omega)), ht.sm (o.same (by omega)), ⟨a, b, (o.2 714 (by omega)).trans hp⟩, (o.2 715 (by omega)).trans hq⟩
theorem Cls.mP {Sl : St} (h : Cls M I O S K B C H N E) (p : pRs M' 714 708 101 164 I Sl) (o : offP M M' 714 708 164) : Cls M' I O S K B C H N E := by
  obtain ⟨h0, hI, hO, hS, ⟨Sl, hl⟩, ⟨f, hf, f0, f1⟩, k0, k1, ⟨g, hg, hg2⟩, hH, hN, ht, ⟨a, b, hp⟩, hq⟩ := h
  obtain ⟨p1, p2, p3, p4⟩ := p
  have s : ∀ c k, (c + k ≤ 164 ∨ 223 ≤ c) → (c + k ≤ 708 ∨ 715 ≤ c) → same M M' c k := fun c k q1 q2 q z1 z2 => o.2 q (by omega) (by omega)
  exact ⟨(o.2 100 (by omega) (by omega)).trans h0, p4, hO.sm (s _ _ (by omega) (by omega)), hS.sm (s _ _ (by omega) (by omega)), ⟨_, p3⟩, ⟨f, (o.2 223 (by omega) (by omega)).trans hf, f0, f1⟩, k0.sm (s _ _ (by omega) (by omega)), k1.sm (s _ _ (by omega) (by omega)), ⟨g, (o.2 342 (by omega) (by omega)).trans hg, hg2⟩, hH.sm (s _ _ (by omega) (by omega)), hN.sm (s _ _ (by omega) (by omega)), p2, p1, (o.2 715 (by omega) (by omega)).trans hq⟩
theorem Cls.sm (h : Cls M I O S K B C H N E) (o : same M M' 100 616) : Cls M' I O S K B C H N E := by
  obtain ⟨h0, hI, hO, hS, ⟨Sl, hl⟩, ⟨f, hf, f0, f1⟩, k0, k1, ⟨g, hg, hg2⟩, hH, hN, ht, ⟨a, b, hp⟩, hq⟩ := h
  exact ⟨(o 100 (by omega) (by omega)).trans h0, hI.sm (o.sub (by omega) (by omega)), hO.sm (o.sub (by omega) (by omega)), hS.sm (o.sub (by omega) (by omega)), ⟨Sl, hl.sm (o.sub (by omega) (by omega))⟩, ⟨f, (o 223 (by omega) (by omega)).trans hf, f0, f1⟩, k0.sm (o.sub (by omega) (by omega)), k1.sm (o.sub (by omega) (by omega)), ⟨g, (o 342 (by omega) (by omega)).trans hg, hg2⟩, hH.sm (o.sub (by omega) (by omega)), hN.sm (o.sub (by omega) (by omega)), ht.sm (o.sub (by omega) (by omega)), ⟨a, b, (o 714 (by omega) (by omega)).trans hp⟩, (o 715 (by omega) (by omega)).trans hq⟩
theorem Cls.skip (h : Cls M I O S K B C H N E) : Cls (mskip M) I O S K B C H N E := h.sm (fun _ _ _ => rfl)
theorem Cls.ob (h : Cls M I O S K B C H N E) {τ : Type} (x : Option τ) : ob M 10 100 x = x := ob_h h.1 x
theorem Cls.g0 (h : Cls M I O S K B C H N E) : gR M 10 0 100 = some 101 := by rw [gR_h h.1]; rfl
theorem Cls.g1 (h : Cls M I O S K B C H N E) : gR M 10 1 100 = some 103 := by rw [gR_h h.1]; rfl
theorem Cls.g2 (h : Cls M I O S K B C H N E) : gR M 10 2 100 = some 105 := by rw [gR_h h.1]; rfl
theorem Cls.g3 (h : Cls M I O S K B C H N E) : gR M 10 3 100 = some 164 := by rw [gR_h h.1]; rfl
theorem Cls.g4 (h : Cls M I O S K B C H N E) : gR M 10 4 100 = some 223 := by rw [gR_h h.1]; rfl
theorem Cls.g5 (h : Cls M I O S K B C H N E) : gR M 10 5 100 = some 342 := by rw [gR_h h.1]; rfl
theorem Cls.g6 (h : Cls M I O S K B C H N E) : gR M 10 6 100 = some 343 := by rw [gR_h h.1]; rfl
theorem Cls.g7 (h : Cls M I O S K B C H N E) : gR M 10 7 100 = some 699 := by rw [gR_h h.1]; rfl
theorem Cls.g8 (h : Cls M I O S K B C H N E) : gR M 10 8 100 = some 708 := by rw [gR_h h.1]; rfl
theorem Cls.g9 (h : Cls M I O S K B C H N E) : gR M 10 9 100 = some 714 := by rw [gR_h h.1]; rfl
theorem Cls.g10 (h : Cls M I O S K B C H N E) : gR M 10 10 100 = some 715 := by rw [gR_h h.1]; rfl
theorem Cls.g11 (h : Cls M I O S K B C H N E) : gI M 10 11 100 = some E.1 := by rw [gI_h h.1]; rfl
theorem Cls.g12 (h : Cls M I O S K B C H N E) : gI M 10 12 100 = some E.2 := by rw [gI_h h.1]; rfl
theorem Cls.p11 (h : Cls M I O S K B C H N E) (v : Int32) : ∃ M', pV M 10 11 100 (.int v) = some M' ∧ Cls M' I O S K B C H N (v, E.2) ∧ off M M' 100 1 := by
  refine ⟨mset M 100 (obX (v, E.2)), by rw [pV_h h.1 (Nat.le_of_ble_eq_true rfl)]; rfl, h.mE (mset_at _ _ _) (off_set _ _ _), off_set _ _ _⟩
theorem Cls.p12 (h : Cls M I O S K B C H N E) (v : Int32) : ∃ M', pV M 10 12 100 (.int v) = some M' ∧ Cls M' I O S K B C H N (E.1, v) ∧ off M M' 100 1 := by
  refine ⟨mset M 100 (obX (E.1, v)), by rw [pV_h h.1 (Nat.le_of_ble_eq_true rfl)]; rfl, h.mE (mset_at _ _ _) (off_set _ _ _), off_set _ _ _⟩
theorem Cls.i (h : Cls M I O S K B C H N E) : yA M 101 700 I := h.2.1
theorem Cls.o (h : Cls M I O S K B C H N E) : yA M 103 4096 O := h.2.2.1
theorem Cls.s (h : Cls M I O S K B C H N E) : stA M 105 S := h.2.2.2.1
theorem Cls.h (h : Cls M I O S K B C H N E) : hA M 343 C H := h.2.2.2.2.2.2.2.2.2.1
theorem Cls.n (h : Cls M I O S K B C H N E) : ntA M 699 N := h.2.2.2.2.2.2.2.2.2.2.1
end
/-- the reference -/
def Ref (R : Rs) (I O : List Int32) (S : St) (K : Nat → St) (B : Nat → Bool) (C : Nat) (H : Nat → St) (N : List Nt) (E : Er) : Prop :=
  R.2.1 = false ∧ rep (rowf R) S ∧ hsR R C H ∧ ntR R N ∧ (R.1 8 = nI I.length ∧ ∀ k, k < I.length → R.2.2.2 5 k = I.getD k 0) ∧ (R.1 27 = nI O.length ∧ ∀ k, k < O.length → R.2.2.2 11 k = O.getD k 0) ∧
  (R.1 14 = E.1 ∧ R.1 15 = E.2) ∧ ∀ j, j < 2 → R.2.2.2 9 j = b2i (B j) ∧ (B j = true → rep (fun q => R.2.2.1 8 (806 * j + q)) (K j))
section
variable {R R' : Rs} {I O : List Int32} {S : St} {K : Nat → St} {B : Nat → Bool} {C : Nat} {H : Nat → St} {N : List Nt} {E : Er}
/-- a command's writes -/
def kpC (R R' : Rs) : Prop := kp [5, 25] [1, 10] [3, 4] R R'
theorem Ref.up {S' : St} {C' : Nat} {H' : Nat → St} {N' : List Nt} (h : Ref R I O S K B C H N E) (k : kpC R R') (hr : rep (rowf R') S') (hh : hsR R' C' H') (hn : ntR R' N') : Ref R' I O S' K B C' H' N' E := by
  obtain ⟨a1, a2, a3, a4, ⟨a5, a6⟩, ⟨a7, a8⟩, ⟨a9, b1⟩, b2⟩ := h
  obtain ⟨k1, k2, k3, k4⟩ := k
  have i5 := k4 5 (by simp)
  have i9 := k4 9 (by simp)
  have i11 := k4 11 (by simp)
  have j8 := k3 8 (by simp)
  exact ⟨k1.trans a1, hr, hh, hn, ⟨(k2 8 (by simp)).trans a5, by rw [i5]; exact a6⟩, ⟨(k2 27 (by simp)).trans a7, by rw [i11]; exact a8⟩, ⟨(k2 14 (by simp)).trans a9, (k2 15 (by simp)).trans b1⟩, fun j hj => by rw [i9, j8]; exact b2 j hj⟩
theorem Ref.t (h : Ref R I O S K B C H N E) (t : Int32) : Ref (rsS R 0 t) I O S K B C H N E := h
theorem hsR.agr {H' : Nat → St} (h : hsR R C H) (e : ∀ i, i < C → agr (H i) (H' i)) : hsR R C H' := ⟨h.1, h.2.1, fun i hi => (h.2.2 i hi).agr (e i hi)⟩
theorem Ref.aH {H' : Nat → St} (h : Ref R I O S K B C H N E) (e : ∀ i, i < C → agr (H i) (H' i)) : Ref R I O S K B C H' N E := ⟨h.1, h.2.1, h.2.2.1.agr e, h.2.2.2⟩
theorem Ref.aS {S' : St} (h : Ref R I O S K B C H N E) (e : agr S S') : Ref R I O S' K B C H N E := ⟨h.1, h.2.1.agr e, h.2.2⟩
theorem Ref.aK {K' : Nat → St} (h : Ref R I O S K B C H N E) (e : ∀ j, j < 2 → B j = true → agr (K j) (K' j)) : Ref R I O S K' B C H N E := by
  obtain ⟨a1, a2, a3, a4, a5, a6, a7, b2⟩ := h
  exact ⟨a1, a2, a3, a4, a5, a6, a7, fun j hj => ⟨(b2 j hj).1, fun hB => ((b2 j hj).2 hB).agr (e j hj hB)⟩⟩
theorem agr.sy {S T : St} (h : agr S T) : agr T S := ⟨h.1.symm, h.2.1.symm, h.2.2.1.symm, fun k hk => (h.2.2.2.1 k (by rw [← h.2.1]; exact hk)).symm, fun k hk => (h.2.2.2.2 k (by rw [← h.2.2.1]; exact hk)).symm⟩
theorem agr.rf (S : St) : agr S S := ⟨rfl, rfl, rfl, fun _ _ => rfl, fun _ _ => rfl⟩
end
