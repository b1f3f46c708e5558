/-! PURE: what holds between calls; a call of the law -/
def okNs (N : List Nt) : Prop := N.length ≤ 244 ∧ ∀ x ∈ N, (∃ a : Nat, a < 4 ∧ n0 x = nI a) ∧ ∃ b : Nat, b < 100 ∧ n2 x = nI b
def okI (I : List Int32) : Prop := I.length ≤ 700 ∧ ∀ x ∈ I, -128 ≤ x.toInt ∧ x.toInt ≤ 127
def okO (O : List Int32) : Prop := O.length ≤ 4096 ∧ ∀ x ∈ O, x &&& 255 = x
def okW (c : Nat) (I O : List Int32) (S : St) (K : Nat → St) (B : Nat → Bool) (C : Nat) (H : Nat → St) (N : List Nt) : Prop :=
  okI I ∧ okO O ∧ okS c S ∧ (∀ j, j < 2 → B j = true → okS c (K j)) ∧ (∀ i, i < C → okS c (H i)) ∧ okNs N
theorem okBx.up {c c' : Nat} {b : Bx} (h : okBx c b) (e : c ≤ c') : okBx c' b := by
  obtain ⟨⟨n, h1, h2, h3⟩, h4⟩ := h
  exact ⟨⟨n, h1, h2, by omega⟩, h4⟩
theorem okS.up {c c' : Nat} {S : St} (h : okS c S) (e : c ≤ c') : okS c' S := ⟨h.1, h.2.1, fun b hb => (h.2.2.1 b hb).up e, h.2.2.2⟩
theorem okB.eq {S T : St} {bx : Int32} (h : okB S bx) (e : stN S = stN T) : okB T bx := h.up (by omega)
theorem okS.agr {c : Nat} {S T : St} (h : okS c S) (g : agr S T) : okS c T := by
  obtain ⟨g1, g2, g3, g4, g5⟩ := g
  refine ⟨by rw [← g1]; exact h.1, by rw [← g2, ← g3]; exact h.2.1, fun b hb => by rw [← g4 b hb]; exact h.2.2.1 b (by omega), fun k hk => ?_⟩
  obtain ⟨⟨e1, e2⟩, e3, e4, e5, e6⟩ := h.2.2.2 k (by omega)
  rw [← g5 k hk]
  exact ⟨⟨e1.eq g2, e2⟩, e3, e4, e5, fun b hb z => by rw [← g4 b hb]; exact e6 b (by omega) z⟩
theorem okW.up {c c' : Nat} {I O : List Int32} {S : St} {K : Nat → St} {B : Nat → Bool} {C : Nat} {H : Nat → St} {N : List Nt} (h : okW c I O S K B C H N) (e : c ≤ c') : okW c' I O S K B C H N :=
  ⟨h.1, h.2.1, h.2.2.1.up e, fun j hj hB => (h.2.2.2.1 j hj hB).up e, fun i hi => (h.2.2.2.2.1 i hi).up e, h.2.2.2.2.2⟩
theorem bX_l {α β : Type} {f : Option ((α ⊕ String) × Mem)} {x : α} {M1 : Mem} (h : f = some (.inl x, M1)) (kk : α → Mem → Option ((β ⊕ String) × Mem)) : bX f kk = kk x M1 := by rw [h]; rfl
theorem bX_r {α β : Type} {f : Option ((α ⊕ String) × Mem)} {E : String} {M1 : Mem} (h : f = some (.inr E, M1)) (kk : α → Mem → Option ((β ⊕ String) × Mem)) : bX f kk = some (.inr E, M1) := by rw [h]; rfl
section
variable {M : Mem} {R : Rs} {I O : List Int32} {S : St} {K : Nat → St} {B : Nat → Bool} {C : Nat} {H : Nat → St} {N : List Nt} {E : Er} {c : Nat} {t v : Int32} {hs : List (String × Int32)}
/-! asking -/
theorem notin {i : Int32} {n : Nat} (hn : n < 2 ^ 31) (h : ¬ ∃ k, k < n ∧ i = nI k) : i < 0 ∨ nI n ≤ i := by
  rcases i_cases i with hi | ⟨k, hk, rfl⟩
  · exact .inl hi
  · refine .inr (nI_le ?_ hk)
    by_cases e : k < n
    · exact absurd ⟨k, e, rfl⟩ h
    · omega
theorem reqBox_in (h : Cls M I O S K B C H N E) {b : Nat} (hb : b < stN S) : f_X11_requireBox 100 (nI b) M = some (.inl (boxR 105 b), M) := by
  simp only [f_X11_requireBox, h.ob, h.g2, bso, X8_boxAt_in h.s hb]
theorem reqSes_in (h : Cls M I O S K B C H N E) {b : Nat} (hb : b < stM S) : f_X11_requireSession 100 (nI b) M = some (.inl (sesR 105 b), M) := by
  simp only [f_X11_requireSession, h.ob, h.g2, bso, X8_sesAt_in h.s hb]
theorem reqEnt_in {q : Nat} {s : Sx} (h : sxA M q s) {k : Nat} (hk : k < (sxE s).length) : f_X11_requireEntry q (nI (k + 1)) M = some (.inl (), M) := by
  have hl : (sxE s).length ≤ 60 := sA.len h
  have hs : f_X7_size q M = some (nI (sxE s).length) := X7_size_e h
  have h1 : (nI (k + 1) < 1) = False := ltF (y := 1) (b := 1) rfl rfl (by omega) (by omega)
  simp only [f_X11_requireEntry, h1, if_false, hs, bso, leT rfl rfl (show k + 1 ≤ (sxE s).length by omega) (show (sxE s).length < 2 ^ 31 by omega), if_true]
theorem Cls.sx (h : Cls M I O S K B C H N E) {k : Nat} (hk : k < stM S) : sxA M (sesR 105 k) (stS S k) := h.s.sx (by have := h.s.m4; omega)
theorem Cls.bx (h : Cls M I O S K B C H N E) {b : Nat} (hb : b < stN S) : bxA M (boxR 105 b) (stB S b) := h.s.bx (by have := h.s.n3; omega)
end
