/-! PURE: states of the class -/
abbrev Bx : Type := Int64 × Int32 × Ms
abbrev Sx : Type := Int64 × Int32 × Bool × Bool × Int32 × List En × List Int32
def bxA (M : Mem) (r : Nat) (b : Bx) : Prop := bA M r b.1 b.2.1 b.2.2
def sxA (M : Mem) (r : Nat) (s : Sx) : Prop := sA M r s.1 s.2.1 s.2.2.1 s.2.2.2.1 s.2.2.2.2.1 s.2.2.2.2.2.1 s.2.2.2.2.2.2
def sxB (s : Sx) : Int32 := s.2.1
def sxR (s : Sx) : Bool := s.2.2.1
def sxI (s : Sx) : Bool := s.2.2.2.1
def sxH (s : Sx) : Int32 := s.2.2.2.2.1
def sxE (s : Sx) : List En := s.2.2.2.2.2.1
def sxC (s : Sx) : List Int32 := s.2.2.2.2.2.2
/-- limit, boxes, sessions, and what they are -/
abbrev St : Type := Int32 × Nat × Nat × (Nat → Bx) × (Nat → Sx)
def stL (S : St) : Int32 := S.1
def stN (S : St) : Nat := S.2.1
def stM (S : St) : Nat := S.2.2.1
def stB (S : St) : Nat → Bx := S.2.2.2.1
def stS (S : St) : Nat → Sx := S.2.2.2.2
def boxR (r k : Nat) : Nat := r + 2 + 7 * k
def sesR (r k : Nat) : Nat := r + 24 + 7 * k
/-- a state at r: 59 cells -/
def stA (M : Mem) (r : Nat) (S : St) : Prop :=
  M.1 r = some (.inr (7, [.int (stL S), .int (nI (stN S)), .int (nI (stM S)), .ref (r + 1), .ref (r + 23), .ref (r + 52)])) ∧
  (∃ f : Nat → Option Nat, M.1 (r + 1) = some (.inl (5, (3, .inr (.inr (.inr (.inr f)))))) ∧ ∀ k, k < 3 → f k = some (boxR r k)) ∧
  (∃ f : Nat → Option Nat, M.1 (r + 23) = some (.inl (6, (4, .inr (.inr (.inr (.inr f)))))) ∧ ∀ k, k < 4 → f k = some (sesR r k)) ∧
  stN S ≤ 3 ∧ stM S ≤ 4 ∧ (∀ k, k < 3 → bxA M (boxR r k) (stB S k)) ∧ (∀ k, k < 4 → sxA M (sesR r k) (stS S k)) ∧ ∃ J nx, bA M (r + 52) J nx []
theorem stA.sm {M M' : Mem} {r : Nat} {S : St} (h : stA M r S) (s : same M M' r 59) : stA M' r S := by
  obtain ⟨h1, ⟨f, h2, h3⟩, ⟨g, h4, h5⟩, h6, h7, h8, h9, J, nx, h10⟩ := h
  refine ⟨(s r (by omega) (by omega)).trans h1, ⟨f, (s _ (by omega) (by omega)).trans h2, h3⟩, ⟨g, (s _ (by omega) (by omega)).trans h4, h5⟩, h6, h7, fun k hk => ?_, fun k hk => ?_, J, nx, h10.sm (s.sub (by omega) (by omega))⟩
  · exact (h8 k hk).sm (s.sub (by unfold boxR; omega) (by unfold boxR; omega))
  · exact (h9 k hk).sm (s.sub (by unfold sesR; omega) (by unfold sesR; omega))
section
variable {M : Mem} {r : Nat} {S : St}
theorem stA.n3 (h : stA M r S) : stN S ≤ 3 := h.2.2.2.1
theorem stA.m4 (h : stA M r S) : stM S ≤ 4 := h.2.2.2.2.1
theorem stA.bx (h : stA M r S) {k : Nat} (hk : k < 3) : bxA M (boxR r k) (stB S k) := h.2.2.2.2.2.1 k hk
theorem stA.sx (h : stA M r S) {k : Nat} (hk : k < 4) : sxA M (sesR r k) (stS S k) := h.2.2.2.2.2.2.1 k hk
theorem stA.gL (h : stA M r S) : gI M 7 0 r = some (stL S) := by rw [gI_h h.1]; rfl
theorem stA.gN (h : stA M r S) : gI M 7 1 r = some (nI (stN S)) := by rw [gI_h h.1]; rfl
theorem stA.gM (h : stA M r S) : gI M 7 2 r = some (nI (stM S)) := by rw [gI_h h.1]; rfl
theorem stA.gB (h : stA M r S) : gR M 7 3 r = some (r + 1) := by rw [gR_h h.1]; rfl
theorem stA.gS (h : stA M r S) : gR M 7 4 r = some (r + 23) := by rw [gR_h h.1]; rfl
theorem stA.g0 (h : stA M r S) : gR M 7 5 r = some (r + 52) := by rw [gR_h h.1]; rfl
theorem X8_boxAt_in (h : stA M r S) {k : Nat} (hk : k < stN S) : f_X8_boxAt r (nI k) M = some (some (boxR r k)) := by
  have h3 := h.n3
  obtain ⟨f, f1, f2⟩ := h.2.1
  simp only [f_X8_boxAt, ob_h h.1, neg0 (show k < 2 ^ 31 by omega), if_false, h.gN, h.gB, aL_h f1, leF rfl rfl hk (show stN S < 2 ^ 31 by omega), leF rfl rfl (show k < 3 by omega) (show 3 < 2 ^ 31 by omega), bso, aQ_h f1 (inR_n (show k < 3 by omega) (by omega)), nI_clamp (show k < 2 ^ 31 by omega), f2 k (by omega)]
theorem X8_boxAt_out (h : stA M r S) {i : Int32} (hi : i < 0 ∨ nI (stN S) ≤ i) : f_X8_boxAt r i M = some none := by
  simp only [f_X8_boxAt, ob_h h.1, h.gN, bso]
  by_cases e : i < 0
  · rw [if_pos e]
  · rw [if_neg e, if_pos (hi.resolve_left e)]
theorem X8_sesAt_in (h : stA M r S) {k : Nat} (hk : k < stM S) : f_X8_sessionAt r (nI k) M = some (some (sesR r k)) := by
  have h3 := h.m4
  obtain ⟨f, f1, f2⟩ := h.2.2.1
  simp only [f_X8_sessionAt, ob_h h.1, neg0 (show k < 2 ^ 31 by omega), if_false, h.gM, h.gS, aL_h f1, leF rfl rfl hk (show stM S < 2 ^ 31 by omega), leF rfl rfl (show k < 4 by omega) (show 4 < 2 ^ 31 by omega), bso, aQ_h f1 (inR_n (show k < 4 by omega) (by omega)), nI_clamp (show k < 2 ^ 31 by omega), f2 k (by omega)]
theorem X8_sesAt_out (h : stA M r S) {i : Int32} (hi : i < 0 ∨ nI (stM S) ≤ i) : f_X8_sessionAt r i M = some none := by
  simp only [f_X8_sessionAt, ob_h h.1, h.gM, bso]
  by_cases e : i < 0
  · rw [if_pos e]
  · rw [if_neg e, if_pos (hi.resolve_left e)]
/-- the state's own numbers become others -/
theorem stA.head (h : stA M r S) {L : Int32} {n m : Nat} (hn : n ≤ 3) (hm : m ≤ 4) : stA (mset M r (.inr (7, [.int L, .int (nI n), .int (nI m), .ref (r + 1), .ref (r + 23), .ref (r + 52)]))) r (L, n, m, stB S, stS S) := by
  have o := off_set M r (.inr (7, [.int L, .int (nI n), .int (nI m), .ref (r + 1), .ref (r + 23), .ref (r + 52)]))
  obtain ⟨h1, ⟨f, h2, h3⟩, ⟨g, h4, h5⟩, h6, h7, h8, h9, J, nx, h10⟩ := h
  refine ⟨mset_at _ _ _, ⟨f, (o.2 _ (by omega)).trans h2, h3⟩, ⟨g, (o.2 _ (by omega)).trans h4, h5⟩, hn, hm, fun k hk => ?_, fun k hk => ?_, J, nx, h10.sm (o.same (by omega))⟩
  · exact (h8 k hk).sm (o.same (by unfold boxR; omega))
  · exact (h9 k hk).sm (o.same (by unfold sesR; omega))
theorem stA.pL (h : stA M r S) (L : Int32) : ∃ M', pV M 7 0 r (.int L) = some M' ∧ stA M' r (L, stN S, stM S, stB S, stS S) ∧ off M M' r 1 := ⟨_, by rw [pV_h h.1 (Nat.le_of_ble_eq_true rfl)]; rfl, h.head h.n3 h.m4, off_set _ _ _⟩
theorem stA.pN (h : stA M r S) {n : Nat} (hn : n ≤ 3) : ∃ M', pV M 7 1 r (.int (nI n)) = some M' ∧ stA M' r (stL S, n, stM S, stB S, stS S) ∧ off M M' r 1 := ⟨_, by rw [pV_h h.1 (Nat.le_of_ble_eq_true rfl)]; rfl, h.head hn h.m4, off_set _ _ _⟩
theorem stA.pM (h : stA M r S) {n : Nat} (hn : n ≤ 4) : ∃ M', pV M 7 2 r (.int (nI n)) = some M' ∧ stA M' r (stL S, stN S, n, stB S, stS S) ∧ off M M' r 1 := ⟨_, by rw [pV_h h.1 (Nat.le_of_ble_eq_true rfl)]; rfl, h.head h.n3 hn, off_set _ _ _⟩
theorem va_up_s {α : Type} (f : Nat → α) (k : Nat) (v : α) : va_up f k v k = v := if_pos rfl
theorem va_up_n {α : Type} (f : Nat → α) {k j : Nat} (v : α) (h : j ≠ k) : va_up f k v j = f j := if_neg h
/-- one box becomes another -/
theorem stA.setB {M' : Mem} (h : stA M r S) {k : Nat} (hk : k < 3) {b : Bx} (hb : bxA M' (boxR r k) b) (s : ∀ q, r ≤ q → q < r + 59 → (q < boxR r k ∨ boxR r k + 7 ≤ q) → M'.1 q = M.1 q) : stA M' r (stL S, stN S, stM S, va_up (stB S) k b, stS S) := by
  unfold boxR at s
  obtain ⟨h1, ⟨f, h2, h3⟩, ⟨g, h4, h5⟩, h6, h7, h8, h9, J, nx, h10⟩ := h
  refine ⟨(s r (by omega) (by omega) (by omega)).trans h1, ⟨f, (s _ (by omega) (by omega) (by omega)).trans h2, h3⟩, ⟨g, (s _ (by omega) (by omega) (by omega)).trans h4, h5⟩, h6, h7, fun j hj => ?_, fun j hj => ?_, J, nx, h10.sm (fun q q1 q2 => s q (by omega) (by omega) (by omega))⟩
  · by_cases e : j = k
    · subst e
      show bxA M' (boxR r j) (va_up (stB S) j b j)
      rw [va_up_s]; exact hb
    · show bxA M' (boxR r j) (va_up (stB S) k b j)
      rw [va_up_n _ _ e]
      exact (h8 j hj).sm (fun q q1 q2 => s q (by unfold boxR at *; omega) (by unfold boxR at *; omega) (by unfold boxR at *; omega))
  · exact (h9 j hj).sm (fun q q1 q2 => s q (by unfold sesR at *; omega) (by unfold sesR at *; omega) (by unfold sesR at *; omega))
theorem stA.setS {M' : Mem} (h : stA M r S) {k : Nat} (hk : k < 4) {b : Sx} (hb : sxA M' (sesR r k) b) (s : ∀ q, r ≤ q → q < r + 59 → (q < sesR r k ∨ sesR r k + 7 ≤ q) → M'.1 q = M.1 q) : stA M' r (stL S, stN S, stM S, stB S, va_up (stS S) k b) := by
  unfold sesR at s
  obtain ⟨h1, ⟨f, h2, h3⟩, ⟨g, h4, h5⟩, h6, h7, h8, h9, J, nx, h10⟩ := h
  refine ⟨(s r (by omega) (by omega) (by omega)).trans h1, ⟨f, (s _ (by omega) (by omega) (by omega)).trans h2, h3⟩, ⟨g, (s _ (by omega) (by omega) (by omega)).trans h4, h5⟩, h6, h7, fun j hj => ?_, fun j hj => ?_, J, nx, h10.sm (fun q q1 q2 => s q (by omega) (by omega) (by omega))⟩
  · exact (h8 j hj).sm (fun q q1 q2 => s q (by unfold boxR at *; omega) (by unfold boxR at *; omega) (by unfold boxR at *; omega))
  · by_cases e : j = k
    · subst e
      show sxA M' (sesR r j) (va_up (stS S) j b j)
      rw [va_up_s]; exact hb
    · show sxA M' (sesR r j) (va_up (stS S) k b j)
      rw [va_up_n _ _ e]
      exact (h9 j hj).sm (fun q q1 q2 => s q (by unfold sesR at *; omega) (by unfold sesR at *; omega) (by unfold sesR at *; omega))
theorem X8_clear_e (h : stA M r S) : ∃ M', f_X8_clear r M = some M' ∧ stA M' r (30, 0, 0, stB S, stS S) ∧ off M M' r 59 := by
  obtain ⟨M1, e1, h1, o1⟩ := h.pL 30
  obtain ⟨M2, e2, h2, o2⟩ := h1.pN (n := 0) (by omega)
  obtain ⟨M3, e3, h3, o3⟩ := h2.pM (n := 0) (by omega)
  have e2' : pV M1 7 1 r (.int 0) = some M2 := e2
  have e3' : pV M2 7 2 r (.int 0) = some M3 := e3
  exact ⟨M3, by simp only [f_X8_clear, ob_h h.1, e1, e2', e3', bso], h3, ((o1.wide (by omega) (by omega)).trans (o2.wide (by omega) (by omega))).trans (o3.wide (by omega) (by omega))⟩
theorem X8_addBox_e (h : stA M r S) (hn : stN S < 3) : ∃ M', f_X8_addBox r M = some (some (boxR r (stN S)), M') ∧ stA M' r (stL S, stN S + 1, stM S, stB S, stS S) ∧ off M M' r 1 := by
  obtain ⟨M1, e1, h1, o1⟩ := h.pN (n := stN S + 1) (by omega)
  refine ⟨M1, ?_, h1, o1⟩
  have hb := X8_boxAt_in h1 (k := stN S) (Nat.lt_succ_self _)
  have hN : gI M1 7 1 r = some (nI (stN S + 1)) := h1.gN
  simp only [f_X8_addBox, ob_h h.1, h.gN, bso, nI_1, e1, hN, nI_pred, hb]
  rw [if_pos (show nI (stN S) < 3 from (nI_ltI (b := 3) (by omega) (by omega)).mpr hn)]
theorem X8_addBox_no (h : stA M r S) (hn : stN S = 3) : f_X8_addBox r M = some (none, M) := by
  simp only [f_X8_addBox, ob_h h.1, h.gN, bso, hn]
  rw [if_neg (by decide)]
theorem X8_addSes_e (h : stA M r S) (hn : stM S < 4) : ∃ M', f_X8_addSession r M = some (some (sesR r (stM S)), M') ∧ stA M' r (stL S, stN S, stM S + 1, stB S, stS S) ∧ off M M' r 1 := by
  obtain ⟨M1, e1, h1, o1⟩ := h.pM (n := stM S + 1) (by omega)
  refine ⟨M1, ?_, h1, o1⟩
  have hb := X8_sesAt_in h1 (k := stM S) (Nat.lt_succ_self _)
  have hN : gI M1 7 2 r = some (nI (stM S + 1)) := h1.gM
  simp only [f_X8_addSession, ob_h h.1, h.gM, bso, nI_1, e1, hN, nI_pred, hb]
  rw [if_pos (show nI (stM S) < 4 from (nI_ltI (b := 4) (by omega) (by omega)).mpr hn)]
theorem X8_addSes_no (h : stA M r S) (hn : stM S = 4) : f_X8_addSession r M = some (none, M) := by
  simp only [f_X8_addSession, ob_h h.1, h.gM, bso, hn]
  rw [if_neg (by decide)]
end
/-- the same as far as anyone can ask -/
def agr (S T : St) : Prop := stL S = stL T ∧ stN S = stN T ∧ stM S = stM T ∧ (∀ k, k < stN T → stB S k = stB T k) ∧ (∀ k, k < stM T → stS S k = stS T k)
section
variable {r r2 : Nat} {T : St}
theorem X8_takeB_loop (d : r + 59 ≤ r2 ∨ r2 + 59 ≤ r) : ∀ (n k fu : Nat) (M : Mem) (S : St), k + n = stN T → n < fu → stA M r S → stA M r2 T → stN S = k → stM S = 0 → (∀ j, j < k → stB S j = stB T j) →
    ∃ M' S', f_X8_takeFrom_14 fu r r2 (nI k) M = f_X8_takeFrom_57 FU r r2 0 M' ∧ stA M' r S' ∧ off M M' r 59 ∧ stL S' = stL S ∧ stN S' = stN T ∧ stM S' = 0 ∧ (∀ j, j < stN T → stB S' j = stB T j) := by
  intro n
  induction n with
  | zero =>
    intro k fu M S hk hf h h2 a1 a2 a3
    obtain ⟨fu, rfl⟩ : ∃ m, fu = m + 1 := ⟨fu - 1, by omega⟩
    obtain rfl : k = stN T := by omega
    have := h2.n3
    refine ⟨M, S, ?_, h, off.rf _ _ _, rfl, a1, a2, a3⟩
    simp only [f_X8_takeFrom_14, h2.gN, bso, leT rfl rfl (Nat.le_refl (stN T)) (show stN T < 2 ^ 31 by omega), if_true]
  | succ n ih =>
    intro k fu M S hk hf h h2 a1 a2 a3
    obtain ⟨fu, rfl⟩ : ∃ m, fu = m + 1 := ⟨fu - 1, by omega⟩
    have hn3 := h2.n3
    obtain ⟨M1, e1, h1, o1⟩ := X8_addBox_e h (by omega)
    rw [a1] at e1
    have g2 := h2.sm (o1.same (by omega))
    have hb1 := h1.bx (k := k) (by omega)
    have hb2 := g2.bx (k := k) (by omega)
    obtain ⟨M2, e2, b2, o2⟩ := X0_take_e hb1 hb2 (by unfold boxR; omega)
    have h3 := h1.setB (k := k) (b := stB T k) (by omega) b2 (fun q _ _ q3 => o2.2 q q3)
    obtain ⟨M', S', e', h', o', b1, b2', b3, b4⟩ := ih (k + 1) fu M2 _ (by omega) (by omega) h3 (g2.sm (o2.same (by unfold boxR; omega))) (by show stN S + 1 = k + 1; rw [a1]) a2 (fun j hj => by
      show va_up (stB S) k (stB T k) j = stB T j
      by_cases e : j = k
      · subst e; rw [va_up_s]
      · rw [va_up_n _ _ e]; exact a3 j (by omega))
    refine ⟨M', S', ?_, h', ((o1.wide (by omega) (by omega)).trans (o2.wide (by unfold boxR; omega) (by unfold boxR; omega))).trans o', b1, b2', b3, b4⟩
    simp only [f_X8_takeFrom_14, h2.gN, bso, leF rfl rfl (show k < stN T by omega) (show stN T < 2 ^ 31 by omega), if_false, X8_boxAt_in h2 (show k < stN T by omega), e1, e2, f_X8_takeFrom_49, nI_1, e']
theorem X8_takeS_loop (d : r + 59 ≤ r2 ∨ r2 + 59 ≤ r) : ∀ (n k fu : Nat) (M : Mem) (S : St), k + n = stM T → n < fu → stA M r S → stA M r2 T → stM S = k → (∀ j, j < k → stS S j = stS T j) →
    ∃ M' S', f_X8_takeFrom_57 fu r r2 (nI k) M = some M' ∧ stA M' r S' ∧ off M M' r 59 ∧ stL S' = stL S ∧ stN S' = stN S ∧ stB S' = stB S ∧ stM S' = stM T ∧ (∀ j, j < stM T → stS S' j = stS T j) := by
  intro n
  induction n with
  | zero =>
    intro k fu M S hk hf h h2 a1 a3
    obtain ⟨fu, rfl⟩ : ∃ m, fu = m + 1 := ⟨fu - 1, by omega⟩
    obtain rfl : k = stM T := by omega
    have := h2.m4
    refine ⟨M, S, ?_, h, off.rf _ _ _, rfl, rfl, rfl, a1, a3⟩
    simp only [f_X8_takeFrom_57, h2.gM, bso, leT rfl rfl (Nat.le_refl (stM T)) (show stM T < 2 ^ 31 by omega), if_true]
  | succ n ih =>
    intro k fu M S hk hf h h2 a1 a3
    obtain ⟨fu, rfl⟩ : ∃ m, fu = m + 1 := ⟨fu - 1, by omega⟩
    have hn3 := h2.m4
    obtain ⟨M1, e1, h1, o1⟩ := X8_addSes_e h (by omega)
    rw [a1] at e1
    have g2 := h2.sm (o1.same (by omega))
    have hb1 := h1.sx (k := k) (by omega)
    have hb2 := g2.sx (k := k) (by omega)
    obtain ⟨M2, e2, b2, o2⟩ := X7_take_e hb1 hb2 (by unfold sesR; omega)
    have h3 := h1.setS (k := k) (b := stS T k) (by omega) b2 (fun q _ _ q3 => o2.2 q q3)
    obtain ⟨M', S', e', h', o', b1, b2', b3, b4, b5⟩ := ih (k + 1) fu M2 _ (by omega) (by omega) h3 (g2.sm (o2.same (by unfold sesR; omega))) (by show stM S + 1 = k + 1; rw [a1]) (fun j hj => by
      show va_up (stS S) k (stS T k) j = stS T j
      by_cases e : j = k
      · subst e; rw [va_up_s]
      · rw [va_up_n _ _ e]; exact a3 j (by omega))
    refine ⟨M', S', ?_, h', ((o1.wide (by omega) (by omega)).trans (o2.wide (by unfold sesR; omega) (by unfold sesR; omega))).trans o', b1, b2', b3, b4, b5⟩
    simp only [f_X8_takeFrom_57, h2.gM, bso, leF rfl rfl (show k < stM T by omega) (show stM T < 2 ^ 31 by omega), if_false, X8_sesAt_in h2 (show k < stM T by omega), e1, e2, f_X8_takeFrom_92, nI_1, e']
theorem X8_take_e (d : r + 59 ≤ r2 ∨ r2 + 59 ≤ r) {M : Mem} {S : St} (h : stA M r S) (h2 : stA M r2 T) : ∃ M' S', f_X8_takeFrom r r2 M = some M' ∧ stA M' r S' ∧ off M M' r 59 ∧ agr S' T := by
  have n3 := h2.n3
  have m4 := h2.m4
  obtain ⟨M1, e1, h1, o1⟩ := X8_clear_e h
  have g1 := h2.sm (o1.same (by omega))
  obtain ⟨M2, e2, h2', o2⟩ := h1.pL (stL T)
  have g2 := g1.sm (o2.same (by omega))
  obtain ⟨M3, S3, e3, h3, o3, c1, c2, c3, c4⟩ := X8_takeB_loop d (stN T) 0 FU M2 _ (Nat.zero_add _) (by rw [FU_eq]; omega) h2' g2 rfl rfl (fun j hj => absurd hj (Nat.not_lt_zero _))
  have g3 := g2.sm (o3.same (by omega))
  obtain ⟨M4, S4, e4, h4, o4, q1, q2, q3, q4, q5⟩ := X8_takeS_loop d (stM T) 0 FU M3 S3 (Nat.zero_add _) (by rw [FU_eq]; omega) h3 g3 c3 (fun j hj => absurd hj (Nat.not_lt_zero _))
  have e3' : f_X8_takeFrom_14 FU r r2 0 M2 = f_X8_takeFrom_57 FU r r2 0 M3 := e3
  have e4' : f_X8_takeFrom_57 FU r r2 0 M3 = some M4 := e4
  refine ⟨M4, S4, ?_, h4, ((o1.trans (o2.wide (by omega) (by omega))).trans o3).trans o4, q1.trans c1, q2.trans c2, q4, fun k hk => by rw [q3]; exact c4 k hk, q5⟩
  simp only [f_X8_takeFrom, ob_h h.1, e1, g1.gL, e2, bso, e3', e4']
end
