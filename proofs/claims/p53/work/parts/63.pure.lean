/-! PURE: what can be undone -/
def plR (r k : Nat) : Nat := r + 2 + 59 * k
/-- the states kept at r, 356 cells: how many, the latest first -/
def hA (M : Mem) (r cnt : Nat) (hk : Nat → St) : Prop :=
  ∃ (nxt : Nat) (pst : Nat → St), M.1 r = some (.inr (2, [.ref (r + 1), .int (nI nxt), .int (nI cnt)])) ∧
  (∃ f : Nat → Option Nat, M.1 (r + 1) = some (.inl (7, (6, .inr (.inr (.inr (.inr f)))))) ∧ ∀ k, k < 6 → f k = some (plR r k)) ∧
  nxt < 6 ∧ cnt ≤ 6 ∧ (∀ k, k < 6 → stA M (plR r k) (pst k)) ∧ ∀ i, i < cnt → pst ((nxt + 5 - i) % 6) = hk i
theorem hA.sm {M M' : Mem} {r cnt : Nat} {hk : Nat → St} (h : hA M r cnt hk) (s : same M M' r 356) : hA M' r cnt hk := by
  obtain ⟨nxt, pst, h1, ⟨f, h2, h3⟩, h4, h5, h6, h7⟩ := h
  exact ⟨nxt, pst, (s r (by omega) (by omega)).trans h1, ⟨f, (s _ (by omega) (by omega)).trans h2, h3⟩, h4, h5, fun k hk => (h6 k hk).sm (s.sub (by unfold plR; omega) (by unfold plR; omega)), h7⟩
theorem X2_place {M : Mem} {r nxt cnt k : Nat} {f : Nat → Option Nat} (h1 : M.1 r = some (.inr (2, [.ref (r + 1), .int (nI nxt), .int (nI cnt)]))) (h2 : M.1 (r + 1) = some (.inl (7, (6, .inr (.inr (.inr (.inr f))))))) (h3 : ∀ k, k < 6 → f k = some (plR r k)) (hk : k < 6) : f_X2_placeAt r (nI k) M = some (some (plR r k)) := by
  have g : gR M 2 0 r = some (r + 1) := by rw [gR_h h1]; rfl
  simp only [f_X2_placeAt, ob_h h1, neg0 (show k < 2 ^ 31 by omega), if_false, g, aL_h h2, bso, leF rfl rfl (show k < 6 by omega) (show 6 < 2 ^ 31 by omega), aQ_h h2 (inR_n hk (by omega)), nI_clamp (show k < 2 ^ 31 by omega), h3 k hk]
theorem hA.c6 {M : Mem} {r cnt : Nat} {hk : Nat → St} (h : hA M r cnt hk) : cnt ≤ 6 := by
  obtain ⟨nxt, pst, h1, h2, h3, h4, h5⟩ := h
  exact h4
/-- the head and one place become others -/
theorem h_set {M M1 : Mem} {r nxt cnt n' c' k : Nat} {pst : Nat → St} {S' : St} {f : Nat → Option Nat} (h1 : M.1 r = some (.inr (2, [.ref (r + 1), .int (nI nxt), .int (nI cnt)]))) (h2 : M.1 (r + 1) = some (.inl (7, (6, .inr (.inr (.inr (.inr f))))))) (h6 : ∀ k, k < 6 → stA M (plR r k) (pst k)) (hk : k < 6) (hS : stA M1 (plR r k) S') (o : off M M1 (plR r k) 59) :
    let M2 := mset M1 r (.inr (2, [.ref (r + 1), .int (nI n'), .int (nI c')]))
    M2.1 r = some (.inr (2, [.ref (r + 1), .int (nI n'), .int (nI c')])) ∧ M2.1 (r + 1) = some (.inl (7, (6, .inr (.inr (.inr (.inr f)))))) ∧ (∀ j, j < 6 → stA M2 (plR r j) (va_up pst k S' j)) ∧ off M M2 r 356 := by
  intro M2
  have o2 : off M1 M2 r 1 := off_set _ _ _
  refine ⟨mset_at _ _ _, ?_, fun j hj => ?_, (o.wide (by unfold plR; omega) (by unfold plR; omega)).trans (o2.wide (by omega) (by omega))⟩
  · rw [o2.2 _ (by omega), o.2 _ (by unfold plR; omega)]; exact h2
  · by_cases e : j = k
    · subst e
      rw [va_up_s]
      exact hS.sm (o2.same (by unfold plR; omega))
    · rw [va_up_n _ _ e]
      exact ((h6 j hj).sm (o.same (by unfold plR; omega))).sm (o2.same (by unfold plR; omega))
theorem X2_rem_e {M : Mem} {r cnt : Nat} {hk : Nat → St} (h : hA M r cnt hk) {r2 : Nat} {T : St} (h2 : stA M r2 T) (d : r + 356 ≤ r2 ∨ r2 + 59 ≤ r) :
    ∃ M' S', f_X2_remember r r2 M = some M' ∧ agr S' T ∧ hA M' r (if cnt < 6 then cnt + 1 else 6) (fun i => if i = 0 then S' else hk (i - 1)) ∧ off M M' r 356 := by
  obtain ⟨nxt, pst, a1, ⟨f, a2, a3⟩, a4, a5, a6, a7⟩ := h
  obtain ⟨M1, S', e1, s1, o1, g1⟩ := X8_take_e (r := plR r nxt) (r2 := r2) (by unfold plR; omega) (a6 nxt a4) h2
  have k1 : M1.1 r = some (.inr (2, [.ref (r + 1), .int (nI nxt), .int (nI cnt)])) := by rw [o1.2 _ (by unfold plR; omega)]; exact a1
  have hx : gI M 2 1 r = some (nI nxt) := by rw [gI_h a1]; rfl
  have hx1 : gI M1 2 1 r = some (nI nxt) := by rw [gI_h k1]; rfl
  obtain ⟨n', hn'⟩ : ∃ n', n' = if nxt + 1 < 6 then nxt + 1 else 0 := ⟨_, rfl⟩
  have hn6 : n' < 6 := by rw [hn']; split <;> omega
  obtain ⟨c', hc'⟩ : ∃ c', c' = if cnt < 6 then cnt + 1 else 6 := ⟨_, rfl⟩
  have hc6 : c' ≤ 6 := by rw [hc']; split <;> omega
  obtain ⟨b1, b2, b3, b4⟩ := h_set (n' := n') (c' := c') a1 a2 a6 a4 s1 o1
  have tail : f_X2_remember_41 r r (nI n') M1 = some (mset M1 r (.inr (2, [.ref (r + 1), .int (nI n'), .int (nI c')]))) := by
    have p1 : pV M1 2 1 r (.int (nI n')) = some (mset M1 r (.inr (2, [.ref (r + 1), .int (nI n'), .int (nI cnt)]))) := by rw [pV_h k1 (Nat.le_of_ble_eq_true rfl)]; rfl
    have k2 : (mset M1 r (.inr (2, [.ref (r + 1), .int (nI n'), .int (nI cnt)]))).1 r = some (.inr (2, [.ref (r + 1), .int (nI n'), .int (nI cnt)])) := mset_at _ _ _
    have hx2 : gI (mset M1 r (.inr (2, [.ref (r + 1), .int (nI n'), .int (nI cnt)]))) 2 2 r = some (nI cnt) := by rw [gI_h k2]; rfl
    have mm : ∀ a b, mset (mset M1 r a) r b = mset M1 r b := fun a b => by
      unfold mset
      refine Prod.ext (funext fun j => ?_) rfl
      by_cases e : j = r
      · simp [e]
      · simp [e]
    simp only [f_X2_remember_41, p1, hx2, bso]
    by_cases e : cnt < 6
    · rw [if_neg (show ¬ ((6 : Int32) ≤ nI cnt) from fun z => absurd ((nI_leI (a := 6) (by omega) (by omega)).mp z) (by omega)), nI_1]
      rw [pV_h k2 (Nat.le_of_ble_eq_true rfl), hc', if_pos e, mm]; rfl
    · have e6 : cnt = 6 := by omega
      rw [if_pos (show (6 : Int32) ≤ nI cnt by rw [e6]; decide)]
      rw [pV_h k2 (Nat.le_of_ble_eq_true rfl), hc', if_neg e, mm]; rfl
  refine ⟨_, S', ?_, g1, ⟨n', va_up pst nxt S', ?_, ⟨f, b2, a3⟩, hn6, by rw [← hc']; exact hc6, b3, ?_⟩, b4⟩
  · simp only [f_X2_remember, ob_h a1, hx, X2_place a1 a2 a3 a4, bso, e1, hx1, nI_1]
    by_cases e : nxt + 1 < 6
    · rw [if_neg (show ¬ ((6 : Int32) ≤ nI (nxt + 1)) from fun z => absurd ((nI_leI (a := 6) (by omega) (by omega)).mp z) (by omega))]
      rw [hn', if_pos e] at tail
      rw [hn', if_pos e]; exact tail
    · rw [if_pos (show (6 : Int32) ≤ nI (nxt + 1) by rw [show nxt + 1 = 6 by omega]; decide)]
      rw [hn', if_neg e] at tail
      rw [hn', if_neg e]; exact tail
  · rw [← hc']; exact b1
  · intro i hi
    rw [← hc'] at hi
    have hi6 : i < 6 := by omega
    by_cases e : i = 0
    · subst e
      have : (n' + 5 - 0) % 6 = nxt := by rw [hn']; split <;> omega
      rw [this, va_up_s]; rfl
    · have hix : (n' + 5 - i) % 6 = (nxt + 5 - (i - 1)) % 6 := by rw [hn']; split <;> omega
      have hne : (n' + 5 - i) % 6 ≠ nxt := by rw [hn']; split <;> omega
      have hci : i - 1 < cnt := by
        rw [hc'] at hi
        split at hi <;> omega
      rw [va_up_n _ _ hne, hix, a7 _ hci]
      show _ = if i = 0 then S' else hk (i - 1)
      rw [if_neg e]