/-! PURE: rows of numbers -/
def nA (M : Mem) (r cap : Nat) (l : List Int32) : Prop := M.1 r = some (.inr (4, [.ref (r + 1), .int (nI l.length)])) ∧ ∃ f, M.1 (r + 1) = some (.inl (0, (cap, .inl f))) ∧ l.length ≤ cap ∧ cap < 2 ^ 31 ∧ ∀ j, j < l.length → f j = l.getD j 0
theorem nA.fr {M M' : Mem} {r cap a n : Nat} {l : List Int32} (h : nA M r cap l) (o : off M M' a n) (d : r + 2 ≤ a ∨ a + n ≤ r) : nA M' r cap l := by
  obtain ⟨h1, f, h2, h3⟩ := h
  exact ⟨(o.2 r (by omega)).trans h1, f, (o.2 (r + 1) (by omega)).trans h2, h3⟩
theorem nA.len {M : Mem} {r cap : Nat} {l : List Int32} (h : nA M r cap l) : l.length ≤ cap := by
  obtain ⟨_, f, _, h3, _⟩ := h
  exact h3
theorem nA.lt {M : Mem} {r cap : Nat} {l : List Int32} (h : nA M r cap l) : l.length < 2 ^ 31 := by
  obtain ⟨_, f, _, h3, h4, _⟩ := h
  omega
section
variable {M : Mem} {r cap : Nat} {l : List Int32}
theorem nA.cnt (h : nA M r cap l) : gI M 4 1 r = some (nI l.length) := by rw [gI_h h.1]; rfl
theorem nA.arr (h : nA M r cap l) : gR M 4 0 r = some (r + 1) := by rw [gR_h h.1]; rfl
theorem nA.room (h : nA M r cap l) : aL M (r + 1) = some (nI cap) := by
  obtain ⟨_, f, h2, _⟩ := h
  exact aL_h h2
theorem nA.el (h : nA M r cap l) {k : Nat} (hk : k < l.length) : aI M 0 (r + 1) (nI k) = some (l.getD k 0) := by
  obtain ⟨_, f, h2, h3, h4, h5⟩ := h
  rw [aI_h h2 (inR_n (by omega) h4), nI_clamp (by omega), h5 k hk]
theorem X5_size_e (h : nA M r cap l) : f_X5_size r M = some (nI l.length) := by simp only [f_X5_size, ob_h h.1, h.cnt, Option.bind_some]
theorem X5_get_e (h : nA M r cap l) (i : Int32) : f_X5_get r i M = some (lgt l i) := by
  have hl := h.lt
  have hc := h.len
  simp only [f_X5_get, ob_h h.1, h.cnt, h.arr, h.room, Option.bind_some]
  rcases i_cases i with hi | ⟨k, hk, rfl⟩
  · rw [if_pos hi, lgt, if_pos hi]
  · rw [lgt_n l hk]
    simp only [neg0 hk, if_false]
    by_cases hkl : k < l.length
    · have hcap : cap < 2 ^ 31 := by obtain ⟨_, f, _, _, h4, _⟩ := h; exact h4
      simp only [leF rfl rfl hkl hl, leF rfl rfl (show k < cap by omega) hcap, if_false, h.el hkl, Option.bind_some]
    · simp only [leT rfl rfl (show l.length ≤ k by omega) hk, if_true, getD_hi (show l.length ≤ k by omega)]
/-- the first index of a value; -1 without one -/
def fnd (l : List Int32) (v : Int32) : Int32 := lp (fun k (_ : Unit) => if l.getD k 0 = v then .inr (nI k) else .inl ()) (fun _ => -1) 0 l.length ()
theorem X5_find_e (h : nA M r cap l) (v : Int32) (hF : l.length < FU) : f_X5_find r v M = some (fnd l v) := by
  have hl := h.lt
  have hc := h.len
  have hcap : cap < 2 ^ 31 := by obtain ⟨_, f, _, _, h4, _⟩ := h; exact h4
  simp only [f_X5_find, ob_h h.1]
  refine lp_run (fun fu k _ => f_X5_find_2 fu r v (nI k) M) _ _ 0 l.length ?_ ?_ l.length 0 () FU (Nat.zero_add _) (Nat.le_refl _) hF
  · intro fu _
    simp only [f_X5_find_2, h.cnt, Option.bind_some, leT rfl rfl (Nat.le_refl l.length) hl, if_true]
  · intro fu k _ _ hk
    simp only [f_X5_find_2, h.cnt, h.arr, h.room, Option.bind_some, leF rfl rfl hk hl, leF rfl rfl (show k < cap by omega) hcap, if_false, h.el hk]
    by_cases e : l.getD k 0 = v
    · simp only [e, if_true]
    · simp only [e, if_false, nI_1]
theorem X5_clear_e (h : nA M r cap l) : ∃ M', f_X5_clear r M = some M' ∧ nA M' r cap [] ∧ off M M' r 1 := by
  have h0 := h.1
  obtain ⟨_, f, h2, h3, h4, h5⟩ := h
  refine ⟨mset M r (.inr (4, [.ref (r + 1), .int 0])), ?_, ⟨mset_at _ _ _, f, ?_, by simp, h4, fun j hj => absurd hj (by simp)⟩, off_set _ _ _⟩
  · simp [f_X5_clear, ob_h h0, pV_h h0]
  · rw [mset_ne _ _ (by omega), h2]
theorem X5_set_e (h : nA M r cap l) (i v : Int32) : ∃ M', f_X5_set r i v M = some M' ∧ nA M' r cap (if i < 0 then l else l.set i.toNatClampNeg v) ∧ off M M' r 2 := by
  have hl := h.lt
  have hc := h.len
  have hcap : cap < 2 ^ 31 := by obtain ⟨_, f, _, _, h4, _⟩ := h; exact h4
  simp only [f_X5_set, ob_h h.1, h.cnt, h.arr, h.room, Option.bind_some]
  rcases i_cases i with hi | ⟨k, hk, rfl⟩
  · rw [if_pos hi, if_pos hi]
    exact ⟨M, rfl, h, off.rf _ _ _⟩
  · simp only [neg0 hk, if_false, nI_clamp hk]
    by_cases hkl : k < l.length
    · simp only [leF rfl rfl hkl hl, leF rfl rfl (show k < cap by omega) hcap, if_false]
      obtain ⟨h1, f, h2, h3, h4, h5⟩ := h
      refine ⟨mset M (r + 1) (.inl (0, (cap, .inl (upd f k v)))), ?_, ⟨?_, upd f k v, mset_at _ _ _, ?_, h4, ?_⟩, (off_set _ _ _).wide (by omega) (by omega)⟩
      · simp only [sI_h h2 (inR_n (show k < cap by omega) h4), nI_clamp hk, Option.bind_some]
      · rw [mset_ne _ _ (by omega), h1, List.length_set]
      · rw [List.length_set]; exact h3
      · intro j hj
        rw [List.length_set] at hj
        unfold upd
        by_cases e : j = k
        · subst e; simp [List.getD_eq_getElem?_getD, hj]
        · rw [if_neg e, h5 j hj]
          simp [List.getD_eq_getElem?_getD, List.getElem?_set_ne (Ne.symm e)]
    · simp only [leT rfl rfl (show l.length ≤ k by omega) hk, if_true]
      refine ⟨M, rfl, ?_, off.rf _ _ _⟩
      rw [List.set_eq_of_length_le (by omega)]
      exact h
theorem X5_setn_e (h : nA M r cap l) {k : Nat} (hk : k < 2 ^ 31) (v : Int32) : ∃ M', f_X5_set r (nI k) v M = some M' ∧ nA M' r cap (l.set k v) ∧ off M M' r 2 := by
  obtain ⟨M', h1, h2, h3⟩ := X5_set_e h (nI k) v
  simp only [neg0 hk, if_false, nI_clamp hk] at h2
  exact ⟨M', h1, h2, h3⟩
theorem X5_add_e (h : nA M r cap l) (v : Int32) (hr : l.length < cap) : ∃ M', f_X5_add r v M = some M' ∧ nA M' r cap (l ++ [v]) ∧ off M M' r 2 := by
  have hl := h.lt
  have hcap : cap < 2 ^ 31 := by obtain ⟨_, f, _, _, h4, _⟩ := h; exact h4
  simp only [f_X5_add, ob_h h.1, h.cnt, h.arr, h.room, Option.bind_some, neg0 hl, leF rfl rfl hr hcap, if_false]
  obtain ⟨h1, f, h2, h3, h4, h5⟩ := h
  simp only [sI_h h2 (inR_n hr h4), nI_clamp hl, Option.bind_some]
  have g1 : (mset M (r + 1) (.inl (0, (cap, .inl (upd f l.length v))))).1 r = some (.inr (4, [.ref (r + 1), .int (nI l.length)])) := by rw [mset_ne _ _ (by omega), h1]
  refine ⟨mset (mset M (r + 1) (.inl (0, (cap, .inl (upd f l.length v))))) r (.inr (4, [.ref (r + 1), .int (nI (l ++ [v]).length)])), ?_, ⟨mset_at _ _ _, upd f l.length v, ?_, by simp; omega, h4, ?_⟩, ?_⟩
  · simp [gI_h g1, vI, pV_h g1, nI_1]
  · rw [mset_ne _ _ (by omega), mset_at]
  · intro j hj
    rw [List.length_append, List.length_singleton] at hj
    unfold upd
    by_cases e : j = l.length
    · subst e; simp [List.getD_eq_getElem?_getD]
    · rw [if_neg e, h5 j (by omega)]
      simp [List.getD_eq_getElem?_getD, List.getElem?_append_left (show j < l.length by omega)]
  · exact ((off_set _ _ _).wide (by omega) (by omega)).trans ((off_set _ _ _).wide (by omega) (by omega))
theorem X5_addfull_e (h : nA M r cap l) (v : Int32) (hr : l.length = cap) : f_X5_add r v M = some M := by
  have hl := h.lt
  simp only [f_X5_add, ob_h h.1, h.cnt, h.arr, h.room, Option.bind_some, neg0 hl, leT rfl rfl (show cap ≤ l.length by omega) hl, if_false, if_true]
theorem X5_addany_e (h : nA M r cap l) (v : Int32) : ∃ M' l', f_X5_add r v M = some M' ∧ nA M' r cap l' ∧ off M M' r 2 := by
  by_cases e : l.length < cap
  · obtain ⟨M', h1, h2, h3⟩ := X5_add_e h v e
    exact ⟨M', _, h1, h2, h3⟩
  · have := h.len
    exact ⟨M, l, X5_addfull_e h v (by omega), h, off.rf _ _ _⟩
theorem X5_increase_e (h : nA M r cap l) {k : Nat} (hk : k < 2 ^ 31) (v : Int32) : ∃ M', f_X5_increase r (nI k) v M = some M' ∧ nA M' r cap (l.set k (l.getD k 0 + v)) ∧ off M M' r 2 := by
  obtain ⟨M', h1, h2, h3⟩ := X5_setn_e h hk (l.getD k 0 + v)
  exact ⟨M', by simp only [f_X5_increase, ob_h h.1, X5_get_e h, lgt_n l hk, Option.bind_some, h1], h2, h3⟩
end
