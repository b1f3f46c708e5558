/-! PURE: rows of numbers, their loops -/
theorem FU_eq : FU = 6000 := rfl
theorem getD_get {l : List Int32} {j : Nat} (h : j < l.length) : l.getD j 0 = l[j] := by rw [List.getD_eq_getElem?_getD, List.getElem?_eq_getElem h]; rfl
theorem ext_getD {l l' : List Int32} (hl : l.length = l'.length) (h : ∀ j, j < l.length → l.getD j 0 = l'.getD j 0) : l = l' := by
  refine List.ext_getElem hl (fun j h1 h2 => ?_)
  rw [← getD_get h1, ← getD_get h2]
  exact h j h1
section
variable {M : Mem} {r cap : Nat} {l : List Int32}
theorem nA.cut (h : nA M r cap l) {n : Nat} (hn : n ≤ l.length) : nA (mset M r (.inr (4, [.ref (r + 1), .int (nI n)]))) r cap (l.take n) := by
  obtain ⟨h1, f, h2, h3, h4, h5⟩ := h
  refine ⟨?_, f, (mset_ne _ _ (by omega)).trans h2, by rw [List.length_take]; omega, h4, fun j hj => ?_⟩
  · rw [mset_at, List.length_take, Nat.min_eq_left hn]
  · rw [List.length_take] at hj
    rw [h5 j (by omega)]
    simp [List.getD_eq_getElem?_getD, List.getElem?_take, show j < n by omega]
theorem X5_removeAt_e (h : nA M r cap l) {i : Nat} (hi : i < l.length) (hF : l.length < FU) : ∃ M', f_X5_removeAt r (nI i) M = some M' ∧ nA M' r cap (l.eraseIdx i) ∧ off M M' r 2 := by
  have hl := h.lt
  have hc := h.len
  simp only [f_X5_removeAt, ob_h h.1, h.cnt, Option.bind_some, neg0 (show i < 2 ^ 31 by omega), ltT rfl rfl hi hl, if_false, if_true]
  obtain ⟨_, M1, e1, l1, n1, q1, q2, q3⟩ := fd_runM (fun fu k (_ : Unit) M' => f_X5_removeAt_15 fu r (nI k) M') (fun _ M' => some (mset M' r (.inr (4, [.ref (r + 1), .int (nI (l.length - 1))]))))
    (fun k _ M' => ∃ l', nA M' r cap l' ∧ l'.length = l.length ∧ off M M' r 2 ∧ ∀ j, j < l.length → l'.getD j 0 = if i ≤ j ∧ j < k then l.getD (j + 1) 0 else l.getD j 0) i (l.length - 1)
    (by
      rintro fu _ M' ⟨l', n', q1, q2, q3⟩
      simp only [f_X5_removeAt_15, n'.cnt, Option.bind_some, q1, nI_sub1 (show 1 ≤ l.length by omega), leT rfl rfl (Nat.le_refl (l.length - 1)) (show l.length - 1 < 2 ^ 31 by omega), if_true]
      simp [pV_h n'.1])
    (by
      rintro fu k _ M' hik hk ⟨l', n', q1, q2, q3⟩
      obtain ⟨M2, e2, n2, o2⟩ := X5_setn_e n' (show k < 2 ^ 31 by omega) (l'.getD (k + 1) 0)
      refine ⟨(), M2, ?_, l'.set k (l'.getD (k + 1) 0), n2, by rw [List.length_set, q1], q2.trans o2, fun j hj => ?_⟩
      · simp only [f_X5_removeAt_15, n'.cnt, Option.bind_some, q1, nI_sub1 (show 1 ≤ l.length by omega), leF rfl rfl hk (show l.length - 1 < 2 ^ 31 by omega), if_false, nI_1, X5_get_e n', lgt_n l' (show k + 1 < 2 ^ 31 by omega), e2]
      · by_cases e : j = k
        · subst e
          rw [if_pos ⟨hik, by omega⟩]
          have : (l'.set j (l'.getD (j + 1) 0)).getD j 0 = l'.getD (j + 1) 0 := by simp [List.getD_eq_getElem?_getD, show j < l'.length by omega]
          rw [this, q3 (j + 1) (by omega), if_neg (by omega)]
        · have : (l'.set k (l'.getD (k + 1) 0)).getD j 0 = l'.getD j 0 := by simp [List.getD_eq_getElem?_getD, List.getElem?_set_ne (Ne.symm e)]
          rw [this, q3 j hj]
          by_cases e2 : i ≤ j ∧ j < k
          · rw [if_pos e2, if_pos ⟨e2.1, by omega⟩]
          · rw [if_neg e2, if_neg (by omega)])
    (l.length - 1 - i) i () M FU (by omega) (Nat.le_refl _) (by omega) ⟨l, h, rfl, off.rf _ _ _, fun j _ => by rw [if_neg (by omega)]⟩
  refine ⟨_, e1, ?_, q2.trans ((off_set _ _ _).wide (by omega) (by omega))⟩
  have he : l.eraseIdx i = l1.take (l.length - 1) := by
    refine ext_getD (by rw [List.length_eraseIdx_of_lt hi, List.length_take]; omega) (fun j hj => ?_)
    rw [List.length_eraseIdx_of_lt hi] at hj
    have t1 : (l1.take (l.length - 1)).getD j 0 = l1.getD j 0 := by simp [List.getD_eq_getElem?_getD, List.getElem?_take, hj]
    rw [t1, q3 j (by omega), List.getD_eq_getElem?_getD, List.getElem?_eraseIdx]
    by_cases e : j < i
    · rw [if_pos e, if_neg (by omega), List.getD_eq_getElem?_getD]
    · rw [if_neg e, if_pos (by omega), List.getD_eq_getElem?_getD]
  rw [he]
  exact n1.cut (by omega)
theorem X5_removeAt_no (h : nA M r cap l) {i : Int32} (hi : i < 0 ∨ nI l.length ≤ i) : f_X5_removeAt r i M = some M := by
  have hl := h.lt
  simp only [f_X5_removeAt, ob_h h.1, h.cnt, Option.bind_some]
  rcases hi with hi | hi
  · rw [if_pos hi]
  · by_cases e : i < 0
    · rw [if_pos e]
    · obtain ⟨j, hj, rfl⟩ := nI_of e
      rw [if_neg e, if_neg (fun z => absurd hi (nI_ge ((nI_ltI hj hl).mp z) hl))]
theorem X5_takeFrom_e (h : nA M r cap l) {r2 : Nat} {l2 : List Int32} (h2 : nA M r2 cap l2) (d : r + 2 ≤ r2 ∨ r2 + 2 ≤ r) (hF : l2.length < FU) : ∃ M', f_X5_takeFrom r r2 M = some M' ∧ nA M' r cap l2 ∧ off M M' r 2 := by
  have hl := h.lt
  have hl2 := h2.lt
  have hc := h2.len
  have hcap : cap < 2 ^ 31 := by obtain ⟨_, f, _, _, h4, _⟩ := h; exact h4
  have hn0 : nA (mset M r (.inr (4, [.ref (r + 1), .int (nI 0)]))) r cap (l2.take 0) := by
    have := h.cut (Nat.zero_le l.length)
    rwa [List.take_zero] at this ⊢
  obtain ⟨_, M1, e1, n1, o1⟩ := fd_runM (fun fu k (_ : Unit) M' => f_X5_takeFrom_7 fu r r2 (nI k) M') (fun _ M' => some M')
    (fun k _ M' => nA M' r cap (l2.take k) ∧ off M M' r 2) 0 l2.length
    (by
      rintro fu _ M' ⟨n', o'⟩
      simp only [f_X5_takeFrom_7, (h2.fr o' (by omega)).cnt, Option.bind_some, leT rfl rfl (Nat.le_refl l2.length) hl2, if_true])
    (by
      rintro fu k _ M' _ hk ⟨n', o'⟩
      have m2 := h2.fr o' (by omega)
      obtain ⟨M2, e2, n2, o2⟩ := X5_add_e n' (l2.getD k 0) (by rw [List.length_take]; omega)
      refine ⟨(), M2, ?_, ?_, o'.trans o2⟩
      · have lk : (l2.take k).length = k := by rw [List.length_take]; omega
        simp only [f_X5_add, ob_h n'.1, n'.cnt, n'.arr, n'.room, Option.bind_some, lk, neg0 (show k < 2 ^ 31 by omega), leF rfl rfl (show k < cap by omega) hcap, if_false] at e2
        simp only [f_X5_takeFrom_7, m2.cnt, m2.arr, n'.arr, n'.room, m2.room, Option.bind_some, leF rfl rfl hk hl2, leF rfl rfl (show k < cap by omega) hcap, if_false, m2.el hk]
        cases hs : sI M' 0 (r + 1) (nI k) (l2.getD k 0) with
        | none => rw [hs] at e2; cases e2
        | some M3 =>
          rw [hs] at e2
          simp only [Option.bind_some] at e2 ⊢
          cases hg : gI M3 4 1 r with
          | none => rw [hg] at e2; cases e2
          | some x =>
            rw [hg] at e2
            simp only [Option.bind_some] at e2 ⊢
            cases hp : pV M3 4 1 r (.int (x + 1)) with
            | none => rw [hp] at e2; cases e2
            | some M4 =>
              rw [hp] at e2
              cases e2
              simp only [Option.bind_some, nI_1]
      · have : l2.take (k + 1) = l2.take k ++ [l2.getD k 0] := by
          rw [getD_get hk, List.take_add_one, List.getElem?_eq_getElem hk]
          rfl
        rw [this]
        exact n2)
    l2.length 0 () _ FU (Nat.zero_add _) (Nat.le_refl _) hF ⟨hn0, (off_set _ _ _).wide (by omega) (by omega)⟩
  rw [List.take_length] at n1
  refine ⟨M1, ?_, n1, o1⟩
  simp only [f_X5_takeFrom, ob_h h.1]
  have hp : pV M 4 1 r (.int 0) = some (mset M r (.inr (4, [.ref (r + 1), .int (nI 0)]))) := by simp [pV_h h.1]; rfl
  rw [hp, Option.bind_some]
  exact e1
theorem X5_zeros_e (h : nA M r cap l) {n : Nat} (hn : n ≤ cap) (hF : n < FU) : ∃ M', f_X5_becomeZeros r (nI n) M = some M' ∧ nA M' r cap (List.replicate n 0) ∧ off M M' r 2 := by
  have hcap : cap < 2 ^ 31 := by obtain ⟨_, f, _, _, h4, _⟩ := h; exact h4
  obtain ⟨M0, e0, n0, o0⟩ := X5_clear_e h
  obtain ⟨_, M1, e1, n1, o1⟩ := fd_runM (fun fu k (_ : Unit) M' => f_X5_becomeZeros_6 fu r (nI n) (nI k) M') (fun _ M' => some M')
    (fun k _ M' => nA M' r cap (List.replicate k 0) ∧ off M M' r 2) 0 n
    (by
      rintro fu _ M' ⟨n', o'⟩
      simp only [f_X5_becomeZeros_6, leT rfl rfl (Nat.le_refl n) (show n < 2 ^ 31 by omega), if_true])
    (by
      rintro fu k _ M' _ hk ⟨n', o'⟩
      obtain ⟨M2, e2, n2, o2⟩ := X5_add_e n' 0 (by rw [List.length_replicate]; omega)
      refine ⟨(), M2, ?_, ?_, o'.trans o2⟩
      · simp only [f_X5_becomeZeros_6, leF rfl rfl hk (show n < 2 ^ 31 by omega), if_false, e2, Option.bind_some, nI_1]
      · rw [List.replicate_succ']
        exact n2)
    n 0 () M0 FU (Nat.zero_add _) (Nat.le_refl _) hF ⟨n0, o0.wide (by omega) (by omega)⟩
  exact ⟨M1, by simp only [f_X5_becomeZeros, ob_h h.1, e0, Option.bind_some]; exact e1, n1, o1⟩
end
