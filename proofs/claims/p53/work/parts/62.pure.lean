/-! PURE: bytes of the class -/
def byt (x : Int32) : Int32 := vp_nar .byte ((Int32.toInt8 x).toInt32)
theorem byt_c : byt 32 = 32 ∧ byt 58 = 58 ∧ byt 33 = 33 ∧ byt 45 = 45 ∧ byt 61 = 61 ∧ byt 43 = 43 ∧ byt 115 = 115 ∧ byt 97 = 97 ∧ byt 102 = 102 ∧ byt 100 = 100 ∧ byt 114 = 114 := by decide +kernel
theorem byt_d : ∀ d, d < 10 → byt (48 + nI d) = nI (48 + d) := by decide +kernel
/-- the digits of a number, the n last ones -/
def dl (v : Nat) : Nat → List Int32
  | 0 => []
  | n + 1 => nI (48 + v / 10 ^ n % 10) :: dl v n
/-- how many digits it has, of n at most -/
def nk (v : Nat) : Nat → Nat
  | 0 => 0
  | n + 1 => if v / 10 ^ n = 0 ∧ n ≠ 0 then nk v n else n + 1
def numB (v : Nat) : List Int32 := dl v (nk v 10)
theorem dl_len (v : Nat) : ∀ n, (dl v n).length = n := by
  intro n
  induction n with
  | zero => rfl
  | succ n ih => rw [dl, List.length_cons, ih]
theorem nk_le (v : Nat) : ∀ n, nk v n ≤ n := by
  intro n
  induction n with
  | zero => exact Nat.le_refl _
  | succ n ih =>
    rw [nk]
    split
    · omega
    · exact Nat.le_refl _
theorem numB_len (v : Nat) : (numB v).length ≤ 10 := by
  rw [numB, dl_len]
  exact nk_le v 10
def flB (fl : Int32) : List Int32 := (if fl &&& 1 = 0 then [] else [115]) ++ ((if fl &&& 2 = 0 then [] else [97]) ++ ((if fl &&& 4 = 0 then [] else [102]) ++ ((if fl &&& 8 = 0 then [] else [100]) ++ (if fl &&& 16 = 0 then [] else [114]))))
theorem flB_len (fl : Int32) : (flB fl).length ≤ 5 := by
  have h : ∀ (p : Prop) [Decidable p] (x : Int32), (if p then ([] : List Int32) else [x]).length ≤ 1 := by
    intro p _ x
    split <;> simp
  simp only [flB, List.length_append]
  have h1 := h (fl &&& 1 = 0) 115
  have h2 := h (fl &&& 2 = 0) 97
  have h3 := h (fl &&& 4 = 0) 102
  have h4 := h (fl &&& 8 = 0) 100
  have h5 := h (fl &&& 16 = 0) 114
  omega
def sepB (l : List Int32) : List Int32 := if l = [] then l else l ++ [32]
def four (v : Int32) : List Int32 := [byt (v >>> (24 &&& 31)), byt (v >>> (16 &&& 31)), byt (v >>> (8 &&& 31)), byt v]
def nstp (n : Int64) (x : Int32) : Int64 := (n <<< ((8 : Int32).toInt64 &&& 63)) ||| (Int32.toInt64 ((x &&& 255) &&& 255))
def cnm (w : List Int32) : Int64 := if w.length = 0 ∨ 6 < w.length then 0 else w.foldl nstp 1
/-- bytes at r: 2 cells -/
def yA (M : Mem) (r cap : Nat) (l : List Int32) : Prop := M.1 r = some (.inr (1, [.ref (r + 1), .int (nI l.length)])) ∧ ∃ f, M.1 (r + 1) = some (.inl (2, (cap, .inl f))) ∧ l.length ≤ cap ∧ cap < 2 ^ 31 ∧ ∀ j, j < l.length → f j = l.getD j 0
theorem yA.sm {M M' : Mem} {r cap : Nat} {l : List Int32} (h : yA M r cap l) (s : same M M' r 2) : yA M' r cap l := by
  obtain ⟨h1, f, h2, h3⟩ := h
  exact ⟨(s r (by omega) (by omega)).trans h1, f, (s (r + 1) (by omega) (by omega)).trans h2, h3⟩
section
variable {M : Mem} {r cap : Nat} {l : List Int32}
theorem yA.len (h : yA M r cap l) : l.length ≤ cap := by obtain ⟨_, f, _, h3, _⟩ := h; exact h3
theorem yA.lim (h : yA M r cap l) : cap < 2 ^ 31 := by obtain ⟨_, f, _, _, h3, _⟩ := h; exact h3
theorem yA.cnt (h : yA M r cap l) : gI M 1 1 r = some (nI l.length) := by rw [gI_h h.1]; rfl
theorem yA.arr (h : yA M r cap l) : gR M 1 0 r = some (r + 1) := by rw [gR_h h.1]; rfl
theorem yA.room (h : yA M r cap l) : aL M (r + 1) = some (nI cap) := by obtain ⟨_, f, h2, _⟩ := h; exact aL_h h2
theorem yA.el (h : yA M r cap l) {k : Nat} (hk : k < l.length) : aI M 2 (r + 1) (nI k) = some (l.getD k 0) := by
  obtain ⟨_, f, h2, h3, h4, h5⟩ := h
  rw [aI_h h2 (inR_n (by omega) h4), nI_clamp (by omega), h5 k hk]
theorem X1_size_e (h : yA M r cap l) : f_X1_size r M = some (nI l.length) := by simp only [f_X1_size, ob_h h.1, h.cnt, bso]
theorem X1_get_in (h : yA M r cap l) {k : Nat} (hk : k < l.length) : f_X1_get r (nI k) M = some (l.getD k 0 &&& 255) := by
  have h1 := h.len
  have h2 := h.lim
  simp only [f_X1_get, ob_h h.1, neg0 (show k < 2 ^ 31 by omega), if_false, h.cnt, h.arr, h.room, bso, leF rfl rfl hk (show l.length < 2 ^ 31 by omega), leF rfl rfl (show k < cap by omega) h2, h.el hk]
theorem X1_get_out (h : yA M r cap l) {i : Int32} (hi : i < 0 ∨ nI l.length ≤ i) : f_X1_get r i M = some (-1) := by
  simp only [f_X1_get, ob_h h.1, h.cnt, bso]
  by_cases e : i < 0
  · rw [if_pos e]
  · rw [if_neg e, if_pos (hi.resolve_left e)]
theorem X1_cut_e (h : yA M r cap l) {n : Nat} (hn : n ≤ l.length) : ∃ M', f_X1_cutTo r (nI n) M = some M' ∧ yA M' r cap (l.take n) ∧ off M M' r 2 := by
  have h1 := h.len
  have h2 := h.lim
  by_cases e : l.length ≤ n
  · have : l.take n = l := List.take_of_length_le e
    rw [this]
    exact ⟨M, by simp only [f_X1_cutTo, ob_h h.1, neg0 (show n < 2 ^ 31 by omega), if_false, h.cnt, bso, leT rfl rfl e (show n < 2 ^ 31 by omega), if_true], h, off.rf _ _ _⟩
  · refine ⟨mset M r (.inr (1, [.ref (r + 1), .int (nI n)])), ?_, ?_, (off_set _ _ _).wide (by omega) (by omega)⟩
    · simp only [f_X1_cutTo, ob_h h.1, neg0 (show n < 2 ^ 31 by omega), if_false, h.cnt, bso, leF rfl rfl (show n < l.length by omega) (show l.length < 2 ^ 31 by omega)]
      rw [pV_h h.1 (Nat.le_of_ble_eq_true rfl)]; rfl
    · obtain ⟨h1, f, h2, h3, h4, h5⟩ := h
      refine ⟨?_, f, (mset_ne _ _ (by omega)).trans h2, by rw [List.length_take]; omega, h4, fun j hj => ?_⟩
      · rw [mset_at, List.length_take, Nat.min_eq_left hn]
      · rw [List.length_take] at hj
        rw [h5 j (by omega)]
        simp [List.getD_eq_getElem?_getD, List.getElem?_take, show j < n by omega]
theorem X1_clear_e (h : yA M r cap l) : ∃ M', f_X1_cutTo r 0 M = some M' ∧ yA M' r cap [] ∧ off M M' r 2 := by
  have := X1_cut_e h (Nat.zero_le _)
  rwa [List.take_zero] at this
theorem X1_add_e (h : yA M r cap l) (v : Int32) (hr : l.length < cap) : ∃ M', f_X1_addByte r v M = some M' ∧ yA M' r cap (l ++ [byt v]) ∧ off M M' r 2 := by
  have hcap := h.lim
  have hl : l.length < 2 ^ 31 := by omega
  simp only [f_X1_addByte, ob_h h.1, h.cnt, h.arr, h.room, bso, neg0 hl, leF rfl rfl hr hcap, if_false]
  obtain ⟨h1, f, h2, h3, h4, h5⟩ := h
  simp only [sI_h h2 (inR_n hr h4), nI_clamp hl, bso]
  have g1 : (mset M (r + 1) (.inl (2, (cap, .inl (upd f l.length (byt v)))))).1 r = some (.inr (1, [.ref (r + 1), .int (nI l.length)])) := by rw [mset_ne _ _ (by omega), h1]
  refine ⟨mset (mset M (r + 1) (.inl (2, (cap, .inl (upd f l.length (byt v)))))) r (.inr (1, [.ref (r + 1), .int (nI (l ++ [byt v]).length)])), ?_, ⟨mset_at _ _ _, upd f l.length (byt v), ?_, by simp; omega, h4, ?_⟩, ?_⟩
  · show (gI (mset M (r + 1) (.inl (2, (cap, .inl (upd f l.length (byt v)))))) 1 1 r).bind (fun x => (pV (mset M (r + 1) (.inl (2, (cap, .inl (upd f l.length (byt v)))))) 1 1 r (.int (x + 1))).bind fun M9 => some M9) = _
    simp [gI_h g1, vI, pV_h g1, nI_1]
  · rw [mset_ne _ _ (by omega), mset_at]
  · intro j hj
    rw [List.length_append, List.length_singleton] at hj
    unfold upd
    by_cases e : j = l.length
    · subst e; simp [List.getD_eq_getElem?_getD]
    · rw [if_neg e, h5 j (by omega)]
      simp [List.getD_eq_getElem?_getD, List.getElem?_append_left (show j < l.length by omega)]
  · exact ((off_set _ _ _).wide (by omega) (by omega)).trans ((off_set _ _ _).wide (by omega) (by omega))
theorem X1_four_e (h : yA M r cap l) (v : Int32) (hr : l.length + 4 ≤ cap) : ∃ M', f_X1_addFour r v M = some M' ∧ yA M' r cap (l ++ four v) ∧ off M M' r 2 := by
  obtain ⟨M1, e1, h1, o1⟩ := X1_add_e h (v >>> (24 &&& 31)) (by omega)
  obtain ⟨M2, e2, h2, o2⟩ := X1_add_e h1 (v >>> (16 &&& 31)) (by simp; omega)
  obtain ⟨M3, e3, h3, o3⟩ := X1_add_e h2 (v >>> (8 &&& 31)) (by simp; omega)
  obtain ⟨M4, e4, h4, o4⟩ := X1_add_e h3 v (by simp; omega)
  refine ⟨M4, by simp only [f_X1_addFour, ob_h h.1, e1, e2, e3, e4, bso], ?_, ((o1.trans o2).trans o3).trans o4⟩
  simpa [four] using h4
theorem ifl (p : Prop) [Decidable p] (x : Int32) : (if p then ([] : List Int32) else [x]).length ≤ 1 := by split <;> simp
theorem p10 {n : Nat} (h : n < 10) : 0 < 10 ^ n ∧ 10 ^ n < 2 ^ 31 := by
  refine ⟨Nat.pow_pos (by decide), Nat.lt_of_le_of_lt (Nat.pow_le_pow_right (by decide) (show n ≤ 9 by omega)) (by decide)⟩
theorem X1_name_loop (h : yA M r cap l) {b : Nat} (hb : b ≤ l.length) : ∀ (n k fu : Nat) (a : Int64), k + n = b → n < fu → f_X1_nameAt_20 fu r (nI b) a (nI k) M = some (((l.take b).drop k).foldl nstp a) := by
  intro n
  have hl := h.len
  have hcap := h.lim
  induction n with
  | zero =>
    intro k fu a hk hf
    obtain ⟨fu, rfl⟩ : ∃ m, fu = m + 1 := ⟨fu - 1, by omega⟩
    obtain rfl : k = b := by omega
    rw [List.drop_of_length_le (by rw [List.length_take]; omega)]
    simp only [f_X1_nameAt_20, leT rfl rfl (Nat.le_refl k) (show k < 2 ^ 31 by omega), if_true, List.foldl_nil]
  | succ n ih =>
    intro k fu a hk hf
    obtain ⟨fu, rfl⟩ : ∃ m, fu = m + 1 := ⟨fu - 1, by omega⟩
    have hkl : k < l.length := by omega
    have hd : (l.take b).drop k = l.getD k 0 :: (l.take b).drop (k + 1) := by
      have hkt : k < (l.take b).length := by rw [List.length_take]; omega
      rw [List.drop_eq_getElem_cons hkt, List.getElem_take, getD_get hkl]
    rw [hd, List.foldl_cons, ← ih (k + 1) fu (nstp a (l.getD k 0)) (by omega) (by omega)]
    simp only [f_X1_nameAt_20, leF rfl rfl (show k < b by omega) (show b < 2 ^ 31 by omega), if_false, X1_get_in h hkl, bso, nI_1]
    rfl
theorem X1_name_e (h : yA M r cap l) {a b : Nat} (ha : a ≤ l.length) (hb : b ≤ l.length) : f_X1_nameAt r (nI a) (nI b) M = some (cnm ((l.take b).drop a)) := by
  have hl := h.len
  have hcap := h.lim
  have hL : ((l.take b).drop a).length = b - a := by rw [List.length_drop, List.length_take]; omega
  simp only [f_X1_nameAt, ob_h h.1, cnm, hL]
  by_cases e : b ≤ a
  · rw [if_pos (show nI b ≤ nI a from nI_le e (by omega)), if_pos (Or.inl (by omega))]
  · rw [if_neg (show ¬ (nI b ≤ nI a) from nI_ge (by omega) (by omega)), nI_sub (by omega)]
    by_cases e2 : b - a ≤ 6
    · rw [if_pos (show nI (b - a) ≤ 6 from (nI_leI (b := 6) (by omega) (by decide)).mpr e2), if_neg (by omega)]
      exact X1_name_loop h hb (b - a) a FU 1 (by omega) (by rw [FU_eq]; omega)
    · rw [if_neg (show ¬ (nI (b - a) ≤ 6) from fun z => e2 ((nI_leI (b := 6) (by omega) (by decide)).mp z)), if_pos (Or.inr (by omega))]
end
