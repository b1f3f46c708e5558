/-! PURE: where a value lies in a row; notices of the class -/
/-- not by rfl: else the kernel compares what it need not -/
theorem bso {α β : Type} (a : α) (f : α → Option β) : (some a).bind f = f a := by
  cases h : f a with
  | none => simp [h]
  | some b => simp [h]
theorem mapG {α : Type} (d : α) (f : α → Int32) (hd : f d = 0) (l : List α) (j : Nat) : (l.map f).getD j 0 = f (l.getD j d) := by
  rw [List.getD_eq_getElem?_getD, List.getD_eq_getElem?_getD, List.getElem?_map]
  cases l[j]? <;> simp [hd]
def oI (x : Option Nat) : Int32 := match x with
  | none => -1
  | some k => nI k
theorem oI_s (k : Nat) : oI (some k) = nI k := rfl
theorem oI_n : oI none = -1 := rfl
def ixl (l : List Int32) (v : Int32) : Option Nat := l.findIdx? (fun x => decide (x = v))
theorem ixl_some {l : List Int32} {v : Int32} {k : Nat} (h : ixl l v = some k) : k < l.length ∧ l.getD k 0 = v ∧ ∀ j, j < k → l.getD j 0 ≠ v := by
  obtain ⟨hk, h1, h2⟩ := List.findIdx?_eq_some_iff_getElem.mp h
  refine ⟨hk, ?_, fun j hj => ?_⟩
  · rw [getD_get hk]; simpa using h1
  · rw [getD_get (show j < l.length by omega)]; simpa using h2 j hj
theorem ixl_none {l : List Int32} {v : Int32} (h : ixl l v = none) : ∀ j, j < l.length → l.getD j 0 ≠ v := by
  intro j hj
  have := List.findIdx?_eq_none_iff.mp h l[j] (List.getElem_mem hj)
  rw [getD_get hj]
  simpa using this
theorem ixl_is {l : List Int32} {v : Int32} {k : Nat} (h1 : k < l.length) (h2 : l.getD k 0 = v) (h3 : ∀ j, j < k → l.getD j 0 ≠ v) : ixl l v = some k := by
  cases h : ixl l v with
  | none => exact absurd h2 (ixl_none h k h1)
  | some i =>
    obtain ⟨a, b, c⟩ := ixl_some h
    rcases Nat.lt_trichotomy i k with e | e | e
    · exact absurd b (h3 i e)
    · rw [e]
    · exact absurd h2 (c k e)
theorem ixl_no {l : List Int32} {v : Int32} (h : ∀ j, j < l.length → l.getD j 0 ≠ v) : ixl l v = none := by
  cases e : ixl l v with
  | none => rfl
  | some k => exact absurd (ixl_some e).2.1 (h k (ixl_some e).1)
theorem fnd_ixl (l : List Int32) (v : Int32) : fnd l v = oI (ixl l v) := by
  have key : ∀ (n k : Nat), k + n = l.length → (∀ j, j < k → l.getD j 0 ≠ v) → lp (fun k (_ : Unit) => if l.getD k 0 = v then Sum.inr (nI k) else .inl ()) (fun _ => (-1 : Int32)) k n () = oI (ixl l v) := by
    intro n
    induction n with
    | zero =>
      intro k hk h
      rw [ixl_no (fun j hj => h j (by omega))]
      rfl
    | succ n ih =>
      intro k hk h
      rw [lp]
      by_cases e : l.getD k 0 = v
      · rw [ixl_is (by omega) e h]
        simp only [e, if_true, oI]
      · simp only [e, if_false]
        refine ih (k + 1) (by omega) (fun j hj => ?_)
        by_cases e2 : j = k
        · rw [e2]; exact e
        · exact h j (by omega)
  exact key l.length 0 (Nat.zero_add _) (fun j hj => absurd hj (Nat.not_lt_zero j))
/-- counting in a row -/
theorem fd_cnt {α : Type} (d : α) (p : α → Bool) (l : List α) : ∀ (n k : Nat) (a : Int32), k + n = l.length → fd (fun j a => if p (l.getD j d) = true then a + 1 else a) k n a = a + nI ((l.drop k).countP p) := by
  intro n
  induction n with
  | zero =>
    intro k a hk
    rw [List.drop_of_length_le (by omega)]
    simp [fd, nI_0]
  | succ n ih =>
    intro k a hk
    have hd : l.drop k = l.getD k d :: l.drop (k + 1) := by
      rw [List.getD_eq_getElem?_getD, List.getElem?_eq_getElem (show k < l.length by omega)]
      exact List.drop_eq_getElem_cons (by omega)
    rw [fd, ih (k + 1) _ (by omega), hd, List.countP_cons]
    by_cases e : p (l.getD k d) = true
    · simp only [e, if_true]
      rw [Int32.add_assoc, show (1 : Int32) = nI 1 from rfl, nI_add, Nat.add_comm]
    · simp only [e, if_false, Bool.false_eq_true]
      rfl
abbrev Nt : Type := Int32 × Int32 × Int32 × Int32
def n0 (x : Nt) : Int32 := x.1
def n1 (x : Nt) : Int32 := x.2.1
def n2 (x : Nt) : Int32 := x.2.2.1
def n3 (x : Nt) : Int32 := x.2.2.2
def ng (ns : List Nt) (k : Nat) : Nt := ns.getD k (0, 0, 0, 0)
/-- notices at r: 9 cells -/
def ntA (M : Mem) (r : Nat) (ns : List Nt) : Prop :=
  M.1 r = some (.inr (3, [.ref (r + 1), .ref (r + 3), .ref (r + 5), .ref (r + 7)])) ∧ nA M (r + 1) 244 (ns.map n0) ∧ nA M (r + 3) 244 (ns.map n1) ∧ nA M (r + 5) 244 (ns.map n2) ∧ nA M (r + 7) 244 (ns.map n3)
theorem ntA.fr {M M' : Mem} {r a n : Nat} {ns : List Nt} (h : ntA M r ns) (o : off M M' a n) (d : r + 9 ≤ a ∨ a + n ≤ r) : ntA M' r ns :=
  ⟨(o.2 r (by omega)).trans h.1, h.2.1.fr o (by omega), h.2.2.1.fr o (by omega), h.2.2.2.1.fr o (by omega), h.2.2.2.2.fr o (by omega)⟩
theorem ntA.len {M : Mem} {r : Nat} {ns : List Nt} (h : ntA M r ns) : ns.length ≤ 244 := by
  have := h.2.1.len
  rwa [List.length_map] at this
section
variable {M : Mem} {r : Nat} {ns : List Nt}
theorem ntA.g0 (h : ntA M r ns) : gR M 3 0 r = some (r + 1) := by rw [gR_h h.1]; rfl
theorem ntA.g1 (h : ntA M r ns) : gR M 3 1 r = some (r + 3) := by rw [gR_h h.1]; rfl
theorem ntA.g2 (h : ntA M r ns) : gR M 3 2 r = some (r + 5) := by rw [gR_h h.1]; rfl
theorem ntA.g3 (h : ntA M r ns) : gR M 3 3 r = some (r + 7) := by rw [gR_h h.1]; rfl
theorem X4_size_e (h : ntA M r ns) : f_X4_size r M = some (nI ns.length) := by
  simp only [f_X4_size, ob_h h.1, h.g0, X5_size_e h.2.1, bso, List.length_map]
theorem X4_get (h : ntA M r ns) {k : Nat} (hk : k < 2 ^ 31) : f_X5_get (r + 1) (nI k) M = some (n0 (ng ns k)) ∧ f_X5_get (r + 3) (nI k) M = some (n1 (ng ns k)) ∧ f_X5_get (r + 5) (nI k) M = some (n2 (ng ns k)) ∧ f_X5_get (r + 7) (nI k) M = some (n3 (ng ns k)) := by
  refine ⟨?_, ?_, ?_, ?_⟩
  · rw [X5_get_e h.2.1, lgt_n _ hk, mapG (0, 0, 0, 0) n0 rfl]; rfl
  · rw [X5_get_e h.2.2.1, lgt_n _ hk, mapG (0, 0, 0, 0) n1 rfl]; rfl
  · rw [X5_get_e h.2.2.2.1, lgt_n _ hk, mapG (0, 0, 0, 0) n2 rfl]; rfl
  · rw [X5_get_e h.2.2.2.2, lgt_n _ hk, mapG (0, 0, 0, 0) n3 rfl]; rfl
theorem X4_clear_e (h : ntA M r ns) : ∃ M', f_X4_clear r M = some M' ∧ ntA M' r [] ∧ off M M' r 9 := by
  obtain ⟨g0, ga, gb, gc, gd⟩ := id h
  obtain ⟨M1, e1, q1, o1⟩ := X5_clear_e ga
  have gb := gb.fr o1 (by omega)
  have gc := gc.fr o1 (by omega)
  have gd := gd.fr o1 (by omega)
  have k1 := (o1.2 r (by omega)).trans g0
  obtain ⟨M2, e2, q2, o2⟩ := X5_clear_e gb
  have gc := gc.fr o2 (by omega)
  have gd := gd.fr o2 (by omega)
  have k2 := (o2.2 r (by omega)).trans k1
  obtain ⟨M3, e3, q3, o3⟩ := X5_clear_e gc
  have gd := gd.fr o3 (by omega)
  have k3 := (o3.2 r (by omega)).trans k2
  obtain ⟨M4, e4, q4, o4⟩ := X5_clear_e gd
  have k4 := (o4.2 r (by omega)).trans k3
  refine ⟨M4, ?_, ⟨k4, ((q1.fr o2 (by omega)).fr o3 (by omega)).fr o4 (by omega), (q2.fr o3 (by omega)).fr o4 (by omega), q3.fr o4 (by omega), q4⟩, ?_⟩
  · simp only [f_X4_clear, ob_h h.1, h.g0, e1, gR_h k1, gR_h k2, gR_h k3, bso, List.getElem?_cons_succ, List.getElem?_cons_zero, vR, e2, e3, e4]
  · exact (((o1.wide (by omega) (by omega)).trans (o2.wide (by omega) (by omega))).trans (o3.wide (by omega) (by omega))).trans (o4.wide (by omega) (by omega))
theorem X4_add_e (h : ntA M r ns) (a b c d : Int32) (hr : ns.length < 244) : ∃ M', f_X4_add r a b c d M = some M' ∧ ntA M' r (ns ++ [(a, b, c, d)]) ∧ off M M' r 9 := by
  obtain ⟨g0, ga, gb, gc, gd⟩ := id h
  obtain ⟨M1, e1, q1, o1⟩ := X5_add_e ga a (by rw [List.length_map]; omega)
  have gb := gb.fr o1 (by omega)
  have gc := gc.fr o1 (by omega)
  have gd := gd.fr o1 (by omega)
  have k1 := (o1.2 r (by omega)).trans g0
  obtain ⟨M2, e2, q2, o2⟩ := X5_add_e gb b (by rw [List.length_map]; omega)
  have gc := gc.fr o2 (by omega)
  have gd := gd.fr o2 (by omega)
  have k2 := (o2.2 r (by omega)).trans k1
  obtain ⟨M3, e3, q3, o3⟩ := X5_add_e gc c (by rw [List.length_map]; omega)
  have gd := gd.fr o3 (by omega)
  have k3 := (o3.2 r (by omega)).trans k2
  obtain ⟨M4, e4, q4, o4⟩ := X5_add_e gd d (by rw [List.length_map]; omega)
  have k4 := (o4.2 r (by omega)).trans k3
  refine ⟨M4, ?_, ⟨k4, ?_, ?_, ?_, ?_⟩, ?_⟩
  · simp only [f_X4_add, ob_h h.1, h.g0, e1, gR_h k1, gR_h k2, gR_h k3, bso, List.getElem?_cons_succ, List.getElem?_cons_zero, vR, e2, e3, e4]
  · rw [List.map_append]; exact ((q1.fr o2 (by omega)).fr o3 (by omega)).fr o4 (by omega)
  · rw [List.map_append]; exact (q2.fr o3 (by omega)).fr o4 (by omega)
  · rw [List.map_append]; exact q3.fr o4 (by omega)
  · rw [List.map_append]; exact q4
  · exact (((o1.wide (by omega) (by omega)).trans (o2.wide (by omega) (by omega))).trans (o3.wide (by omega) (by omega))).trans (o4.wide (by omega) (by omega))
end
