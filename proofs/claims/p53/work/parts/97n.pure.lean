/-! PURE: keep, restore, undo -/
theorem cntM_agr {S T : St} (g : agr S T) : cntM S = cntM T := by
  unfold cntM
  rw [g.2.1]
  exact fd_ext (hi := stN T) (stN T) 0 0 (Nat.zero_add _) (fun j _ hj a => by rw [g.2.2.2.1 j hj])
section
variable {M : Mem} {m : Nat} {R : Rs}
end
def slR (j : Nat) : Nat := 224 + 59 * j
section
variable {M : Mem} {m : Nat} {R : Rs} {I O : List Int32} {S : St} {K : Nat → St} {B : Nat → Bool} {C : Nat} {H : Nat → St} {N : List Nt} {E : Er} {c : Nat}
theorem Cls.k (h : Cls M I O S K B C H N E) {j : Nat} (hj : j < 2) : stA M (slR j) (K j) := by
  obtain ⟨_, _, _, _, _, _, k0, k1, _⟩ := h
  match j, hj with
  | 0, _ => exact k0
  | 1, _ => exact k1
theorem Cls.mK {M' : Mem} {K' : Nat → St} {j : Nat} (hj : j < 2) (h : Cls M I O S K B C H N E) (e : ∀ i, i < 2 → i ≠ j → K' i = K i) (s : stA M' (slR j) (K' j)) (o : off M M' (slR j) 59) : Cls M' I O S K' B C H N E := by
  match j, hj with
  | 0, _ => exact h.mK0 (e 1 (by omega) (by omega)) s o
  | 1, _ => exact h.mK1 (e 0 (by omega) (by omega)) s o
theorem Ref.upK {R' : Rs} {K' : Nat → St} {B' : Nat → Bool} (h : Ref R I O S K B C H N E) (k : kp [0] [8] [9] R R') (b : ∀ j, j < 2 → R'.2.2.2 9 j = b2i (B' j) ∧ (B' j = true → rep (fun q => R'.2.2.1 8 (806 * j + q)) (K' j))) : Ref R' I O S K' B' C H N E := by
  obtain ⟨a1, a2, a3, a4, ⟨a5, a6⟩, ⟨a7, a8⟩, ⟨a9, b1⟩, b2⟩ := h
  have hrow := k.row a1 (by decide)
  obtain ⟨k1, k2, k3, k4⟩ := k
  have i5 := k4 5 (by simp)
  have i11 := k4 11 (by simp)
  have i3 := k4 3 (by simp)
  exact ⟨k1.trans a1, by rw [hrow]; exact a2, a3.cg (k2 25 (by simp)) (k3 10 (by simp)), ⟨(k2 5 (by simp)).trans a4.1, by rw [i3]; exact a4.2⟩, ⟨(k2 8 (by simp)).trans a5, by rw [i5]; exact a6⟩, ⟨(k2 27 (by simp)).trans a7, by rw [i11]; exact a8⟩, ⟨(k2 14 (by simp)).trans a9, (k2 15 (by simp)).trans b1⟩, b⟩
theorem slot_in {j : Nat} (hj : j < 2) : (!decide (nI j < 0) && !decide (1 < nI j)) = true := by
  match j, hj with
  | 0, _ => rfl
  | 1, _ => rfl
theorem slot_no {a : Int32} (ha : ¬ ∃ j, j < 2 ∧ a = nI j) : (!decide (a < 0) && !decide (1 < a)) = false := by
  rcases notin (by omega) ha with z | z
  · rw [decide_eq_true z]; rfl
  · have : 1 < a := Int32.lt_of_lt_of_le (show (1 : Int32) < nI 2 by decide) z
    rw [decide_eq_true this, Bool.and_comm]; rfl
theorem Ref.upU {R' : Rs} {S' : St} {C' : Nat} {H' : Nat → St} {N' : List Nt} (h : Ref R I O S K B C H N E) (k : kp [0, 5, 25] [1] [] R R') (hr : rep (rowf R') S') (hh : hsR R' C' H') (hn : ntR R' N') : Ref R' I O S' K B C' H' N' E := by
  obtain ⟨a1, a2, a3, a4, ⟨a5, a6⟩, ⟨a7, a8⟩, ⟨a9, b1⟩, b2⟩ := h
  obtain ⟨k1, k2, k3, k4⟩ := k
  have i5 := k4 5 (by simp)
  have i9 := k4 9 (by simp)
  have i11 := k4 11 (by simp)
  have j8 := k3 8 (by simp)
  exact ⟨k1.trans a1, hr, hh, hn, ⟨(k2 8 (by simp)).trans a5, by rw [i5]; exact a6⟩, ⟨(k2 27 (by simp)).trans a7, by rw [i11]; exact a8⟩, ⟨(k2 14 (by simp)).trans a9, (k2 15 (by simp)).trans b1⟩, fun j hj => by rw [i9, j8]; exact b2 j hj⟩
end
