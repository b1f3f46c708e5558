/-! PURE: append, truncate, errors, undoCount -/
theorem byt_rng (x : Int32) : -128 ≤ (byt x).toInt ∧ (byt x).toInt ≤ 127 := by
  have e : byt x = (x.toInt8.toInt32).toInt8.toInt32 := rfl
  rw [e, Int8.toInt_toInt32]
  have h1 := Int8.le_toInt (x.toInt8.toInt32).toInt8
  have h2 := Int8.toInt_lt (x.toInt8.toInt32).toInt8
  exact ⟨h1, by omega⟩
theorem four_rng (v : Int32) : ∀ x ∈ four v, -128 ≤ x.toInt ∧ x.toInt ≤ 127 := by
  intro x hx
  unfold four at hx
  simp only [List.mem_cons, List.not_mem_nil, or_false] at hx
  rcases hx with rfl | rfl | rfl | rfl <;> exact byt_rng _
section
variable {M : Mem} {m : Nat} {R : Rs}
end
section
variable {M : Mem} {m : Nat} {R : Rs} {I O : List Int32} {S : St} {K : Nat → St} {B : Nat → Bool} {C : Nat} {H : Nat → St} {N : List Nt} {E : Er} {c : Nat}
theorem Ref.upI {R' : Rs} {I' : List Int32} (h : Ref R I O S K B C H N E) (k : kp [0, 8] [] [5] R R') (e8 : R'.1 8 = nI I'.length) (e5 : ∀ x, x < I'.length → R'.2.2.2 5 x = I'.getD x 0) : Ref R' I' O S K B C H N E := by
  obtain ⟨a1, a2, a3, a4, ⟨a5, a6⟩, ⟨a7, a8⟩, ⟨a9, b1⟩, b2⟩ := h
  have hrow := k.row a1 (by decide)
  obtain ⟨k1, k2, k3, k4⟩ := k
  have i9 := k4 9 (by simp)
  have i11 := k4 11 (by simp)
  have i3 := k4 3 (by simp)
  have j8 := k3 8 (by simp)
  exact ⟨k1.trans a1, by rw [hrow]; exact a2, a3.cg (k2 25 (by simp)) (k3 10 (by simp)), ⟨(k2 5 (by simp)).trans a4.1, by rw [i3]; exact a4.2⟩, ⟨e8, e5⟩, ⟨(k2 27 (by simp)).trans a7, by rw [i11]; exact a8⟩, ⟨(k2 14 (by simp)).trans a9, (k2 15 (by simp)).trans b1⟩, fun j hj => by rw [i9, j8]; exact b2 j hj⟩
theorem cls_four (h : Cls M I O S K B C H N E) (v : Int32) (hl : I.length + 4 ≤ 700) : ∃ M', f_X1_addFour 101 v M = some M' ∧ Cls M' (I ++ four v) O S K B C H N E ∧ off M M' 100 616 := by
  obtain ⟨M', e, y, o⟩ := X1_four_e h.i v hl
  exact ⟨M', e, h.mI y o, o.wide (by omega) (by omega)⟩
theorem four_len (v : Int32) : (four v).length = 4 := rfl
end
