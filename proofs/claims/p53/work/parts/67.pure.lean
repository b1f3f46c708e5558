/-! PURE: the reference's row, written -/
theorem rg_s (f : Nat → Int64) (k : Nat) (v : Int64) : rg (vp_updL f k v) k = Int64.toInt32 v := by rw [rg, pk_uLs]
theorem rg_n (f : Nat → Int64) {k j : Nat} (v : Int64) (h : j ≠ k) : rg (vp_updL f k v) j = rg f j := by rw [rg, pk_uLn h]; rfl
theorem rg_eq {f f' : Nat → Int64} {k : Nat} (h : f' k = f k) : rg f' k = rg f k := by rw [rg, h]; rfl
theorem bRep.fr {f f' : Nat → Int64} {a : Nat} {b : Bx} (h : bRep f a b) (e : ∀ q, a ≤ q → q < a + 93 → f' q = f q) (hl : b.2.2.length ≤ 30) : bRep f' a b := by
  obtain ⟨h1, h2, h3, h4⟩ := h
  refine ⟨by rw [e a (by omega) (by omega)]; exact h1, (rg_eq (e _ (by omega) (by omega))).trans h2, (rg_eq (e _ (by omega) (by omega))).trans h3, fun j hj => ?_⟩
  obtain ⟨g1, g2, g3⟩ := h4 j hj
  exact ⟨(rg_eq (e _ (by omega) (by omega))).trans g1, (rg_eq (e _ (by omega) (by omega))).trans g2, (rg_eq (e _ (by omega) (by omega))).trans g3⟩
theorem sRep.fr {f f' : Nat → Int64} {a : Nat} {s : Sx} (h : sRep f a s) (e : ∀ q, a ≤ q → q < a + 131 → f' q = f q) (hl : (sxE s).length ≤ 60) : sRep f' a s := by
  obtain ⟨h1, h2, h3, h4, h5, h6, h7, h8⟩ := h
  refine ⟨by rw [e a (by omega) (by omega)]; exact h1, (rg_eq (e _ (by omega) (by omega))).trans h2, (rg_eq (e _ (by omega) (by omega))).trans h3, (rg_eq (e _ (by omega) (by omega))).trans h4, (rg_eq (e _ (by omega) (by omega))).trans h5, (rg_eq (e _ (by omega) (by omega))).trans h6, fun j hj => (rg_eq (e _ (by omega) (by omega))).trans (h7 j hj), fun k hk => ?_⟩
  obtain ⟨g1, g2⟩ := h8 k hk
  exact ⟨(rg_eq (e _ (by omega) (by omega))).trans g1, (rg_eq (e _ (by omega) (by omega))).trans g2⟩
def setBx (S : St) (b : Nat) (x : Bx) : St := (stL S, stN S, stM S, va_up (stB S) b x, stS S)
theorem rep.setB {f f' : Nat → Int64} {S : St} (h : rep f S) {b : Nat} (hb : b < stN S) {x : Bx} (e : ∀ q, (q < bAt b ∨ bAt b + 93 ≤ q) → f' q = f q) (hx : bRep f' (bAt b) x) (hl : x.2.2.length ≤ 30) : rep f' (setBx S b x) := by
  obtain ⟨h1, h2, h3, h4, h5, h6, h7⟩ := h
  refine ⟨(rg_eq (e _ (by unfold bAt; omega))).trans h1, (rg_eq (e _ (by unfold bAt; omega))).trans h2, (rg_eq (e _ (by unfold bAt; omega))).trans h3, h4, h5, fun j hj => ?_, fun j hj => ⟨(h7 j hj).1, (h7 j hj).2.fr (fun q q1 q2 => e q (by unfold bAt sAt at *; omega)) (h7 j hj).1⟩⟩
  show (va_up (stB S) b x j).2.2.length ≤ 30 ∧ bRep f' (bAt j) (va_up (stB S) b x j)
  by_cases ej : j = b
  · subst ej; rw [va_up_s]; exact ⟨hl, hx⟩
  · rw [va_up_n _ _ ej]
    exact ⟨(h6 j hj).1, (h6 j hj).2.fr (fun q q1 q2 => e q (by unfold bAt at *; omega)) (h6 j hj).1⟩
theorem rep.setS {f f' : Nat → Int64} {S : St} (h : rep f S) {s : Nat} (hs : s < stM S) {x : Sx} (e : ∀ q, (q < sAt s ∨ sAt s + 131 ≤ q) → f' q = f q) (hx : sRep f' (sAt s) x) (hl : (sxE x).length ≤ 60) : rep f' (setSx S s x) := by
  obtain ⟨h1, h2, h3, h4, h5, h6, h7⟩ := h
  refine ⟨(rg_eq (e _ (by unfold sAt; omega))).trans h1, (rg_eq (e _ (by unfold sAt; omega))).trans h2, (rg_eq (e _ (by unfold sAt; omega))).trans h3, h4, h5, fun j hj => ⟨(h6 j hj).1, (h6 j hj).2.fr (fun q q1 q2 => e q (by have hj : j < stN S := hj; unfold bAt sAt at *; omega)) (h6 j hj).1⟩, fun j hj => ?_⟩
  show (sxE (va_up (stS S) s x j)).length ≤ 60 ∧ sRep f' (sAt j) (va_up (stS S) s x j)
  by_cases ej : j = s
  · subst ej; rw [va_up_s]; exact ⟨hl, hx⟩
  · rw [va_up_n _ _ ej]
    exact ⟨(h7 j hj).1, (h7 j hj).2.fr (fun q q1 q2 => e q (by unfold sAt at *; omega)) (h7 j hj).1⟩
theorem upd_off (f : Nat → Int64) {k a n : Nat} (v : Int64) (h1 : a ≤ k) (h2 : k < a + n) : ∀ q, (q < a ∨ a + n ≤ q) → vp_updL f k v q = f q := fun q hq => pk_uLn (by omega)
/-- what else the reference holds is as it was -/
def kpT (R R' : Rs) : Prop := R'.2.1 = R.2.1 ∧ (∀ k, k ≠ 5 → R'.1 k = R.1 k) ∧ (∀ a, a ≠ rowN R → R'.2.2.1 a = R.2.2.1 a) ∧ ∀ a, a ≠ 3 → R'.2.2.2 a = R.2.2.2 a
theorem kpT.rf (R : Rs) : kpT R R := ⟨rfl, fun _ _ => rfl, fun _ _ => rfl, fun _ _ => rfl⟩
theorem kpT.rw {R R' : Rs} (h : kpT R R') : rowN R' = rowN R := by unfold rowN; rw [h.1]
theorem kpT.trans {R R1 R2 : Rs} (h : kpT R R1) (g : kpT R1 R2) : kpT R R2 := ⟨g.1.trans h.1, fun k hk => (g.2.1 k hk).trans (h.2.1 k hk), fun a ha => (g.2.2.1 a (by rw [h.rw]; exact ha)).trans (h.2.2.1 a ha), fun a ha => (g.2.2.2 a ha).trans (h.2.2.2 a ha)⟩
/-- the notices -/
def ntR (R : Rs) (ns : List Nt) : Prop := R.1 5 = nI ns.length ∧ ∀ i, i < ns.length → R.2.2.2 3 (4 * i) = n0 (ng ns i) ∧ R.2.2.2 3 (4 * i + 1) = n1 (ng ns i) ∧ R.2.2.2 3 (4 * i + 2) = n2 (ng ns i) ∧ R.2.2.2 3 (4 * i + 3) = n3 (ng ns i)
theorem upd_s (f : Nat → Int32) (k : Nat) (v : Int32) : upd f k v k = v := if_pos rfl
theorem upd_n (f : Nat → Int32) {k j : Nat} (v : Int32) (h : j ≠ k) : upd f k v j = f j := if_neg h
theorem rsS_at (R : Rs) (k : Nat) (v : Int32) : (rsS R k v).1 k = v := va_up_s _ _ _
section
variable {M : Mem} {m : Nat} {R : Rs} {S : St}
theorem r_s1' (hw : R.2.1 = false) {k : Nat} (hk : k < 806) (v : Int64) : sJ (ov M m R) 1 (m + 1) (nI k) v = some (ov M m (rsR R (vp_updL (rowf R) k v))) := by
  have : rowN R = 1 := by rw [rowN, hw]; rfl
  have h := r_srow M m R hk v
  rw [this] at h; exact h
/-- a count of a session becomes greater by one -/
def incC (s : Sx) (k : Nat) : Sx := (s.1, sxB s, sxR s, sxI s, sxH s, sxE s, (sxC s).set k ((sxC s).getD k 0 + 1))
end
