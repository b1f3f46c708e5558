/-! PURE: the reference's row, written -/
theorem rg_s (f : Nat → Int64) (k : Nat) (v : Int64) : rg (vp_updL f k v) k = Int64.toInt32 v := by rw [rg, pk_uLs]
theorem rg_n (f : Nat → Int64) {k j : Nat} (v : Int64) (h : j ≠ k) : rg (vp_updL f k v) j = rg f j := by rw [rg, pk_uLn h]; rfl
theorem rg_eq {f f' : Nat → Int64} {k : Nat} (h : f' k = f k) : rg f' k = rg f k := by rw [rg, h]; rfl
theorem bRep.fr {f f' : Nat → Int64} {a : Nat} {b : Bx} (h : bRep f a b) (e : ∀ q, a ≤ q → q < a + 93 → f' q = f q) (hl : b.2.2.length ≤ 30) : bRep f' a b := by
  obtain ⟨h1, h2, h3, h4⟩ := h
  refine ⟨by rw [e a (by omega) (by omega)]; exact h1, (rg_eq (e _ (by omega) (by omega))).trans h2, (rg_eq (e _ (by omega) (by omega))).trans h3, fun j hj => ?_⟩
  obtain ⟨g1, g2, g3⟩ := h4 j hj
  exact ⟨(rg_eq (e _ (by omega) (by omega))).trans g1, (rg_eq (e _ (by omega) (by omega))).trans g2, (rg_eq (e _ (by omega) (by omega))).trans g3⟩
theorem sRep.fr {f f' : Nat → Int64} {a : Nat} {s : Sx} (h : sRep f a s) (e : ∀ q, a ≤ q → q < a + 131 → f' q = f q) (hl : (sxE s).length ≤ 60) : sRep f' a s := by
  obtain ⟨h1, h2, h3, h4, h5, h6, h7, h8⟩ := h
  refine ⟨by rw [e a (by omega) (by omega)]; exact h1, (rg_eq (e _ (by omega) (by omega))).trans h2, (rg_eq (e _ (by omega) (by omega))).trans h3, (rg_eq (e _ (by omega) (by omega))).trans h4, (rg_eq (e _ (by omega) (by omega))).trans h5, (rg_eq (e _ (by omega) (by omega))).trans h6, fun j hj => (rg_eq (e _ (by omega) (by omega))).trans (h7 j hj), fun k hk => ?_⟩
  obtain ⟨g1, g2⟩ := h8 k hk
  exact ⟨(rg_eq (e _ (by omega) (by omega))).trans g1, (rg_eq (e _ (by omega) (by omega))).trans g2⟩
def setBx (S : St) (b : Nat) (x : Bx) : St := (stL S, stN S, stM S, va_up (stB S) b x, stS S)
theorem rep.setB {f f' : Nat → Int64} {S : St} (h : rep f S) {b : Nat} (hb : b < stN S) {x : Bx} (e : ∀ q, (q < bAt b ∨ bAt b + 93 ≤ q) → f' q = f q) (hx : bRep f' (bAt b) x) (hl : x.2.2.length ≤ 30) : rep f' (setBx S b x) := by
  obtain ⟨h1, h2, h3, h4, h5, h6, h7⟩ := h
  refine ⟨(rg_eq (e _ (by unfold bAt; omega))).trans h1, (rg_eq (e _ (by unfold bAt; omega))).trans h2, (rg_eq (e _ (by unfold bAt; omega))).trans h3, h4, h5, fun j hj => ?_, fun j hj => ⟨(h7 j hj).1, (h7 j hj).2.fr (fun q q1 q2 => e q (by unfold bAt sAt at *; omega)) (h7 j hj).1⟩⟩
  show (va_up (stB S) b x j).2.2.length ≤ 30 ∧ bRep f' (bAt j) (va_up (stB S) b x j)
  by_cases ej : j = b
  · subst ej; rw [va_up_s]; exact ⟨hl, hx⟩
  · rw [va_up_n _ _ ej]
    exact ⟨(h6 j hj).1, (h6 j hj).2.fr (fun q q1 q2 => e q (by unfold bAt at *; omega)) (h6 j hj).1⟩
theorem rep.setS {f f' : Nat → Int64} {S : St} (h : rep f S) {s : Nat} (hs : s < stM S) {x : Sx} (e : ∀ q, (q < sAt s ∨ sAt s + 131 ≤ q) → f' q = f q) (hx : sRep f' (sAt s) x) (hl : (sxE x).length ≤ 60) : rep f' (setSx S s x) := by
  obtain ⟨h1, h2, h3, h4, h5, h6, h7⟩ := h
  refine ⟨(rg_eq (e _ (by unfold sAt; omega))).trans h1, (rg_eq (e _ (by unfold sAt; omega))).trans h2, (rg_eq (e _ (by unfold sAt; omega))).trans h3, h4, h5, fun j hj => ⟨(h6 j hj).1, (h6 j hj).2.fr (fun q q1 q2 => e q (by have hj : j < stN S := hj; unfold bAt sAt at *; omega)) (h6 j hj).1⟩, fun j hj => ?_⟩
  show (sxE (va_up (stS S) s x j)).length ≤ 60 ∧ sRep f' (sAt j) (va_up (stS S) s x j)
  by_cases ej : j = s
  · subst ej; rw [va_up_s]; exact ⟨hl, hx⟩
  · rw [va_up_n _ _ ej]
    exact ⟨(h7 j hj).1, (h7 j hj).2.fr (fun q q1 q2 => e q (by unfold sAt at *; omega)) (h7 j hj).1⟩
theorem upd_off (f : Nat → Int64) {k a n : Nat} (v : Int64) (h1 : a ≤ k) (h2 : k < a + n) : ∀ q, (q < a ∨ a + n ≤ q) → vp_updL f k v q = f q := fun q hq => pk_uLn (by omega)
/-- what else the reference holds is as it was -/
def kpT (R R' : Rs) : Prop := R'.2.1 = R.2.1 ∧ (∀ k, k ≠ 5 → R'.1 k = R.1 k) ∧ (∀ a, a ≠ rowN R → R'.2.2.1 a = R.2.2.1 a) ∧ ∀ a, a ≠ 3 → R'.2.2.2 a = R.2.2.2 a
theorem kpT.rf (R : Rs) : kpT R R := ⟨rfl, fun _ _ => rfl, fun _ _ => rfl, fun _ _ => rfl⟩
theorem kpT.rw {R R' : Rs} (h : kpT R R') : rowN R' = rowN R := by unfold rowN; rw [h.1]
theorem kpT.trans {R R1 R2 : Rs} (h : kpT R R1) (g : kpT R1 R2) : kpT R R2 := ⟨g.1.trans h.1, fun k hk => (g.2.1 k hk).trans (h.2.1 k hk), fun a ha => (g.2.2.1 a (by rw [h.rw]; exact ha)).trans (h.2.2.1 a ha), fun a ha => (g.2.2.2 a ha).trans (h.2.2.2 a ha)⟩
theorem kpT_R (R : Rs) (f : Nat → Int64) : kpT R (rsR R f) := ⟨rfl, fun _ _ => rfl, fun a ha => va_up_n _ _ ha, fun _ _ => rfl⟩
theorem kpT_5 (R : Rs) (v : Int32) : kpT R (rsS R 5 v) := ⟨rfl, fun k hk => va_up_n _ _ hk, fun _ _ => rfl, fun _ _ => rfl⟩
theorem kpT_3 (R : Rs) (f : Nat → Int32) : kpT R (rsI R 3 f) := ⟨rfl, fun _ _ => rfl, fun _ _ => rfl, fun a ha => va_up_n _ _ ha⟩
/-- the notices -/
def ntR (R : Rs) (ns : List Nt) : Prop := R.1 5 = nI ns.length ∧ ∀ i, i < ns.length → R.2.2.2 3 (4 * i) = n0 (ng ns i) ∧ R.2.2.2 3 (4 * i + 1) = n1 (ng ns i) ∧ R.2.2.2 3 (4 * i + 2) = n2 (ng ns i) ∧ R.2.2.2 3 (4 * i + 3) = n3 (ng ns i)
theorem ntR_R {R : Rs} {ns : List Nt} (h : ntR R ns) (f : Nat → Int64) : ntR (rsR R f) ns := h
theorem upd_s (f : Nat → Int32) (k : Nat) (v : Int32) : upd f k v k = v := if_pos rfl
theorem upd_n (f : Nat → Int32) {k j : Nat} (v : Int32) (h : j ≠ k) : upd f k v j = f j := if_neg h
theorem rsS_at (R : Rs) (k : Nat) (v : Int32) : (rsS R k v).1 k = v := va_up_s _ _ _
theorem rsI_I (R : Rs) (a : Nat) (f g : Nat → Int32) : rsI (rsI R a f) a g = rsI R a g := by
  refine Prod.ext rfl (Prod.ext rfl (Prod.ext rfl (funext fun j => ?_)))
  show va_up (va_up R.2.2.2 a f) a g j = va_up R.2.2.2 a g j
  by_cases e : j = a
  · rw [e, va_up_s, va_up_s]
  · rw [va_up_n _ _ e, va_up_n _ _ e, va_up_n _ _ e]
theorem rsI_at (R : Rs) (a : Nat) (f : Nat → Int32) : (rsI R a f).2.2.2 a = f := va_up_s _ _ _
section
variable {M : Mem} {m : Nat} {R : Rs} {S : St}
theorem r_a1' (hw : R.2.1 = false) {k : Nat} (hk : k < 806) : aJ (ov M m R) 1 (m + 1) (nI k) = some (rowf R k) := by
  have : rowN R = 1 := by rw [rowN, hw]; rfl
  have h := r_row M m R hk
  rw [this] at h; exact h
theorem r_s1' (hw : R.2.1 = false) {k : Nat} (hk : k < 806) (v : Int64) : sJ (ov M m R) 1 (m + 1) (nI k) v = some (ov M m (rsR R (vp_updL (rowf R) k v))) := by
  have : rowN R = 1 := by rw [rowN, hw]; rfl
  have h := r_srow M m R hk v
  rw [this] at h; exact h
/-- a count of a session becomes greater by one -/
def incC (s : Sx) (k : Nat) : Sx := (s.1, sxB s, sxR s, sxI s, sxH s, sxE s, (sxC s).set k ((sxC s).getD k 0 + 1))
theorem sRep_inc {f : Nat → Int64} {a : Nat} {s : Sx} (h : sRep f a s) (hc : (sxC s).length = 5) {k : Nat} (hk : k < 5) : sRep (vp_updL f (a + 6 + k) (f (a + 6 + k) + 1)) a (incC s k) := by
  obtain ⟨h1, h2, h3, h4, h5, h6, h7, h8⟩ := h
  refine ⟨by rw [pk_uLn (by omega)]; exact h1, by rw [rg_n _ _ (by omega)]; exact h2, by rw [rg_n _ _ (by omega)]; exact h3, by rw [rg_n _ _ (by omega)]; exact h4, by rw [rg_n _ _ (by omega)]; exact h5, by rw [rg_n _ _ (by omega)]; exact h6, fun j hj => ?_, fun j hj => ?_⟩
  · show _ = ((sxC s).set k ((sxC s).getD k 0 + 1)).getD j 0
    by_cases e : j = k
    · subst e
      rw [rg_s, Int64.toInt32_add, show Int64.toInt32 (f (a + 6 + j)) = rg f (a + 6 + j) from rfl, h7 j hj]
      simp [List.getD_eq_getElem?_getD, hc, hj]
    · rw [rg_n _ _ (by omega), h7 j hj]
      simp [List.getD_eq_getElem?_getD, List.getElem?_set_ne (Ne.symm e)]
  · obtain ⟨g1, g2⟩ := h8 j hj
    exact ⟨by rw [rg_n _ _ (by omega)]; exact g1, by rw [rg_n _ _ (by omega)]; exact g2⟩
theorem X12_notes_e (h : rep (rowf R) S) (hw : R.2.1 = false) {ns : List Nt} (hn : ntR R ns) (hl : ns.length < 900) {s K : Nat} (hs : s < stM S) (hK : K < 3) (hc : (sxC (stS S s)).length = 5) (a3 a4 : Int32) :
    ∃ R', f_X12_notes m (nI s) (nI K) a3 a4 (ov M m R) = some (ov M m R') ∧ rep (rowf R') (setSx S s (incC (stS S s) (K + 1))) ∧ ntR R' (ns ++ [(nI s, nI K, a3, a4)]) ∧ kpT R R' := by
  have h4 := h.2.2.2.2.1
  obtain ⟨g, hg⟩ : ∃ g, g = upd (upd (upd (upd (R.2.2.2 3) (4 * ns.length) (nI s)) (4 * ns.length + 1) (nI K)) (4 * ns.length + 2) a3) (4 * ns.length + 3) a4 := ⟨_, rfl⟩
  obtain ⟨R1, hR1⟩ : ∃ R1, R1 = rsS (rsI R 3 g) 5 (nI (ns.length + 1)) := ⟨_, rfl⟩
  have hrow : rowf R1 = rowf R := by rw [hR1]; rfl
  have hrn : rowN R1 = rowN R := by rw [hR1]; rfl
  have hw1 : R1.2.1 = false := by rw [hR1]; exact hw
  have hk : sAt s + 6 + (K + 1) < 806 := by unfold sAt; omega
  refine ⟨rsR R1 (vp_updL (rowf R) (sAt s + 6 + (K + 1)) (rowf R (sAt s + 6 + (K + 1)) + 1)), ?_, ?_, ?_, ?_⟩
  · have e5 : R.1 5 = nI ns.length := hn.1
    have st : (sI (ov M m R) 0 (m + 3) (nI (4 * ns.length)) (nI s)) = some (ov M m (rsI R 3 (upd (R.2.2.2 3) (4 * ns.length) (nI s)))) := r_s3 M m R (by omega) _
    have st1 := r_s3 M m (rsI R 3 (upd (R.2.2.2 3) (4 * ns.length) (nI s))) (k := 4 * ns.length + 1) (by omega) (nI K)
    rw [rsI_at, rsI_I] at st1
    have st2 := r_s3 M m (rsI R 3 (upd (upd (R.2.2.2 3) (4 * ns.length) (nI s)) (4 * ns.length + 1) (nI K))) (k := 4 * ns.length + 2) (by omega) a3
    rw [rsI_at, rsI_I] at st2
    have st3 := r_s3 M m (rsI R 3 (upd (upd (upd (R.2.2.2 3) (4 * ns.length) (nI s)) (4 * ns.length + 1) (nI K)) (4 * ns.length + 2) a3)) (k := 4 * ns.length + 3) (by omega) a4
    rw [rsI_at, rsI_I, ← hg] at st3
    have e6 : (rsI R 3 g).1 5 = nI ns.length := hn.1
    have p5 := r_p5 M m (rsI R 3 g) (nI (ns.length + 1))
    rw [← hR1] at p5
    have ra := r_a1' (M := M) (m := m) hw1 hk
    have rs := r_s1' (M := M) (m := m) hw1 hk (rowf R (sAt s + 6 + (K + 1)) + 1)
    rw [hrow] at ra rs
    simp only [f_X12_notes, ov_ob, r_g5, r_g4, e5, bso, nIm4, st, nI_1, nI2, nI3, st1, st2, st3, e6, p5, r_g1, X12_sesAt_e, nI6, nI_add]
    rw [show sAt s + 6 + 1 + K = sAt s + 6 + (K + 1) by omega, ra]
    simp only [bso, rs]
  · rw [rowf_R]
    exact h.setS hs (upd_off _ _ (by omega) (by omega)) (sRep_inc (h.sx hs) hc (by omega)) (h.ls hs)
  · refine ⟨?_, fun i hi => ?_⟩
    · show R1.1 5 = _
      rw [hR1, List.length_append, List.length_singleton]
      exact rsS_at _ _ _
    · have hR3 : (rsR R1 (vp_updL (rowf R) (sAt s + 6 + (K + 1)) (rowf R (sAt s + 6 + (K + 1)) + 1))).2.2.2 3 = g := by
        show R1.2.2.2 3 = g
        rw [hR1]; exact rsI_at R 3 g
      rw [hR3, hg]
      rw [List.length_append, List.length_singleton] at hi
      by_cases e : i = ns.length
      · subst e
        have : ng (ns ++ [(nI s, nI K, a3, a4)]) ns.length = (nI s, nI K, a3, a4) := mid_get _ _ _ _
        rw [this]
        refine ⟨?_, ?_, ?_, ?_⟩
        · rw [upd_n _ _ (by omega), upd_n _ _ (by omega), upd_n _ _ (by omega), upd_s]; rfl
        · rw [upd_n _ _ (by omega), upd_n _ _ (by omega), upd_s]; rfl
        · rw [upd_n _ _ (by omega), upd_s]; rfl
        · rw [upd_s]; rfl
      · have hil : i < ns.length := by omega
        have : ng (ns ++ [(nI s, nI K, a3, a4)]) i = ng ns i := by simp [ng, List.getD_eq_getElem?_getD, List.getElem?_append_left hil]
        rw [this]
        obtain ⟨q0, q1, q2, q3⟩ := hn.2 i hil
        refine ⟨?_, ?_, ?_, ?_⟩
        · rw [upd_n _ _ (by omega), upd_n _ _ (by omega), upd_n _ _ (by omega), upd_n _ _ (by omega)]; exact q0
        · rw [upd_n _ _ (by omega), upd_n _ _ (by omega), upd_n _ _ (by omega), upd_n _ _ (by omega)]; exact q1
        · rw [upd_n _ _ (by omega), upd_n _ _ (by omega), upd_n _ _ (by omega), upd_n _ _ (by omega)]; exact q2
        · rw [upd_n _ _ (by omega), upd_n _ _ (by omega), upd_n _ _ (by omega), upd_n _ _ (by omega)]; exact q3
  · have k1 : kpT R R1 := by rw [hR1]; exact (kpT_3 R g).trans (kpT_5 _ _)
    exact k1.trans (kpT_R _ _)
/-- an entry comes in -/
def putE (s : Sx) (x : Msg) : Sx := (s.1, sxB s, sxR s, sxI s, mU x, sxE s ++ [(mU x, mF x)], sxC s)
theorem X12_put_e (h : rep (rowf R) S) {s b j : Nat} (hs : s < stM S) (hb : b < stN S) (hbx : sxB (stS S s) = nI b) (hj : j < (stB S b).2.2.length) (hr : (sxE (stS S s)).length < 60) :
    ∃ f', f_X12_putEntry m (nI s) (nI j) (ov M m R) = some (ov M m (rsR R f')) ∧ rep f' (setSx S s (putE (stS S s) (mg (stB S b).2.2 j))) := by
  have h4 := h.2.2.2.2.1
  obtain ⟨n, hn⟩ : ∃ n, n = (sxE (stS S s)).length := ⟨_, rfl⟩
  obtain ⟨x, hx⟩ : ∃ x, x = mg (stB S b).2.2 j := ⟨_, rfl⟩
  obtain ⟨h1, h2, h3, h4', h5, h6, h7, h8⟩ := h.sx hs
  have ks : ∀ i, i < 131 → sAt s + i < 806 := fun i hi => by unfold sAt; omega
  obtain ⟨f1, hf1⟩ : ∃ f1, f1 = vp_updL (rowf R) (sAt s + 4) (rowf R (sAt s + 4) + 1) := ⟨_, rfl⟩
  have c1 : rg f1 (sAt s + 4) = nI (n + 1) := by rw [hf1, rg_s, Int64.toInt32_add, show Int64.toInt32 (rowf R (sAt s + 4)) = rg (rowf R) (sAt s + 4) from rfl, h5, ← hn, ← nI_1]; rfl
  have ob1 : ∀ q, (q < sAt s ∨ sAt s + 131 ≤ q) → f1 q = rowf R q := by rw [hf1]; exact upd_off _ _ (by omega) (by omega)
  -- the row behind it still says all but the number of entries
  have hbr : ∀ f, (∀ q, (q < sAt s ∨ sAt s + 131 ≤ q) → f q = rowf R q) → rg f (sAt s + 1) = nI b → ∀ Rx, rowf Rx = f → f_X12_boxOf m (nI s) (ov M m Rx) = some (nI b) ∧ f_X12_ofMessage m (nI b) (nI j) 0 (ov M m Rx) = some (mU x) ∧ f_X12_ofMessage m (nI b) (nI j) 2 (ov M m Rx) = some (mF x) := by
    intro f hf hb1 Rx hRx
    have hlb := h.lb hb
    have hn3 := h.2.2.2.1
    obtain ⟨g1, g2, g3⟩ := (h.bx hb).2.2.2 j hj
    refine ⟨?_, ?_, ?_⟩
    · simp only [f_X12_boxOf, ov_ob, X12_sesAt_e, bso, nI_1, X12_get_e (M := M) (m := m) (R := Rx) (ks 1 (by omega)), hRx, hb1]
    · simp only [f_X12_ofMessage, ov_ob, X12_msgAt_e, bso, nI0', X12_get_e (M := M) (m := m) (R := Rx) (show bAt b + 3 + 3 * j < 806 by unfold bAt; omega), hRx]
      rw [rg_eq (hf _ (by unfold bAt sAt; omega)), g1, hx]
    · simp only [f_X12_ofMessage, ov_ob, X12_msgAt_e, bso, nI2, X12_get_e (M := M) (m := m) (R := Rx) (show bAt b + 3 + 3 * j + 2 < 806 by unfold bAt; omega), hRx]
      rw [rg_eq (hf _ (by unfold bAt sAt; omega)), g3, hx]
  have hto : sAt s + 11 + 2 * n < 806 := by unfold sAt; omega
  obtain ⟨f2, hf2⟩ : ∃ f2, f2 = vp_updL f1 (sAt s + 11 + 2 * n) (Int32.toInt64 (mU x)) := ⟨_, rfl⟩
  have ob2 : ∀ q, (q < sAt s ∨ sAt s + 131 ≤ q) → f2 q = rowf R q := fun q hq => by rw [hf2, pk_uLn (by omega)]; exact ob1 q hq
  obtain ⟨f3, hf3⟩ : ∃ f3, f3 = vp_updL f2 (sAt s + 11 + 2 * n + 1) (Int32.toInt64 (mF x)) := ⟨_, rfl⟩
  obtain ⟨f4, hf4⟩ : ∃ f4, f4 = vp_updL f3 (sAt s + 5) (f3 (sAt s + 11 + 2 * n)) := ⟨_, rfl⟩
  have ob4 : ∀ q, (q < sAt s ∨ sAt s + 131 ≤ q) → f4 q = rowf R q := fun q hq => by rw [hf4, pk_uLn (by omega), hf3, pk_uLn (by omega)]; exact ob2 q hq
  have b1 : rg f1 (sAt s + 1) = nI b := by rw [hf1, rg_n _ _ (by omega), h2, hbx]
  have b2 : rg f2 (sAt s + 1) = nI b := by rw [hf2, rg_n _ _ (by omega), b1]
  obtain ⟨q1, q2, q3⟩ := hbr f1 ob1 b1 (rsR R f1) (rowf_R R f1)
  obtain ⟨q1', q2', q3'⟩ := hbr f2 ob2 b2 (rsR R f2) (rowf_R R f2)
  refine ⟨f4, ?_, ?_⟩
  · have a4 := r_row M m R (ks 4 (by omega))
    have s4 := r_srow M m R (ks 4 (by omega)) (rowf R (sAt s + 4) + 1)
    rw [← hf1] at s4
    have en : f_X12_entries m (nI s) (ov M m (rsR R f1)) = some (nI (n + 1)) := by
      simp only [f_X12_entries, ov_ob, X12_sesAt_e, bso, nI4, X12_get_e (M := M) (m := m) (R := rsR R f1) (ks 4 (by omega)), rowf_R, c1]
    have s5 := r_srow M m (rsR R f1) hto (Int32.toInt64 (mU x))
    rw [rowf_R, rsR_R, ← hf2] at s5
    have s6 := r_srow M m (rsR R f2) (show sAt s + 11 + 2 * n + 1 < 806 by unfold sAt; omega) (Int32.toInt64 (mF x))
    rw [rowf_R, rsR_R, ← hf3] at s6
    have a7 := r_row M m (rsR R f3) hto
    rw [rowf_R] at a7
    have s7 := r_srow M m (rsR R f3) (ks 5 (by omega)) (f3 (sAt s + 11 + 2 * n))
    rw [rowf_R, rsR_R, ← hf4] at s7
    simp only [rowN_R] at s5 s6 a7 s7
    simp only [f_X12_putEntry, ov_ob, X12_sesAt_e, bso, r_g3, rowN_R, nI4, nI5, nI_1, nI0', a4, s4, en, X12_entAt_e, q1, q2, q1', q3', s5, s6, a7, s7]
  · refine h.setS hs ob4 ?_ (by show (_ ++ [_]).length ≤ 60; rw [List.length_append, List.length_singleton]; omega)
    have low : ∀ i, i < 11 → i ≠ 4 → i ≠ 5 → f4 (sAt s + i) = rowf R (sAt s + i) := fun i hi i4 i5 => by
      rw [hf4, pk_uLn (by omega), hf3, pk_uLn (by omega), hf2, pk_uLn (by omega), hf1, pk_uLn (by omega)]
    refine ⟨by rw [show sAt s = sAt s + 0 from rfl, low 0 (by omega) (by omega) (by omega)]; exact h1, by rw [rg_eq (low 1 (by omega) (by omega) (by omega))]; exact h2, by rw [rg_eq (low 2 (by omega) (by omega) (by omega))]; exact h3, by rw [rg_eq (low 3 (by omega) (by omega) (by omega))]; exact h4', ?_, ?_, fun i hi => ?_, fun k hk => ?_⟩
    · rw [hf4, rg_n _ _ (by omega), hf3, rg_n _ _ (by omega), hf2, rg_n _ _ (by omega), c1]
      show _ = nI (sxE (stS S s) ++ [_]).length
      rw [List.length_append, List.length_singleton, ← hn]
    · rw [hf4, rg_s, hf3, pk_uLn (by omega), hf2, pk_uLs, Int32.toInt32_toInt64, ← hx]; rfl
    · rw [Nat.add_assoc, rg_eq (low (6 + i) (by omega) (by omega) (by omega)), ← Nat.add_assoc]; exact h7 i hi
    · have hk : k < (sxE (stS S s) ++ [(mU (mg (stB S b).2.2 j), mF (mg (stB S b).2.2 j))]).length := hk
      rw [List.length_append, List.length_singleton, ← hn] at hk
      show rg f4 (sAt s + 11 + 2 * k) = eU (eg (sxE (stS S s) ++ [(mU (mg (stB S b).2.2 j), mF (mg (stB S b).2.2 j))]) k) ∧ rg f4 (sAt s + 11 + 2 * k + 1) = eT (eg (sxE (stS S s) ++ [(mU (mg (stB S b).2.2 j), mF (mg (stB S b).2.2 j))]) k)
      by_cases e : k = n
      · subst e
        have : eg (sxE (stS S s) ++ [(mU (mg (stB S b).2.2 j), mF (mg (stB S b).2.2 j))]) k = (mU x, mF x) := by rw [hn, hx]; exact mid_get _ _ _ _
        rw [this]
        refine ⟨?_, ?_⟩
        · rw [hf4, rg_n _ _ (by omega), hf3, rg_n _ _ (by omega), hf2, rg_s, Int32.toInt32_toInt64]; rfl
        · rw [hf4, rg_n _ _ (by omega), hf3, rg_s, Int32.toInt32_toInt64]; rfl
      · have hkn : k < (sxE (stS S s)).length := by omega
        have : eg (sxE (stS S s) ++ [(mU (mg (stB S b).2.2 j), mF (mg (stB S b).2.2 j))]) k = eg (sxE (stS S s)) k := by simp [eg, List.getD_eq_getElem?_getD, List.getElem?_append_left hkn]
        rw [this]
        obtain ⟨g1, g2⟩ := h8 k hkn
        refine ⟨?_, ?_⟩
        · rw [hf4, rg_n _ _ (by omega), hf3, rg_n _ _ (by omega), hf2, rg_n _ _ (by omega), hf1, rg_n _ _ (by omega)]; exact g1
        · rw [hf4, rg_n _ _ (by omega), hf3, rg_n _ _ (by omega), hf2, rg_n _ _ (by omega), hf1, rg_n _ _ (by omega)]; exact g2
end
