/-! PURE: what the reference's row says -/
def rg (f : Nat → Int64) (k : Nat) : Int32 := Int64.toInt32 (f k)
/-- a name of the class and one of the reference -/
def lets (w : List Int32) : Prop := 0 < w.length ∧ w.length ≤ 6 ∧ ∀ x ∈ w, ∃ d : Nat, 97 ≤ d ∧ d ≤ 122 ∧ x = nI d
def rstp (n : Int64) (x : Int32) : Int64 := 27 * n + Int32.toInt64 x - 96
def rnm (w : List Int32) : Int64 := w.foldl rstp 0
def nmR (J j : Int64) : Prop := ∃ w, lets w ∧ J = cnm w ∧ j = rnm w
def bRep (f : Nat → Int64) (a : Nat) (b : Bx) : Prop :=
  nmR b.1 (f a) ∧ rg f (a + 1) = nI b.2.2.length ∧ rg f (a + 2) = b.2.1 ∧ ∀ j, j < b.2.2.length → rg f (a + 3 + 3 * j) = mU (mg b.2.2 j) ∧ rg f (a + 3 + 3 * j + 1) = mS (mg b.2.2 j) ∧ rg f (a + 3 + 3 * j + 2) = mF (mg b.2.2 j)
def sRep (f : Nat → Int64) (a : Nat) (s : Sx) : Prop :=
  nmR s.1 (f a) ∧ rg f (a + 1) = sxB s ∧ rg f (a + 2) = b2i (sxR s) ∧ rg f (a + 3) = b2i (sxI s) ∧ rg f (a + 4) = nI (sxE s).length ∧ rg f (a + 5) = sxH s ∧ (∀ j, j < 5 → rg f (a + 6 + j) = (sxC s).getD j 0) ∧ ∀ k, k < (sxE s).length → rg f (a + 11 + 2 * k) = eU (eg (sxE s) k) ∧ rg f (a + 11 + 2 * k + 1) = eT (eg (sxE s) k)
def bAt (b : Nat) : Nat := 3 + 93 * b
def sAt (s : Nat) : Nat := 282 + 131 * s
/-- the row says a state -/
def rep (f : Nat → Int64) (S : St) : Prop :=
  rg f 0 = stL S ∧ rg f 1 = nI (stN S) ∧ rg f 2 = nI (stM S) ∧ stN S ≤ 3 ∧ stM S ≤ 4 ∧ (∀ b, b < stN S → (stB S b).2.2.length ≤ 30 ∧ bRep f (bAt b) (stB S b)) ∧ (∀ s, s < stM S → (sxE (stS S s)).length ≤ 60 ∧ sRep f (sAt s) (stS S s))
theorem nI2 (a : Nat) : nI a + 2 = nI (a + 2) := nI_add a 2
theorem nI3 (a : Nat) : nI a + 3 = nI (a + 3) := nI_add a 3
theorem nI4 (a : Nat) : nI a + 4 = nI (a + 4) := nI_add a 4
theorem nI5 (a : Nat) : nI a + 5 = nI (a + 5) := nI_add a 5
theorem nI6 (a : Nat) : nI a + 6 = nI (a + 6) := nI_add a 6
theorem nI11 (a : Nat) : nI a + 11 = nI (a + 11) := nI_add a 11
theorem nI0' (a : Nat) : nI a + 0 = nI a := Int32.add_zero _
theorem nIm3 (a : Nat) : 3 * nI a = nI (3 * a) := nI_mul 3 a
theorem nIm2 (a : Nat) : 2 * nI a = nI (2 * a) := nI_mul 2 a
theorem nIm4 (a : Nat) : 4 * nI a = nI (4 * a) := nI_mul 4 a
theorem X12_boxAt_e (b : Nat) (M : Mem) : f_X12_boxAt (nI b) M = some (nI (bAt b)) := by
  rw [f_X12_boxAt, show (93 : Int32) * nI b = nI (93 * b) from nI_mul 93 b, show (3 : Int32) + nI (93 * b) = nI (3 + 93 * b) from nI_add 3 _]; rfl
theorem X12_sesAt_e (s : Nat) (M : Mem) : f_X12_sessionAt (nI s) M = some (nI (sAt s)) := by
  rw [f_X12_sessionAt, show (131 : Int32) * nI s = nI (131 * s) from nI_mul 131 s, show (282 : Int32) + nI (131 * s) = nI (282 + 131 * s) from nI_add 282 _]; rfl
theorem X12_msgAt_e (b j : Nat) (M : Mem) : f_X12_messageAt (nI b) (nI j) M = some (nI (bAt b + 3 + 3 * j)) := by
  simp only [f_X12_messageAt, X12_boxAt_e, bso, nI3, nIm3, nI_add]
theorem X12_entAt_e (s k : Nat) (M : Mem) : f_X12_entryAt (nI s) (nI (k + 1)) M = some (nI (sAt s + 11 + 2 * k)) := by
  simp only [f_X12_entryAt, X12_sesAt_e, bso, nI11, nI_pred, nIm2, nI_add]
section
variable {M : Mem} {m : Nat} {R : Rs}
theorem X12_get_e {k : Nat} (hk : k < 806) : f_X12_get m (nI k) (ov M m R) = some (rg (rowf R) k) := by
  simp only [f_X12_get, ov_ob, r_g3, r_row M m R hk, bso, rg]
theorem X12_boxes_e {S : St} (h : rep (rowf R) S) : f_X12_boxes m (ov M m R) = some (nI (stN S)) := by
  have g := X12_get_e (M := M) (m := m) (R := R) (k := 1) (by omega)
  have g' : f_X12_get m 1 (ov M m R) = some (rg (rowf R) 1) := g
  simp only [f_X12_boxes, ov_ob, g', bso, h.2.1]
theorem X12_sess_e {S : St} (h : rep (rowf R) S) : f_X12_sessions m (ov M m R) = some (nI (stM S)) := by
  have g := X12_get_e (M := M) (m := m) (R := R) (k := 2) (by omega)
  have g' : f_X12_get m 2 (ov M m R) = some (rg (rowf R) 2) := g
  simp only [f_X12_sessions, ov_ob, g', bso, h.2.2.1]
end
/-! a number between -/
def btw (v lo hi : Int64) : Bool := !decide (v < lo) && !decide (hi < v)
theorem X12_in_e (v lo hi : Int64) (M : Mem) : f_X12_in v lo hi M = some (btw v lo hi) := by
  simp only [f_X12_in, lg_cmp_lt, lg_cmp_gt, btw]
  by_cases e : v < lo
  · simp [e]
  · by_cases e2 : hi < v <;> simp [e, e2]
theorem l_of (x : Int32) : x.toInt64.toInt = x.toInt := Int32.toInt_toInt64 x
theorem btw_iff (v lo hi : Int64) : btw v lo hi = true ↔ lo.toInt ≤ v.toInt ∧ v.toInt ≤ hi.toInt := by
  simp only [btw, Bool.and_eq_true, Bool.not_eq_true', decide_eq_false_iff_not, Int64.lt_iff_toInt_lt]
  omega
theorem nI_lt_l {a b : Nat} (hb : b ≤ 2 ^ 31 - 1) : True := trivial
/-- the numbers from 0 up -/
theorem btw_0 (i : Int32) {n : Nat} (hn : n < 2 ^ 31) : btw (Int32.toInt64 i) 0 (Int32.toInt64 (nI n - 1)) = true ↔ ∃ k, k < n ∧ i = nI k := by
  rw [btw_iff, l_of, l_of]
  have h1 : (nI n - 1).toInt = (n : Int) - 1 := by
    cases n with
    | zero => decide
    | succ n => rw [nI_pred, nI_toInt (by omega)]; omega
  rw [h1, show (0 : Int64).toInt = 0 from rfl]
  constructor
  · intro ⟨h2, h3⟩
    refine ⟨i.toInt.toNat, by omega, ?_⟩
    refine Int32.toInt_inj.mp ?_
    rw [nI_toInt (by omega)]
    omega
  · rintro ⟨k, hk, rfl⟩
    rw [nI_toInt (by omega)]
    omega
theorem btw_1 (i : Int32) {n : Nat} (hn : n < 2 ^ 31) : btw (Int32.toInt64 i) 1 (Int32.toInt64 (nI n)) = true ↔ ∃ k, k < n ∧ i = nI (k + 1) := by
  rw [btw_iff, l_of, l_of, nI_toInt hn, show (1 : Int64).toInt = 1 from rfl]
  constructor
  · intro ⟨h2, h3⟩
    refine ⟨i.toInt.toNat - 1, by omega, ?_⟩
    refine Int32.toInt_inj.mp ?_
    rw [nI_toInt (by omega)]
    omega
  · rintro ⟨k, hk, rfl⟩
    rw [nI_toInt (by omega)]
    omega
theorem btw_c (i : Int32) (lo hi : Int32) : btw (Int32.toInt64 i) (Int32.toInt64 lo) (Int32.toInt64 hi) = (!decide (i < lo) && !decide (hi < i)) := by
  rw [Bool.eq_iff_iff, btw_iff, l_of, l_of, l_of]
  simp only [Bool.and_eq_true, Bool.not_eq_true', decide_eq_false_iff_not, Int32.lt_iff_toInt_lt]
  omega
section
variable {M : Mem} {m : Nat} {R : Rs} {S : St}
theorem X12_isBox_in (h : rep (rowf R) S) {b : Nat} (hb : b < stN S) : f_X12_isBox m (nI b) (ov M m R) = some true := by
  have h3 := h.2.2.2.1
  simp only [f_X12_isBox, ov_ob, X12_boxes_e h, bso, X12_in_e, (btw_0 (nI b) (show stN S < 2 ^ 31 by omega)).mpr ⟨b, hb, rfl⟩]
theorem X12_isBox_no (h : rep (rowf R) S) {i : Int32} (hi : ¬ ∃ k, k < stN S ∧ i = nI k) : f_X12_isBox m i (ov M m R) = some false := by
  have h3 := h.2.2.2.1
  simp only [f_X12_isBox, ov_ob, X12_boxes_e h, bso, X12_in_e]
  rw [Bool.eq_false_iff.mpr (fun z => hi ((btw_0 i (show stN S < 2 ^ 31 by omega)).mp z))]
theorem X12_isSes_in (h : rep (rowf R) S) {b : Nat} (hb : b < stM S) : f_X12_isSession m (nI b) (ov M m R) = some true := by
  have h3 := h.2.2.2.2.1
  simp only [f_X12_isSession, ov_ob, X12_sess_e h, bso, X12_in_e, (btw_0 (nI b) (show stM S < 2 ^ 31 by omega)).mpr ⟨b, hb, rfl⟩]
theorem X12_isSes_no (h : rep (rowf R) S) {i : Int32} (hi : ¬ ∃ k, k < stM S ∧ i = nI k) : f_X12_isSession m i (ov M m R) = some false := by
  have h3 := h.2.2.2.2.1
  simp only [f_X12_isSession, ov_ob, X12_sess_e h, bso, X12_in_e]
  rw [Bool.eq_false_iff.mpr (fun z => hi ((btw_0 i (show stM S < 2 ^ 31 by omega)).mp z))]
theorem rep.bx (h : rep (rowf R) S) {b : Nat} (hb : b < stN S) : bRep (rowf R) (bAt b) (stB S b) := (h.2.2.2.2.2.1 b hb).2
theorem rep.sx (h : rep (rowf R) S) {s : Nat} (hs : s < stM S) : sRep (rowf R) (sAt s) (stS S s) := (h.2.2.2.2.2.2 s hs).2
theorem rep.lb (h : rep (rowf R) S) {b : Nat} (hb : b < stN S) : (stB S b).2.2.length ≤ 30 := (h.2.2.2.2.2.1 b hb).1
theorem rep.ls (h : rep (rowf R) S) {s : Nat} (hs : s < stM S) : (sxE (stS S s)).length ≤ 60 := (h.2.2.2.2.2.2 s hs).1
theorem X12_many_e (h : rep (rowf R) S) {b : Nat} (hb : b < stN S) : f_X12_manyIn m (nI b) (ov M m R) = some (nI (stB S b).2.2.length) := by
  have h3 := h.2.2.2.1
  simp only [f_X12_manyIn, ov_ob, X12_boxAt_e, bso, nI_1, X12_get_e (M := M) (m := m) (R := R) (show bAt b + 1 < 806 by unfold bAt; omega), (h.bx hb).2.1]
theorem X12_ofM_e (h : rep (rowf R) S) {b j : Nat} (hb : b < stN S) (hj : j < (stB S b).2.2.length) : f_X12_ofMessage m (nI b) (nI j) 0 (ov M m R) = some (mU (mg (stB S b).2.2 j)) ∧ f_X12_ofMessage m (nI b) (nI j) 1 (ov M m R) = some (mS (mg (stB S b).2.2 j)) ∧ f_X12_ofMessage m (nI b) (nI j) 2 (ov M m R) = some (mF (mg (stB S b).2.2 j)) := by
  have h3 := h.2.2.2.1
  have hl := h.lb hb
  obtain ⟨g1, g2, g3⟩ := (h.bx hb).2.2.2 j hj
  refine ⟨?_, ?_, ?_⟩
  · simp only [f_X12_ofMessage, ov_ob, X12_msgAt_e, bso, nI0', X12_get_e (M := M) (m := m) (R := R) (show bAt b + 3 + 3 * j < 806 by unfold bAt; omega), g1]
  · simp only [f_X12_ofMessage, ov_ob, X12_msgAt_e, bso, nI_1, X12_get_e (M := M) (m := m) (R := R) (show bAt b + 3 + 3 * j + 1 < 806 by unfold bAt; omega), g2]
  · simp only [f_X12_ofMessage, ov_ob, X12_msgAt_e, bso, nI2, X12_get_e (M := M) (m := m) (R := R) (show bAt b + 3 + 3 * j + 2 < 806 by unfold bAt; omega), g3]
theorem X12_ses_f (h : rep (rowf R) S) {s : Nat} (hs : s < stM S) {i : Nat} (hi : i < 11) : f_X12_get m (nI (sAt s + i)) (ov M m R) = some (rg (rowf R) (sAt s + i)) := by
  have h3 := h.2.2.2.2.1
  exact X12_get_e (by unfold sAt; omega)
theorem X12_boxOf_e (h : rep (rowf R) S) {s : Nat} (hs : s < stM S) : f_X12_boxOf m (nI s) (ov M m R) = some (sxB (stS S s)) := by
  simp only [f_X12_boxOf, ov_ob, X12_sesAt_e, bso, nI_1, X12_ses_f h hs (show 1 < 11 by omega), (h.sx hs).2.1]
theorem X12_hasBox_e (h : rep (rowf R) S) {s : Nat} (hs : s < stM S) : f_X12_hasBox m (nI s) (ov M m R) = some (!decide (sxB (stS S s) = -1)) := by
  simp only [f_X12_hasBox, ov_ob, X12_boxOf_e h hs, bso]
  by_cases e : sxB (stS S s) = -1 <;> simp [e]
theorem b2i_1 (b : Bool) : (b2i b = 1) = (b = true) := by cases b <;> simp [b2i]
theorem X12_reads_e (h : rep (rowf R) S) {s : Nat} (hs : s < stM S) : f_X12_doesRead m (nI s) (ov M m R) = some (sxR (stS S s)) := by
  simp only [f_X12_doesRead, ov_ob, X12_sesAt_e, bso, nI2, X12_ses_f h hs (show 2 < 11 by omega), (h.sx hs).2.2.1, b2i_1]
  cases sxR (stS S s) <;> rfl
theorem X12_idle_e (h : rep (rowf R) S) {s : Nat} (hs : s < stM S) : f_X12_isIdle m (nI s) (ov M m R) = some (sxI (stS S s)) := by
  simp only [f_X12_isIdle, ov_ob, X12_sesAt_e, bso, nI3, X12_ses_f h hs (show 3 < 11 by omega), (h.sx hs).2.2.2.1, b2i_1]
  cases sxI (stS S s) <;> rfl
theorem X12_ents_e (h : rep (rowf R) S) {s : Nat} (hs : s < stM S) : f_X12_entries m (nI s) (ov M m R) = some (nI (sxE (stS S s)).length) := by
  simp only [f_X12_entries, ov_ob, X12_sesAt_e, bso, nI4, X12_ses_f h hs (show 4 < 11 by omega), (h.sx hs).2.2.2.2.1]
theorem X12_ofE_e (h : rep (rowf R) S) {s k : Nat} (hs : s < stM S) (hk : k < (sxE (stS S s)).length) : f_X12_ofEntry m (nI s) (nI (k + 1)) 0 (ov M m R) = some (eU (eg (sxE (stS S s)) k)) ∧ f_X12_ofEntry m (nI s) (nI (k + 1)) 1 (ov M m R) = some (eT (eg (sxE (stS S s)) k)) := by
  have h3 := h.2.2.2.2.1
  have hl := h.ls hs
  obtain ⟨g1, g2⟩ := (h.sx hs).2.2.2.2.2.2.2 k hk
  refine ⟨?_, ?_⟩
  · simp only [f_X12_ofEntry, ov_ob, X12_entAt_e, bso, nI0', X12_get_e (M := M) (m := m) (R := R) (show sAt s + 11 + 2 * k < 806 by unfold sAt; omega), g1]
  · simp only [f_X12_ofEntry, ov_ob, X12_entAt_e, bso, nI_1, X12_get_e (M := M) (m := m) (R := R) (show sAt s + 11 + 2 * k + 1 < 806 by unfold sAt; omega), g2]
theorem X12_isEnt_in (h : rep (rowf R) S) {s k : Nat} (hs : s < stM S) (hk : k < (sxE (stS S s)).length) : f_X12_isEntry m (nI s) (nI (k + 1)) (ov M m R) = some true := by
  have hl := h.ls hs
  simp only [f_X12_isEntry, ov_ob, X12_isSes_in h hs, X12_ents_e h hs, bso, cond_true, X12_in_e, (btw_1 (nI (k + 1)) (show (sxE (stS S s)).length < 2 ^ 31 by omega)).mpr ⟨k, hk, rfl⟩]
theorem X12_isEnt_no (h : rep (rowf R) S) {s : Nat} (hs : s < stM S) {i : Int32} (hi : ¬ ∃ k, k < (sxE (stS S s)).length ∧ i = nI (k + 1)) : f_X12_isEntry m (nI s) i (ov M m R) = some false := by
  have hl := h.ls hs
  simp only [f_X12_isEntry, ov_ob, X12_isSes_in h hs, X12_ents_e h hs, bso, cond_true, X12_in_e]
  rw [Bool.eq_false_iff.mpr (fun z => hi ((btw_1 i (show (sxE (stS S s)).length < 2 ^ 31 by omega)).mp z))]
  rfl
theorem X12_isEnt_nos (h : rep (rowf R) S) {i : Int32} (hi : ¬ ∃ k, k < stM S ∧ i = nI k) (j : Int32) : f_X12_isEntry m i j (ov M m R) = some false := by
  simp only [f_X12_isEntry, ov_ob, X12_isSes_no h hi, bso, cond_false]
theorem X12_withUid_e (h : rep (rowf R) S) {b : Nat} (hb : b < stN S) (u : Int32) : f_X12_withUid m (nI b) u (ov M m R) = some (oI (mix (stB S b).2.2 u)) := by
  have hl := h.lb hb
  have := lp_run (fun fu k _ => f_X12_withUid_2 fu m (nI b) u (nI k) (ov M m R)) (fun k (_ : Unit) => if ((stB S b).2.2.map mU).getD k 0 = u then .inr (nI k) else .inl ()) (fun _ => -1) 0 (stB S b).2.2.length
    (fun fu _ => by simp only [f_X12_withUid_2, X12_many_e h hb, bso, leT rfl rfl (Nat.le_refl (stB S b).2.2.length) (show (stB S b).2.2.length < 2 ^ 31 by omega), if_true])
    (fun fu k _ _ hk => by
      simp only [f_X12_withUid_2, X12_many_e h hb, bso, leF rfl rfl hk (show (stB S b).2.2.length < 2 ^ 31 by omega), if_false, (X12_ofM_e h hb hk).1, mapD mU hk, nI_1]
      by_cases e : mU (mg (stB S b).2.2 k) = u
      · simp only [e, if_true]
      · simp only [e, if_false])
    (stB S b).2.2.length 0 () FU (Nat.zero_add _) (Nat.le_refl _) (by rw [FU_eq]; omega)
  simp only [f_X12_withUid, ov_ob]
  rw [mix, ← fnd_ixl, fnd, List.length_map]
  exact this
end
