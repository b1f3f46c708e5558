/-! PURE: the bytes of a text, as both sides read them -/
def ch (l : List Int32) (k : Nat) : Int32 := if k < l.length then l.getD k 0 &&& 255 else -1
def isL (c : Int32) : Bool := !decide (c < 97) && !decide (122 < c)
def isD (c : Int32) : Bool := !decide (c < 48) && !decide (57 < c)
def isG (c : Int32) : Bool := decide (c = 32) || decide (c = 10)
def runF (p : Int32 → Bool) (l : List Int32) : Nat → Nat → Nat
  | 0, k => k
  | n + 1, k => if p (ch l k) = true then runF p l n (k + 1) else k
/-- where a run of bytes ends -/
def rn (p : Int32 → Bool) (l : List Int32) (k : Nat) : Nat := runF p l (l.length - k) k
theorem ch_out {l : List Int32} {k : Nat} (h : l.length ≤ k) : ch l k = -1 := if_neg (by omega)
theorem rn_y {p : Int32 → Bool} {l : List Int32} {k : Nat} (hm : p (-1) = false) (h : p (ch l k) = true) : rn p l k = rn p l (k + 1) := by
  have hk : k < l.length := by
    by_cases e : k < l.length
    · exact e
    · rw [ch_out (by omega), hm] at h; cases h
  rw [rn, show l.length - k = (l.length - (k + 1)) + 1 by omega, runF, if_pos h]; rfl
theorem rn_n {p : Int32 → Bool} {l : List Int32} {k : Nat} (h : p (ch l k) = false) : rn p l k = k := by
  unfold rn
  cases e : l.length - k with
  | zero => rfl
  | succ n => rw [runF, if_neg (by rw [h]; decide)]
theorem rn_ge (p : Int32 → Bool) (l : List Int32) (k : Nat) : k ≤ rn p l k := by
  have : ∀ n k, k ≤ runF p l n k := by
    intro n
    induction n with
    | zero => intro k; exact Nat.le_refl _
    | succ n ih =>
      intro k
      rw [runF]
      split
      · exact Nat.le_trans (Nat.le_succ k) (ih (k + 1))
      · exact Nat.le_refl _
  exact this _ _
theorem rn_le {p : Int32 → Bool} {l : List Int32} {k : Nat} (h : k ≤ l.length) : rn p l k ≤ l.length := by
  have : ∀ n k, runF p l n k ≤ k + n := by
    intro n
    induction n with
    | zero => intro k; exact Nat.le_refl _
    | succ n ih =>
      intro k
      rw [runF]
      split
      · have := ih (k + 1); omega
      · omega
  have := this (l.length - k) k
  unfold rn
  omega
theorem rn_all {p : Int32 → Bool} {l : List Int32} {k j : Nat} (h1 : k ≤ j) (h2 : j < rn p l k) : p (ch l j) = true := by
  have : ∀ n k, k ≤ j → j < runF p l n k → p (ch l j) = true := by
    intro n
    induction n with
    | zero => intro k h1 h2; unfold runF at h2; omega
    | succ n ih =>
      intro k h1 h2
      rw [runF] at h2
      by_cases e : p (ch l k) = true
      · rw [if_pos e] at h2
        by_cases e2 : j = k
        · rw [e2]; exact e
        · exact ih (k + 1) (by omega) h2
      · rw [if_neg e] at h2; omega
  exact this _ _ h1 h2
theorem rn_end {p : Int32 → Bool} {l : List Int32} {k : Nat} (hm : p (-1) = false) : p (ch l (rn p l k)) = false := by
  have : ∀ n k, l.length - k ≤ n → p (ch l (runF p l n k)) = false := by
    intro n
    induction n with
    | zero => intro k h; rw [runF, ch_out (by omega), hm]
    | succ n ih =>
      intro k h
      rw [runF]
      by_cases e : p (ch l k) = true
      · rw [if_pos e]; exact ih (k + 1) (by omega)
      · rw [if_neg e]; simpa using e
  exact this _ _ (Nat.le_refl _)
theorem isL_m : isL (-1) = false := by decide
theorem isD_m : isD (-1) = false := by decide
theorem isG_m : isG (-1) = false := by decide
/-- a byte that is read is 0 to 255 -/
theorem b255 (x : Int32) : ∃ d : Nat, d < 256 ∧ x &&& 255 = nI d := by
  have h0 : ∀ y : BitVec 32, (y &&& 255#32).toNat < 256 := fun y => by
    rw [BitVec.toNat_and]
    exact Nat.lt_of_le_of_lt Nat.and_le_right (by decide)
  refine ⟨(x.toBitVec &&& 255#32).toNat, h0 _, ?_⟩
  refine Int32.toBitVec_inj.mp ?_
  show x.toBitVec &&& 255#32 = (Int32.ofNat (x.toBitVec &&& 255#32).toNat).toBitVec
  rw [Int32.toBitVec_ofNat', BitVec.ofNat_toNat, BitVec.setWidth_eq]
theorem ch_in {l : List Int32} {k : Nat} (h : k < l.length) : ∃ d : Nat, d < 256 ∧ ch l k = nI d := by
  rw [ch, if_pos h]; exact b255 _
theorem isL_n {d : Nat} (h : d < 256) : isL (nI d) = true ↔ 97 ≤ d ∧ d ≤ 122 := by
  have h1 : (nI d < 97) = (d < 97) := ltI (b := 97) rfl rfl (by omega) (by omega)
  have h2 : (122 < nI d) = (122 < d) := ltI (a := 122) rfl rfl (by omega) (by omega)
  simp only [isL, Bool.and_eq_true, Bool.not_eq_true', decide_eq_false_iff_not, h1, h2]
  omega
theorem isD_n {d : Nat} (h : d < 256) : isD (nI d) = true ↔ 48 ≤ d ∧ d ≤ 57 := by
  have h1 : (nI d < 48) = (d < 48) := ltI (b := 48) rfl rfl (by omega) (by omega)
  have h2 : (57 < nI d) = (57 < d) := ltI (a := 57) rfl rfl (by omega) (by omega)
  simp only [isD, Bool.and_eq_true, Bool.not_eq_true', decide_eq_false_iff_not, h1, h2]
  omega
theorem X1_get_e {M : Mem} {r cap : Nat} {l : List Int32} (h : yA M r cap l) {k : Nat} (hk : k < 2 ^ 31) : f_X1_get r (nI k) M = some (ch l k) := by
  have h1 := h.len
  have h2 := h.lim
  by_cases e : k < l.length
  · rw [X1_get_in h e, ch, if_pos e]
  · rw [X1_get_out h (.inr (nI_le (by omega) hk)), ch_out (by omega)]
theorem X10_isL_e (c : Int32) (M : Mem) : f_X10_isLetter c M = some (isL c) := by
  simp only [f_X10_isLetter, isL]
  by_cases e : c < 97
  · simp [e]
  · by_cases e2 : 122 < c <;> simp [e, e2]
theorem X10_isD_e (c : Int32) (M : Mem) : f_X10_isDigit c M = some (isD c) := by
  simp only [f_X10_isDigit, isD]
  by_cases e : c < 48
  · simp [e]
  · by_cases e2 : 57 < c <;> simp [e, e2]
/-- the word of a token -/
def sub (l : List Int32) (a b : Nat) : List Int32 := ((l.take b).drop a).map (fun x => x &&& 255)
theorem sub_len {l : List Int32} {a b : Nat} (hb : b ≤ l.length) : (sub l a b).length = b - a := by rw [sub, List.length_map, List.length_drop, List.length_take]; omega
theorem sub_at {l : List Int32} {a b j : Nat} (hb : b ≤ l.length) (hj : a + j < b) : (sub l a b).getD j 0 = ch l (a + j) := by
  rw [ch, if_pos (by omega), sub]
  simp only [List.getD_eq_getElem?_getD, List.getElem?_map, List.getElem?_drop, List.getElem?_take, hj, if_true]
  rw [List.getElem?_eq_getElem (show a + j < l.length by omega)]; rfl
def kwOf (w : List Int32) : Option Nat := lp (fun i (_ : Unit) => if kwWord i = w then Sum.inr (some i) else .inl ()) (fun _ => none) 0 15 ()
theorem kwOf_i : ∀ i, i < 15 → kwOf (kwWord i) = some i := by decide +kernel
theorem kwOf_s {w : List Int32} {i : Nat} (h : kwOf w = some i) : i < 15 ∧ kwWord i = w := by
  have : ∀ n k, k + n = 15 → lp (fun i (_ : Unit) => if kwWord i = w then Sum.inr (some i) else .inl ()) (fun _ => none) k n () = some i → i < 15 ∧ kwWord i = w := by
    intro n
    induction n with
    | zero => intro k hk h; cases h
    | succ n ih =>
      intro k hk h
      rw [lp] at h
      by_cases e : kwWord k = w
      · simp only [e, if_true] at h
        cases h
        exact ⟨by omega, e⟩
      · simp only [e, if_false] at h
        exact ih (k + 1) (by omega) h
  exact this 15 0 rfl h
theorem kwOf_iff {w : List Int32} {i : Nat} (hi : i < 15) : kwOf w = some i ↔ kwWord i = w :=
  ⟨fun h => (kwOf_s h).2, fun h => by rw [← h]; exact kwOf_i i hi⟩
theorem kw_l8 : ∀ i, i < 15 → (kwWord i).length ≤ 8 := by decide +kernel
section
variable {M : Mem} {rt : Nat} {l : List Int32}
theorem X3_in_loop (hy : yA M rt 700 l) {a b : Nat} (hab : a ≤ b) (hb : b ≤ l.length) {i : Nat} (hi : i < 15) (rc : Nat → Int32 → Int32 → Nat → Int32 → Int32 → Mem → Option (Option Nat)) :
    ∀ (n k fu : Nat), k + n = (kwWord i).length → n < fu → (∀ j, j < k → (kwWord i).getD j 0 = ch l (a + j)) →
    f_X3_spelled_37 rc fu rt (nI a) (nI b) 40 15 (nI i) i (nI (kwWord i).length) (nI k) M = if kwWord i = sub l a b then some (some i) else rc rt (nI a) (nI b) 40 15 (nI (i + 1)) M := by
  have hl := hy.len
  have hw := kw_l8 i hi
  have tail : ∀ k, k ≤ (kwWord i).length → (k = (kwWord i).length → ∀ j, j < (kwWord i).length → (kwWord i).getD j 0 = ch l (a + j)) → (k < (kwWord i).length → (kwWord i).getD k 0 ≠ ch l (a + k)) →
      f_X3_spelled_71 rc rt (nI a) (nI b) 40 15 (nI i) i (nI (kwWord i).length) (nI k) M = if kwWord i = sub l a b then some (some i) else rc rt (nI a) (nI b) 40 15 (nI (i + 1)) M := by
    intro k hk h1 h2
    simp only [f_X3_spelled_71, f_X3_spelled_89, nI_sub hab, nI_1]
    by_cases e : k = (kwWord i).length
    · rw [if_pos (by rw [e])]
      by_cases e2 : (kwWord i).length = b - a
      · rw [if_pos (by rw [e2])]
        have : kwWord i = sub l a b := by
          refine ext_getD (by rw [sub_len hb, e2]) (fun j hj => ?_)
          rw [h1 e j hj, sub_at hb (by omega)]
        rw [if_pos this]
      · rw [if_neg (fun z => e2 ((nI_eq (by omega) (by omega)).mp z)), if_neg (fun z => e2 (by rw [z, sub_len hb]))]
    · rw [if_neg (fun z => e ((nI_eq (by omega) (by omega)).mp z)), if_neg (fun z => ?_)]
      have hkl : k < (kwWord i).length := by omega
      refine h2 hkl ?_
      have hsl : (kwWord i).length = b - a := by rw [z, sub_len hb]
      rw [z, sub_at hb (by omega)]
  intro n
  induction n with
  | zero =>
    intro k fu hk hf h
    obtain ⟨fu, rfl⟩ : ∃ m, fu = m + 1 := ⟨fu - 1, by omega⟩
    obtain rfl : k = (kwWord i).length := by omega
    simp only [f_X3_spelled_37, leT rfl rfl (Nat.le_refl (kwWord i).length) (show (kwWord i).length < 2 ^ 31 by omega), if_true]
    exact tail _ (Nat.le_refl _) (fun _ => h) (fun z => absurd z (Nat.lt_irrefl _))
  | succ n ih =>
    intro k fu hk hf h
    obtain ⟨fu, rfl⟩ : ∃ m, fu = m + 1 := ⟨fu - 1, by omega⟩
    have hkl : k < (kwWord i).length := by omega
    have hW : kWord i = some (20 + i) := if_pos hi
    have hC : sChr (20 + i) (nI k) = some ((kwWord i).getD k 0) := by
      unfold sChr
      rw [Nat.add_sub_cancel_left, if_pos ⟨by omega, inR_n hkl (by omega)⟩, nI_clamp (by omega)]
    simp only [f_X3_spelled_37, leF rfl rfl hkl (show (kwWord i).length < 2 ^ 31 by omega), if_false, hW, hC, nI_add, X1_get_e hy (show a + k < 2 ^ 31 by omega), bso]
    by_cases e : (kwWord i).getD k 0 = ch l (a + k)
    · rw [if_pos e, nI_1]
      exact ih (k + 1) fu (by omega) (by omega) (fun j hj => by
        by_cases e2 : j = k
        · rw [e2]; exact e
        · exact h j (by omega))
    · rw [if_neg e]
      exact tail k (by omega) (fun z => by omega) (fun _ => e)
theorem X3_spelled_e (hy : yA M rt 700 l) {a b : Nat} (hab : a ≤ b) (hb : b ≤ l.length) : f_X3_spelled rt (nI a) (nI b) M = some (kwOf (sub l a b)) := by
  have hl := hy.len
  rw [f_X3_spelled]
  refine lp_run (fun fu i _ => f_X3_spelled_11 fu rt (nI a) (nI b) 40 15 (nI i) M) _ _ 0 15 ?_ ?_ 15 0 () FU (Nat.zero_add _) (Nat.le_refl _) (by rw [FU_eq]; omega)
  · intro fu _
    simp only [f_X3_spelled_11]
    rw [if_pos (show (15 : Int32) ≤ nI 15 by decide)]
  · intro fu i _ _ hi
    have hT : kTab 40 (nI i) = some i := by
      unfold kTab
      rw [if_pos ⟨rfl, inR_n hi (by omega)⟩, nI_clamp (by omega)]
    have hW : kWord i = some (20 + i) := if_pos hi
    have hL : sLen (20 + i) = some (nI (kwWord i).length) := by
      unfold sLen
      rw [if_pos (by omega), Nat.add_sub_cancel_left]; rfl
    have hw := kw_l8 i hi
    simp only [f_X3_spelled_11, hT, hW, hL, bso]
    rw [if_neg (show ¬ ((15 : Int32) ≤ nI i) from fun z => absurd ((nI_leI (a := 15) (by omega) (by omega)).mp z) (by omega))]
    have := X3_in_loop hy hab hb hi (f_X3_spelled_11 fu) (kwWord i).length 0 FU (Nat.zero_add _) (by rw [FU_eq]; omega) (fun j hj => absurd hj (Nat.not_lt_zero _))
    have this' : f_X3_spelled_37 (f_X3_spelled_11 fu) FU rt (nI a) (nI b) 40 15 (nI i) i (nI (kwWord i).length) 0 M = if kwWord i = sub l a b then some (some i) else f_X3_spelled_11 fu rt (nI a) (nI b) 40 15 (nI (i + 1)) M := this
    rw [this']
    by_cases e : kwWord i = sub l a b
    · simp only [e, if_true]
    · simp only [e, if_false]
end
/-! numbers of a text -/
/-- a number, not beyond 10000 -/
def nvF (l : List Int32) : Nat → Nat → Nat → Nat
  | 0, _, a => a
  | n + 1, k, a => nvF l n (k + 1) (min 10000 (10 * a + ((ch l k).toNatClampNeg - 48)))
def nv (l : List Int32) (a b : Nat) : Nat := nvF l (b - a) a 0
/-- a number as a side holds it: itself up to 9999, anything greater beyond -/
def numR (x : Int32) (v : Nat) : Prop := ∃ w : Nat, x = nI w ∧ w ≤ 99999 ∧ ((v ≤ 9999 ∧ w = v) ∨ (10000 ≤ v ∧ 10000 ≤ w))
theorem nvF_le (l : List Int32) : ∀ n k a, a ≤ 10000 → nvF l n k a ≤ 10000 := by
  intro n
  induction n with
  | zero => intro k a h; exact h
  | succ n ih => intro k a h; exact ih (k + 1) _ (Nat.min_le_left _ _)
theorem nvF_big (l : List Int32) : ∀ n k, nvF l n k 10000 = 10000 := by
  intro n
  induction n with
  | zero => intro k; rfl
  | succ n ih => intro k; rw [nvF, Nat.min_eq_left (by omega)]; exact ih (k + 1)
theorem isD_v {c : Int32} (hd : isD c = true) : ∃ d : Nat, d ≤ 9 ∧ c = nI (48 + d) ∧ c.toNatClampNeg - 48 = d := by
  have hp : ¬ c < 0 := fun z => by
    have : c < 48 := Int32.lt_trans z (by decide)
    simp [isD, this] at hd
  obtain ⟨j, hj, rfl⟩ := nI_of hp
  have h1 : (nI j < 48) = (j < 48) := ltI (b := 48) rfl rfl (by omega) (by omega)
  have h2 : (57 < nI j) = (57 < j) := ltI (a := 57) rfl rfl (by omega) (by omega)
  simp only [isD, Bool.and_eq_true, Bool.not_eq_true', decide_eq_false_iff_not, h1, h2] at hd
  refine ⟨j - 48, by omega, by rw [show 48 + (j - 48) = j by omega], ?_⟩
  rw [nI_clamp hj]
