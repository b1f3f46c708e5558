/-! PURE: how many bits, of an int -/
def uN (x : Int32) : Nat := x.toBitVec.toNat
theorem uN_lt (x : Int32) : uN x < 2 ^ 32 := x.toBitVec.isLt
theorem uN_and (x y : Int32) : uN (x &&& y) = uN x &&& uN y := by unfold uN; rw [Int32.toBitVec_and, BitVec.toNat_and]
theorem uN_sub {x y : Int32} (h : uN y ≤ uN x) : uN (x - y) = uN x - uN y := by
  unfold uN at h ⊢
  rw [Int32.toBitVec_sub, BitVec.toNat_sub_of_le (BitVec.le_def.mpr h)]
theorem uN_add {x y : Int32} (h : uN x + uN y < 2 ^ 32) : uN (x + y) = uN x + uN y := by
  unfold uN at h ⊢
  rw [Int32.toBitVec_add, BitVec.toNat_add_of_lt h]
theorem ush_amt : ∀ k, k < 32 → ((nI k).toUInt32 &&& Int32.toUInt32 31).toNat % 32 = k := by decide +kernel
theorem uN_ush (x : Int32) {k : Nat} (hk : k < 32) : uN (ush x (nI k)) = uN x / 2 ^ k := by
  have : uN (ush x (nI k)) = (x.toUInt32 >>> ((nI k).toUInt32 &&& Int32.toUInt32 31)).toNat := rfl
  rw [this, UInt32.toNat_shiftRight, ush_amt k hk, Nat.shiftRight_eq_div_pow]
  rfl
theorem k85 : uN 1431655765 = 1431655765 := by decide
theorem k51 : uN 858993459 = 858993459 := by decide
theorem k15 : uN 252645135 = 252645135 := by decide
theorem bitc_n (x : Int32) : bitc x = nI (pcF 32 (uN x)) := by
  obtain ⟨h1, h2, h3, h4, h5, h6⟩ := swar (uN_lt x) (S1 := _) (S2 := _) (S3 := _) (S4 := _) (S5 := _) rfl rfl rfl rfl rfl
  have e1 : uN (bc1 x) = uN x - ((uN x / 2) &&& 1431655765) := by
    have q : uN (ush x 1 &&& 1431655765) = (uN x / 2) &&& 1431655765 := by
      rw [uN_and]
      have : uN (ush x (nI 1)) = uN x / 2 ^ 1 := uN_ush x (by decide)
      have : uN (ush x 1) = uN x / 2 := this
      rw [this, k85]
    unfold bc1
    rw [uN_sub (by rw [q]; exact h1), q]
  have e2 : uN (bc2 x) = (uN (bc1 x) &&& 858993459) + ((uN (bc1 x) / 4) &&& 858993459) := by
    have q : uN (ush (bc1 x) 2 &&& 858993459) = (uN (bc1 x) / 4) &&& 858993459 := by
      rw [uN_and]
      have : uN (ush (bc1 x) (nI 2)) = uN (bc1 x) / 2 ^ 2 := uN_ush (bc1 x) (by decide)
      have : uN (ush (bc1 x) 2) = uN (bc1 x) / 4 := this
      rw [this, k51]
    have q2 : uN (bc1 x &&& 858993459) = uN (bc1 x) &&& 858993459 := by rw [uN_and, k51]
    unfold bc2
    rw [uN_add (by rw [q, q2, e1]; exact h2), q, q2]
  have e3 : uN (bc3 x) = (uN (bc2 x) + uN (bc2 x) / 16) &&& 252645135 := by
    have q : uN (ush (bc2 x) 4) = uN (bc2 x) / 16 := uN_ush (bc2 x) (k := 4) (by decide)
    have q2 : uN (bc2 x + ush (bc2 x) 4) = uN (bc2 x) + uN (bc2 x) / 16 := by
      rw [uN_add (by rw [q, e2, e1]; exact h3), q]
    unfold bc3
    rw [uN_and, q2, k15]
  have e4 : uN (bc4 x) = uN (bc3 x) + uN (bc3 x) / 256 := by
    have q : uN (ush (bc3 x) 8) = uN (bc3 x) / 256 := uN_ush (bc3 x) (k := 8) (by decide)
    unfold bc4
    rw [uN_add (by rw [q, e3, e2, e1]; exact h4), q]
  have e5 : uN (bc5 x) = uN (bc4 x) + uN (bc4 x) / 65536 := by
    have q : uN (ush (bc4 x) 16) = uN (bc4 x) / 65536 := uN_ush (bc4 x) (k := 16) (by decide)
    unfold bc5
    rw [uN_add (by rw [q, e4, e3, e2, e1]; exact h5), q]
  have e6 : uN (bitc x) = pcF 32 (uN x) := by
    unfold bitc
    rw [uN_and]
    have : uN (63 : Int32) = 2 ^ 6 - 1 := by decide
    rw [this, Nat.and_two_pow_sub_one_eq_mod, e5, e4, e3, e2, e1]
    exact h6
  have : bitc x = Int32.ofNat (uN (bitc x)) := by
    refine Int32.toBitVec_inj.mp ?_
    rw [Int32.toBitVec_ofNat']
    refine BitVec.eq_of_toNat_eq ?_
    rw [BitVec.toNat_ofNat, Nat.mod_eq_of_lt (uN_lt _)]
    rfl
  rw [this, e6]; rfl
/-- bits as a number -/
def vlB : List Bool → Nat
  | [] => 0
  | b :: t => (if b = true then 1 else 0) + 2 * vlB t
theorem vlB_snoc : ∀ (l : List Bool) (b : Bool), vlB (l ++ [b]) = vlB l + 2 ^ l.length * (if b = true then 1 else 0) := by
  intro l
  induction l with
  | nil => intro b; simp [vlB]
  | cons a t ih =>
    intro b
    rw [List.cons_append, vlB, vlB, ih, List.length_cons, Nat.pow_succ]
    cases b <;> simp <;> omega
theorem vlB_lt : ∀ (l : List Bool), vlB l < 2 ^ l.length := by
  intro l
  induction l with
  | nil => simp [vlB]
  | cons a t ih =>
    rw [vlB, List.length_cons, Nat.pow_succ]
    split <;> omega
theorem pcF_vlB : ∀ (l : List Bool) (n : Nat), l.length ≤ n → pcF n (vlB l) = l.countP id := by
  intro l
  induction l with
  | nil =>
    intro n _
    have : ∀ n, pcF n 0 = 0 := by
      intro n
      induction n with
      | zero => rfl
      | succ n ih => rw [pcF, ih]
    exact this n
  | cons a t ih =>
    intro n hn
    rw [List.length_cons] at hn
    obtain ⟨n, rfl⟩ : ∃ k, n = k + 1 := ⟨n - 1, by omega⟩
    rw [pcF, vlB, List.countP_cons]
    have e1 : ((if a = true then 1 else 0) + 2 * vlB t) / 2 = vlB t := by split <;> omega
    have e2 : ((if a = true then 1 else 0) + 2 * vlB t) % 2 = if a = true then 1 else 0 := by split <;> omega
    rw [e1, e2, ih n (by omega)]
    cases a <;> simp <;> omega
theorem setB_n (p : Msg → Bool) (ms : Ms) (hl : ms.length ≤ 30) : ∀ n, n ≤ ms.length → uN (fd (fun k a => if p (mg ms k) = true then a ||| b1 k else a) 0 n 0) = vlB ((ms.take n).map p) := by
  intro n
  induction n with
  | zero => intro _; rfl
  | succ n ih =>
    intro hn
    rw [fd_snoc, Nat.zero_add]
    have ih := ih (by omega)
    have ht : ms.take (n + 1) = ms.take n ++ [mg ms n] := by
      rw [List.take_succ_eq_append_getElem (show n < ms.length by omega), mg, List.getD_eq_getElem?_getD, List.getElem?_eq_getElem (show n < ms.length by omega)]; rfl
    have hlen : ((ms.take n).map p).length = n := by rw [List.length_map, List.length_take]; omega
    have hlt := vlB_lt ((ms.take n).map p)
    rw [hlen] at hlt
    rw [ht, List.map_append, List.map_cons, List.map_nil, vlB_snoc, hlen]
    cases e : p (mg ms n) with
    | false => simp only [Bool.false_eq_true, if_false, Nat.mul_zero, Nat.add_zero]; exact ih
    | true =>
      simp only [if_true, Nat.mul_one]
      obtain ⟨a, ha⟩ : ∃ a, a = fd (fun k a => if p (mg ms k) = true then a ||| b1 k else a) 0 n 0 := ⟨_, rfl⟩
      rw [← ha] at ih ⊢
      have hb : (b1 n).toBitVec.toNat = 2 ^ n := by
        rw [b1_v n (by omega), BitVec.toNat_twoPow]
        exact Nat.mod_eq_of_lt (Nat.pow_lt_pow_right (by decide) (by omega))
      have ho : uN (a ||| b1 n) = uN a ||| 2 ^ n := by
        unfold uN; rw [Int32.toBitVec_or, BitVec.toNat_or, hb]
      rw [ho, ih]
      have := Nat.two_pow_add_eq_or_of_lt hlt 1
      rw [Nat.mul_one] at this
      rw [Nat.or_comm, ← this, Nat.add_comm]
theorem bitc_setB (p : Msg → Bool) {ms : Ms} (hl : ms.length ≤ 30) : bitc (setB p ms) = nI (ms.countP p) := by
  have h := setB_n p ms hl ms.length (Nat.le_refl _)
  rw [List.take_length] at h
  have h : uN (setB p ms) = vlB (ms.map p) := h
  rw [bitc_n, h, pcF_vlB _ 32 (by rw [List.length_map]; omega), List.countP_map]
  rfl
