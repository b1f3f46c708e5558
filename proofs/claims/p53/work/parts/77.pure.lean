/-! PURE: names -/
theorem snoc_ind {α : Type} {P : List α → Prop} (h0 : P []) (h1 : ∀ w x, P w → P (w ++ [x])) (w : List α) : P w := by
  have h : ∀ v : List α, P v.reverse := by
    intro v
    induction v with
    | nil => exact h0
    | cons x t ih => rw [List.reverse_cons]; exact h1 _ _ ih
  have := h w.reverse
  rwa [List.reverse_reverse] at this
theorem snoc_cs {α : Type} {P : List α → Prop} (h0 : P []) (h1 : ∀ w x, P (w ++ [x])) (w : List α) : P w := snoc_ind h0 (fun w x _ => h1 w x) w
def dg (x : Int32) : Nat := (x &&& 255).toNatClampNeg
theorem dg_lt (x : Int32) : dg x < 256 ∧ x &&& 255 = nI (dg x) := by
  obtain ⟨d, h1, h2⟩ := b255 x
  rw [dg, h2, nI_clamp (by omega)]
  exact ⟨h1, rfl⟩
def nmN (w : List Int32) : Nat := w.foldl (fun n x => n * 256 + dg x) 1
theorem nstp_N (n : Nat) (hn : n < 2 ^ 54) (x : Int32) : nstp (lN n) x = lN (n * 256 + dg x) := by
  obtain ⟨h1, h2⟩ := dg_lt x
  have h3 : (x &&& 255) &&& 255 = nI (dg x) := by rw [Int32.and_assoc, show (255 : Int32) &&& 255 = 255 by decide]; exact h2
  unfold nstp
  rw [h3, nI_l (by omega)]
  refine Int64.toBitVec_inj.mp ?_
  show (Int64.ofNat n).toBitVec <<< (((8 : Int32).toInt64 &&& 63).toBitVec.smod 64#64) ||| (Int64.ofNat (dg x)).toBitVec = (Int64.ofNat (n * 256 + dg x)).toBitVec
  have e8 : (((8 : Int32).toInt64 &&& 63).toBitVec.smod 64#64) = 8#64 := by decide +kernel
  rw [e8]
  refine BitVec.eq_of_toNat_eq ?_
  rw [BitVec.toNat_or, BitVec.shiftLeft_eq', BitVec.toNat_shiftLeft]
  rw [show (Int64.ofNat n).toBitVec.toNat = n from by rw [Int64.toBitVec_ofNat', BitVec.toNat_ofNat, Nat.mod_eq_of_lt (by omega)], show (Int64.ofNat (dg x)).toBitVec.toNat = dg x from by rw [Int64.toBitVec_ofNat', BitVec.toNat_ofNat, Nat.mod_eq_of_lt (by omega)], show (Int64.ofNat (n * 256 + dg x)).toBitVec.toNat = n * 256 + dg x from by rw [Int64.toBitVec_ofNat', BitVec.toNat_ofNat, Nat.mod_eq_of_lt (by omega)]]
  rw [show (8#64).toNat = 8 from rfl]
  have h5 : n <<< 8 = n * 256 := by rw [Nat.shiftLeft_eq]
  rw [Nat.mod_eq_of_lt (by rw [h5]; omega), ← Nat.shiftLeft_add_eq_or_of_lt (i := 8) (by omega) n, h5]
theorem nmN_snoc (w : List Int32) (x : Int32) : nmN (w ++ [x]) = nmN w * 256 + dg x := by rw [nmN, List.foldl_append]; rfl
theorem nmN_b (w : List Int32) : 256 ^ w.length ≤ nmN w ∧ nmN w < 2 * 256 ^ w.length := by
  induction w using snoc_ind with
  | h0 => exact ⟨by decide, by decide⟩
  | h1 w x ih =>
    have := (dg_lt x).1
    rw [nmN_snoc, List.length_append, List.length_singleton, Nat.pow_succ]
    omega
theorem cnm_N {w : List Int32} (h1 : 0 < w.length) (h6 : w.length ≤ 6) : cnm w = lN (nmN w) := by
  have key : ∀ w : List Int32, w.length ≤ 6 → w.foldl nstp 1 = lN (nmN w) := by
    intro w
    induction w using snoc_ind with
    | h0 => intro _; rfl
    | h1 w x ih =>
      intro h
      rw [List.length_append, List.length_singleton] at h
      have hb := (nmN_b w).2
      have hp : 256 ^ w.length ≤ 256 ^ 5 := Nat.pow_le_pow_right (by decide) (by omega)
      rw [List.foldl_append, ih (by omega), nmN_snoc]
      exact nstp_N _ (Nat.lt_of_lt_of_le hb (Nat.le_trans (Nat.mul_le_mul_left 2 hp) (by decide))) x
  rw [cnm, if_neg (by omega)]
  exact key w h6
theorem nmN_inj : ∀ (w v : List Int32), nmN w = nmN v → w.map dg = v.map dg := by
  intro w
  induction w using snoc_ind with
  | h0 =>
    intro v h
    cases v using snoc_cs with
    | h0 => rfl
    | h1 v y =>
      rw [nmN_snoc] at h
      have := (nmN_b v).1
      have hp : 0 < 256 ^ v.length := Nat.pow_pos (by decide)
      have h : 1 = nmN v * 256 + dg y := h
      omega
  | h1 w x ih =>
    intro v h
    cases v using snoc_cs with
    | h0 =>
      rw [nmN_snoc] at h
      have := (nmN_b w).1
      have hp : 0 < 256 ^ w.length := Nat.pow_pos (by decide)
      have h : nmN w * 256 + dg x = 1 := h
      omega
    | h1 v y =>
      rw [nmN_snoc, nmN_snoc] at h
      have a := (dg_lt x).1
      have b := (dg_lt y).1
      rw [List.map_append, List.map_append, ih v (by omega)]
      simp only [List.map_cons, List.map_nil]
      rw [show dg x = dg y by omega]
theorem lN_inj {a b : Nat} (ha : a < 2 ^ 63) (hb : b < 2 ^ 63) (h : lN a = lN b) : a = b := by
  have := congrArg Int64.toBitVec h
  have := congrArg BitVec.toNat this
  rwa [show (lN a).toBitVec.toNat = a from by rw [lN, Int64.toBitVec_ofNat', BitVec.toNat_ofNat, Nat.mod_eq_of_lt (by omega)], show (lN b).toBitVec.toNat = b from by rw [lN, Int64.toBitVec_ofNat', BitVec.toNat_ofNat, Nat.mod_eq_of_lt (by omega)]] at this
theorem nmN_63 {w : List Int32} (h6 : w.length ≤ 6) : nmN w < 2 ^ 63 := by
  have hb := (nmN_b w).2
  have hp : 256 ^ w.length ≤ 256 ^ 6 := Nat.pow_le_pow_right (by decide) h6
  exact Nat.lt_of_lt_of_le hb (Nat.le_trans (Nat.mul_le_mul_left 2 hp) (by decide))
theorem cnm_0 {w : List Int32} : cnm w = 0 ↔ (w.length = 0 ∨ 6 < w.length) := by
  constructor
  · intro h
    by_cases e : w.length = 0 ∨ 6 < w.length
    · exact e
    · rw [cnm_N (by omega) (by omega)] at h
      have h := lN_inj (b := 0) (nmN_63 (by omega)) (by decide) h
      have := (nmN_b w).1
      have hp : 0 < 256 ^ w.length := Nat.pow_pos (by decide)
      omega
  · intro h; rw [cnm, if_pos h]
theorem lets.d {w : List Int32} (h : lets w) {x : Int32} (hx : x ∈ w) : 97 ≤ dg x ∧ dg x ≤ 122 ∧ x = nI (dg x) := by
  obtain ⟨d, h1, h2, rfl⟩ := h.2.2 x hx
  have : nI d &&& 255 = nI d := by
    have : ∀ d, d < 256 → nI d &&& 255 = nI d := by decide +kernel
    exact this d (by omega)
  rw [dg, this, nI_clamp (by omega)]
  exact ⟨h1, h2, rfl⟩
theorem map_dg_inj {w v : List Int32} (hw : ∀ x ∈ w, x = nI (dg x)) (hv : ∀ x ∈ v, x = nI (dg x)) (h : w.map dg = v.map dg) : w = v := by
  have h2 : (w.map dg).map nI = w := by
    rw [List.map_map]
    conv => rhs; rw [← List.map_id w]
    exact List.map_congr_left (fun x hx => (hw x hx).symm)
  have h3 : (v.map dg).map nI = v := by
    rw [List.map_map]
    conv => rhs; rw [← List.map_id v]
    exact List.map_congr_left (fun x hx => (hv x hx).symm)
  rw [← h2, ← h3, h]
theorem cnm_inj {w v : List Int32} (hw : lets w) (hv : lets v) (h : cnm w = cnm v) : w = v := by
  rw [cnm_N hw.1 hw.2.1, cnm_N hv.1 hv.2.1] at h
  exact map_dg_inj (fun x hx => (hw.d hx).2.2) (fun x hx => (hv.d hx).2.2) (nmN_inj _ _ (lN_inj (nmN_63 hw.2.1) (nmN_63 hv.2.1) h))
/-! the reference's names -/
def rN (w : List Int32) : Nat := w.foldl (fun n x => 27 * n + (dg x - 96)) 0
theorem rN_snoc (w : List Int32) (x : Int32) : rN (w ++ [x]) = 27 * rN w + (dg x - 96) := by rw [rN, List.foldl_append]; rfl
theorem rnm_snoc (w : List Int32) (x : Int32) : rnm (w ++ [x]) = rstp (rnm w) x := by rw [rnm, List.foldl_append]; rfl
theorem rN_b (w : List Int32) (h : ∀ x ∈ w, 97 ≤ dg x ∧ dg x ≤ 122 ∧ x = nI (dg x)) : rN w < 27 ^ w.length ∧ rnm w = lN (rN w) := by
  induction w using snoc_ind with
  | h0 => exact ⟨by decide, rfl⟩
  | h1 w x ih =>
    obtain ⟨a, b⟩ := ih (fun y hy => h y (List.mem_append_left _ hy))
    obtain ⟨c, d, e⟩ := h x (by simp)
    rw [rN_snoc, List.length_append, List.length_singleton, Nat.pow_succ, rnm_snoc, b]
    refine ⟨by omega, ?_⟩
    rw [rstp, e, nI_l (by omega), show (27 : Int64) = lN 27 from rfl, lN_mul, lN_add, show (96 : Int64) = lN 96 from rfl, lN_sub (by omega)]
    have : dg (nI (dg x)) = dg x := by rw [← e]
    rw [this]
    congr 1
    omega
theorem rN_inj : ∀ (w v : List Int32), (∀ x ∈ w, 97 ≤ dg x ∧ dg x ≤ 122 ∧ x = nI (dg x)) → (∀ x ∈ v, 97 ≤ dg x ∧ dg x ≤ 122 ∧ x = nI (dg x)) → rN w = rN v → w = v := by
  intro w
  induction w using snoc_ind with
  | h0 =>
    intro v _ hv h
    cases v using snoc_cs with
    | h0 => rfl
    | h1 v y =>
      obtain ⟨c, d, e⟩ := hv y (by simp)
      rw [rN_snoc] at h
      have h : 0 = 27 * rN v + (dg y - 96) := h
      omega
  | h1 w x ih =>
    intro v hw hv h
    obtain ⟨a1, a2, a3⟩ := hw x (by simp)
    cases v using snoc_cs with
    | h0 =>
      rw [rN_snoc] at h
      have h : 27 * rN w + (dg x - 96) = 0 := h
      omega
    | h1 v y =>
      obtain ⟨c1, c2, c3⟩ := hv y (by simp)
      rw [rN_snoc, rN_snoc] at h
      have hd : dg x = dg y := by omega
      rw [ih v (fun z hz => hw z (List.mem_append_left _ hz)) (fun z hz => hv z (List.mem_append_left _ hz)) (by omega), a3, c3, hd]
theorem rnm_inj {w v : List Int32} (hw : lets w) (hv : lets v) (h : rnm w = rnm v) : w = v := by
  obtain ⟨a1, a2⟩ := rN_b w (fun x hx => hw.d hx)
  obtain ⟨b1, b2⟩ := rN_b v (fun x hx => hv.d hx)
  rw [a2, b2] at h
  have p1 : 27 ^ w.length ≤ 27 ^ 6 := Nat.pow_le_pow_right (by decide) hw.2.1
  have p2 : 27 ^ v.length ≤ 27 ^ 6 := Nat.pow_le_pow_right (by decide) hv.2.1
  have p3 : 27 ^ 6 < 2 ^ 63 := by decide
  exact rN_inj w v (fun x hx => hw.d hx) (fun x hx => hv.d hx) (lN_inj (by omega) (by omega) h)
theorem nmR_iff {J j J' j' : Int64} (h : nmR J j) (h' : nmR J' j') : J = J' ↔ j = j' := by
  obtain ⟨w, h1, h2, h3⟩ := h
  obtain ⟨v, g1, g2, g3⟩ := h'
  rw [h2, h3, g2, g3]
  exact ⟨fun z => by rw [cnm_inj h1 g1 z], fun z => by rw [rnm_inj h1 g1 z]⟩
theorem rnm_ne0 {w : List Int32} (h : lets w) : rnm w ≠ 0 := by
  intro z
  obtain ⟨a1, a2⟩ := rN_b w (fun x hx => h.d hx)
  have p1 : 27 ^ w.length ≤ 27 ^ 6 := Nat.pow_le_pow_right (by decide) h.2.1
  have p3 : 27 ^ 6 < 2 ^ 63 := by decide
  rw [a2] at z
  have := rN_inj w [] (fun x hx => h.d hx) (fun x hx => absurd hx (by simp)) (lN_inj (b := 0) (by omega) (by decide) z)
  rw [this] at h
  exact absurd h.1 (by decide)
/-- a name of a box and what is in the buffer -/
theorem nm_raw {w v : List Int32} (hw : lets w) (hv : ∀ x ∈ v, -128 ≤ x.toInt ∧ x.toInt ≤ 127) (h : cnm w = cnm v) : v = w := by
  have hv6 : ¬ (v.length = 0 ∨ 6 < v.length) := fun z => by
    rw [cnm_0.mpr z] at h
    have := cnm_0.mp h
    have a := hw.1
    have b := hw.2.1
    omega
  rw [cnm_N hw.1 hw.2.1, cnm_N (w := v) (by omega) (by omega)] at h
  have hm := nmN_inj _ _ (lN_inj (nmN_63 hw.2.1) (nmN_63 (by omega)) h)
  refine (map_dg_inj (fun x hx => (hw.d hx).2.2) (fun x hx => ?_) hm).symm
  have hin : dg x ∈ w.map dg := by rw [hm]; exact List.mem_map_of_mem hx
  obtain ⟨y, hy, e⟩ := List.mem_map.mp hin
  obtain ⟨c1, c2, -⟩ := hw.d hy
  obtain ⟨b1, b2⟩ := hv x hx
  have hall : ∀ y : BitVec 8, 97 ≤ ((y.signExtend 32) &&& 255#32).toNat → ((y.signExtend 32) &&& 255#32).toNat ≤ 122 → y.signExtend 32 = (y.signExtend 32) &&& 255#32 := by decide +kernel
  have hx8 : x.toBitVec = (x.toBitVec.truncate 8).signExtend 32 := by
    refine BitVec.eq_of_toInt_eq ?_
    rw [BitVec.toInt_signExtend_of_le (by decide), BitVec.truncate_eq_setWidth]
    have hx : x.toBitVec.toInt = x.toInt := rfl
    rw [BitVec.toInt_setWidth, hx]
    have : (x.toBitVec.toNat : Int).bmod (2 ^ 8) = x.toInt.bmod (2 ^ 8) := by
      rw [← hx, BitVec.toInt_eq_toNat_bmod, Int.bmod_bmod_of_dvd (by decide)]
    rw [this]
    exact (Int.bmod_eq_of_le (by omega) (by omega)).symm
  have hd : (x.toBitVec &&& 255#32).toNat = dg x := by
    have := (dg_lt x).2
    have h2 := congrArg Int32.toBitVec this
    have h3 : x.toBitVec &&& 255#32 = (nI (dg x)).toBitVec := h2
    rw [h3, nI, Int32.toBitVec_ofNat', BitVec.toNat_ofNat, Nat.mod_eq_of_lt (by have := (dg_lt x).1; omega)]
  have key := hall (x.toBitVec.truncate 8) (by rw [← hx8, hd]; omega) (by rw [← hx8, hd]; omega)
  rw [← hx8] at key
  have k2 : x = x &&& 255 := Int32.toBitVec_inj.mp key
  rw [← (dg_lt x).2]; exact k2
