/-! PURE: quotients are no NaN (names of FloatLaws: needs the wide library) -/
theorem wh0 {i : Int} {s : Bool} {q : Int} (h : FP.Core.Whole i (.fin s 0 q)) : i = 0 := by
  have h : FP.Core.signed s (0 * 2 ^ q.toNat) = i * ((2 ^ (-q).toNat : Nat) : Int) := h
  have h0 : FP.Core.signed s (0 * 2 ^ q.toNat) = 0 := by rw [Nat.zero_mul]; cases s <;> rfl
  rw [h0] at h
  rcases Int.mul_eq_zero.mp h.symm with z | z
  · exact z
  · exact absurd (Int.ofNat_eq_zero.mp z) (by have := Nat.two_pow_pos (-q).toNat; omega)
theorem fq_32 {a b : Int32} (h0 : 0 < b.toInt) (h1 : b.toInt < 1000) : FP.fdiv (FP.i2f a) (FP.i2f b) &&& 0x7fffffff ≤ 0x7f800000 := by
  have hf : FP.Core.fIsNaN (FP.Core.fdiv (FP.Core.i2f a) (FP.Core.i2f b)) = false := by
    refine FP.Core.fdiv_out ?_ ?_ ?_
    · rw [FP.Core.i2f_l2f]; exact FP.Core.l2f_notNaN _
    · rw [FP.Core.i2f_l2f]; exact FP.Core.l2f_fin _
    · rintro ⟨s, q, z⟩
      rw [FP.Core.i2f_l2f] at z
      have w := FP.Core.l2f_whole (a := b.toInt64) ⟨by rw [Int32.toInt_toInt64]; omega, by rw [Int32.toInt_toInt64]; omega⟩
      rw [z, Int32.toInt_toInt64] at w
      have := wh0 w
      omega
  have hn : ¬ (2139095040 < (FP.fdiv (FP.i2f a) (FP.i2f b)).toNat % 2 ^ 31) := fun z => by
    have := (FP.Core.isNaN_bits32 (FP.fdiv (FP.i2f a) (FP.i2f b))).mpr z
    rw [show FP.Core.fIsNaN (FP.fdiv (FP.i2f a) (FP.i2f b)) = false from hf] at this
    cases this
  rw [UInt32.le_iff_toNat_le, UInt32.toNat_and]
  rw [show UInt32.toNat 0x7fffffff = 2 ^ 31 - 1 from rfl, Nat.and_two_pow_sub_one_eq_mod]
  exact Nat.not_lt.mp hn
theorem fq_64 {a b : Int32} (h0 : 0 < b.toInt) : FP.ddiv (FP.i2d a) (FP.i2d b) &&& 0x7fffffffffffffff ≤ 0x7ff0000000000000 := by
  have hf : FP.Core.dIsNaN (FP.Core.ddiv (FP.Core.i2d a) (FP.Core.i2d b)) = false := by
    refine FP.Core.ddiv_out ?_ ?_ ?_
    · rw [FP.Core.i2d_l2d]; exact FP.Core.l2d_notNaN _
    · rw [FP.Core.i2d_l2d]; exact FP.Core.l2d_fin _
    · rintro ⟨s, q, z⟩
      rw [FP.Core.i2d_l2d] at z
      have h3 := Int32.toInt_lt b
      have w := FP.Core.l2d_whole (a := b.toInt64) ⟨by rw [Int32.toInt_toInt64]; omega, by rw [Int32.toInt_toInt64]; omega⟩
      rw [z, Int32.toInt_toInt64] at w
      have := wh0 w
      omega
  have hn : ¬ (9218868437227405312 < (FP.ddiv (FP.i2d a) (FP.i2d b)).toNat % 2 ^ 63) := fun z => by
    have := (FP.Core.isNaN_bits (FP.ddiv (FP.i2d a) (FP.i2d b))).mpr z
    rw [show FP.Core.dIsNaN (FP.ddiv (FP.i2d a) (FP.i2d b)) = false from hf] at this
    cases this
  rw [UInt64.le_iff_toNat_le, UInt64.toNat_and]
  rw [show UInt64.toNat 0x7fffffffffffffff = 2 ^ 63 - 1 from rfl, Nat.and_two_pow_sub_one_eq_mod]
  exact Nat.not_lt.mp hn
theorem nan_32 {x : UInt32} (h : x &&& 0x7fffffff ≤ 0x7f800000) : FP.fIsNaN x = false := by
  cases e : FP.fIsNaN x with
  | false => rfl
  | true =>
    have := (FP.Core.isNaN_bits32 x).mp e
    rw [UInt32.le_iff_toNat_le, UInt32.toNat_and, show UInt32.toNat 0x7fffffff = 2 ^ 31 - 1 from rfl, Nat.and_two_pow_sub_one_eq_mod] at h
    exact absurd h (Nat.not_le.mpr this)
theorem nan_64 {x : UInt64} (h : x &&& 0x7fffffffffffffff ≤ 0x7ff0000000000000) : FP.dIsNaN x = false := by
  cases e : FP.dIsNaN x with
  | false => rfl
  | true =>
    have := (FP.Core.isNaN_bits x).mp e
    rw [UInt64.le_iff_toNat_le, UInt64.toNat_and, show UInt64.toNat 0x7fffffffffffffff = 2 ^ 63 - 1 from rfl, Nat.and_two_pow_sub_one_eq_mod] at h
    exact absurd h (Nat.not_le.mpr this)
theorem f2d_64 {x : UInt32} (h : x &&& 0x7fffffff ≤ 0x7f800000) : FP.f2d x &&& 0x7fffffffffffffff ≤ 0x7ff0000000000000 := by
  have hf : FP.dIsNaN (FP.f2d x) = false := by rw [FP.f2d_nan]; exact nan_32 h
  have hn : ¬ (9218868437227405312 < (FP.f2d x).toNat % 2 ^ 63) := fun z => by
    have := (FP.Core.isNaN_bits (FP.f2d x)).mpr z
    rw [show FP.Core.dIsNaN (FP.f2d x) = false from hf] at this
    cases this
  rw [UInt64.le_iff_toNat_le, UInt64.toNat_and]
  rw [show UInt64.toNat 0x7fffffffffffffff = 2 ^ 63 - 1 from rfl, Nat.and_two_pow_sub_one_eq_mod]
  exact Nat.not_lt.mp hn
theorem dself {x : UInt64} (h : x &&& 0x7fffffffffffffff ≤ 0x7ff0000000000000) : FP.dcmp x x = some .eq := FP.Core.dcmp_refl (nan_64 h)
