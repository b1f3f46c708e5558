/-! PURE: how many bits -/
def pcF : Nat → Nat → Nat
  | 0, _ => 0
  | n + 1, x => x % 2 + pcF n (x / 2)
def gq1 (a : Nat) : Nat := a - ((a / 2) &&& 85)
def gq2 (s : Nat) : Nat := (s &&& 51) + ((s / 4) &&& 51)
theorem hq1 : ∀ a, a < 256 → ∀ e, e < 2 → (a / 2 + 128 * e) &&& 85 = (a / 2) &&& 85 ∧ (a / 2) &&& 85 ≤ a := by decide +kernel
theorem hq2 : ∀ s, s < 256 → ∀ e, e < 4 → (s / 4 + 64 * e) &&& 51 = (s / 4) &&& 51 ∧ (s &&& 51) ≤ 51 ∧ (s / 4) &&& 51 ≤ 51 := by decide +kernel
theorem hq3 : ∀ a, a < 256 → gq2 (gq1 a) % 16 ≤ 4 ∧ gq2 (gq1 a) / 16 ≤ 4 ∧ gq2 (gq1 a) % 16 + gq2 (gq1 a) / 16 = pcF 8 a ∧ gq1 a < 256 := by decide +kernel
theorem and2 {a c : Nat} (b d : Nat) (ha : a < 256) (hc : c < 256) : (a + 256 * b) &&& (c + 256 * d) = (a &&& c) + 256 * (b &&& d) := by
  have h1 : ((a + 256 * b) &&& (c + 256 * d)) % 2 ^ 8 = ((a + 256 * b) % 2 ^ 8) &&& ((c + 256 * d) % 2 ^ 8) := Nat.and_mod_two_pow
  have h2 : ((a + 256 * b) &&& (c + 256 * d)) / 2 ^ 8 = ((a + 256 * b) / 2 ^ 8) &&& ((c + 256 * d) / 2 ^ 8) := Nat.and_div_two_pow
  rw [show (a + 256 * b) % 2 ^ 8 = a by omega, show (c + 256 * d) % 2 ^ 8 = c by omega] at h1
  rw [show (a + 256 * b) / 2 ^ 8 = b by omega, show (c + 256 * d) / 2 ^ 8 = d by omega] at h2
  omega
theorem and4 {a0 a1 a2 a3 m : Nat} (h0 : a0 < 256) (h1 : a1 < 256) (h2 : a2 < 256) (h3 : a3 < 256) (hm : m < 256) : (a0 + 256 * (a1 + 256 * (a2 + 256 * a3))) &&& (m + 256 * (m + 256 * (m + 256 * m))) = (a0 &&& m) + 256 * ((a1 &&& m) + 256 * ((a2 &&& m) + 256 * (a3 &&& m))) := by
  rw [and2 _ _ h0 hm, and2 _ _ h1 hm, and2 _ _ h2 hm]
theorem pcF_add : ∀ (n m x : Nat), pcF (n + m) x = pcF n x + pcF m (x / 2 ^ n) := by
  intro n
  induction n with
  | zero => intro m x; rw [Nat.zero_add, pcF, Nat.zero_add, Nat.pow_zero, Nat.div_one]
  | succ n ih =>
    intro m x
    rw [show n + 1 + m = (n + m) + 1 by omega, pcF, pcF, ih, Nat.div_div_eq_div_mul, Nat.pow_succ, Nat.mul_comm 2]
    omega
theorem pcF_mod : ∀ (n x : Nat), pcF n (x % 2 ^ n) = pcF n x := by
  intro n
  induction n with
  | zero => intro x; rfl
  | succ n ih =>
    intro x
    rw [pcF, pcF]
    have e1 : x % 2 ^ (n + 1) % 2 = x % 2 := Nat.mod_mod_of_dvd x ⟨2 ^ n, by rw [Nat.pow_succ, Nat.mul_comm]⟩
    have e2 : x % 2 ^ (n + 1) / 2 = x / 2 % 2 ^ n := by rw [Nat.pow_succ, Nat.mul_comm, Nat.mod_mul_right_div_self]
    rw [e1, e2, ih]
theorem sp2 (a b : Nat) : (a + 256 * b) / 2 = (a / 2 + 128 * (b % 2)) + 256 * (b / 2) ∧ (a + 256 * b) % 2 = a % 2 := by omega
theorem sp4 (a b : Nat) : (a + 256 * b) / 4 = (a / 4 + 64 * (b % 4)) + 256 * (b / 4) ∧ (a + 256 * b) % 4 = a % 4 := by omega
theorem sp16 (a b : Nat) : (a + 256 * b) / 16 = (a / 16 + 16 * (b % 16)) + 256 * (b / 16) ∧ (a + 256 * b) % 16 = a % 16 := by omega
def by4 (a b c d : Nat) : Nat := a + 256 * (b + 256 * (c + 256 * d))
theorem by4_2 (a b c d : Nat) : by4 a b c d / 2 = by4 (a / 2 + 128 * (b % 2)) (b / 2 + 128 * (c % 2)) (c / 2 + 128 * (d % 2)) (d / 2 + 128 * 0) := by
  unfold by4
  rw [(sp2 a _).1, (sp2 b _).1, (sp2 c _).1, (sp2 b _).2, (sp2 c _).2]; rfl
theorem by4_4 (a b c d : Nat) : by4 a b c d / 4 = by4 (a / 4 + 64 * (b % 4)) (b / 4 + 64 * (c % 4)) (c / 4 + 64 * (d % 4)) (d / 4 + 64 * 0) := by
  unfold by4
  rw [(sp4 a _).1, (sp4 b _).1, (sp4 c _).1, (sp4 b _).2, (sp4 c _).2]; rfl
theorem by4_16 (a b c d : Nat) : by4 a b c d / 16 = by4 (a / 16 + 16 * (b % 16)) (b / 16 + 16 * (c % 16)) (c / 16 + 16 * (d % 16)) (d / 16 + 16 * 0) := by
  unfold by4
  rw [(sp16 a _).1, (sp16 b _).1, (sp16 c _).1, (sp16 b _).2, (sp16 c _).2]; rfl
theorem by4_add (a b c d a' b' c' d' : Nat) : by4 a b c d + by4 a' b' c' d' = by4 (a + a') (b + b') (c + c') (d + d') := by unfold by4; omega
theorem by4_sub {a b c d a' b' c' d' : Nat} (h1 : a' ≤ a) (h2 : b' ≤ b) (h3 : c' ≤ c) (h4 : d' ≤ d) : by4 a b c d - by4 a' b' c' d' = by4 (a - a') (b - b') (c - c') (d - d') ∧ by4 a' b' c' d' ≤ by4 a b c d := by unfold by4; omega
theorem by4_lt {a b c d : Nat} (h1 : a < 256) (h2 : b < 256) (h3 : c < 256) (h4 : d < 256) : by4 a b c d < 2 ^ 32 := by unfold by4; omega
theorem by4_and {a0 a1 a2 a3 m : Nat} (h0 : a0 < 256) (h1 : a1 < 256) (h2 : a2 < 256) (h3 : a3 < 256) (hm : m < 256) : by4 a0 a1 a2 a3 &&& by4 m m m m = by4 (a0 &&& m) (a1 &&& m) (a2 &&& m) (a3 &&& m) := and4 h0 h1 h2 h3 hm
theorem by4_pc {a b c d : Nat} (h1 : a < 256) (h2 : b < 256) (h3 : c < 256) : pcF 32 (by4 a b c d) = pcF 8 a + (pcF 8 b + (pcF 8 c + pcF 8 d)) := by
  have st : ∀ (n x y : Nat), x < 256 → pcF (8 + n) (x + 256 * y) = pcF 8 x + pcF n y := fun n x y hx => by
    rw [pcF_add, ← pcF_mod 8 (x + 256 * y), show (x + 256 * y) % 2 ^ 8 = x by omega, show (x + 256 * y) / 2 ^ 8 = y by omega]
  have e1 := st 24 a (b + 256 * (c + 256 * d)) h1
  have e2 := st 16 b (c + 256 * d) h2
  have e3 := st 8 c d h3
  unfold by4
  rw [show (32 : Nat) = 8 + 24 from rfl, e1, show (24 : Nat) = 8 + 16 from rfl, e2, show (16 : Nat) = 8 + 8 from rfl, e3]
theorem m85 : (1431655765 : Nat) = by4 85 85 85 85 := by decide
theorem m51 : (858993459 : Nat) = by4 51 51 51 51 := by decide
theorem m15 : (252645135 : Nat) = by4 15 15 15 15 := by decide
theorem a15 (n : Nat) : n &&& 15 = n % 16 := Nat.and_two_pow_sub_one_eq_mod n 4
theorem st1 {a b c d : Nat} (ha : a < 256) (hb : b < 256) (hc : c < 256) (hd : d < 256) : (by4 a b c d / 2) &&& 1431655765 ≤ by4 a b c d ∧ by4 a b c d - ((by4 a b c d / 2) &&& 1431655765) = by4 (gq1 a) (gq1 b) (gq1 c) (gq1 d) := by
  have d0 := hq1 a ha (b % 2) (by omega)
  have d1 := hq1 b hb (c % 2) (by omega)
  have d2 := hq1 c hc (d % 2) (by omega)
  have d3 := hq1 d hd 0 (by omega)
  have t : (by4 a b c d / 2) &&& 1431655765 = by4 (a / 2 &&& 85) (b / 2 &&& 85) (c / 2 &&& 85) (d / 2 &&& 85) := by
    rw [by4_2, m85, by4_and (by omega) (by omega) (by omega) (by omega) (by decide), d0.1, d1.1, d2.1, d3.1]
  rw [t]
  have := by4_sub d0.2 d1.2 d2.2 d3.2
  exact ⟨this.2, this.1⟩
theorem st2 {a b c d : Nat} (ha : a < 256) (hb : b < 256) (hc : c < 256) (hd : d < 256) : (by4 a b c d &&& 858993459) + ((by4 a b c d / 4) &&& 858993459) = by4 (gq2 a) (gq2 b) (gq2 c) (gq2 d) := by
  have d0 := hq2 a ha (b % 4) (by omega)
  have d1 := hq2 b hb (c % 4) (by omega)
  have d2 := hq2 c hc (d % 4) (by omega)
  have d3 := hq2 d hd 0 (by omega)
  rw [by4_4, m51, by4_and ha hb hc hd (by decide), by4_and (by omega) (by omega) (by omega) (by omega) (by decide), d0.1, d1.1, d2.1, d3.1, by4_add]
  rfl
theorem lo16 {r s : Nat} (h1 : r % 16 ≤ 4) (h2 : r / 16 ≤ 4) (h3 : s ≤ 4) : r + (r / 16 + 16 * s) < 256 ∧ (r + (r / 16 + 16 * s)) % 16 = r % 16 + r / 16 := by omega
theorem st3 {a b c d : Nat} (ha : a % 16 ≤ 4 ∧ a / 16 ≤ 4) (hb : b % 16 ≤ 4 ∧ b / 16 ≤ 4) (hc : c % 16 ≤ 4 ∧ c / 16 ≤ 4) (hd : d % 16 ≤ 4 ∧ d / 16 ≤ 4) : by4 a b c d + by4 a b c d / 16 < 2 ^ 32 ∧ (by4 a b c d + by4 a b c d / 16) &&& 252645135 = by4 (a % 16 + a / 16) (b % 16 + b / 16) (c % 16 + c / 16) (d % 16 + d / 16) := by
  have q0 := lo16 ha.1 ha.2 hb.1
  have q1 := lo16 hb.1 hb.2 hc.1
  have q2 := lo16 hc.1 hc.2 hd.1
  have q3 := lo16 hd.1 hd.2 (Nat.zero_le 4)
  rw [by4_16, by4_add]
  refine ⟨by4_lt q0.1 q1.1 q2.1 q3.1, ?_⟩
  rw [m15, by4_and q0.1 q1.1 q2.1 q3.1 (by decide), a15, a15, a15, a15, q0.2, q1.2, q2.2, q3.2]
theorem st5 {a b c d : Nat} (ha : a ≤ 8) (hb : b ≤ 8) (hc : c ≤ 8) (hd : d ≤ 8) {S4 S5 : Nat} (e4 : S4 = by4 a b c d + by4 a b c d / 256) (e5 : S5 = S4 + S4 / 65536) : S4 < 2 ^ 32 ∧ S5 < 2 ^ 32 ∧ S5 % 64 = a + (b + (c + d)) := by
  have h4 : S4 = by4 (a + b) (b + c) (c + d) d := by
    have : by4 a b c d / 256 = by4 b c d 0 := by unfold by4; omega
    rw [e4, this, by4_add]; rfl
  have h5 : S5 = by4 (a + b + (c + d)) (b + c + d) (c + d) d := by
    have : by4 (a + b) (b + c) (c + d) d / 65536 = by4 (c + d) d 0 0 := by unfold by4; omega
    rw [e5, h4, this, by4_add]; rfl
  refine ⟨by rw [h4]; exact by4_lt (by omega) (by omega) (by omega) (by omega), by rw [h5]; exact by4_lt (by omega) (by omega) (by omega) (by omega), ?_⟩
  rw [h5]; unfold by4; omega
theorem toby {X : Nat} (hX : X < 2 ^ 32) : ∃ a b c d, a < 256 ∧ b < 256 ∧ c < 256 ∧ d < 256 ∧ X = by4 a b c d := by
  refine ⟨X % 256, X / 256 % 256, X / 256 / 256 % 256, X / 256 / 256 / 256, Nat.mod_lt _ (by decide), Nat.mod_lt _ (by decide), Nat.mod_lt _ (by decide), ?_, ?_⟩
  · omega
  · unfold by4
    rw [Nat.mod_add_div, Nat.mod_add_div, Nat.mod_add_div]
theorem swar {X : Nat} (hX : X < 2 ^ 32) {S1 S2 S3 S4 S5 : Nat} (e1 : S1 = X - ((X / 2) &&& 1431655765)) (e2 : S2 = (S1 &&& 858993459) + ((S1 / 4) &&& 858993459)) (e3 : S3 = (S2 + S2 / 16) &&& 252645135) (e4 : S4 = S3 + S3 / 256) (e5 : S5 = S4 + S4 / 65536) :
    (X / 2) &&& 1431655765 ≤ X ∧ S2 < 2 ^ 32 ∧ S2 + S2 / 16 < 2 ^ 32 ∧ S4 < 2 ^ 32 ∧ S5 < 2 ^ 32 ∧ S5 % 64 = pcF 32 X := by
  obtain ⟨a, b, c, d, ha, hb, hc, hd, rfl⟩ := toby hX
  have z1 := st1 ha hb hc hd
  rw [z1.2] at e1
  have f0 := hq3 a ha
  have f1 := hq3 b hb
  have f2 := hq3 c hc
  have f3 := hq3 d hd
  rw [e1, st2 f0.2.2.2 f1.2.2.2 f2.2.2.2 f3.2.2.2] at e2
  have z3 := st3 ⟨f0.1, f0.2.1⟩ ⟨f1.1, f1.2.1⟩ ⟨f2.1, f2.2.1⟩ ⟨f3.1, f3.2.1⟩
  rw [← e2] at z3
  rw [z3.2, f0.2.2.1, f1.2.2.1, f2.2.2.1, f3.2.2.1] at e3
  have p8 : ∀ {x y z : Nat}, x ≤ 4 → y ≤ 4 → x + y = z → z ≤ 8 := fun h1 h2 h3 => by omega
  rw [e3] at e4
  have z5 := st5 (p8 f0.1 f0.2.1 f0.2.2.1) (p8 f1.1 f1.2.1 f1.2.2.1) (p8 f2.1 f2.2.1 f2.2.2.1) (p8 f3.1 f3.2.1 f3.2.2.1) e4 e5
  refine ⟨z1.1, Nat.lt_of_le_of_lt (Nat.le_add_right _ _) z3.1, z3.1, z5.1, z5.2.1, ?_⟩
  rw [z5.2.2, by4_pc ha hb hc]
