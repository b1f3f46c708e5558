/-! THE PURE LAYER: BASE. Facts about the walk's functions alone. -/
theorem ob_h {τ : Type} {M : Mem} {ci r : Nat} {fs : List Value} (h : M.1 r = some (.inr (ci, fs))) (x : Option τ) : ob M ci r x = x := by
  unfold ob isO
  rw [h]
  simp
theorem gV_h {M : Mem} {ci r : Nat} {fs : List Value} (h : M.1 r = some (.inr (ci, fs))) (k : Nat) : gV M ci k r = fs[k]? := by
  unfold gV
  rw [h]
  simp
theorem gI_h {M : Mem} {ci r : Nat} {fs : List Value} (h : M.1 r = some (.inr (ci, fs))) (k : Nat) : gI M ci k r = fs[k]?.bind vI := by rw [gI, gV_h h]
theorem gJ_h {M : Mem} {ci r : Nat} {fs : List Value} (h : M.1 r = some (.inr (ci, fs))) (k : Nat) : gJ M ci k r = fs[k]?.bind vJ := by rw [gJ, gV_h h]
theorem gR_h {M : Mem} {ci r : Nat} {fs : List Value} (h : M.1 r = some (.inr (ci, fs))) (k : Nat) : gR M ci k r = fs[k]?.bind vR := by rw [gR, gV_h h]
theorem gQ_h {M : Mem} {ci r : Nat} {fs : List Value} (h : M.1 r = some (.inr (ci, fs))) (k : Nat) : gQ M ci k r = fs[k]?.bind vQ := by rw [gQ, gV_h h]
theorem gZ_h {M : Mem} {ci r : Nat} {fs : List Value} (h : M.1 r = some (.inr (ci, fs))) (k : Nat) : gZ M ci k r = fs[k]?.bind vZ := by rw [gZ, gV_h h]
theorem vZ_b (b : Bool) : vZ (.int (b2i b)) = some b := by cases b <;> rfl
theorem vZ_0 : vZ (.int 0) = some false := rfl
theorem vZ_1 : vZ (.int 1) = some true := rfl
theorem pV_h {M : Mem} {ci r : Nat} {fs : List Value} (h : M.1 r = some (.inr (ci, fs))) {k : Nat} (hk : k < fs.length) (v : Value) : pV M ci k r v = some (mset M r (.inr (ci, fs.set k v))) := by
  unfold pV
  rw [h]
  simp [hk]
theorem aL_h {M : Mem} {r t n : Nat} {x} (h : M.1 r = some (.inl (t, (n, x)))) : aL M r = some (nI n) := by
  unfold aL
  rw [h]
  rfl
theorem aI_h {M : Mem} {r t n : Nat} {f : Nat → Int32} (h : M.1 r = some (.inl (t, (n, .inl f)))) {i : Int32} (hi : inR i n = true) : aI M t r i = some (f i.toNatClampNeg) := by
  unfold aI
  rw [h]
  simp [hi]
theorem aJ_h {M : Mem} {r t n : Nat} {f : Nat → Int64} (h : M.1 r = some (.inl (t, (n, .inr (.inl f))))) {i : Int32} (hi : inR i n = true) : aJ M t r i = some (f i.toNatClampNeg) := by
  unfold aJ
  rw [h]
  simp [hi]
theorem aQ_h {M : Mem} {r t n : Nat} {f : Nat → Option Nat} (h : M.1 r = some (.inl (t, (n, .inr (.inr (.inr (.inr f))))))) {i : Int32} (hi : inR i n = true) : aQ M t r i = some (f i.toNatClampNeg) := by
  unfold aQ
  rw [h]
  simp [hi]
theorem sI_h {M : Mem} {r t n : Nat} {f : Nat → Int32} (h : M.1 r = some (.inl (t, (n, .inl f)))) {i : Int32} (hi : inR i n = true) (x : Int32) : sI M t r i x = some (mset M r (.inl (t, (n, .inl (upd f i.toNatClampNeg x))))) := by
  unfold sI
  rw [h]
  simp [hi]
theorem sJ_h {M : Mem} {r t n : Nat} {f : Nat → Int64} (h : M.1 r = some (.inl (t, (n, .inr (.inl f))))) {i : Int32} (hi : inR i n = true) (x : Int64) : sJ M t r i x = some (mset M r (.inl (t, (n, .inr (.inl (vp_updL f i.toNatClampNeg x)))))) := by
  unfold sJ
  rw [h]
  simp [hi]
theorem sQ_h {M : Mem} {r t n : Nat} {f : Nat → Option Nat} (h : M.1 r = some (.inl (t, (n, .inr (.inr (.inr (.inr f))))))) {i : Int32} (hi : inR i n = true) (x : Option Nat) : sQ M t r i x = some (mset M r (.inl (t, (n, .inr (.inr (.inr (.inr (va_up f i.toNatClampNeg x)))))))) := by
  unfold sQ
  rw [h]
  simp [hi]
theorem inR_n {k n : Nat} (h : k < n) (hn : n < 2 ^ 31) : inR (nI k) n = true := by
  have h1 : k < 2 ^ 31 := Nat.lt_trans h hn
  unfold inR
  rw [nI_clamp h1]
  simp [nI_pos h1, h]
theorem mset_at (M : Mem) (r : Nat) (c : PC) : (mset M r c).1 r = some c := by simp [mset]
theorem mset_ne (M : Mem) {r q : Nat} (c : PC) (h : q ≠ r) : (mset M r c).1 q = M.1 q := by simp [mset, h]
/-- nothing but what lies from a on, n long, is other -/
def off (M M' : Mem) (a n : Nat) : Prop := M'.2 = M.2 ∧ ∀ q, (q < a ∨ a + n ≤ q) → M'.1 q = M.1 q
theorem off.rf (M : Mem) (a n : Nat) : off M M a n := ⟨rfl, fun _ _ => rfl⟩
theorem off.trans {M M1 M2 : Mem} {a n : Nat} (h : off M M1 a n) (g : off M1 M2 a n) : off M M2 a n := ⟨g.1.trans h.1, fun q hq => (g.2 q hq).trans (h.2 q hq)⟩
theorem off.wide {M M1 : Mem} {a n b m : Nat} (h : off M M1 a n) (h1 : b ≤ a) (h2 : a + n ≤ b + m) : off M M1 b m := ⟨h.1, fun q hq => h.2 q (by omega)⟩
theorem off.two {M M1 M2 : Mem} {a n a1 n1 a2 n2 : Nat} (h : off M M1 a1 n1) (g : off M1 M2 a2 n2) (e1 : a ≤ a1 ∧ a1 + n1 ≤ a + n) (e2 : a ≤ a2 ∧ a2 + n2 ≤ a + n) : off M M2 a n := (h.wide e1.1 e1.2).trans (g.wide e2.1 e2.2)
theorem off_set (M : Mem) (r : Nat) (c : PC) : off M (mset M r c) r 1 := ⟨rfl, fun q hq => mset_ne M c (by omega)⟩
/-! numbers -/
theorem leF {x y : Int32} {a b : Nat} (hx : x = nI a) (hy : y = nI b) (h : b < a) (ha : a < 2 ^ 31) : (x ≤ y) = False := by
  subst hx hy
  exact eq_false (nI_ge h ha)
theorem leT {x y : Int32} {a b : Nat} (hx : x = nI a) (hy : y = nI b) (h : a ≤ b) (hb : b < 2 ^ 31) : (x ≤ y) = True := by
  subst hx hy
  exact eq_true (nI_le h hb)
theorem ltF {x y : Int32} {a b : Nat} (hx : x = nI a) (hy : y = nI b) (h : b ≤ a) (ha : a < 2 ^ 31) : (x < y) = False := by
  subst hx hy
  exact eq_false (nI_nlt h ha)
theorem ltT {x y : Int32} {a b : Nat} (hx : x = nI a) (hy : y = nI b) (h : a < b) (hb : b < 2 ^ 31) : (x < y) = True := by
  subst hx hy
  exact eq_true (nI_lt h hb)
theorem eqI {x y : Int32} {a b : Nat} (hx : x = nI a) (hy : y = nI b) (ha : a < 2 ^ 31) (hb : b < 2 ^ 31) : (x = y) = (a = b) := by
  subst hx hy
  exact propext (nI_eq ha hb)
theorem leI {x y : Int32} {a b : Nat} (hx : x = nI a) (hy : y = nI b) (ha : a < 2 ^ 31) (hb : b < 2 ^ 31) : (x ≤ y) = (a ≤ b) := by
  subst hx hy
  exact propext (nI_leI ha hb)
theorem ltI {x y : Int32} {a b : Nat} (hx : x = nI a) (hy : y = nI b) (ha : a < 2 ^ 31) (hb : b < 2 ^ 31) : (x < y) = (a < b) := by
  subst hx hy
  exact propext (nI_ltI ha hb)
theorem neg0 {k : Nat} (h : k < 2 ^ 31) : (nI k < 0) = False := eq_false (nI_pos h)
theorem m1_lt0 : ((-1 : Int32) < 0) = True := eq_true (by decide)
theorem nI_m1 {k : Nat} (h : k < 2 ^ 31) : (nI k = -1) = False := by
  refine eq_false (fun e => ?_)
  have := nI_pos h
  rw [e] at this
  exact this (by decide)
theorem nI_sub {a b : Nat} (h : b ≤ a) : nI a - nI b = nI (a - b) := by
  have e : nI a = nI (a - b) + nI b := by rw [nI_add, Nat.sub_add_cancel h]
  rw [e, Int32.add_sub_cancel]
theorem nI_sub1 {a : Nat} (h : 1 ≤ a) : nI a - 1 = nI (a - 1) := nI_sub (b := 1) h
theorem nI_mul (a b : Nat) : nI a * nI b = nI (a * b) := (Int32.ofNat_mul a b).symm
theorem i_cases (x : Int32) : x < 0 ∨ ∃ j : Nat, j < 2 ^ 31 ∧ x = nI j := by
  by_cases h : x < 0
  · exact .inl h
  · exact .inr (nI_of h)
/-- what a row of numbers shows at an index: 0 outside -/
def lgt (l : List Int32) (i : Int32) : Int32 := if i < 0 then 0 else l.getD i.toNatClampNeg 0
theorem lgt_n (l : List Int32) {k : Nat} (h : k < 2 ^ 31) : lgt l (nI k) = l.getD k 0 := by
  rw [lgt, if_neg (nI_pos h), nI_clamp h]
theorem lgt_m1 (l : List Int32) : lgt l (-1) = 0 := rfl
theorem getD_hi {l : List Int32} {k : Nat} (h : l.length ≤ k) : l.getD k 0 = 0 := by
  rw [List.getD_eq_getElem?_getD, List.getElem?_eq_none h]; rfl
/-! loops -/
def lp {α β : Type} (g : Nat → α → α ⊕ β) (fin : α → β) : Nat → Nat → α → β
  | _, 0, a => fin a
  | k, n + 1, a => match g k a with
    | .inl a' => lp g fin (k + 1) n a'
    | .inr b => b
def fd {α : Type} (g : Nat → α → α) : Nat → Nat → α → α
  | _, 0, a => a
  | k, n + 1, a => fd g (k + 1) n (g k a)
theorem lp_run {α β : Type} (F : Nat → Nat → α → Option β) (g : Nat → α → α ⊕ β) (fin : α → β) (lo hi : Nat)
    (stop : ∀ fu a, F (fu + 1) hi a = some (fin a))
    (step : ∀ fu k a, lo ≤ k → k < hi → F (fu + 1) k a = match g k a with | .inl a' => F fu (k + 1) a' | .inr b => some b) :
    ∀ (n k : Nat) (a : α) (fu : Nat), k + n = hi → lo ≤ k → n < fu → F fu k a = some (lp g fin k n a) := by
  intro n
  induction n with
  | zero =>
    intro k a fu hk _ hf
    obtain ⟨fu, rfl⟩ : ∃ m, fu = m + 1 := ⟨fu - 1, by omega⟩
    obtain rfl : k = hi := by omega
    exact stop fu a
  | succ n ih =>
    intro k a fu hk hl hf
    obtain ⟨fu, rfl⟩ : ∃ m, fu = m + 1 := ⟨fu - 1, by omega⟩
    rw [step fu k a hl (by omega), lp]
    cases g k a with
    | inl a' => exact ih (k + 1) a' fu (by omega) (by omega) (by omega)
    | inr b => rfl
theorem fd_run {α β : Type} (F : Nat → Nat → α → Option β) (g : Nat → α → α) (fin : α → β) (lo hi : Nat)
    (stop : ∀ fu a, F (fu + 1) hi a = some (fin a))
    (step : ∀ fu k a, lo ≤ k → k < hi → F (fu + 1) k a = F fu (k + 1) (g k a)) :
    ∀ (n k : Nat) (a : α) (fu : Nat), k + n = hi → lo ≤ k → n < fu → F fu k a = some (fin (fd g k n a)) := by
  intro n
  induction n with
  | zero =>
    intro k a fu hk _ hf
    obtain ⟨fu, rfl⟩ : ∃ m, fu = m + 1 := ⟨fu - 1, by omega⟩
    obtain rfl : k = hi := by omega
    exact stop fu a
  | succ n ih =>
    intro k a fu hk hl hf
    obtain ⟨fu, rfl⟩ : ∃ m, fu = m + 1 := ⟨fu - 1, by omega⟩
    rw [step fu k a hl (by omega), fd]
    exact ih (k + 1) _ fu (by omega) (by omega) (by omega)
theorem fd_runM {α γ : Type} (F : Nat → Nat → α → Mem → Option γ) (E : α → Mem → Option γ) (I : Nat → α → Mem → Prop) (lo hi : Nat)
    (stop : ∀ fu a M, I hi a M → F (fu + 1) hi a M = E a M)
    (step : ∀ fu k a M, lo ≤ k → k < hi → I k a M → ∃ a' M', F (fu + 1) k a M = F fu (k + 1) a' M' ∧ I (k + 1) a' M') :
    ∀ (n k : Nat) (a : α) (M : Mem) (fu : Nat), k + n = hi → lo ≤ k → n < fu → I k a M → ∃ a' M', F fu k a M = E a' M' ∧ I hi a' M' := by
  intro n
  induction n with
  | zero =>
    intro k a M fu hk _ hf hI
    obtain ⟨fu, rfl⟩ : ∃ m, fu = m + 1 := ⟨fu - 1, by omega⟩
    obtain rfl : k = hi := by omega
    exact ⟨a, M, stop fu a M hI, hI⟩
  | succ n ih =>
    intro k a M fu hk hl hf hI
    obtain ⟨fu, rfl⟩ : ∃ m, fu = m + 1 := ⟨fu - 1, by omega⟩
    obtain ⟨a', M', e, hI'⟩ := step fu k a M hl (by omega) hI
    rw [e]
    exact ih (k + 1) a' M' fu (by omega) (by omega) (by omega) hI'
theorem fd_ext {α : Type} {g g' : Nat → α → α} {hi : Nat} : ∀ (n k : Nat) (a : α), k + n = hi → (∀ j, k ≤ j → j < hi → ∀ a, g j a = g' j a) → fd g k n a = fd g' k n a := by
  intro n
  induction n with
  | zero => intro k a _ _; rfl
  | succ n ih =>
    intro k a hk h
    rw [fd, fd, h k (Nat.le_refl k) (by omega)]
    exact ih (k + 1) _ (by omega) (fun j h1 h2 a => h j (by omega) h2 a)
theorem fd_snoc {α : Type} (g : Nat → α → α) : ∀ (n k : Nat) (a : α), fd g k (n + 1) a = g (k + n) (fd g k n a) := by
  intro n
  induction n with
  | zero => intro k a; rfl
  | succ n ih =>
    intro k a
    rw [fd, ih (k + 1) (g k a), fd, Nat.add_right_comm, Nat.add_assoc k n 1]
