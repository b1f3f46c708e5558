/-! PURE, p53: the tokens of a text that is made of pieces -/
abbrev Pc : Type := Nat × List Int32 × List Int32
def pcT : List Pc → List Int32
  | [] => []
  | p :: t => p.2.1 ++ (p.2.2 ++ pcT t)
def hdF (q : Int32 → Bool) (R : List Int32) : Prop := ∀ x t, R = x :: t → q (x &&& 255) = false
def okP (p : Pc) (R : List Int32) : Prop := (p.2.1 = [] ∨ p.2.1 = [32]) ∧ ((p.1 = 1 ∧ p.2.2 ≠ [] ∧ (∀ x ∈ p.2.2, isL x = true ∧ x &&& 255 = x) ∧ hdF isL R) ∨ (p.1 = 2 ∧ p.2.2 ≠ [] ∧ (∀ x ∈ p.2.2, isD x = true ∧ x &&& 255 = x) ∧ hdF isD R) ∨ (p.1 = 3 ∧ p.2.2 = [59]))
def gdT : List Pc → Prop
  | [] => True
  | p :: t => okP p (pcT t) ∧ gdT t
theorem pcT_app (a b : List Pc) : pcT (a ++ b) = pcT a ++ pcT b := by
  induction a with
  | nil => rfl
  | cons p t ih => rw [List.cons_append, pcT, pcT, ih]; simp only [List.append_assoc]
theorem ch_mid (A R : List Int32) (x : Int32) : ch (A ++ x :: R) A.length = x &&& 255 := by
  unfold ch
  rw [if_pos (by rw [List.length_append, List.length_cons]; omega)]
  congr 1
  simp
theorem rn_run {q : Int32 → Bool} (hm : q (-1) = false) (R : List Int32) (hR : hdF q R) : ∀ (w A : List Int32), (∀ x ∈ w, q (x &&& 255) = true) → rn q (A ++ (w ++ R)) A.length = A.length + w.length := by
  intro w
  induction w with
  | nil =>
    intro A _
    rw [List.nil_append]
    refine rn_n ?_
    cases R with
    | nil => rw [List.append_nil, ch_out (Nat.le_refl _)]; exact hm
    | cons x t => rw [ch_mid]; exact hR x t rfl
  | cons x t ih =>
    intro A h
    have e1 : A ++ (x :: t ++ R) = (A ++ [x]) ++ (t ++ R) := by simp
    rw [rn_y hm (by rw [List.cons_append, ch_mid]; exact h x List.mem_cons_self)]
    have := ih (A ++ [x]) (fun y hy => h y (List.mem_cons_of_mem _ hy))
    rw [← e1, List.length_append, List.length_singleton] at this
    rw [this, List.length_cons]
    omega
theorem isG_32 : isG ((32 : Int32) &&& 255) = true := by decide
theorem g_not : ∀ d, d < 128 → (isL (nI d) = true → isG (nI d) = false ∧ isD (nI d) = false) ∧ (isD (nI d) = true → isG (nI d) = false ∧ isL (nI d) = false) := by decide +kernel
theorem isL_nx {x : Int32} (h : isL x = true) : isG x = false ∧ isD x = false := by
  unfold isL at h
  obtain ⟨h1, h2⟩ := Bool.and_eq_true_iff.mp h
  have h1 : ¬ x < 97 := by simpa using h1
  have h2 : ¬ 122 < x := by simpa using h2
  have h1 := Int32.not_lt.mp h1
  have b32 : ¬ x = 32 := fun z => by rw [z] at h1; exact absurd h1 (by decide)
  have b10 : ¬ x = 10 := fun z => by rw [z] at h1; exact absurd h1 (by decide)
  have b57 : 57 < x := Int32.lt_of_lt_of_le (by decide) h1
  unfold isG isD
  rw [decide_eq_false b32, decide_eq_false b10, decide_eq_true b57, Bool.not_true, Bool.and_false]
  exact ⟨rfl, rfl⟩
theorem isD_nx {x : Int32} (h : isD x = true) : isG x = false ∧ isL x = false := by
  unfold isD at h
  obtain ⟨h1, h2⟩ := Bool.and_eq_true_iff.mp h
  have h1 : ¬ x < 48 := by simpa using h1
  have h2 : ¬ 57 < x := by simpa using h2
  have h1 := Int32.not_lt.mp h1
  have h2 := Int32.not_lt.mp h2
  have b32 : ¬ x = 32 := fun z => by rw [z] at h1; exact absurd h1 (by decide)
  have b10 : ¬ x = 10 := fun z => by rw [z] at h1; exact absurd h1 (by decide)
  have b97 : x < 97 := Int32.lt_of_le_of_lt h2 (by decide)
  unfold isG isL
  rw [decide_eq_false b32, decide_eq_false b10, decide_eq_true b97, Bool.not_true, Bool.false_and]
  exact ⟨rfl, rfl⟩
theorem okP_hd {p : Pc} {R : List Int32} (h : okP p R) : ∃ x t, p.2.2 = x :: t ∧ x &&& 255 = x ∧ isG x = false := by
  rcases h.2 with ⟨-, h2, h3, -⟩ | ⟨-, h2, h3, -⟩ | ⟨-, h2⟩
  · match hw : p.2.2, h2 with
    | x :: t, _ =>
      rw [hw] at h3
      obtain ⟨a, b⟩ := h3 x List.mem_cons_self
      exact ⟨x, t, rfl, b, (isL_nx a).1⟩
  · match hw : p.2.2, h2 with
    | x :: t, _ =>
      rw [hw] at h3
      obtain ⟨a, b⟩ := h3 x List.mem_cons_self
      exact ⟨x, t, rfl, b, (isD_nx a).1⟩
  · exact ⟨59, [], h2, by decide, by decide⟩
/-- the token that begins behind A -/
theorem tkAt_p {p : Pc} {R : List Int32} (h : okP p R) (A : List Int32) : ∃ v, tkAt (A ++ (p.2.1 ++ (p.2.2 ++ R))) A.length = (p.1, A.length + p.2.1.length, A.length + p.2.1.length + p.2.2.length, v) ∧ (p.1 = 2 → v = nv (A ++ (p.2.1 ++ (p.2.2 ++ R))) (A.length + p.2.1.length) (A.length + p.2.1.length + p.2.2.length)) ∧ (p.1 = 3 → v = 59) := by
  obtain ⟨x, t, hw, hx, hg⟩ := okP_hd h
  obtain ⟨l, hl⟩ : ∃ l, l = A ++ (p.2.1 ++ (p.2.2 ++ R)) := ⟨_, rfl⟩
  have hq : rn isG l A.length = A.length + p.2.1.length := by
    rw [hl]
    refine rn_run isG_m _ (fun y u e => ?_) p.2.1 A (fun y hy => ?_)
    · rw [hw, List.cons_append] at e
      rw [← (List.cons.inj e).1, hx]; exact hg
    · rcases h.1 with z | z
      · rw [z] at hy; exact nomatch hy
      · rw [z] at hy; rw [List.mem_singleton.mp hy]; exact isG_32
  have hl2 : l = (A ++ p.2.1) ++ (p.2.2 ++ R) := by rw [hl]; simp only [List.append_assoc]
  have hAl : (A ++ p.2.1).length = A.length + p.2.1.length := List.length_append
  have hlen : ¬ l.length ≤ A.length + p.2.1.length := by
    rw [hl2, List.length_append, hAl, List.length_append, hw, List.length_cons]; omega
  have hch : ch l (A.length + p.2.1.length) = x := by
    rw [hl2, ← hAl, hw, List.cons_append, ch_mid, hx]
  rw [← hl]
  unfold tkAt
  rw [hq]
  simp only [if_neg hlen, hch]
  rcases h.2 with ⟨k1, h2, h3, h4⟩ | ⟨k2, h2, h3, h4⟩ | ⟨k3, h2⟩
  · have hLx : isL x = true := (h3 x (by rw [hw]; exact List.mem_cons_self)).1
    have hr : rn isL l (A.length + p.2.1.length) = A.length + p.2.1.length + p.2.2.length := by
      rw [hl2, ← hAl]
      exact rn_run isL_m R h4 p.2.2 (A ++ p.2.1) (fun y hy => by rw [(h3 y hy).2]; exact (h3 y hy).1)
    rw [if_pos hLx, hr, k1]
    exact ⟨0, rfl, (fun z => by cases z), (fun z => by cases z)⟩
  · have hDx : isD x = true := (h3 x (by rw [hw]; exact List.mem_cons_self)).1
    have hr : rn isD l (A.length + p.2.1.length) = A.length + p.2.1.length + p.2.2.length := by
      rw [hl2, ← hAl]
      exact rn_run isD_m R h4 p.2.2 (A ++ p.2.1) (fun y hy => by rw [(h3 y hy).2]; exact (h3 y hy).1)
    rw [if_neg (by rw [(isD_nx hDx).2]; decide), if_pos hDx, hr, k2]
    exact ⟨_, rfl, fun _ => rfl, (fun z => by cases z)⟩
  · rw [h2] at hw
    have hx59 : x = 59 := ((List.cons.inj hw).1).symm
    rw [if_neg (by rw [hx59]; decide), if_neg (by rw [hx59]; decide), k3, h2, hx59]
    exact ⟨59, rfl, (fun z => by cases z), fun _ => rfl⟩
theorem gdT_mid : ∀ (a : List Pc) {p : Pc} {z : List Pc}, gdT (a ++ p :: z) → okP p (pcT z) := by
  intro a
  induction a with
  | nil => intro p z h; exact h.1
  | cons q t ih => intro p z h; exact ih h.2
/-- which token is where -/
theorem toks_pos {T : List Pc} (hg : gdT T) : ∀ (a z : List Pc), T = a ++ z → toks (pcT T) a.length = tkAt (pcT T) (pcT a).length := by
  have key : ∀ (n : Nat) (a z : List Pc), a.length = n → T = a ++ z → toks (pcT T) a.length = tkAt (pcT T) (pcT a).length := by
    intro n
    induction n with
    | zero =>
      intro a z h e
      have : a = [] := List.length_eq_zero_iff.mp h
      subst this
      rfl
    | succ n ih =>
      intro a z h e
      rcases List.eq_nil_or_concat a with rfl | ⟨a', p, ha⟩
      · cases h
      · have ha : a = a' ++ [p] := by rw [ha, List.concat_eq_append]
        subst ha
        rw [List.length_append, List.length_singleton] at h ⊢
        have e' : T = a' ++ (p :: z) := by rw [e]; simp
        have h1 := ih a' (p :: z) (by omega) e'
        have hp := gdT_mid a' (by rw [← e']; exact hg)
        obtain ⟨v, h2, -⟩ := tkAt_p hp (pcT a')
        have hl : pcT T = pcT a' ++ (p.2.1 ++ (p.2.2 ++ pcT z)) := by rw [e', pcT_app]; rfl
        rw [← hl] at h2
        have ht : toks (pcT T) (a'.length + 1) = tkAt (pcT T) (tkE (toks (pcT T) a'.length)) := rfl
        rw [ht, h1, h2]
        show tkAt (pcT T) ((pcT a').length + p.2.1.length + p.2.2.length) = _
        rw [pcT_app]
        congr 1
        show _ = (pcT a' ++ (p.2.1 ++ (p.2.2 ++ []))).length
        rw [List.length_append, List.length_append, List.append_nil]
        omega
  exact fun a z e => key a.length a z rfl e
theorem mid_word (A w R : List Int32) : ((A ++ (w ++ R)).take (A.length + w.length)).drop A.length = w := by
  rw [List.drop_take, List.drop_left, Nat.add_sub_cancel_left, List.take_left]
/-- a piece's token: its kind, its word, its value -/
theorem tok_at {T : List Pc} (hg : gdT T) {a z : List Pc} {p : Pc} (e : T = a ++ p :: z) : ∃ s v, toks (pcT T) a.length = (p.1, s, s + p.2.2.length, v) ∧ ((pcT T).take (s + p.2.2.length)).drop s = p.2.2 ∧ s + p.2.2.length ≤ (pcT T).length ∧ (p.1 = 2 → v = nv (pcT T) s (s + p.2.2.length)) ∧ (p.1 = 3 → v = 59) ∧ ∃ R, pcT T = (pcT a ++ p.2.1) ++ (p.2.2 ++ R) ∧ s = (pcT a ++ p.2.1).length := by
  have hp := gdT_mid a (by rw [← e]; exact hg)
  obtain ⟨v, h2, h3, h4⟩ := tkAt_p hp (pcT a)
  have hl : pcT T = pcT a ++ (p.2.1 ++ (p.2.2 ++ pcT z)) := by rw [e, pcT_app]; rfl
  have hl2 : pcT T = (pcT a ++ p.2.1) ++ (p.2.2 ++ pcT z) := by rw [hl]; simp only [List.append_assoc]
  rw [← hl] at h2 h3
  have hAl : (pcT a ++ p.2.1).length = (pcT a).length + p.2.1.length := List.length_append
  refine ⟨(pcT a).length + p.2.1.length, v, by rw [toks_pos hg a (p :: z) e, h2], ?_, ?_, h3, h4, _, hl2, hAl.symm⟩
  · rw [hl2, ← hAl]
    exact mid_word _ _ _
  · rw [hl2, List.length_append, List.length_append, List.length_append]; omega
theorem map_255 {w : List Int32} (h : ∀ x ∈ w, x &&& 255 = x) : w.map (fun x => x &&& 255) = w := by
  induction w with
  | nil => rfl
  | cons x t ih => rw [List.map_cons, h x List.mem_cons_self, ih (fun y hy => h y (List.mem_cons_of_mem _ hy))]
/-- a word's token -/
theorem tok_w {T : List Pc} (hg : gdT T) {a z : List Pc} {p : Pc} (e : T = a ++ p :: z) (h1 : p.1 = 1) : (∀ k, tKw (pcT T) (toks (pcT T) a.length) k = decide (p.2.2 = kwWord k)) ∧ tName (pcT T) (toks (pcT T) a.length) = decide (kwOf p.2.2 = none ∧ p.2.2.length ≤ 6) ∧ nmOf (pcT T) (toks (pcT T) a.length) = cnm p.2.2 ∧ tFlag (pcT T) (toks (pcT T) a.length) = (match kwOf p.2.2 with | none => 0 | some k => kwFlag k) ∧ (∀ c, tSym (toks (pcT T) a.length) c = false) ∧ tkK (toks (pcT T) a.length) = 1 := by
  obtain ⟨s, v, ht, hw, hle, -, -, -⟩ := tok_at hg e
  have hp := gdT_mid a (by rw [← e]; exact hg)
  have h255 : ∀ x ∈ p.2.2, x &&& 255 = x := by
    rcases hp.2 with ⟨-, -, h3, -⟩ | ⟨k, -⟩ | ⟨k, -⟩
    · exact fun x hx => (h3 x hx).2
    · rw [h1] at k; cases k
    · rw [h1] at k; cases k
  have hs : sub (pcT T) s (s + p.2.2.length) = p.2.2 := by unfold sub; rw [hw, map_255 h255]
  rw [ht, h1]
  refine ⟨fun k => ?_, ?_, ?_, ?_, fun c => ?_, rfl⟩
  · show decide ((1 : Nat) = 1 ∧ sub (pcT T) s (s + p.2.2.length) = kwWord k) = _
    rw [hs]
    simp
  · show decide ((1 : Nat) = 1 ∧ kwOf (sub (pcT T) s (s + p.2.2.length)) = none ∧ s + p.2.2.length - s ≤ 6) = _
    rw [hs, Nat.add_sub_cancel_left]
    simp
  · show (if (1 : Nat) = 1 then cnm (((pcT T).take (s + p.2.2.length)).drop s) else 0) = _
    rw [if_pos rfl, hw]
  · unfold tFlag
    have : kwTk (pcT T) (1, s, s + p.2.2.length, v) = kwOf p.2.2 := by
      show (if (1 : Nat) = 1 then kwOf (sub (pcT T) s (s + p.2.2.length)) else none) = _
      rw [if_pos rfl, hs]
    rw [this]
    cases kwOf p.2.2 <;> rfl
  · show decide ((1 : Nat) = 3 ∧ v = c) = false
    exact decide_eq_false (fun w => by cases w.1)
/-- a semicolon's token -/
theorem tok_s {T : List Pc} (hg : gdT T) {a z : List Pc} {p : Pc} (e : T = a ++ p :: z) (h1 : p.1 = 3) : tSym (toks (pcT T) a.length) 59 = true ∧ tFlag (pcT T) (toks (pcT T) a.length) = 0 ∧ (∀ k, tKw (pcT T) (toks (pcT T) a.length) k = false) ∧ tkK (toks (pcT T) a.length) = 3 := by
  obtain ⟨s, v, ht, hw, hle, -, hv, -⟩ := tok_at hg e
  rw [ht, h1, hv h1]
  refine ⟨rfl, ?_, fun k => ?_, rfl⟩
  · unfold tFlag
    have : kwTk (pcT T) (3, s, s + p.2.2.length, 59) = none := by
      show (if (3 : Nat) = 1 then kwOf (sub (pcT T) s (s + p.2.2.length)) else none) = _
      rw [if_neg (by omega)]
    rw [this]
  · exact decide_eq_false (fun w => by cases w.1)
/-- a number's value -/
def nvW : List Int32 → Nat → Nat
  | [], a => a
  | x :: t, a => nvW t (min 10000 (10 * a + (x.toNatClampNeg - 48)))
theorem nvF_w (R : List Int32) : ∀ (w A : List Int32) (acc : Nat), (∀ x ∈ w, x &&& 255 = x) → nvF (A ++ (w ++ R)) w.length A.length acc = nvW w acc := by
  intro w
  induction w with
  | nil => intro A acc _; rfl
  | cons x t ih =>
    intro A acc h
    have e1 : A ++ (x :: t ++ R) = (A ++ [x]) ++ (t ++ R) := by simp
    have hc : ch (A ++ (x :: t ++ R)) A.length = x := by rw [List.cons_append, ch_mid, h x List.mem_cons_self]
    rw [List.length_cons, nvF, hc, nvW]
    have := ih (A ++ [x]) (min 10000 (10 * acc + (x.toNatClampNeg - 48))) (fun y hy => h y (List.mem_cons_of_mem _ hy))
    rw [← e1, List.length_append, List.length_singleton] at this
    exact this
theorem nvW_dgs : ∀ n, n < 1000 → nvW (dgs n) 0 = n := by decide +kernel
theorem dgs_d : ∀ n, n < 1000 → ∀ x ∈ dgs n, isD x = true ∧ x &&& 255 = x := by decide +kernel
theorem tok_n {T : List Pc} (hg : gdT T) {a z : List Pc} {p : Pc} (e : T = a ++ p :: z) (h1 : p.1 = 2) {n : Nat} (hn : n < 1000) (hw2 : p.2.2 = dgs n) : tkK (toks (pcT T) a.length) = 2 ∧ tkV (toks (pcT T) a.length) = n := by
  obtain ⟨s, v, ht, hw, hle, hv, -, R, hR, hs⟩ := tok_at hg e
  rw [ht, h1]
  refine ⟨rfl, ?_⟩
  show v = n
  rw [hv h1, nv, Nat.add_sub_cancel_left, hR, hs, nvF_w R p.2.2 _ 0 (fun x hx => by rw [hw2] at hx; exact (dgs_d n hn x hx).2), hw2]
  exact nvW_dgs n hn
theorem tok_e {T : List Pc} (hg : gdT T) : tkK (toks (pcT T) T.length) = 0 := by
  rw [toks_pos hg T [] (List.append_nil T).symm, tkAt_end (Nat.le_refl _)]; rfl
