/-! PURE: store, whole -/
def mfOK (mode fl : Int32) : Bool := (!decide (mode < 0) && !decide (2 < mode)) && (!decide (fl < 0) && !decide (31 < fl))
theorem reqMF_in {mode fl : Int32} (h : mfOK mode fl = true) (M : Mem) : f_X11_requireModeAndFlags mode fl M = some (.inl (), M) := by
  unfold mfOK at h
  simp only [Bool.and_eq_true, Bool.not_eq_true', decide_eq_false_iff_not] at h
  obtain ⟨⟨h1, h2⟩, h3, h4⟩ := h
  rw [f_X11_requireModeAndFlags, if_neg h1, if_neg h2, if_neg h3, if_pos (Int32.not_lt.mp h4)]
theorem reqMF_no {mode fl : Int32} (h : mfOK mode fl = false) (M : Mem) : f_X11_requireModeAndFlags mode fl M = some (.inr "java/lang/IllegalArgumentException", mskip M) := by
  unfold mfOK at h
  rw [f_X11_requireModeAndFlags]
  by_cases h1 : mode < 0
  · rw [if_pos h1]; rfl
  · rw [if_neg h1]
    by_cases h2 : 2 < mode
    · rw [if_pos h2]; rfl
    · rw [if_neg h2]
      by_cases h3 : fl < 0
      · rw [if_pos h3]; rfl
      · rw [if_neg h3]
        by_cases h4 : fl ≤ 31
        · rw [decide_eq_false h1, decide_eq_false h2, decide_eq_false h3, decide_eq_false (Int32.not_lt.mpr h4)] at h
          cases h
        · rw [if_neg h4]; rfl
section
variable {M : Mem} {m : Nat} {R : Rs} {I O : List Int32} {S : St} {K : Nat → St} {B : Nat → Bool} {C : Nat} {H : Nat → St} {N : List Nt} {E : Er} {c : Nat}
end
/-! PURE: uidStore -/
def ust (mode fl fs ls : Int32) : Ms → Int32 → Ms × Int32
  | [], n => ([], n)
  | x :: t, n => bif (!decide (mU x < fs) && !decide (ls < mU x)) then (mP x (fby mode (mF x) fl) :: (ust mode fl fs ls t (n + b2i (!decide (fby mode (mF x) fl = mF x)))).1, (ust mode fl fs ls t (n + b2i (!decide (fby mode (mF x) fl = mF x)))).2)
      else (x :: (ust mode fl fs ls t n).1, (ust mode fl fs ls t n).2)
theorem ust_map (mode fl fs ls : Int32) : ∀ (l : Ms) (n : Int32), (ust mode fl fs ls l n).1.map mU = l.map mU ∧ (ust mode fl fs ls l n).1.map mS = l.map mS := by
  intro l
  induction l with
  | nil => intro n; exact ⟨rfl, rfl⟩
  | cons x t ih =>
    intro n
    rw [ust]
    cases (!decide (mU x < fs) && !decide (ls < mU x)) with
    | true =>
      obtain ⟨h1, h2⟩ := ih (n + b2i (!decide (fby mode (mF x) fl = mF x)))
      exact ⟨by simp only [cond_true, List.map_cons, h1]; rfl, by simp only [cond_true, List.map_cons, h2]; rfl⟩
    | false =>
      obtain ⟨h1, h2⟩ := ih n
      exact ⟨by simp only [cond_false, List.map_cons, h1], by simp only [cond_false, List.map_cons, h2]⟩
section
variable {M : Mem} {m : Nat} {R : Rs} {I O : List Int32} {S : St} {K : Nat → St} {B : Nat → Bool} {C : Nat} {H : Nat → St} {N : List Nt} {E : Er} {c : Nat}
def uTX (l1 l8 : Int32) (M : Mem) : Option ((Int32 ⊕ String) × Mem) := (f_X11_endCommand 100 l1 true M).bind fun (x10, M11) => some (.inl l8, M11)
theorem setF_mid (pre t : Ms) (x : Msg) (f : Int32) : setF (pre ++ x :: t) pre.length f = pre ++ (mP x f :: t) := by
  have hg : mg (pre ++ x :: t) pre.length = x := mid_get pre t x (0, 0, 0)
  unfold setF
  rw [hg]
  exact mid_set pre t x _
theorem cls_us_loop {b : Nat} (l1 mode fl fs ls : Int32) : ∀ (post pre : Ms) (fu : Nat) (M : Mem) (S : St) (n : Int32), post.length < fu → Cls M I O S K B C H N E → b < stN S → (stB S b).2.2 = pre ++ post →
    ∃ M', f_X11_uidStore_34 fu 100 l1 fs ls mode fl (boxR 105 b) n (nI pre.length) M = uTX l1 (ust mode fl fs ls post n).2 M' ∧ Cls M' I O (setBx S b (setMs (stB S b) (pre ++ (ust mode fl fs ls post n).1))) K B C H N E ∧ off M M' 100 616 := by
  intro post
  induction post with
  | nil =>
    intro pre fu M S n hf h hb hE
    obtain ⟨fu, rfl⟩ : ∃ x, fu = x + 1 := ⟨fu - 1, by omega⟩
    have hl : (stB S b).2.2.length ≤ 30 := bA.len (h.bx hb)
    have hs : f_X0_size (boxR 105 b) M = some (nI (stB S b).2.2.length) := X0_size_e (h.bx hb)
    have hpl : (stB S b).2.2.length = pre.length := by rw [hE, List.append_nil]
    refine ⟨M, ?_, ?_, off.rf _ _ _⟩
    · simp only [f_X11_uidStore_34, hs, bso, hpl]
      rw [if_pos (by rw [leT rfl rfl (Nat.le_refl pre.length) (by omega)]; trivial)]
      rfl
    · show Cls M I O (setBx S b (setMs (stB S b) (pre ++ []))) K B C H N E
      rw [← hE, setM_id]; exact h
  | cons x t ih =>
    intro pre fu M S n hf h hb hE
    obtain ⟨fu, rfl⟩ : ∃ x, fu = x + 1 := ⟨fu - 1, by omega⟩
    rw [List.length_cons] at hf
    have hl : (stB S b).2.2.length ≤ 30 := bA.len (h.bx hb)
    have hs : f_X0_size (boxR 105 b) M = some (nI (stB S b).2.2.length) := X0_size_e (h.bx hb)
    have hpl : pre.length < (stB S b).2.2.length := by rw [hE]; simp
    have hg : mg (stB S b).2.2 pre.length = x := by rw [hE]; exact mid_get pre t x (0, 0, 0)
    have gU : gR M 0 2 (boxR 105 b) = some (boxR 105 b + 1) := bA.gU (h.bx hb)
    have gu : f_X5_get (boxR 105 b + 1) (nI pre.length) M = some (mU x) := by
      have : f_X5_get (boxR 105 b + 1) (nI pre.length) M = some (lgt ((stB S b).2.2.map mU) (nI pre.length)) := X5_get_e (h.bx hb).2.1 _
      rw [this, lgt_n _ (by omega), mapD _ hpl, hg]
    have n1 : ¬ (nI (stB S b).2.2.length ≤ nI pre.length) := by
      rw [leF rfl rfl hpl (by omega)]; exact id
    have hl1 : ∀ y : Msg, (pre ++ [y]).length = pre.length + 1 := fun y => by simp
    simp only [f_X11_uidStore_34, hs, gU, gu, bso]
    rw [if_neg n1]
    have skip : (!decide (mU x < fs) && !decide (ls < mU x)) = false → ∃ M', f_X11_uidStore_85 (f_X11_uidStore_34 fu) 100 l1 fs ls mode fl (boxR 105 b) n (nI pre.length) M = uTX l1 (ust mode fl fs ls (x :: t) n).2 M' ∧ Cls M' I O (setBx S b (setMs (stB S b) (pre ++ (ust mode fl fs ls (x :: t) n).1))) K B C H N E ∧ off M M' 100 616 := by
      intro z
      obtain ⟨M', e', c', o'⟩ := ih (pre ++ [x]) fu M S n (by omega) h hb (by rw [hE]; simp)
      rw [hl1] at e'
      have hu : ust mode fl fs ls (x :: t) n = (x :: (ust mode fl fs ls t n).1, (ust mode fl fs ls t n).2) := by rw [ust, z]; rfl
      rw [hu]
      refine ⟨M', by simp only [f_X11_uidStore_85, nI_1]; exact e', ?_, o'⟩
      have : pre ++ (x :: (ust mode fl fs ls t n).1) = (pre ++ [x]) ++ (ust mode fl fs ls t n).1 := by simp
      rw [this]; exact c'
    by_cases z1 : mU x < fs
    · rw [if_pos z1]; exact skip (by rw [decide_eq_true z1]; rfl)
    · rw [if_neg z1]
      by_cases z2 : ls < mU x
      · rw [if_pos z2]; exact skip (by rw [decide_eq_true z2, Bool.and_comm]; rfl)
      · rw [if_neg z2]
        obtain ⟨M1, e1, x1, o1⟩ := X0_change_e (h.bx hb) hpl mode fl
        obtain ⟨c1, o1'⟩ := h.box hb (X := setMs (stB S b) (setF (stB S b).2.2 pre.length (fby mode (mF (mg (stB S b).2.2 pre.length)) fl))) x1 o1
        rw [hg] at e1 c1
        obtain ⟨f, hf2⟩ : ∃ f, f = fby mode (mF x) fl := ⟨_, rfl⟩
        rw [← hf2] at e1 c1
        have hsf : setF (stB S b).2.2 pre.length f = pre ++ (mP x f :: t) := by rw [hE]; exact setF_mid pre t x f
        rw [hsf] at c1
        obtain ⟨M', e', c', o'⟩ := ih (pre ++ [mP x f]) fu M1 (setBx S b (setMs (stB S b) (pre ++ (mP x f :: t)))) (n + b2i (!decide (f = mF x))) (by omega) c1 hb (by rw [setM_ms]; simp)
        rw [hl1] at e'
        rw [setM_2] at c'
        have hu : ust mode fl fs ls (x :: t) n = (mP x f :: (ust mode fl fs ls t (n + b2i (!decide (f = mF x)))).1, (ust mode fl fs ls t (n + b2i (!decide (f = mF x)))).2) := by
          rw [ust, decide_eq_false z1, decide_eq_false z2, hf2]; rfl
        rw [hu]
        refine ⟨M', ?_, ?_, o1'.trans o'⟩
        · simp only [e1, bso, f_X11_uidStore_85, nI_1]
          cases hch : decide (f = mF x) with
          | true =>
            rw [hch] at e'
            simp only [Bool.not_true, b2i_f, Int32.add_zero] at e'
            simp only [Bool.not_true, cond_false, b2i_f, Int32.add_zero]
            exact e'
          | false =>
            rw [hch] at e'
            simp only [Bool.not_false, b2i_t] at e'
            simp only [Bool.not_false, cond_true, b2i_t]
            exact e'
        · have : pre ++ (mP x f :: (ust mode fl fs ls t (n + b2i (!decide (f = mF x)))).1) = (pre ++ [mP x f]) ++ (ust mode fl fs ls t (n + b2i (!decide (f = mF x)))).1 := by simp
          rw [this]; exact c'
end
