/-! PURE, p53: the law's text, read -/
def bJ (k : Nat) : Int64 := cnm [98, nI (97 + k)]
def seJ (k : Nat) : Int64 := cnm [115, nI (97 + k)]
theorem bJ_eq : ∀ i, i < 3 → ∀ j, j < 3 → (decide (bJ i = bJ j)) = decide (i = j) := by decide +kernel
theorem seJ_eq : ∀ i, i < 4 → ∀ j, j < 4 → (decide (seJ i = seJ j)) = decide (i = j) := by decide +kernel
theorem kw_L : ∀ i, i < 15 → kwWord i ≠ [] ∧ ∀ x ∈ kwWord i, isL x = true ∧ x &&& 255 = x := by decide +kernel
theorem nm_L : ∀ k, k < 4 → (∀ x ∈ [98, nI (97 + k)], isL x = true ∧ x &&& 255 = x) ∧ (∀ x ∈ [115, nI (97 + k)], isL x = true ∧ x &&& 255 = x) ∧ kwOf [98, nI (97 + k)] = none ∧ kwOf [115, nI (97 + k)] = none ∧ ¬ [98, nI (97 + k)] = kwWord 5 := by decide +kernel
theorem kw_eq : ∀ i, i < 15 → ∀ j, j < 15 → (decide (kwWord i = kwWord j)) = decide (i = j) := by decide +kernel
/-- what follows begins with a space, or is a semicolon -/
def sep (t : List Pc) : Prop := ∃ p u, t = p :: u ∧ (p.2.1 = [32] ∨ (p.2.1 = [] ∧ p.2.2 = [59]))
theorem sep_h {t : List Pc} (h : sep t) : hdF isL (pcT t) ∧ hdF isD (pcT t) := by
  obtain ⟨p, u, rfl, h⟩ := h
  have : ∃ r, pcT (p :: u) = 32 :: r ∨ pcT (p :: u) = 59 :: r := by
    rcases h with h | ⟨h1, h2⟩
    · exact ⟨_, .inl (by rw [pcT, h]; rfl)⟩
    · exact ⟨_, .inr (by rw [pcT, h1, h2]; rfl)⟩
  obtain ⟨r, hr⟩ := this
  constructor
  · intro x t e
    rcases hr with hr | hr
    · rw [hr] at e; rw [← (List.cons.inj e).1]; decide
    · rw [hr] at e; rw [← (List.cons.inj e).1]; decide
  · intro x t e
    rcases hr with hr | hr
    · rw [hr] at e; rw [← (List.cons.inj e).1]; decide
    · rw [hr] at e; rw [← (List.cons.inj e).1]; decide
theorem ok_w {g w : List Int32} {t : List Pc} (hg : g = [] ∨ g = [32]) (hw : w ≠ []) (hx : ∀ x ∈ w, isL x = true ∧ x &&& 255 = x) (hs : sep t) : okP (1, g, w) (pcT t) := ⟨hg, .inl ⟨rfl, hw, hx, (sep_h hs).1⟩⟩
theorem ok_k {g : List Int32} {i : Nat} {t : List Pc} (hg : g = [] ∨ g = [32]) (hi : i < 15) (hs : sep t) : okP (1, g, kwWord i) (pcT t) := ok_w hg (kw_L i hi).1 (kw_L i hi).2 hs
theorem dgs_ne (n : Nat) : dgs n ≠ [] := by
  intro z
  have := dgs_len n
  rw [z] at this
  split at this
  · cases this
  · split at this
    · cases this
    · cases this
theorem ok_d {n : Nat} {t : List Pc} (hn : n < 1000) (hs : sep t) : okP (2, [32], dgs n) (pcT t) := ⟨.inr rfl, .inr (.inl ⟨rfl, dgs_ne n, dgs_d n hn, (sep_h hs).2⟩)⟩
theorem ok_s {t : List Pc} : okP (3, [], [59]) (pcT t) := ⟨.inl rfl, .inr (.inr ⟨rfl, rfl⟩)⟩
theorem sep1 {k : Nat} {w : List Int32} {u : List Pc} : sep ((k, [32], w) :: u) := ⟨_, _, rfl, .inl rfl⟩
theorem sep2 {k : Nat} {u : List Pc} : sep ((k, [], [59]) :: u) := ⟨_, _, rfl, .inr ⟨rfl, rfl⟩⟩
def limP (lim : Nat) : List Pc := [(1, [], kwWord 0), (2, [32], dgs lim), (3, [], [59])]
def boxP (k : Nat) : List Pc := [(1, [], kwWord 1), (1, [32], [98, nI (97 + k)]), (3, [], [59])]
def flP (st : Nat) : Nat → Nat → List Pc
  | 0, _ => []
  | d + 1, f => (if st.testBit f = true then [(1, [32], kwWord (6 + f))] else []) ++ flP st d (f + 1)
def msP (m : Nat × Nat × Nat) : List Pc := [(1, [], kwWord 2), (1, [32], [98, nI (97 + m.1)]), (1, [32], kwWord 3), (2, [32], dgs m.2.1)] ++ (flP m.2.2 5 0 ++ [(3, [], [59])])
def seW (s : Nat × Nat × Nat) : List Pc := if s.2.1 = 0 then [] else if s.2.1 = 1 then [(1, [32], kwWord 5), (1, [32], [98, nI (97 + s.2.2)])] else [(1, [32], [98, nI (97 + s.2.2)])]
def seP (s : Nat × Nat × Nat) : List Pc := [(1, [], kwWord 4), (1, [32], [115, nI (97 + s.1)])] ++ (seW s ++ [(3, [], [59])])
theorem fl_P : ∀ st, st < 32 → flS st 5 = pcT (flP st 5 0) := by decide +kernel
theorem limP_T (lim : Nat) : pcT (limP lim) = lsBy 0 ++ (dgs lim ++ lsBy 1) := rfl
theorem boxP_T (k : Nat) : pcT (boxP k) = bxX k := rfl
theorem msP_T {m : Nat × Nat × Nat} (h : m.2.2 < 32) : pcT (msP m) = mX m := by
  unfold msP mX
  rw [pcT_app, pcT_app, fl_P _ h]
  show _ = lsBy 3 ++ ([nI (97 + m.1)] ++ (lsBy 4 ++ (dgs m.2.1 ++ (pcT (flP m.2.2 5 0) ++ lsBy 1))))
  have e3 : lsBy 3 = kwWord 2 ++ [32, 98] := by decide +kernel
  have e4 : lsBy 4 = [32] ++ (kwWord 3 ++ [32]) := by decide +kernel
  have e1 : lsBy 1 = [59] := by decide +kernel
  rw [e3, e4, e1]
  simp only [pcT, List.append_assoc, List.nil_append, List.append_nil, List.cons_append]
theorem seP_T (s : Nat × Nat × Nat) : pcT (seP s) = sX s := by
  unfold seP sX seW
  rw [pcT_app, pcT_app]
  have e11 : lsBy 11 = kwWord 4 ++ [32, 115] := by decide +kernel
  have e12 : lsBy 12 = [32] ++ (kwWord 5 ++ [32, 98]) := by decide +kernel
  have e13 : lsBy 13 = [32, 98] := by decide +kernel
  have e1 : lsBy 1 = [59] := by decide +kernel
  rw [e11, e1]
  by_cases a : s.2.1 = 0
  · rw [if_pos a, if_pos a]
    simp only [pcT, List.append_assoc, List.nil_append, List.append_nil, List.cons_append]
  · rw [if_neg a, if_neg a]
    by_cases b : s.2.1 = 1
    · rw [if_pos b, if_pos b, e12]
      simp only [pcT, List.append_assoc, List.nil_append, List.append_nil, List.cons_append]
    · rw [if_neg b, if_neg b, e13]
      simp only [pcT, List.append_assoc, List.nil_append, List.append_nil, List.cons_append]
theorem gd_lim {lim : Nat} (h : lim < 1000) {z : List Pc} (hz : gdT z) : gdT (limP lim ++ z) := ⟨ok_k (.inl rfl) (by omega) sep1, ok_d h sep2, ok_s, hz⟩
theorem gd_box {k : Nat} (h : k < 4) {z : List Pc} (hz : gdT z) : gdT (boxP k ++ z) := ⟨ok_k (.inl rfl) (by omega) sep1, ok_w (.inr rfl) (by simp) (nm_L k h).1 sep2, ok_s, hz⟩
theorem gd_fl {st : Nat} {z : List Pc} (hz : gdT z) (hs : sep z) : ∀ d f, f + d = 5 → gdT (flP st d f ++ z) ∧ sep (flP st d f ++ z) := by
  intro d
  induction d with
  | zero => intro f _; exact ⟨hz, hs⟩
  | succ d ih =>
    intro f hf
    obtain ⟨h1, h2⟩ := ih (f + 1) (by omega)
    rw [flP, List.append_assoc]
    by_cases b : st.testBit f = true
    · rw [if_pos b]
      exact ⟨⟨ok_k (.inr rfl) (by omega) h2, h1⟩, sep1⟩
    · rw [if_neg b]
      exact ⟨h1, h2⟩
theorem gd_msg {m : Nat × Nat × Nat} (h1 : m.1 < 4) (h2 : m.2.1 < 1000) {z : List Pc} (hz : gdT z) : gdT (msP m ++ z) := by
  obtain ⟨f1, f2⟩ := gd_fl (st := m.2.2) (z := (3, [], [59]) :: z) ⟨ok_s, hz⟩ sep2 5 0 rfl
  have e : msP m ++ z = (1, [], kwWord 2) :: (1, [32], [98, nI (97 + m.1)]) :: (1, [32], kwWord 3) :: (2, [32], dgs m.2.1) :: (flP m.2.2 5 0 ++ (3, [], [59]) :: z) := by unfold msP; simp
  rw [e]
  exact ⟨ok_k (.inl rfl) (by omega) sep1, ok_w (.inr rfl) (by simp) (nm_L _ h1).1 sep1, ok_k (.inr rfl) (by omega) sep1, ok_d h2 f2, f1⟩
theorem gd_ses {s : Nat × Nat × Nat} (h1 : s.1 < 4) (h2 : s.2.2 < 4) {z : List Pc} (hz : gdT z) : gdT (seP s ++ z) := by
  have e : seP s ++ z = (1, [], kwWord 4) :: (1, [32], [115, nI (97 + s.1)]) :: (seW s ++ (3, [], [59]) :: z) := by unfold seP; simp
  rw [e]
  unfold seW
  by_cases a : s.2.1 = 0
  · rw [if_pos a]
    exact ⟨ok_k (.inl rfl) (by omega) sep1, ok_w (.inr rfl) (by simp) (nm_L _ h1).2.1 sep2, ok_s, hz⟩
  · rw [if_neg a]
    by_cases b : s.2.1 = 1
    · rw [if_pos b]
      exact ⟨ok_k (.inl rfl) (by omega) sep1, ok_w (.inr rfl) (by simp) (nm_L _ h1).2.1 sep1, ok_k (.inr rfl) (by omega) sep1, ok_w (.inr rfl) (by simp) (nm_L _ h2).1 sep2, ok_s, hz⟩
    · rw [if_neg b]
      exact ⟨ok_k (.inl rfl) (by omega) sep1, ok_w (.inr rfl) (by simp) (nm_L _ h1).2.1 sep1, ok_w (.inr rfl) (by simp) (nm_L _ h2).1 sep2, ok_s, hz⟩
/-! names -/
theorem bnm_e {S : St} {n : Nat} (hn : stN S = n) (h3 : n ≤ 3) (h : ∀ k, k < n → (stB S k).1 = bJ k) {j : Nat} (hj : j < 3) : bnm S (bJ j) = if j < n then nI j else -1 := by
  unfold bnm
  rw [hn]
  have key : ∀ (m k : Nat), k + m = n → k ≤ j ∨ n ≤ j → lp (fun k (_ : Unit) => if (stB S k).1 = bJ j then Sum.inr (nI k) else .inl ()) (fun _ => (-1 : Int32)) k m () = if j < n then nI j else -1 := by
    intro m
    induction m with
    | zero => intro k hk hj'; rw [lp, if_neg (by omega)]
    | succ m ih =>
      intro k hk hj'
      rw [lp, h k (by omega)]
      have e := bJ_eq k (by omega) j hj
      by_cases z : k = j
      · rw [if_pos (of_decide_eq_true (by rw [e]; exact decide_eq_true z)), z, if_pos (by omega)]
      · rw [if_neg (of_decide_eq_false (by rw [e]; exact decide_eq_false z))]
        exact ih (k + 1) (by omega) (by omega)
  exact key n 0 (by omega) (by omega)
theorem snm_e {S : St} {n : Nat} (hn : stM S = n) (h3 : n < 4) (h : ∀ k, k < n → (stS S k).1 = seJ k) : snm S (seJ n) = -1 := by
  unfold snm
  rw [hn]
  have key : ∀ (m k : Nat), k + m = n → lp (fun k (_ : Unit) => if (stS S k).1 = seJ n then Sum.inr (nI k) else .inl ()) (fun _ => (-1 : Int32)) k m () = -1 := by
    intro m
    induction m with
    | zero => intro k hk; rfl
    | succ m ih =>
      intro k hk
      rw [lp, h k (by omega)]
      have e := seJ_eq k (by omega) n h3
      rw [if_neg (of_decide_eq_false (by rw [e]; exact decide_eq_false (by omega)))]
      exact ih (k + 1) (by omega)
  exact key n 0 (by omega)
section
variable {T : List Pc}
/-- the j-th token of a statement -/
theorem tkw (hg : gdT T) {a q z : List Pc} {g w : List Int32} (e : T = a ++ (q ++ (1, g, w) :: z)) {i : Nat} (hi : i = a.length + q.length) : (∀ k, tKw (pcT T) (toks (pcT T) i) k = decide (w = kwWord k)) ∧ tName (pcT T) (toks (pcT T) i) = decide (kwOf w = none ∧ w.length ≤ 6) ∧ nmOf (pcT T) (toks (pcT T) i) = cnm w ∧ tFlag (pcT T) (toks (pcT T) i) = (match kwOf w with | none => 0 | some k => kwFlag k) ∧ (∀ c, tSym (toks (pcT T) i) c = false) ∧ tkK (toks (pcT T) i) = 1 := by
  have h := tok_w hg (a := a ++ q) (p := (1, g, w)) (z := z) (by rw [e, List.append_assoc]) rfl
  rw [List.length_append, ← hi] at h
  exact h
theorem tks (hg : gdT T) {a q z : List Pc} (e : T = a ++ (q ++ (3, [], [59]) :: z)) {i : Nat} (hi : i = a.length + q.length) : tSym (toks (pcT T) i) 59 = true ∧ tFlag (pcT T) (toks (pcT T) i) = 0 ∧ (∀ k, tKw (pcT T) (toks (pcT T) i) k = false) ∧ tkK (toks (pcT T) i) = 3 := by
  have h := tok_s hg (a := a ++ q) (p := (3, [], [59])) (z := z) (by rw [e, List.append_assoc]) rfl
  rw [List.length_append, ← hi] at h
  exact h
theorem tkn (hg : gdT T) {a q z : List Pc} {n : Nat} (hn : n < 1000) (e : T = a ++ (q ++ (2, [32], dgs n) :: z)) {i : Nat} (hi : i = a.length + q.length) : tkK (toks (pcT T) i) = 2 ∧ tkV (toks (pcT T) i) = n := by
  have h := tok_n hg (a := a ++ q) (p := (2, [32], dgs n)) (z := z) (by rw [e, List.append_assoc]) rfl hn rfl
  rw [List.length_append, ← hi] at h
  exact h
theorem kwd (i j : Nat) (hi : i < 15) (hj : j < 15) (h : i ≠ j) : decide (kwWord i = kwWord j) = false := by rw [kw_eq i hi j hj]; exact decide_eq_false h
theorem p_lim (hg : gdT T) {z : List Pc} {lim : Nat} (h1 : 1 ≤ lim) (h30 : lim ≤ 30) (e : T = limP lim ++ z) (S : St) : pSta (pcT T) (0, S, false, false) = .inl (3, (nI lim, S.2), true, false) := by
  have t0 := tkw hg (a := []) (q := []) (z := (2, [32], dgs lim) :: (3, [], [59]) :: z) (by rw [e]; rfl) (i := 0) rfl
  have t1 := tkn hg (a := []) (q := [(1, [], kwWord 0)]) (z := (3, [], [59]) :: z) (n := lim) (by omega) (by rw [e]; rfl) (i := 1) rfl
  have t2 := tks hg (a := []) (q := [(1, [], kwWord 0), (2, [32], dgs lim)]) (z := z) (by rw [e]; rfl) (i := 2) rfl
  have hn : tNum (toks (pcT T) 1) 1 30 = 0 := by
    unfold tNum
    rw [if_neg (by rw [t1.1]; omega), t1.2, if_pos ⟨h1, h30⟩]
  unfold pSta pLim pSem
  simp only [t0.1, decide_true, if_true, Bool.false_eq_true, if_false, Nat.zero_add, hn, t1.2, t2.1]
theorem p_box (hg : gdT T) {a z : List Pc} {k i : Nat} (hk : k < 3) (e : T = a ++ (boxP k ++ z)) (hi : i = a.length) {S : St} (hn : stN S = k) (hS : ∀ j, j < k → (stB S j).1 = bJ j) (x : Bool × Bool) : pSta (pcT T) (i, S, x) = .inl (i + 3, addBx S (bJ k), x) := by
  have t0 := tkw hg (a := a) (q := []) (g := []) (w := kwWord 1) (z := (1, [32], [98, nI (97 + k)]) :: (3, [], [59]) :: z) (by rw [e]; rfl) (i := i) (by rw [hi]; rfl)
  have t1 := tkw hg (a := a) (q := [(1, [], kwWord 1)]) (g := [32]) (w := [98, nI (97 + k)]) (z := (3, [], [59]) :: z) (by rw [e]; rfl) (i := i + 1) (by rw [hi]; rfl)
  have t2 := tks hg (a := a) (q := [(1, [], kwWord 1), (1, [32], [98, nI (97 + k)])]) (z := z) (by rw [e]; rfl) (i := i + 2) (by rw [hi]; rfl)
  have k0 : tKw (pcT T) (toks (pcT T) i) 0 = false := by rw [t0.1, kwd 1 0 (by omega) (by omega) (by omega)]
  have k1 : tKw (pcT T) (toks (pcT T) i) 1 = true := by rw [t0.1]; exact decide_eq_true rfl
  have nm : tName (pcT T) (toks (pcT T) (i + 1)) = true := by rw [t1.2.1]; exact decide_eq_true ⟨(nm_L k (by omega)).2.2.1, by simp⟩
  have hb : bnm S (nmOf (pcT T) (toks (pcT T) (i + 1))) = -1 := by
    rw [t1.2.2.1]
    show bnm S (bJ k) = -1
    rw [bnm_e hn (by omega) hS (by omega), if_neg (by omega)]
  unfold pSta pBox pSem
  simp only [k0, k1, Bool.false_eq_true, if_false, if_true, nm, hb]
  rw [if_neg (show ¬ stN S = 3 by omega)]
  simp only [Bool.true_eq_false, if_false, t2.1, if_true, t1.2.2.1]
  rfl
end
