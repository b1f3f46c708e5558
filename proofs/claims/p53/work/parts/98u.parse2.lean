/-! PURE, p53: the law's text, read to its end -/
theorem fl_f : ∀ st, st < 32 → ∀ f, f < 5 → (st.testBit f = true → nI (st % 2 ^ f) &&& kwFlag (6 + f) = 0 ∧ nI (st % 2 ^ f) ||| kwFlag (6 + f) = nI (st % 2 ^ (f + 1)) ∧ ¬ kwFlag (6 + f) = 0) ∧ (st.testBit f = false → st % 2 ^ (f + 1) = st % 2 ^ f) := by decide +kernel
section
variable {T : List Pc}
theorem p_flg (hg : gdT T) {st : Nat} (hst : st < 32) : ∀ (d f n : Nat) (a z : List Pc) (i : Nat) (acc : Int32), f + d = 5 → T = a ++ (flP st d f ++ ((3, [], [59]) :: z)) → i = a.length → d < n → acc = nI (st % 2 ^ f) → ∃ fl, pFlg (pcT T) n i acc = .inl (i + (flP st d f).length, fl) := by
  intro d
  induction d with
  | zero =>
    intro f n a z i acc hf e hi hn ha
    obtain ⟨n, rfl⟩ : ∃ x, n = x + 1 := ⟨n - 1, by omega⟩
    have t := tks hg (a := a) (q := []) (z := z) e (i := i) (by rw [hi]; rfl)
    refine ⟨acc, ?_⟩
    rw [pFlg, if_pos t.2.1]; rfl
  | succ d ih =>
    intro f n a z i acc hf e hi hn ha
    obtain ⟨n, rfl⟩ : ∃ x, n = x + 1 := ⟨n - 1, by omega⟩
    obtain ⟨b1, b2⟩ := fl_f st hst f (by omega)
    rw [flP] at e ⊢
    by_cases b : st.testBit f = true
    · rw [if_pos b] at e ⊢
      obtain ⟨c1, c2, c3⟩ := b1 b
      have t := tkw hg (a := a) (q := []) (g := [32]) (w := kwWord (6 + f)) (z := flP st d (f + 1) ++ ((3, [], [59]) :: z)) (by rw [e]; rfl) (i := i) (by rw [hi]; rfl)
      have tf : tFlag (pcT T) (toks (pcT T) i) = kwFlag (6 + f) := by rw [t.2.2.2.1, kwOf_i (6 + f) (by omega)]
      obtain ⟨fl, h⟩ := ih (f + 1) n (a ++ [(1, [32], kwWord (6 + f))]) z (i + 1) (acc ||| kwFlag (6 + f)) (by omega) (by rw [e]; simp) (by rw [hi, List.length_append]; rfl) (by omega) (by rw [ha, c2])
      refine ⟨fl, ?_⟩
      rw [pFlg, tf, if_neg c3, if_pos (by rw [ha]; exact c1), h, List.length_append, List.length_singleton]
      congr 2
      omega
    · rw [if_neg b] at e ⊢
      rw [List.nil_append] at e ⊢
      exact ih (f + 1) (n + 1) a z i acc (by omega) e hi (by omega) (by rw [ha, b2 (by simpa using b)])
theorem p_msg (hg : gdT T) {a z : List Pc} {m : Nat × Nat × Nat} {i nb lim : Nat} (e : T = a ++ (msP m ++ z)) (hi : i = a.length) (hto : m.1 < nb) (h3 : nb ≤ 3) (hs1 : 1 ≤ m.2.1) (hs : m.2.1 ≤ 999) (hst : m.2.2 < 32) (hlim : lim ≤ 30) {S : St} (hL : stL S = nI lim) (hn : stN S = nb) (hS : ∀ j, j < nb → (stB S j).1 = bJ j) (hc : (stB S m.1).2.2.length < lim) (x : Bool × Bool) :
    ∃ fl, pSta (pcT T) (i, S, x) = .inl (i + (msP m).length, addMs S m.1 (nI m.2.1) fl, x.1, true) := by
  have e' : T = a ++ ((1, [], kwWord 2) :: (1, [32], [98, nI (97 + m.1)]) :: (1, [32], kwWord 3) :: (2, [32], dgs m.2.1) :: (flP m.2.2 5 0 ++ (3, [], [59]) :: z)) := by rw [e]; unfold msP; simp
  have t0 := tkw hg (a := a) (q := []) (g := []) (w := kwWord 2) (z := (1, [32], [98, nI (97 + m.1)]) :: (1, [32], kwWord 3) :: (2, [32], dgs m.2.1) :: (flP m.2.2 5 0 ++ (3, [], [59]) :: z)) e' (i := i) (by rw [hi]; rfl)
  have t1 := tkw hg (a := a) (q := [(1, [], kwWord 2)]) (g := [32]) (w := [98, nI (97 + m.1)]) (z := (1, [32], kwWord 3) :: (2, [32], dgs m.2.1) :: (flP m.2.2 5 0 ++ (3, [], [59]) :: z)) e' (i := i + 1) (by rw [hi]; rfl)
  have t2 := tkw hg (a := a) (q := [(1, [], kwWord 2), (1, [32], [98, nI (97 + m.1)])]) (g := [32]) (w := kwWord 3) (z := (2, [32], dgs m.2.1) :: (flP m.2.2 5 0 ++ (3, [], [59]) :: z)) e' (i := i + 1 + 1) (by rw [hi]; rfl)
  have t3 := tkn hg (a := a) (q := [(1, [], kwWord 2), (1, [32], [98, nI (97 + m.1)]), (1, [32], kwWord 3)]) (n := m.2.1) (z := flP m.2.2 5 0 ++ (3, [], [59]) :: z) (by omega) e' (i := i + 1 + 2) (by rw [hi]; rfl)
  have hlen : (msP m).length = 5 + (flP m.2.2 5 0).length := by unfold msP; simp only [List.length_append, List.length_cons, List.length_nil]; omega
  obtain ⟨fl, hf⟩ := p_flg hg hst 5 0 700 (a ++ [(1, [], kwWord 2), (1, [32], [98, nI (97 + m.1)]), (1, [32], kwWord 3), (2, [32], dgs m.2.1)]) z (i + 1 + 3) 0 rfl (by rw [e']; simp) (by rw [hi, List.length_append]; rfl) (by omega) (by rw [Nat.pow_zero, Nat.mod_one]; rfl)
  have t4 := tks hg (a := a) (q := [(1, [], kwWord 2), (1, [32], [98, nI (97 + m.1)]), (1, [32], kwWord 3), (2, [32], dgs m.2.1)] ++ flP m.2.2 5 0) (z := z) (by rw [e']; simp) (i := i + 1 + 3 + (flP m.2.2 5 0).length) (by rw [hi, List.length_append]; show a.length + 1 + 3 + _ = a.length + (4 + _); omega)
  have k0 : tKw (pcT T) (toks (pcT T) i) 0 = false := by rw [t0.1, kwd 2 0 (by omega) (by omega) (by omega)]
  have k1 : tKw (pcT T) (toks (pcT T) i) 1 = false := by rw [t0.1, kwd 2 1 (by omega) (by omega) (by omega)]
  have k2 : tKw (pcT T) (toks (pcT T) i) 2 = true := by rw [t0.1]; exact decide_eq_true rfl
  have nm : tName (pcT T) (toks (pcT T) (i + 1)) = true := by rw [t1.2.1]; exact decide_eq_true ⟨(nm_L m.1 (by omega)).2.2.1, by simp⟩
  have hb : bnm S (nmOf (pcT T) (toks (pcT T) (i + 1))) = nI m.1 := by
    rw [t1.2.2.1]
    show bnm S (bJ m.1) = nI m.1
    rw [bnm_e hn h3 hS (by omega), if_pos hto]
  have hb1 : ¬ nI m.1 = -1 := by rw [nI_m1 (by omega)]; exact id
  have hle : ¬ stL S ≤ nI (stB S m.1).2.2.length := by rw [hL, leF rfl rfl hc (by omega)]; exact id
  have k3 : tKw (pcT T) (toks (pcT T) (i + 1 + 1)) 3 = true := by rw [t2.1]; exact decide_eq_true rfl
  have hnum : tNum (toks (pcT T) (i + 1 + 2)) 1 9999 = 0 := by
    unfold tNum
    rw [if_neg (by rw [t3.1]; omega), t3.2, if_pos ⟨hs1, by omega⟩]
  refine ⟨fl, ?_⟩
  unfold pSta pMsg pSem
  simp only [k0, k1, k2, Bool.false_eq_true, if_false, if_true, nm, hb, nI_c (show m.1 < 2 ^ 31 by omega), k3, hnum, hf, t4.1, t3.2, Bool.true_eq_false, ne_eq, not_true]
  rw [if_neg hb1, if_neg hle]
  simp only [t4.1, if_true]
  rw [hlen]
  congr 2
  omega
def itB (s : Nat × Nat × Nat) : Int32 := if s.2.1 = 0 then -1 else nI s.2.2
theorem p_ses (hg : gdT T) {a z : List Pc} {s : Nat × Nat × Nat} {i nb : Nat} (e : T = a ++ (seP s ++ z)) (hi : i = a.length) (hk : s.1 < 4) (hb : s.2.2 < nb) (h3 : nb ≤ 3) {S : St} (hn : stN S = nb) (hS : ∀ j, j < nb → (stB S j).1 = bJ j) (hm : stM S = s.1) (hM : ∀ j, j < s.1 → (stS S j).1 = seJ j) (x : Bool × Bool) :
    pSta (pcT T) (i, S, x) = .inl (i + (seP s).length, addSs S (seJ s.1) (itB s) (decide (s.2.1 = 1)), x) := by
  have e' : T = a ++ ((1, [], kwWord 4) :: (1, [32], [115, nI (97 + s.1)]) :: (seW s ++ (3, [], [59]) :: z)) := by rw [e]; unfold seP; simp
  have t0 := tkw hg (a := a) (q := []) (g := []) (w := kwWord 4) (z := (1, [32], [115, nI (97 + s.1)]) :: (seW s ++ (3, [], [59]) :: z)) e' (i := i) (by rw [hi]; rfl)
  have t1 := tkw hg (a := a) (q := [(1, [], kwWord 4)]) (g := [32]) (w := [115, nI (97 + s.1)]) (z := seW s ++ (3, [], [59]) :: z) e' (i := i + 1) (by rw [hi]; rfl)
  have k0 : tKw (pcT T) (toks (pcT T) i) 0 = false := by rw [t0.1, kwd 4 0 (by omega) (by omega) (by omega)]
  have k1 : tKw (pcT T) (toks (pcT T) i) 1 = false := by rw [t0.1, kwd 4 1 (by omega) (by omega) (by omega)]
  have k2 : tKw (pcT T) (toks (pcT T) i) 2 = false := by rw [t0.1, kwd 4 2 (by omega) (by omega) (by omega)]
  have k4 : tKw (pcT T) (toks (pcT T) i) 4 = true := by rw [t0.1]; exact decide_eq_true rfl
  have nm : tName (pcT T) (toks (pcT T) (i + 1)) = true := by rw [t1.2.1]; exact decide_eq_true ⟨(nm_L s.1 hk).2.2.2.1, by simp⟩
  have hn1 : nmOf (pcT T) (toks (pcT T) (i + 1)) = seJ s.1 := t1.2.2.1
  have hs1 : snm S (seJ s.1) = -1 := snm_e hm hk hM
  have hm4 : ¬ stM S = 4 := by omega
  have hbJ : bnm S (cnm [98, nI (97 + s.2.2)]) = nI s.2.2 := by
    show bnm S (bJ s.2.2) = _
    rw [bnm_e hn h3 hS (by omega), if_pos hb]
  have hb1 : ¬ nI s.2.2 = -1 := by rw [nI_m1 (by omega)]; exact id
  have nb1 : ∀ (q : Nat) (y : List Pc) (j : Nat), T = a ++ (y ++ (1, [32], [98, nI (97 + s.2.2)]) :: ((3, [], [59]) :: z)) → j = a.length + y.length → tName (pcT T) (toks (pcT T) j) = true ∧ nmOf (pcT T) (toks (pcT T) j) = cnm [98, nI (97 + s.2.2)] ∧ tKw (pcT T) (toks (pcT T) j) 5 = false ∧ tSym (toks (pcT T) j) 59 = false ∧ tSym (toks (pcT T) (j + 1)) 59 = true := by
    intro q y j ey hj
    have t := tkw hg ey hj
    have t' := tks hg (a := a) (q := y ++ [(1, [32], [98, nI (97 + s.2.2)])]) (z := z) (by rw [ey]; simp) (i := j + 1) (by rw [hj, List.length_append]; rfl)
    exact ⟨by rw [t.2.1]; exact decide_eq_true ⟨(nm_L s.2.2 (by omega)).2.2.1, by simp⟩, t.2.2.1, by rw [t.1]; exact decide_eq_false (nm_L s.2.2 (by omega)).2.2.2.2, t.2.2.2.2.1 59, t'.1⟩
  unfold pSta pSes pSem
  simp only [k0, k1, k2, k4, Bool.false_eq_true, if_false, if_true, nm, hn1, hs1, Bool.true_eq_false, ne_eq, not_true]
  rw [if_neg hm4]
  by_cases z0 : s.2.1 = 0
  · have hw : seW s = [] := by unfold seW; rw [if_pos z0]
    rw [hw] at e'
    have t2 := tks hg (a := a) (q := [(1, [], kwWord 4), (1, [32], [115, nI (97 + s.1)])]) (z := z) e' (i := i + 1 + 1) (by rw [hi]; rfl)
    have hl : (seP s).length = 3 := by unfold seP; rw [hw]; rfl
    have hi0 : itB s = -1 := if_pos z0
    simp only [t2.2.2.1 5, Bool.false_eq_true, if_false, t2.1, and_self, if_true, hl, hi0]
    rw [decide_eq_false (show ¬ s.2.1 = 1 by omega)]
  · have hi0 : itB s = nI s.2.2 := if_neg z0
    by_cases z1 : s.2.1 = 1
    · have hw : seW s = [(1, [32], kwWord 5), (1, [32], [98, nI (97 + s.2.2)])] := by unfold seW; rw [if_neg z0, if_pos z1]
      rw [hw] at e'
      have t2 := tkw hg (a := a) (q := [(1, [], kwWord 4), (1, [32], [115, nI (97 + s.1)])]) (g := [32]) (w := kwWord 5) (z := (1, [32], [98, nI (97 + s.2.2)]) :: (3, [], [59]) :: z) e' (i := i + 1 + 1) (by rw [hi]; rfl)
      obtain ⟨u1, u2, u3, u4, u5⟩ := nb1 0 [(1, [], kwWord 4), (1, [32], [115, nI (97 + s.1)]), (1, [32], kwWord 5)] (i + 1 + 2) e' (by rw [hi]; rfl)
      have hl : (seP s).length = 5 := by unfold seP; rw [hw]; rfl
      have r5 : tKw (pcT T) (toks (pcT T) (i + 1 + 1)) 5 = true := by rw [t2.1]; exact decide_eq_true rfl
      simp only [r5, if_true, Bool.true_eq_false, false_and, if_false, u1, u2, hbJ, hl, hi0]
      rw [if_neg hb1]
      simp only [u5, if_true]
      rw [decide_eq_true z1]
    · have hw : seW s = [(1, [32], [98, nI (97 + s.2.2)])] := by unfold seW; rw [if_neg z0, if_neg z1]
      rw [hw] at e'
      obtain ⟨u1, u2, u3, u4, u5⟩ := nb1 0 [(1, [], kwWord 4), (1, [32], [115, nI (97 + s.1)])] (i + 1 + 1) e' (by rw [hi]; rfl)
      have hl : (seP s).length = 4 := by unfold seP; rw [hw]; rfl
      simp only [u3, Bool.false_eq_true, if_false, u4, and_false, u1, Bool.true_eq_false, u2, hbJ, hl, hi0]
      rw [if_neg hb1]
      simp only [u5, if_true]
      rw [decide_eq_false z1]
/-! all statements -/
def bxsA (nb : Nat) : Nat → Nat → List Pc
  | 0, _ => []
  | d + 1, k => boxP k ++ bxsA nb d (k + 1)
def msA : List (Nat × Nat × Nat) → List Pc
  | [] => []
  | m :: t => msP m ++ msA t
def seA : List (Nat × Nat × Nat) → List Pc
  | [] => []
  | m :: t => seP m ++ seA t
theorem kk1 (hg : gdT T) {a z : List Pc} {w : List Int32} {i : Nat} (e : T = a ++ ((1, [], w) :: z)) (hi : i = a.length) : ¬ tkK (toks (pcT T) i) = 0 := by
  have t := tkw hg (a := a) (q := []) (g := []) (w := w) (z := z) e (i := i) (by rw [hi]; rfl)
  rw [t.2.2.2.2.2]; omega
theorem all_boxes (hg : gdT T) {nb : Nat} (h3 : nb ≤ 3) : ∀ (d k n : Nat) (a z : List Pc) (i : Nat) (S : St) (x : Bool × Bool), k + d = nb → T = a ++ (bxsA nb d k ++ z) → i = a.length → stN S = k → (∀ j, j < k → (stB S j).1 = bJ j ∧ (stB S j).2.2 = []) →
    ∃ S', pAll (pcT T) (n + d) (i, S, x) = pAll (pcT T) n ((a ++ bxsA nb d k).length, S', x) ∧ stN S' = nb ∧ stL S' = stL S ∧ stM S' = stM S ∧ ∀ j, j < nb → (stB S' j).1 = bJ j ∧ (stB S' j).2.2 = [] := by
  intro d
  induction d with
  | zero =>
    intro k n a z i S x hd e hi hn hS
    obtain rfl : k = nb := by omega
    exact ⟨S, by rw [bxsA, List.append_nil, hi]; rfl, hn, rfl, rfl, hS⟩
  | succ d ih =>
    intro k n a z i S x hd e hi hn hS
    rw [bxsA, List.append_assoc] at e
    have hp := p_box hg (k := k) (by omega) e hi hn (fun j hj => (hS j hj).1) x
    have hk := kk1 hg (a := a) (w := kwWord 1) (z := (1, [32], [98, nI (97 + k)]) :: (3, [], [59]) :: (bxsA nb d (k + 1) ++ z)) e hi
    obtain ⟨S', h1, h2⟩ := ih (k + 1) n (a ++ boxP k) z (i + 3) (addBx S (bJ k)) x (by omega) (by rw [e]; simp) (by rw [hi, List.length_append]; rfl) (by show stN S + 1 = k + 1; rw [hn]) (fun j hj => by
      show ((va_up (stB S) (stN S) (bJ k, 1, [])) j).1 = bJ j ∧ ((va_up (stB S) (stN S) (bJ k, 1, [])) j).2.2 = []
      rw [va_up_if, hn]
      by_cases y : j = k
      · rw [if_pos y, y]; exact ⟨rfl, rfl⟩
      · rw [if_neg y]; exact hS j (by omega))
    refine ⟨S', ?_, h2⟩
    rw [← Nat.add_assoc, pAll, if_neg hk, hp, bxsA, ← List.append_assoc]
    exact h1
def okC (lim nb : Nat) : List (Nat × Nat × Nat) → (Nat → Nat) → Prop
  | [], _ => True
  | m :: t, cnt => ((m.1 < nb ∧ cnt m.1 < lim) ∧ (1 ≤ m.2.1 ∧ m.2.1 ≤ 999) ∧ m.2.2 < 32) ∧ okC lim nb t (va_up cnt m.1 (cnt m.1 + 1))
theorem sz_n {n : Nat} (h : n ≤ 999) : 0 ≤ nI n ∧ nI n ≤ (9999 : Int32) := ⟨nI_nn (by omega), by
  have : (nI n ≤ (9999 : Int32)) = (n ≤ 9999) := leI (y := 9999) (b := 9999) rfl rfl (by omega) (by omega)
  rw [this]; omega⟩
theorem all_msgs (hg : gdT T) {nb lim : Nat} (h3 : nb ≤ 3) (hlim : lim ≤ 30) : ∀ (ms : List (Nat × Nat × Nat)) (n : Nat) (a z : List Pc) (i : Nat) (S : St) (cnt : Nat → Nat) (x : Bool × Bool), okC lim nb ms cnt → T = a ++ (msA ms ++ z) → i = a.length → stN S = nb → stL S = nI lim → (∀ j, j < nb → (stB S j).1 = bJ j ∧ (stB S j).2.2.length = cnt j ∧ szM (stB S j).2.2) →
    ∃ S' x', pAll (pcT T) (n + ms.length) (i, S, x) = pAll (pcT T) n ((a ++ msA ms).length, S', x') ∧ stN S' = nb ∧ stL S' = nI lim ∧ stM S' = stM S ∧ ∀ j, j < nb → (stB S' j).1 = bJ j ∧ (stB S' j).2.2.length = cnM ms cnt j ∧ szM (stB S' j).2.2 := by
  intro ms
  induction ms with
  | nil =>
    intro n a z i S cnt x hc e hi hn hL hS
    exact ⟨S, x, by rw [msA, List.append_nil, hi]; rfl, hn, hL, rfl, hS⟩
  | cons m t ih =>
    intro n a z i S cnt x hc e hi hn hL hS
    obtain ⟨⟨⟨c1, c2⟩, ⟨c3, c4⟩, c5⟩, c6⟩ := hc
    rw [msA, List.append_assoc] at e
    obtain ⟨fl, hp⟩ := p_msg hg e hi c1 h3 c3 c4 c5 hlim hL hn (fun j hj => (hS j hj).1) (by rw [(hS m.1 c1).2.1]; exact c2) x
    have hk := kk1 hg (a := a) (w := kwWord 2) (z := (1, [32], [98, nI (97 + m.1)]) :: (1, [32], kwWord 3) :: (2, [32], dgs m.2.1) :: (flP m.2.2 5 0 ++ (3, [], [59]) :: (msA t ++ z))) (by rw [e]; unfold msP; simp) hi
    obtain ⟨S', x', h1, h2⟩ := ih n (a ++ msP m) z (i + (msP m).length) (addMs S m.1 (nI m.2.1) fl) (va_up cnt m.1 (cnt m.1 + 1)) (x.1, true) c6 (by rw [e]; simp) (by rw [hi, List.length_append]) hn hL (fun j hj => by
      show ((va_up (stB S) m.1 ((stB S m.1).1, (stB S m.1).2.1 + 1, (stB S m.1).2.2 ++ [((stB S m.1).2.1, nI m.2.1, fl)])) j).1 = bJ j ∧ ((va_up (stB S) m.1 ((stB S m.1).1, (stB S m.1).2.1 + 1, (stB S m.1).2.2 ++ [((stB S m.1).2.1, nI m.2.1, fl)])) j).2.2.length = va_up cnt m.1 (cnt m.1 + 1) j ∧ szM ((va_up (stB S) m.1 ((stB S m.1).1, (stB S m.1).2.1 + 1, (stB S m.1).2.2 ++ [((stB S m.1).2.1, nI m.2.1, fl)])) j).2.2
      rw [va_up_if, va_up_if]
      by_cases y : j = m.1
      · rw [if_pos y, if_pos y, y]
        obtain ⟨d1, d2, d3⟩ := hS m.1 c1
        refine ⟨d1, ?_, ?_⟩
        · show ((stB S m.1).2.2 ++ [((stB S m.1).2.1, nI m.2.1, fl)]).length = _
          rw [List.length_append, d2]; rfl
        · intro w hw
          have hw : w ∈ ((stB S m.1).2.2 ++ [((stB S m.1).2.1, nI m.2.1, fl)]).map mS := hw
          rw [List.map_append] at hw
          rcases List.mem_append.mp hw with hw | hw
          · exact d3 w hw
          · rw [List.map_singleton] at hw
            rw [List.mem_singleton.mp hw]
            exact sz_n c4
      · rw [if_neg y, if_neg y]; exact hS j hj)
    refine ⟨S', x', ?_, h2⟩
    rw [List.length_cons, ← Nat.add_assoc, pAll, if_neg hk, hp, msA, ← List.append_assoc]
    exact h1
theorem rd_ses (hg : gdT T) {nb : Nat} (h3 : nb ≤ 3) : ∀ (ss : List (Nat × Nat × Nat)) (k n : Nat) (a z : List Pc) (i : Nat) (S : St) (x : Bool × Bool), (∀ j, j < ss.length → (ss.getD j (0, 0, 0)).1 = k + j ∧ (ss.getD j (0, 0, 0)).2.2 < nb) → k + ss.length ≤ 4 → T = a ++ (seA ss ++ z) → i = a.length → stN S = nb → (∀ j, j < nb → (stB S j).1 = bJ j) → stM S = k → (∀ j, j < k → (stS S j).1 = seJ j) →
    ∃ S', pAll (pcT T) (n + ss.length) (i, S, x) = pAll (pcT T) n ((a ++ seA ss).length, S', x) ∧ stB S' = stB S ∧ stN S' = nb ∧ stL S' = stL S ∧ stM S' = k + ss.length ∧ (∀ j, j < k → stS S' j = stS S j) ∧ ∀ j, j < ss.length → sxB (stS S' (k + j)) = itB (ss.getD j (0, 0, 0)) ∧ sxR (stS S' (k + j)) = decide ((ss.getD j (0, 0, 0)).2.1 = 1) := by
  intro ss
  induction ss with
  | nil =>
    intro k n a z i S x _ _ e hi hn hS hm hM
    exact ⟨S, by rw [seA, List.append_nil, hi]; rfl, rfl, hn, rfl, hm, fun _ _ => rfl, fun j hj => absurd hj (Nat.not_lt_zero j)⟩
  | cons s t ih =>
    intro k n a z i S x hq h4 e hi hn hS hm hM
    rw [List.length_cons] at h4
    obtain ⟨q1, q2⟩ := hq 0 (by rw [List.length_cons]; omega)
    have q1 : s.1 = k := q1
    have q2 : s.2.2 < nb := q2
    rw [seA, List.append_assoc] at e
    have hp := p_ses hg e hi (by omega) q2 h3 hn hS (by rw [hm, q1]) (fun j hj => hM j (by omega)) x
    have hk := kk1 hg (a := a) (w := kwWord 4) (z := (1, [32], [115, nI (97 + s.1)]) :: (seW s ++ (3, [], [59]) :: (seA t ++ z))) (by rw [e]; unfold seP; simp) hi
    obtain ⟨V, hV⟩ : ∃ V, V = addSs S (seJ s.1) (itB s) (decide (s.2.1 = 1)) := ⟨_, rfl⟩
    rw [← hV] at hp
    have hVs : ∀ j, stS V j = if j = k then (seJ s.1, itB s, decide (s.2.1 = 1), false, 0, [], [0, 0, 0, 0, 0]) else stS S j := fun j => by
      rw [hV]
      show va_up (stS S) (stM S) _ j = _
      rw [va_up_if, hm]
    obtain ⟨S', h1, h2, h5, h6, h7, h8, h9⟩ := ih (k + 1) n (a ++ seP s) z (i + (seP s).length) V x (fun j hj => by
      have := hq (j + 1) (by rw [List.length_cons]; omega)
      have : (t.getD j (0, 0, 0)).1 = k + (j + 1) ∧ (t.getD j (0, 0, 0)).2.2 < nb := this
      exact ⟨by rw [this.1]; omega, this.2⟩) (by omega) (by rw [e]; simp) (by rw [hi, List.length_append]) (by rw [hV]; exact hn) (fun j hj => by rw [hV]; exact hS j hj) (by rw [hV]; show stM S + 1 = k + 1; rw [hm]) (fun j hj => by
      rw [hVs]
      by_cases y : j = k
      · rw [if_pos y, y, q1]
      · rw [if_neg y]; exact hM j (by omega))
    refine ⟨S', ?_, h2.trans (by rw [hV]; rfl), h5, h6.trans (by rw [hV]; rfl), by rw [h7, List.length_cons]; omega, fun j hj => by rw [h8 j (by omega), hVs, if_neg (by omega)], fun j hj => ?_⟩
    · rw [List.length_cons, ← Nat.add_assoc, pAll, if_neg hk, hp, seA, ← List.append_assoc]
      exact h1
    · cases j with
      | zero =>
        rw [Nat.add_zero, h8 k (by omega), hVs, if_pos rfl]
        exact ⟨rfl, rfl⟩
      | succ j =>
        rw [List.length_cons] at hj
        have := h9 j (by omega)
        rw [show k + 1 + j = k + (j + 1) by omega] at this
        exact this
end
