/-! PURE: what is true of a state that was read -/
def okM (nx : Int32) (ms : Ms) : Prop := ascU 0 ms ∧ ∀ x ∈ ms, mU x < nx ∧ 0 ≤ mS x
/-- a box as a reading leaves it -/
def pBok (b : Bx) : Prop := b.2.1 = nI (b.2.2.length + 1) ∧ okM b.2.1 b.2.2 ∧ b.2.2.length ≤ 30
/-- a session as a reading leaves it -/
def pSok (S : St) (s : Sx) : Prop := ∃ J bx rd, s = (J, bx, rd, false, 0, [], [0, 0, 0, 0, 0]) ∧ okB S bx ∧ (bx = -1 → rd = false)
def pOK (S : St) : Prop := (stN S ≤ 3 ∧ stM S ≤ 4) ∧ (∀ b, b < stN S → pBok (stB S b)) ∧ ∀ k, k < stM S → pSok S (stS S k)
theorem ascU_snoc : ∀ (ms : Ms) (h : Int32) (x : Msg), ascU h ms → (∀ y ∈ ms, mU y < mU x) → h < mU x → ascU h (ms ++ [x]) := by
  intro ms
  induction ms with
  | nil => intro h x _ _ hx; exact ⟨hx, trivial⟩
  | cons y t ih =>
    intro h x ha hy hx
    exact ⟨ha.1, ih (mU y) x ha.2 (fun z hz => hy z (List.mem_cons_of_mem _ hz)) (hy y List.mem_cons_self)⟩
theorem lt_succ_n {u : Int32} {n : Nat} (h : u < nI n) (hn : n + 1 < 2 ^ 31) : u < nI (n + 1) := Int32.lt_trans h (of_eq_true (ltT rfl rfl (Nat.lt_succ_self n) hn))
theorem okM_snoc {n : Nat} {ms : Ms} (h : okM (nI n) ms) (hn : n + 1 < 2 ^ 31) (h1 : 1 ≤ n) (sz fl : Int32) (hz : 0 ≤ sz) : okM (nI (n + 1)) (ms ++ [(nI n, sz, fl)]) := by
  refine ⟨ascU_snoc ms 0 (nI n, sz, fl) h.1 (fun y hy => (h.2 y hy).1) (of_eq_true (ltT (x := 0) (a := 0) (b := n) rfl rfl (by omega) (by omega))), fun x hx => ?_⟩
  rcases List.mem_append.mp hx with hx | hx
  · exact ⟨lt_succ_n (h.2 x hx).1 hn, (h.2 x hx).2⟩
  · rw [List.mem_singleton.mp hx]
    exact ⟨of_eq_true (ltT rfl rfl (Nat.lt_succ_self n) hn), hz⟩
theorem nI_ge0 {n : Nat} (h : n < 2 ^ 31) : (0 : Int32) ≤ nI n := of_eq_true (leT (x := 0) (a := 0) rfl rfl (Nat.zero_le n) h)
theorem okB.up {S T : St} {bx : Int32} (h : okB S bx) (e : stN S ≤ stN T) : okB T bx := by
  rcases h with h | ⟨b, hb, h⟩
  · exact .inl h
  · exact .inr ⟨b, by omega, h⟩
theorem pSok.up {S T : St} {s : Sx} (h : pSok S s) (e : stN S ≤ stN T) : pSok T s := by
  obtain ⟨J, bx, rd, h1, h2, h3⟩ := h
  exact ⟨J, bx, rd, h1, h2.up e, h3⟩
theorem tNum_rng {t : Tk} {lo hi : Nat} (h : tNum t lo hi = 0) : lo ≤ tkV t ∧ tkV t ≤ hi := by
  unfold tNum at h
  by_cases e : tkK t ≠ 2
  · rw [if_pos e] at h; exact absurd h (by decide)
  · rw [if_neg e] at h
    by_cases e2 : lo ≤ tkV t ∧ tkV t ≤ hi
    · exact e2
    · rw [if_neg e2] at h; exact absurd h (by decide)
theorem pLim_pOK {l : List Int32} {P P' : Ps} (h : pLim l P = .inl P') (hp : pOK P.2.1) : pOK P'.2.1 := by
  unfold pLim at h
  by_cases h1 : P.2.2.2 = true
  · rw [if_pos h1] at h; cases h
  · rw [if_neg h1] at h
    by_cases h2 : P.2.2.1 = true
    · rw [if_pos h2] at h; cases h
    · rw [if_neg h2] at h
      by_cases h3 : tNum (toks l (P.1 + 1)) 1 30 = 0
      · rw [if_pos h3] at h; cases h; exact hp
      · rw [if_neg h3] at h; cases h
theorem pBox_pOK {l : List Int32} {P P' : Ps} (h : pBox l P = .inl P') (hp : pOK P.2.1) : pOK P'.2.1 := by
  obtain ⟨⟨a1, a2⟩, a3, a4⟩ := hp
  unfold pBox at h
  by_cases h1 : stN P.2.1 = 3
  · rw [if_pos h1] at h; cases h
  · rw [if_neg h1] at h
    by_cases h2 : tName l (toks l (P.1 + 1)) = false
    · rw [if_pos h2] at h; cases h
    · rw [if_neg h2] at h
      by_cases h3 : bnm P.2.1 (nmOf l (toks l (P.1 + 1))) = -1
      · rw [if_pos h3] at h
        cases h
        refine ⟨⟨by show stN P.2.1 + 1 ≤ 3; omega, a2⟩, fun b hb => ?_, fun k hk => (a4 k hk).up (by show stN P.2.1 ≤ stN P.2.1 + 1; omega)⟩
        have hb : b < stN P.2.1 + 1 := hb
        show pBok (va_up (stB P.2.1) (stN P.2.1) (nmOf l (toks l (P.1 + 1)), 1, []) b)
        by_cases e : b = stN P.2.1
        · rw [e, va_up_s]
          exact ⟨rfl, ⟨trivial, fun x hx => nomatch hx⟩, Nat.zero_le _⟩
        · rw [va_up_n _ _ e]; exact a3 b (by omega)
      · rw [if_neg h3] at h; cases h
theorem pMsg_pOK {l : List Int32} {P P' : Ps} (h : pMsg l P = .inl P') (hp : pOK P.2.1) (hL : okL P) : pOK P'.2.1 := by
  obtain ⟨⟨a1, a2⟩, a3, a4⟩ := hp
  obtain ⟨L, l1, l2, l3⟩ := hL
  unfold pMsg at h
  simp only at h
  by_cases h1 : tName l (toks l (P.1 + 1)) = false
  · rw [if_pos h1] at h; cases h
  · rw [if_neg h1] at h
    by_cases h2 : bnm P.2.1 (nmOf l (toks l (P.1 + 1))) = -1
    · rw [if_pos h2] at h; cases h
    · rw [if_neg h2] at h
      obtain ⟨k, hk, -, hk2⟩ := bnm_in h2 a1
      rw [hk2] at h
      obtain ⟨b1, b2, b3⟩ := a3 k hk
      by_cases h3 : stL P.2.1 ≤ nI (stB P.2.1 k).2.2.length
      · rw [if_pos h3] at h; cases h
      · rw [if_neg h3] at h
        rw [l1, leI rfl rfl (show L < 2 ^ 31 by omega) (show (stB P.2.1 k).2.2.length < 2 ^ 31 by omega)] at h3
        by_cases h4 : tKw l (toks l (P.1 + 1 + 1)) 3 = false
        · rw [if_pos h4] at h; cases h
        · rw [if_neg h4] at h
          by_cases h5 : tNum (toks l (P.1 + 1 + 2)) 1 9999 ≠ 0
          · rw [if_pos h5] at h; cases h
          · rw [if_neg h5] at h
            have hv := tNum_rng (Decidable.not_not.mp h5)
            cases h6 : pFlg l 700 (P.1 + 1 + 3) 0 with
            | inr e => rw [h6] at h; cases h
            | inl y =>
              rw [h6] at h
              obtain ⟨j2, fl⟩ := y
              cases h
              refine ⟨⟨a1, a2⟩, fun b hb => ?_, fun k hk => (a4 k hk).up (Nat.le_refl _)⟩
              show pBok (va_up (stB P.2.1) k ((stB P.2.1 k).1, (stB P.2.1 k).2.1 + 1, (stB P.2.1 k).2.2 ++ [((stB P.2.1 k).2.1, nI (tkV (toks l (P.1 + 1 + 2))), fl)]) b)
              by_cases e : b = k
              · subst e
                rw [va_up_s, b1]
                rw [b1] at b2
                refine ⟨?_, ?_, ?_⟩
                · show nI ((stB P.2.1 b).2.2.length + 1) + 1 = nI (((stB P.2.1 b).2.2 ++ [_]).length + 1)
                  rw [nI_1, List.length_append, List.length_singleton]
                · show okM (nI ((stB P.2.1 b).2.2.length + 1) + 1) _
                  rw [nI_1]
                  exact okM_snoc b2 (by omega) (by omega) _ _ (nI_ge0 (by omega))
                · show ((stB P.2.1 b).2.2 ++ [_]).length ≤ 30
                  rw [List.length_append, List.length_singleton]; omega
              · rw [va_up_n _ _ e]; exact a3 b hb
theorem pOK_ses {S : St} (hp : pOK S) (h4 : stM S ≠ 4) {J : Int64} {bx : Int32} {rd : Bool} (hb : okB S bx) (hr : bx = -1 → rd = false) : pOK (addSs S J bx rd) := by
  obtain ⟨⟨a1, a2⟩, a3, a4⟩ := hp
  refine ⟨⟨a1, by show stM S + 1 ≤ 4; omega⟩, a3, fun k hk => ?_⟩
  have hk : k < stM S + 1 := hk
  show pSok (addSs S J bx rd) (va_up (stS S) (stM S) (J, bx, rd, false, 0, [], [0, 0, 0, 0, 0]) k)
  by_cases e : k = stM S
  · rw [e, va_up_s]
    exact ⟨J, bx, rd, rfl, hb, hr⟩
  · rw [va_up_n _ _ e]; exact (a4 k (by omega)).up (Nat.le_refl _)
theorem pSes_pOK {l : List Int32} {P P' : Ps} (h : pSes l P = .inl P') (hp : pOK P.2.1) : pOK P'.2.1 := by
  unfold pSes at h
  simp only at h
  by_cases h1 : stM P.2.1 = 4
  · rw [if_pos h1] at h; cases h
  · rw [if_neg h1] at h
    by_cases h2 : tName l (toks l (P.1 + 1)) = false
    · rw [if_pos h2] at h; cases h
    · rw [if_neg h2] at h
      by_cases h3 : snm P.2.1 (nmOf l (toks l (P.1 + 1))) ≠ -1
      · rw [if_pos h3] at h; cases h
      · rw [if_neg h3] at h
        obtain ⟨q, hq⟩ : ∃ q, q = if tKw l (toks l (P.1 + 1 + 1)) 5 = true then P.1 + 1 + 2 else P.1 + 1 + 1 := ⟨_, rfl⟩
        rw [← hq] at h
        by_cases h4 : tKw l (toks l (P.1 + 1 + 1)) 5 = false ∧ tSym (toks l q) 59 = true
        · rw [if_pos h4] at h; cases h; exact pOK_ses hp h1 (.inl rfl) (fun _ => rfl)
        · rw [if_neg h4] at h
          by_cases h5 : tName l (toks l q) = false
          · rw [if_pos h5] at h; cases h
          · rw [if_neg h5] at h
            by_cases h6 : bnm P.2.1 (nmOf l (toks l q)) = -1
            · rw [if_pos h6] at h; cases h
            · rw [if_neg h6] at h; cases h; exact pOK_ses hp h1 (bnm_ok _ _) (fun z => absurd z h6)
theorem pSta_pOK {l : List Int32} {P P' : Ps} (h : pSta l P = .inl P') (hL : okL P) (hp : pOK P.2.1) : pOK P'.2.1 := by
  have key : ∀ x : Ps ⊕ Er, pSem l x = .inl P' → (∀ Q, x = .inl Q → pOK Q.2.1) → pOK P'.2.1 := by
    intro x hx hq
    cases x with
    | inr e => cases hx
    | inl Q =>
      have g1 := hq Q rfl
      unfold pSem at hx
      simp only at hx
      by_cases e : tSym (toks l Q.1) 59 = true
      · rw [if_pos e] at hx; cases hx; exact g1
      · rw [if_neg e] at hx; cases hx
  unfold pSta at h
  refine key _ h (fun Q hQ => ?_)
  by_cases h0 : tKw l (toks l P.1) 0 = true
  · rw [if_pos h0] at hQ; exact pLim_pOK hQ hp
  · rw [if_neg h0] at hQ
    by_cases h1 : tKw l (toks l P.1) 1 = true
    · rw [if_pos h1] at hQ; exact pBox_pOK hQ hp
    · rw [if_neg h1] at hQ
      by_cases h2 : tKw l (toks l P.1) 2 = true
      · rw [if_pos h2] at hQ; exact pMsg_pOK hQ hp hL
      · rw [if_neg h2] at hQ
        by_cases h4 : tKw l (toks l P.1) 4 = true
        · rw [if_pos h4] at hQ; exact pSes_pOK hQ hp
        · rw [if_neg h4] at hQ; cases hQ
theorem pAll_pOK {l : List Int32} : ∀ (n : Nat) (P P' : Ps), pAll l n P = .inl P' → okL P → pOK P.2.1 → okL P' ∧ pOK P'.2.1 := by
  intro n
  induction n with
  | zero => intro P P' h hL hp; cases h; exact ⟨hL, hp⟩
  | succ n ih =>
    intro P P' h hL hp
    rw [pAll] at h
    by_cases e : tkK (toks l P.1) = 0
    · rw [if_pos e] at h; cases h; exact ⟨hL, hp⟩
    · rw [if_neg e] at h
      cases hs : pSta l P with
      | inr er => rw [hs] at h; cases h
      | inl Q =>
        rw [hs] at h
        exact ih Q P' h (pSta_ok hs hL).2 (pSta_pOK hs hL hp)
theorem pTxt_pOK {l : List Int32} {S : St} {P' : Ps} (h : pTxt l S = .inl P') (hL : okL (0, S, false, false)) (hp : pOK S) : okL P' ∧ pOK P'.2.1 := by
  unfold pTxt at h
  cases hs : pSta l (0, S, false, false) with
  | inr er => rw [hs] at h; cases h
  | inl Q =>
    rw [hs] at h
    exact pAll_pOK 700 Q P' h (pSta_ok hs hL).2 (pSta_pOK hs hL hp)
theorem clr_pOK (S : St) : pOK (clr S) ∧ okL (0, clr S, false, false) := ⟨⟨⟨by show 0 ≤ 3; omega, by show 0 ≤ 4; omega⟩, fun b hb => absurd hb (Nat.not_lt_zero _), fun k hk => absurd hk (Nat.not_lt_zero _)⟩, 30, rfl, by omega, by omega⟩
/-! what holds of a state at rest, after c calls -/
def okBx (c : Nat) (b : Bx) : Prop := (∃ n : Nat, b.2.1 = nI n ∧ 1 ≤ n ∧ n ≤ 1000 + 60 * c) ∧ okM b.2.1 b.2.2 ∧ b.2.2.length ≤ 30
def ascE (es : List En) : Prop := es.Pairwise (fun a b => eU a < eU b)
/-- entries up to a uid -/
def okEs (hi : Int32) (es : List En) : Prop := ascE es ∧ (∀ e ∈ es, 0 < eU e ∧ eU e ≤ hi) ∧ 0 ≤ hi
def okE (S : St) (s : Sx) : Prop := okV S s ∧ (sxC s).length = 5 ∧ (sxE s).length ≤ 60 ∧ okEs (sxH s) (sxE s) ∧ ∀ b, b < stN S → sxB s = nI b → sxH s < (stB S b).2.1
def okS (c : Nat) (S : St) : Prop := (∃ L, stL S = nI L ∧ 1 ≤ L ∧ L ≤ 30) ∧ (stN S ≤ 3 ∧ stM S ≤ 4) ∧ (∀ b, b < stN S → okBx c (stB S b)) ∧ ∀ k, k < stM S → okE S (stS S k)
theorem nw_ok {nx : Int32} : ∀ (ms : Ms) (hi : Int32) (es : List En), okEs hi es → hi < nx → (∀ x ∈ ms, mU x < nx) → okEs (nw hi es ms).1 (nw hi es ms).2 ∧ (nw hi es ms).1 < nx ∧ (es.length ≤ 60 → (nw hi es ms).2.length ≤ 60) := by
  intro ms
  induction ms with
  | nil => intro hi es h h1 h2; exact ⟨h, h1, id⟩
  | cons x t ih =>
    intro hi es h h1 h2
    have h2t : ∀ y ∈ t, mU y < nx := fun y hy => h2 y (List.mem_cons_of_mem _ hy)
    rw [nw]
    by_cases e1 : es.length < 60
    · rw [if_pos e1]
      by_cases e2 : newer hi x = true
      · rw [if_pos e2]
        have hlt : hi < mU x := by
          simp only [newer, Bool.not_eq_true', decide_eq_false_iff_not] at e2
          exact Int32.not_le.mp e2
        obtain ⟨g1, g2, g3⟩ := h
        have hle : hi ≤ mU x := Int32.le_of_lt hlt
        have hn : okEs (mU x) (es ++ [(mU x, mF x)]) := by
          refine ⟨List.pairwise_append.mpr ⟨g1, List.pairwise_singleton _ _, fun a ha b hb => ?_⟩, fun e he => ?_, Int32.le_trans g3 hle⟩
          · rw [List.mem_singleton.mp hb]
            exact Int32.lt_of_le_of_lt (g2 a ha).2 hlt
          · rcases List.mem_append.mp he with he | he
            · exact ⟨(g2 e he).1, Int32.le_trans (g2 e he).2 hle⟩
            · rw [List.mem_singleton.mp he]
              exact ⟨Int32.lt_of_le_of_lt g3 hlt, Int32.le_refl _⟩
        obtain ⟨k1, k2, k3⟩ := ih (mU x) (es ++ [(mU x, mF x)]) hn (h2 x List.mem_cons_self) h2t
        exact ⟨k1, k2, fun _ => k3 (by rw [List.length_append, List.length_singleton]; omega)⟩
      · rw [if_neg e2]
        obtain ⟨k1, k2, k3⟩ := ih hi es h h1 h2t
        exact ⟨k1, k2, k3⟩
    · rw [if_neg e1]
      exact ⟨h, h1, id⟩
theorem okEs_0 : okEs 0 [] := ⟨List.Pairwise.nil, fun e he => (nomatch he), Int32.le_refl _⟩
theorem n_pos {n : Nat} (h : 1 ≤ n) (hn : n < 2 ^ 31) : (0 : Int32) < nI n := of_eq_true (ltT (x := 0) (a := 0) rfl rfl h hn)
/-- the state after the sessions entered -/
def entS (S : St) : St := (stL S, stN S, stM S, stB S, fun k => ent S (stS S k))
theorem entS_ok {S : St} (hL : ∃ L, stL S = nI L ∧ 1 ≤ L ∧ L ≤ 30) (hp : pOK S) : okS 0 (entS S) := by
  obtain ⟨⟨a1, a2⟩, a3, a4⟩ := hp
  refine ⟨hL, ⟨a1, a2⟩, fun b hb => ?_, fun k hk => ?_⟩
  · obtain ⟨b1, b2, b3⟩ := a3 b hb
    exact ⟨⟨_, b1, by omega, by omega⟩, b2, b3⟩
  · obtain ⟨J, bx, rd, s1, s2, s3⟩ := a4 k hk
    show okE (entS S) (ent S (stS S k))
    rw [s1]
    rcases s2 with rfl | ⟨b, hb, rfl⟩
    · have : ent S (J, -1, rd, false, 0, [], [0, 0, 0, 0, 0]) = (J, -1, rd, false, 0, [], [0, 0, 0, 0, 0]) := if_pos rfl
      rw [this]
      refine ⟨⟨.inl rfl, fun _ => rfl⟩, rfl, Nat.zero_le _, okEs_0, fun b hb z => ?_⟩
      have z : (-1 : Int32) = nI b := z
      exact absurd z.symm (by rw [nI_m1 (by have hb : b < stN S := hb; omega)]; exact id)
    · obtain ⟨b1, b2, b3⟩ := a3 b hb
      have hbf : bof S (nI b) = (stB S b).2.2 := bof_in (by omega)
      have hne : ¬ (sxB (J, nI b, rd, false, 0, [], [0, 0, 0, 0, 0]) = -1) := by
        show ¬ (nI b = -1)
        rw [nI_m1 (by omega)]; exact id
      have : ent S (J, nI b, rd, false, 0, [], [0, 0, 0, 0, 0]) = (J, nI b, rd, false, (nw 0 [] (stB S b).2.2).1, (nw 0 [] (stB S b).2.2).2, [0, 0, 0, 0, 0]) := by
        rw [ent, if_neg hne]
        show (J, nI b, rd, false, (nw 0 [] (bof S (nI b))).1, (nw 0 [] (bof S (nI b))).2, ([0, 0, 0, 0, 0] : List Int32)) = _
        rw [hbf]
      rw [this]
      obtain ⟨k1, k2, k3⟩ := nw_ok (nx := (stB S b).2.1) (stB S b).2.2 0 [] okEs_0 (by rw [b1]; exact n_pos (by omega) (by omega)) (fun x hx => (b2.2 x hx).1)
      refine ⟨⟨.inr ⟨b, hb, rfl⟩, fun z => absurd z hne⟩, rfl, k3 (Nat.zero_le _), k1, fun b' hb' z => ?_⟩
      have z : nI b = nI b' := z
      have hb' : b' < stN S := hb'
      obtain rfl : b = b' := (nI_eq (by omega) (by omega)).mp z
      exact k2
