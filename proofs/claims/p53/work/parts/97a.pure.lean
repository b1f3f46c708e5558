/-! PURE: telling keeps what holds; how many notices it makes -/
theorem cE_U (ms : Ms) (es : List En) : (cE ms es).map eU = es.map eU := by
  unfold cE
  rw [List.map_map]
  refine List.map_congr_left (fun e _ => ?_)
  show eU (if chg ms e = true then (eU e, flg ms e) else e) = eU e
  split <;> rfl
theorem ascE_iff (es : List En) : ascE es ↔ (es.map eU).Pairwise (fun a b => a < b) := by unfold ascE; rw [List.pairwise_map]
theorem okEs_kept {hi : Int32} {ms : Ms} {es : List En} (h : okEs hi es) : okEs hi (kept ms es) := ⟨List.Pairwise.filter _ h.1, fun e he => h.2.1 e (List.mem_filter.mp he).1, h.2.2⟩
theorem cE_el (ms : Ms) (e : En) : eU (if chg ms e = true then (eU e, flg ms e) else e) = eU e := by split <;> rfl
theorem okEs_cE {hi : Int32} {ms : Ms} {es : List En} (h : okEs hi es) : okEs hi (cE ms es) := by
  refine ⟨(ascE_iff _).mpr (by rw [cE_U]; exact (ascE_iff _).mp h.1), fun e he => ?_, h.2.2⟩
  obtain ⟨e0, h0, rfl⟩ := List.mem_map.mp he
  rw [cE_el]; exact h.2.1 e0 h0
theorem cE_len (ms : Ms) (es : List En) : (cE ms es).length = es.length := List.length_map _
theorem kept_cnt (ms : Ms) : ∀ es : List En, es.countP (gone ms) + (kept ms es).length = es.length := by
  intro es
  induction es with
  | nil => rfl
  | cons e t ih =>
    rw [List.countP_cons, List.length_cons]
    cases hg : gone ms e with
    | true =>
      have : kept ms (e :: t) = kept ms t := by unfold kept; rw [List.filter_cons, hg]; rfl
      rw [this]; simp only [if_true]; omega
    | false =>
      have : kept ms (e :: t) = e :: kept ms t := by unfold kept; rw [List.filter_cons, hg]; rfl
      rw [this, List.length_cons]; simp only [Bool.false_eq_true, if_false]; omega
theorem wN_len (me : Int32) (es es' : List En) : (wN me es es').length ≤ 1 := by
  unfold wN
  split
  · exact Nat.zero_le _
  · exact Nat.le_refl _
theorem tlS_len (al : Bool) (me : Int32) (ms : Ms) (s : Sx) (h : (sxE s).length ≤ 60) : (tlS al me ms s).2.length ≤ 61 := by
  rw [tlS_n2, List.length_append, List.length_append, cN_len]
  have hw := wN_len me (cE ms (tlG al me ms (sxE s) (sxC s)).1) (nw (sxH s) (cE ms (tlG al me ms (sxE s) (sxC s)).1) ms).2
  have hc : (tlG al me ms (sxE s) (sxC s)).1.countP (chg ms) ≤ (tlG al me ms (sxE s) (sxC s)).1.length := List.countP_le_length
  have hg : (tlG al me ms (sxE s) (sxC s)).2.2.length + (tlG al me ms (sxE s) (sxC s)).1.length ≤ 60 := by
    cases al with
    | false => show 0 + (sxE s).length ≤ 60; omega
    | true =>
      show (gN ms me 1 (sxE s)).length + (kept ms (sxE s)).length ≤ 60
      rw [gN_len, kept_cnt]; exact h
  omega
theorem nw_60 : ∀ (ms : Ms) (hi : Int32) (es : List En), es.length ≤ 60 → (nw hi es ms).2.length ≤ 60 := by
  intro ms
  induction ms with
  | nil => intro hi es h; exact h
  | cons x t ih =>
    intro hi es h
    rw [nw]
    by_cases e1 : es.length < 60
    · rw [if_pos e1]
      by_cases e2 : newer hi x = true
      · rw [if_pos e2]; exact ih _ _ (by rw [List.length_append, List.length_singleton]; omega)
      · rw [if_neg e2]; exact ih _ _ h
    · rw [if_neg e1]; exact h
def okNt (x : Nt) : Prop := (∃ a : Nat, a < 4 ∧ n0 x = nI a) ∧ ∃ b : Nat, b < 100 ∧ n2 x = nI b
theorem gN_ok (ms : Ms) {k : Nat} (hk : k < 4) : ∀ (es : List En) (n : Nat), n + es.length ≤ 99 → ∀ x ∈ gN ms (nI k) n es, okNt x := by
  intro es
  induction es with
  | nil => intro n _ x hx; exact nomatch hx
  | cons e t ih =>
    intro n hn x hx
    rw [List.length_cons] at hn
    rw [gN] at hx
    by_cases hg : gone ms e = true
    · rw [if_pos hg] at hx
      rcases List.mem_cons.mp hx with rfl | hx
      · exact ⟨⟨k, hk, rfl⟩, n, by omega, rfl⟩
      · exact ih n (by omega) x hx
    · rw [if_neg hg] at hx; exact ih (n + 1) (by omega) x hx
theorem cN_ok (ms : Ms) {k : Nat} (hk : k < 4) : ∀ (es : List En) (n : Nat), n + es.length ≤ 99 → ∀ x ∈ cN ms (nI k) n es, okNt x := by
  intro es
  induction es with
  | nil => intro n _ x hx; exact nomatch hx
  | cons e t ih =>
    intro n hn x hx
    rw [List.length_cons] at hn
    rw [cN] at hx
    by_cases hg : chg ms e = true
    · rw [if_pos hg] at hx
      rcases List.mem_cons.mp hx with rfl | hx
      · exact ⟨⟨k, hk, rfl⟩, n, by omega, rfl⟩
      · exact ih (n + 1) (by omega) x hx
    · rw [if_neg hg] at hx; exact ih (n + 1) (by omega) x hx
theorem tlG_len (al : Bool) (me : Int32) (ms : Ms) (es : List En) (cn : List Int32) : (tlG al me ms es cn).1.length ≤ es.length := by
  cases al with
  | false => exact Nat.le_refl _
  | true => exact List.length_filter_le _ _
theorem tlS_nt (al : Bool) {k : Nat} (hk : k < 4) (ms : Ms) (s : Sx) (h : (sxE s).length ≤ 60) : ∀ x ∈ (tlS al (nI k) ms s).2, okNt x := by
  intro x hx
  rw [tlS_n2] at hx
  have hg := tlG_len al (nI k) ms (sxE s) (sxC s)
  rcases List.mem_append.mp hx with hx | hx
  · cases al with
    | false => exact nomatch hx
    | true => exact gN_ok ms hk (sxE s) 1 (by omega) x hx
  · rcases List.mem_append.mp hx with hx | hx
    · exact cN_ok ms hk _ 1 (by omega) x hx
    · unfold wN at hx
      split at hx
      · exact nomatch hx
      · rw [List.mem_singleton.mp hx]
        have h6 := nw_60 ms (sxH s) (cE ms (tlG al (nI k) ms (sxE s) (sxC s)).1) (by rw [cE_len]; omega)
        exact ⟨⟨k, hk, rfl⟩, _, by omega, rfl⟩
theorem tlS_okE {c : Nat} {S : St} (hB : ∀ b, b < stN S → okBx c (stB S b)) (h3 : stN S ≤ 3) {s : Sx} (h : okE S s) (al : Bool) (me : Int32) : okE S (tlS al me (bof S (sxB s)) s).1 := by
  obtain ⟨⟨h1, h2⟩, h4, h5, h6, h7⟩ := id h
  rcases h1 with hb | ⟨b, hb, hbx⟩
  · rw [hb, bof_no, tlS_none al me (h2 hb)]; exact h
  · have hms : bof S (sxB s) = (stB S b).2.2 := by rw [hbx]; exact bof_in (by omega)
    obtain ⟨⟨n, n1, n2, n3⟩, hM, hl30⟩ := hB b hb
    have hg : okEs (sxH s) (tlG al me (bof S (sxB s)) (sxE s) (sxC s)).1 := by
      cases al with
      | false => exact h6
      | true => exact okEs_kept h6
    have hgl := tlG_len al me (bof S (sxB s)) (sxE s) (sxC s)
    obtain ⟨k1, k2, k3⟩ := nw_ok (nx := (stB S b).2.1) (bof S (sxB s)) (sxH s) (cE (bof S (sxB s)) (tlG al me (bof S (sxB s)) (sxE s) (sxC s)).1) (okEs_cE hg) (h7 b hb hbx) (fun x hx => by rw [hms] at hx; exact (hM.2 x hx).1)
    refine ⟨⟨.inr ⟨b, hb, hbx⟩, fun z => ?_⟩, by rw [tlS_C]; exact h4, k3 (by rw [cE_len]; omega), k1, fun b' hb' z => ?_⟩
    · have z : sxB s = -1 := z
      rw [hbx, nI_m1 (by omega)] at z
      exact z.elim
    · have z : sxB s = nI b' := z
      rw [hbx] at z
      obtain rfl : b = b' := (nI_eq (by omega) (by omega)).mp z
      exact k2
section
variable {c : Nat} {S : St}
theorem okS.all (h : okS c S) : okAll S := fun k hk => ⟨(h.2.2.2 k hk).1, (h.2.2.2 k hk).2.1⟩
theorem okS.v (h : okS c S) : ∀ k, k < stM S → okV S (stS S k) := fun k hk => (h.2.2.2 k hk).1
theorem okS.wf (h : okS c S) : wfS S := fun k hk => (h.2.2.2 k hk).1.1
theorem okS.setS (h : okS c S) {k : Nat} {x : Sx} (hx : okE S x) : okS c (setSx S k x) := by
  refine ⟨h.1, h.2.1, h.2.2.1, fun j hj => ?_⟩
  have hj : j < stM S := hj
  show okE S (va_up (stS S) k x j)
  by_cases e : j = k
  · rw [e, va_up_s]; exact hx
  · rw [va_up_n _ _ e]; exact h.2.2.2 j hj
theorem okS.tell (h : okS c S) {k : Nat} (hk : k < stM S) (al : Bool) : okS c (setSx S k (tlK al S k).1) := h.setS (tlS_okE h.2.2.1 h.2.1.1 (h.2.2.2 k hk) al (nI k))
theorem okS.tlK_len (h : okS c S) {k : Nat} (hk : k < stM S) (al : Bool) : (tlK al S k).2.length ≤ 61 := tlS_len al (nI k) _ _ (h.2.2.2 k hk).2.2.1
theorem okS.tlK_nt (h : okS c S) {k : Nat} (hk : k < stM S) (al : Bool) : ∀ x ∈ (tlK al S k).2, okNt x := tlS_nt al (by have := h.2.1.2; omega) _ _ (h.2.2.2 k hk).2.2.1
theorem tlI_ok : ∀ (n k : Nat) (S : St) (ns : List Nt), okS c S → k + n ≤ stM S → (∀ x ∈ ns, okNt x) → okS c (tlI n k (S, ns)).1 ∧ (∀ x ∈ (tlI n k (S, ns)).2, okNt x) := by
  intro n
  induction n with
  | zero => intro k S ns h _ hn; exact ⟨h, hn⟩
  | succ n ih =>
    intro k S ns h hk hn
    have hs : tlI (n + 1) k (S, ns) = tlI n (k + 1) (if sxI (stS S k) = true then (setSx S k (tlK true S k).1, ns ++ (tlK true S k).2) else (S, ns)) := rfl
    rw [hs]
    by_cases e : sxI (stS S k) = true
    · rw [if_pos e]
      refine ih (k + 1) _ _ (h.tell (by omega) true) (by show k + 1 + n ≤ stM S; omega) (fun x hx => ?_)
      rcases List.mem_append.mp hx with hx | hx
      · exact hn x hx
      · exact h.tlK_nt (by omega) true x hx
    · rw [if_neg e]
      exact ih (k + 1) S ns h (by omega) hn
def trm (S : St) (j : Nat) : Nat := if sxI (stS S j) = true then (tlK true S j).2.length else 0
def sumT (S : St) : Nat → Nat → Nat
  | _, 0 => 0
  | k, n + 1 => trm S k + sumT S (k + 1) n
theorem sumT_cg {S T : St} (hB : stB S = stB T) : ∀ (n k : Nat), (∀ j, k ≤ j → stS S j = stS T j) → sumT S k n = sumT T k n := by
  intro n
  induction n with
  | zero => intro k _; rfl
  | succ n ih =>
    intro k h
    rw [sumT, sumT, ih (k + 1) (fun j hj => h j (by omega))]
    have : trm S k = trm T k := by
      unfold trm tlK bof
      rw [h k (Nat.le_refl k), hB]
    rw [this]
theorem tlI_sum : ∀ (n k : Nat) (S : St) (ns : List Nt), (tlI n k (S, ns)).2.length = ns.length + sumT S k n := by
  intro n
  induction n with
  | zero => intro k S ns; rfl
  | succ n ih =>
    intro k S ns
    have hs : tlI (n + 1) k (S, ns) = tlI n (k + 1) (if sxI (stS S k) = true then (setSx S k (tlK true S k).1, ns ++ (tlK true S k).2) else (S, ns)) := rfl
    rw [hs, sumT]
    by_cases e : sxI (stS S k) = true
    · rw [if_pos e, ih, List.length_append, trm, if_pos e]
      have : sumT (setSx S k (tlK true S k).1) (k + 1) n = sumT S (k + 1) n := sumT_cg (S := setSx S k (tlK true S k).1) (T := S) rfl n (k + 1) (fun j hj => by
        show va_up (stS S) k _ j = stS S j
        exact va_up_n _ _ (by omega))
      omega
    · rw [if_neg e, ih, trm, if_neg e]; omega
theorem sumT_le (S : St) : ∀ (n k : Nat), (∀ j, k ≤ j → j < k + n → trm S j ≤ 61) → sumT S k n ≤ 61 * n := by
  intro n
  induction n with
  | zero => intro k _; exact Nat.le_refl _
  | succ n ih =>
    intro k h
    have h1 := h k (Nat.le_refl k) (by omega)
    have h2 := ih (k + 1) (fun j j1 j2 => h j (by omega) (by omega))
    rw [sumT]; omega
theorem sumT_le1 (S : St) {k0 : Nat} (h0 : trm S k0 = 0) : ∀ (n k : Nat), (∀ j, k ≤ j → j < k + n → trm S j ≤ 61) → k ≤ k0 → k0 < k + n → sumT S k n + 61 ≤ 61 * n := by
  intro n
  induction n with
  | zero => intro k _ h1 h2; omega
  | succ n ih =>
    intro k h h1 h2
    rw [sumT]
    by_cases e : k = k0
    · rw [e, h0]
      have := sumT_le S n (k0 + 1) (fun j j1 j2 => h j (by omega) (by omega))
      omega
    · have := ih (k + 1) (fun j j1 j2 => h j (by omega) (by omega)) (by omega) (by omega)
      have h3 := h k (Nat.le_refl k) (by omega)
      omega
theorem okS.trm61 (h : okS c S) {j : Nat} (hj : j < stM S) : trm S j ≤ 61 := by
  unfold trm
  split
  · exact h.tlK_len hj true
  · omega
/-- nothing of its own: the idle alone -/
theorem okS.idle244 (h : okS c S) : (tlI (stM S) 0 (S, [])).2.length ≤ 244 := by
  have h4 := h.2.1.2
  have := sumT_le S (stM S) 0 (fun j _ j2 => h.trm61 (by omega))
  rw [tlI_sum]
  show 0 + _ ≤ 244
  omega
def endS (al : Bool) (S : St) (k : Nat) (ns : List Nt) : St × List Nt := tlI (stM S) 0 (setSx S k (tlK al S k).1, ns ++ (tlK al S k).2)
theorem okS.end244 (h : okS c S) {k : Nat} (hk : k < stM S) (al : Bool) (h0 : trm (setSx S k (tlK al S k).1) k = 0) : (endS al S k []).2.length ≤ 244 := by
  have h4 := h.2.1.2
  have h1 := h.tell hk al
  have h2 := sumT_le1 (setSx S k (tlK al S k).1) h0 (stM S) 0 (fun j _ j2 => h1.trm61 (by show j < stM S; omega)) (Nat.zero_le _) (by omega)
  have h3 := h.tlK_len hk al
  unfold endS
  rw [tlI_sum]
  show ([] ++ (tlK al S k).2).length + _ ≤ 244
  rw [List.nil_append]
  omega
theorem trm_awake {al : Bool} {k : Nat} (hi : sxI (stS S k) = false) : trm (setSx S k (tlK al S k).1) k = 0 := by
  unfold trm
  rw [stS_set]
  have : sxI (tlK al S k).1 = sxI (stS S k) := rfl
  rw [this, hi]
  rfl
theorem okS.endOk (h : okS c S) {k : Nat} (hk : k < stM S) (al : Bool) : okS c (endS al S k []).1 ∧ ∀ x ∈ (endS al S k []).2, okNt x :=
  tlI_ok (stM S) 0 _ _ (h.tell hk al) (by show 0 + stM S ≤ stM S; omega) (fun x hx => h.tlK_nt hk al x (by rwa [List.nil_append] at hx))
end
/-! told twice -/
theorem nw_ge : ∀ (ms : Ms) (hi : Int32) (es : List En), hi ≤ (nw hi es ms).1 := by
  intro ms
  induction ms with
  | nil => intro hi es; exact Int32.le_refl _
  | cons x t ih =>
    intro hi es
    rw [nw]
    by_cases e1 : es.length < 60
    · rw [if_pos e1]
      by_cases e2 : newer hi x = true
      · rw [if_pos e2]
        have hlt : hi < mU x := by
          simp only [newer, Bool.not_eq_true', decide_eq_false_iff_not] at e2
          exact Int32.not_le.mp e2
        exact Int32.le_trans (Int32.le_of_lt hlt) (ih _ _)
      · rw [if_neg e2]; exact ih _ _
    · rw [if_neg e1]; exact Int32.le_refl _
theorem nw_done : ∀ (ms : Ms) (hi : Int32) (es : List En), 60 ≤ (nw hi es ms).2.length ∨ ∀ x ∈ ms, newer (nw hi es ms).1 x = false := by
  intro ms
  induction ms with
  | nil => intro hi es; exact .inr (fun x hx => nomatch hx)
  | cons x t ih =>
    intro hi es
    have fin : ∀ r : Int32, mU x ≤ r → newer r x = false := fun r h => by unfold newer; rw [decide_eq_true h]; rfl
    rw [nw]
    by_cases e1 : es.length < 60
    · rw [if_pos e1]
      by_cases e2 : newer hi x = true
      · rw [if_pos e2]
        rcases ih (mU x) (es ++ [(mU x, mF x)]) with h | h
        · exact .inl h
        · refine .inr (fun y hy => ?_)
          rcases List.mem_cons.mp hy with rfl | hy
          · exact fin _ (nw_ge _ _ _)
          · exact h y hy
      · rw [if_neg e2]
        rcases ih hi es with h | h
        · exact .inl h
        · refine .inr (fun y hy => ?_)
          rcases List.mem_cons.mp hy with rfl | hy
          · have hle : mU y ≤ hi := by
              simp only [newer, Bool.not_eq_true', decide_eq_false_iff_not, Decidable.not_not] at e2
              exact e2
            exact fin _ (Int32.le_trans hle (nw_ge _ _ _))
          · exact h y hy
    · rw [if_neg e1]; exact .inl (by show 60 ≤ es.length; omega)
theorem nw_stop : ∀ (ms : Ms) (hi : Int32) (es : List En), (60 ≤ es.length ∨ ∀ x ∈ ms, newer hi x = false) → nw hi es ms = (hi, es) := by
  intro ms
  induction ms with
  | nil => intro hi es _; rfl
  | cons x t ih =>
    intro hi es h
    rw [nw]
    by_cases e1 : es.length < 60
    · rw [if_pos e1]
      rcases h with h | h
      · omega
      · rw [if_neg (by rw [h x List.mem_cons_self]; decide)]
        exact ih hi es (.inr (fun y hy => h y (List.mem_cons_of_mem _ hy)))
    · rw [if_neg e1]
theorem nw_mem : ∀ (ms : Ms) (hi : Int32) (es : List En), ∀ e ∈ (nw hi es ms).2, e ∈ es ∨ ∃ x ∈ ms, e = (mU x, mF x) := by
  intro ms
  induction ms with
  | nil => intro hi es e he; exact .inl he
  | cons x t ih =>
    intro hi es e he
    rw [nw] at he
    by_cases e1 : es.length < 60
    · rw [if_pos e1] at he
      by_cases e2 : newer hi x = true
      · rw [if_pos e2] at he
        rcases ih _ _ e he with h | ⟨y, hy, h⟩
        · rcases List.mem_append.mp h with h | h
          · exact .inl h
          · exact .inr ⟨x, List.mem_cons_self, List.mem_singleton.mp h⟩
        · exact .inr ⟨y, List.mem_cons_of_mem _ hy, h⟩
      · rw [if_neg e2] at he
        rcases ih _ _ e he with h | ⟨y, hy, h⟩
        · exact .inl h
        · exact .inr ⟨y, List.mem_cons_of_mem _ hy, h⟩
    · rw [if_neg e1] at he; exact .inl he
theorem ascU_pw : ∀ (ms : Ms) (lo : Int32), ascU lo ms → (∀ x ∈ ms, lo < mU x) ∧ ms.Pairwise (fun a b => mU a < mU b) := by
  intro ms
  induction ms with
  | nil => intro lo _; exact ⟨fun x hx => (nomatch hx), List.Pairwise.nil⟩
  | cons y t ih =>
    intro lo h
    obtain ⟨h1, h2⟩ := ih (mU y) h.2
    refine ⟨fun x hx => ?_, List.pairwise_cons.mpr ⟨h1, h2⟩⟩
    rcases List.mem_cons.mp hx with rfl | hx
    · exact h.1
    · exact Int32.lt_trans h.1 (h1 x hx)
theorem ascU_inj {ms : Ms} {lo : Int32} (h : ascU lo ms) {i j : Nat} (hi : i < ms.length) (hj : j < ms.length) (e : mU (mg ms i) = mU (mg ms j)) : i = j := by
  have hp := List.pairwise_iff_getElem.mp (ascU_pw ms lo h).2
  rw [mg_get hi, mg_get hj] at e
  rcases Nat.lt_trichotomy i j with z | z | z
  · have := hp i j hi hj z
    rw [e] at this
    exact (Int32.lt_irrefl this).elim
  · exact z
  · have := hp j i hj hi z
    rw [e] at this
    exact (Int32.lt_irrefl this).elim
/-- a message of the box is found by its uid -/
theorem mix_of {ms : Ms} {lo : Int32} (h : ascU lo ms) {x : Msg} (hx : x ∈ ms) : ∃ j, mix ms (mU x) = some j ∧ mg ms j = x := by
  obtain ⟨i, hi, rfl⟩ := List.getElem_of_mem hx
  have hg : mg ms i = ms[i] := mg_get hi
  cases hm : mix ms (mU ms[i]) with
  | none =>
    have := ixl_none hm i (by rw [List.length_map]; exact hi)
    rw [mapD mU hi, hg] at this
    exact absurd rfl this
  | some j =>
    have hj := mix_lt hm
    have h2 := (ixl_some hm).2.1
    rw [mapD mU hj] at h2
    obtain rfl : j = i := ascU_inj h hj hi (by rw [h2, hg])
    exact ⟨j, rfl, hg⟩
theorem chg_told {ms : Ms} (e : En) : chg ms (if chg ms e = true then (eU e, flg ms e) else e) = false := by
  cases hc : chg ms e with
  | false => simp only [Bool.false_eq_true, if_false]; exact hc
  | true =>
    simp only [if_true]
    unfold chg at hc ⊢
    show (match mix ms (eU e) with | none => false | some k => _) = false
    cases hm : mix ms (eU e) with
    | none => rfl
    | some k =>
      have : flg ms e = mF (mg ms k) := by unfold flg; rw [hm]
      rw [this]
      simp [eT]
theorem gN_nil {ms : Ms} {me : Int32} : ∀ (es : List En) (n : Nat), (∀ e ∈ es, gone ms e = false) → gN ms me n es = [] ∧ kept ms es = es := by
  intro es
  induction es with
  | nil => intro n _; exact ⟨rfl, rfl⟩
  | cons e t ih =>
    intro n h
    obtain ⟨h1, h2⟩ := ih (n + 1) (fun x hx => h x (List.mem_cons_of_mem _ hx))
    have he := h e List.mem_cons_self
    refine ⟨by rw [gN, if_neg (by rw [he]; decide)]; exact h1, ?_⟩
    unfold kept
    rw [List.filter_cons, he]
    show e :: kept ms t = e :: t
    rw [h2]
theorem cN_nil {ms : Ms} {me : Int32} : ∀ (es : List En) (n : Nat), (∀ e ∈ es, chg ms e = false) → cN ms me n es = [] ∧ cE ms es = es := by
  intro es
  induction es with
  | nil => intro n _; exact ⟨rfl, rfl⟩
  | cons e t ih =>
    intro n h
    obtain ⟨h1, h2⟩ := ih (n + 1) (fun x hx => h x (List.mem_cons_of_mem _ hx))
    have he := h e List.mem_cons_self
    refine ⟨by rw [cN, if_neg (by rw [he]; decide)]; exact h1, ?_⟩
    show (if chg ms e = true then (eU e, flg ms e) else e) :: cE ms t = e :: t
    rw [h2, if_neg (by rw [he]; decide)]
theorem tlS_twice {ms : Ms} (ha : ascU 0 ms) (me : Int32) (s : Sx) : (tlS true me ms (tlS true me ms s).1).2 = [] := by
  obtain ⟨s1, hs1⟩ : ∃ s1, s1 = (tlS true me ms s).1 := ⟨_, rfl⟩
  rw [← hs1]
  have hE : sxE s1 = (nw (sxH s) (cE ms (kept ms (sxE s))) ms).2 := by rw [hs1]; rfl
  have hH : sxH s1 = (nw (sxH s) (cE ms (kept ms (sxE s))) ms).1 := by rw [hs1]; rfl
  have hgc : ∀ e ∈ sxE s1, gone ms e = false ∧ chg ms e = false := by
    intro e he
    rw [hE] at he
    rcases nw_mem _ _ _ e he with h | ⟨x, hx, rfl⟩
    · obtain ⟨e0, h0, rfl⟩ := List.mem_map.mp h
      refine ⟨?_, chg_told e0⟩
      have := (List.mem_filter.mp h0).2
      unfold gone at this ⊢
      rw [cE_el]
      simpa using this
    · obtain ⟨j, hj, hjx⟩ := mix_of ha hx
      refine ⟨?_, ?_⟩
      · show (mix ms (mU x)).isNone = false
        rw [hj]; rfl
      · unfold chg
        show (match mix ms (mU x) with | none => false | some k => _) = false
        rw [hj]
        simp [eT, hjx]
  obtain ⟨g1, g2⟩ := gN_nil (me := me) (sxE s1) 1 (fun e he => (hgc e he).1)
  obtain ⟨c1, c2⟩ := cN_nil (me := me) (sxE s1) 1 (fun e he => (hgc e he).2)
  have hst : nw (sxH s1) (sxE s1) ms = (sxH s1, sxE s1) := nw_stop ms _ _ (by rw [hE, hH]; exact nw_done _ _ _)
  rw [tlS_n2]
  show gN ms me 1 (sxE s1) ++ (cN ms me 1 (kept ms (sxE s1)) ++ wN me (cE ms (kept ms (sxE s1))) (nw (sxH s1) (cE ms (kept ms (sxE s1))) ms).2) = []
  rw [g1, g2, c1, c2, hst]
  show [] ++ ([] ++ wN me (sxE s1) (sxE s1)) = []
  unfold wN
  rw [if_pos rfl]
  rfl
theorem trm_twice {c : Nat} {S : St} (h : okS c S) {k : Nat} (hk : k < stM S) : trm (setSx S k (tlK true S k).1) k = 0 := by
  unfold trm
  split
  · have hb : (tlK true (setSx S k (tlK true S k).1) k) = tlS true (nI k) (bof S (sxB (stS S k))) (tlS true (nI k) (bof S (sxB (stS S k))) (stS S k)).1 := by
      unfold tlK
      rw [stS_set]
      rfl
    have ha : ascU 0 (bof S (sxB (stS S k))) := by
      rcases (h.2.2.2 k hk).1.1 with e | ⟨b, hb, e⟩
      · rw [e, bof_no]; trivial
      · rw [e, bof_in (by have := h.2.1.1; omega)]
        exact (h.2.2.1 b hb).2.1.1
    rw [hb, tlS_twice ha]; rfl
  · rfl
