/-! PURE: copy, move -/
theorem okM_adds : ∀ (l : List (Int32 × Int32)) (n : Nat) (ms : Ms), okM (nI n) ms → 1 ≤ n → n + l.length + 1 < 2 ^ 31 → (∀ x ∈ l, 0 ≤ x.1) → okM (nI (n + l.length)) (ms ++ adds (nI n) l) := by
  intro l
  induction l with
  | nil => intro n ms h _ _ _; rw [adds, List.append_nil]; exact h
  | cons x t ih =>
    intro n ms h h1 h2 hz
    rw [List.length_cons] at h2
    have h3 := okM_snoc h (by omega) h1 x.1 x.2 (hz x List.mem_cons_self)
    have h4 := ih (n + 1) _ h3 (by omega) (by omega) (fun y hy => hz y (List.mem_cons_of_mem _ hy))
    rw [adds, nI_1, List.length_cons, show n + (t.length + 1) = n + 1 + t.length by omega]
    rw [List.append_assoc] at h4
    exact h4
theorem adds_len : ∀ (l : List (Int32 × Int32)) (nx : Int32), (adds nx l).length = l.length := by
  intro l
  induction l with
  | nil => intro nx; rfl
  | cons x t ih => intro nx; rw [adds, List.length_cons, List.length_cons, ih]
theorem okS.cp {c : Nat} {S : St} (h : okS c S) (hc : c ≤ 1000) {t : Nat} (ht : t < stN S) {l : List (Int32 × Int32)} (hl : (stB S t).2.2.length + l.length ≤ 30) (hz : ∀ x ∈ l, 0 ≤ x.1) : okS (c + 1) (setBx S t (cpB (stB S t) l)) := by
  obtain ⟨⟨n, n1, n2, n3⟩, hM, -⟩ := h.2.2.1 t ht
  rw [n1] at hM
  have e : (stB S t).2.1 + nI l.length = nI (n + l.length) := by rw [n1, nI_add]
  refine h.setB (by omega) (b := t) ⟨⟨n + l.length, e, by omega, by omega⟩, ?_, ?_⟩ ?_
  · show okM ((stB S t).2.1 + nI l.length) ((stB S t).2.2 ++ adds (stB S t).2.1 l)
    rw [e, n1]
    exact okM_adds l n _ hM n2 (by omega) hz
  · show ((stB S t).2.2 ++ adds (stB S t).2.1 l).length ≤ 30
    rw [List.length_append, adds_len]; exact hl
  · show (stB S t).2.1 ≤ (stB S t).2.1 + nI l.length
    rw [e, n1]
    exact of_eq_true (leT rfl rfl (Nat.le_add_right n _) (by omega))
theorem cpy_sz {nx : Int32} {ms : Ms} (h : okM nx ms) (es : List En) : ∀ x ∈ cpy ms es, 0 ≤ x.1 := by
  intro x hx
  obtain ⟨e, -, he⟩ := List.mem_filterMap.mp hx
  unfold cpm at he
  cases hm : mix ms (eU e) with
  | none => rw [hm] at he; cases he
  | some k =>
    rw [hm] at he
    have hk := mix_lt hm
    have : x = (mS (mg ms k), mF (mg ms k)) := (Option.some.inj he).symm
    rw [this]
    have hg : mg ms k ∈ ms := by rw [mg, List.getD_eq_getElem?_getD, List.getElem?_eq_getElem hk]; exact List.getElem_mem hk
    exact (h.2 _ hg).2
theorem ok_hq {c : Nat} {S : St} (h : okS c S) (hc : c ≤ 1000) {k b : Nat} (hk : k < stM S) (hb : b < stN S) (hbx : sxB (stS S k) = nI b) : ∀ e ∈ sxE (stS S k), ∀ i, i ≤ 30 → eU e ≠ (stB S b).2.1 + nI i := by
  intro e he i hi z
  obtain ⟨-, -, -, h4, h5⟩ := h.2.2.2 k hk
  obtain ⟨⟨n, n1, n2, n3⟩, -, -⟩ := h.2.2.1 b hb
  have a1 := (h4.2.1 e he).2
  have a2 := h5 b hb hbx
  rw [z, n1, nI_add] at a1
  rw [n1] at a2
  have a3 : nI n ≤ nI (n + i) := of_eq_true (leT rfl rfl (Nat.le_add_right n i) (by omega))
  exact Int32.lt_irrefl (Int32.lt_of_lt_of_le a2 (Int32.le_trans a3 a1))
theorem adds_mem : ∀ (l : List (Int32 × Int32)) (nx : Int32) (x : Msg), x ∈ adds nx l → ∃ i, i < l.length ∧ mU x = nx + nI i := by
  intro l
  induction l with
  | nil => intro nx x hx; exact (nomatch hx)
  | cons y t ih =>
    intro nx x hx
    rw [adds] at hx
    rcases List.mem_cons.mp hx with rfl | hx
    · exact ⟨0, by simp, by rw [nI_0, Int32.add_zero]; rfl⟩
    · obtain ⟨i, hi, e⟩ := ih _ x hx
      refine ⟨i + 1, by rw [List.length_cons]; omega, ?_⟩
      rw [e, Int32.add_assoc, nI_1add, Nat.add_comm]
theorem mem_mix {ms : Ms} {u : Int32} : mix ms u ≠ none ↔ ∃ x ∈ ms, mU x = u := by
  rw [← mix_some_mem]
  constructor
  · rintro ⟨j, hj, e⟩
    refine ⟨mg ms j, ?_, e⟩
    rw [mg, List.getD_eq_getElem?_getD, List.getElem?_eq_getElem hj]; exact List.getElem_mem hj
  · rintro ⟨x, hx, e⟩
    obtain ⟨j, hj, rfl⟩ := List.getElem_of_mem hx
    refine ⟨j, hj, ?_⟩
    rw [mg, List.getD_eq_getElem?_getD, List.getElem?_eq_getElem hj]; exact e
theorem mix_non {ms : Ms} {u : Int32} : mix ms u = none ↔ ∀ x ∈ ms, mU x ≠ u := by
  constructor
  · intro h x hx e
    exact mem_mix.mpr ⟨x, hx, e⟩ h
  · intro h
    cases e : mix ms u with
    | none => rfl
    | some k =>
      obtain ⟨x, hx, z⟩ := mem_mix.mp (show mix ms u ≠ none by rw [e]; exact fun z => nomatch z)
      exact absurd z (h x hx)
theorem rmvU_kept (ms0 : Ms) : ∀ (es : List En) (ms : Ms), (∀ e ∈ es, gone ms0 e = true → mix ms (eU e) = none) → rmvU ms (es.map eU) = rmvU ms ((kept ms0 es).map eU) := by
  intro es
  induction es with
  | nil => intro ms _; rfl
  | cons e t ih =>
    intro ms h
    have step : ∀ (l : List Int32), rmvU ms (eU e :: l) = rmvU (match mix ms (eU e) with | none => ms | some k => ms.eraseIdx k) l := fun l => rfl
    have ht : ∀ e' ∈ t, gone ms0 e' = true → mix (match mix ms (eU e) with | none => ms | some k => ms.eraseIdx k) (eU e') = none := by
      intro e' he hg
      have h1 := h e' (List.mem_cons_of_mem _ he) hg
      cases hm : mix ms (eU e) with
      | none => exact h1
      | some k => exact mix_non.mpr (fun x hx => mix_non.mp h1 x ((List.eraseIdx_sublist ms k).subset hx))
    cases hg : gone ms0 e with
    | true =>
      have hk : kept ms0 (e :: t) = kept ms0 t := by unfold kept; rw [List.filter_cons, hg]; rfl
      rw [hk, List.map_cons, step, ih _ ht, h e List.mem_cons_self hg]
    | false =>
      have hk : kept ms0 (e :: t) = e :: kept ms0 t := by unfold kept; rw [List.filter_cons, hg]; rfl
      rw [hk, List.map_cons, List.map_cons, step, step, ih _ ht]
theorem rmv_sub : ∀ (es : List En) (ms : Ms), (rmv ms es).Sublist ms := by
  intro es
  induction es with
  | nil => intro ms; exact List.Sublist.refl ms
  | cons e t ih =>
    intro ms
    have step : rmv ms (e :: t) = rmv (match mix ms (eU e) with | none => ms | some k => ms.eraseIdx k) t := rfl
    rw [step]
    refine (ih _).trans ?_
    cases hm : mix ms (eU e) with
    | none => exact List.Sublist.refl ms
    | some k => exact List.eraseIdx_sublist ms k
theorem rng_sub (es : List En) (a b : Nat) : (rng es a b).Sublist es := (List.drop_sublist a _).trans (List.take_sublist b es)
section
variable {M : Mem} {m : Nat} {R : Rs} {I O : List Int32} {S : St} {K : Nat → St} {B : Nat → Bool} {C : Nat} {H : Nat → St} {N : List Nt} {E : Er} {c : Nat}
theorem cls_cp (h : Cls M I O S K B C H N E) (ok : okS c S) (hc : c ≤ 1000) {k b t i j : Nat} (hk : k < stM S) (hb : b < stN S) (ht : t < stN S) (hbx : sxB (stS S k) = nI b) (hij : i ≤ j) (hj : j < (sxE (stS S k)).length)
    (hl : (stB S t).2.2.length + (cpy (stB S b).2.2 (rng (sxE (stS S k)) i (j + 1))).length ≤ 30) :
    ∃ M', f_X7_copyRange (sesR 105 k) (boxR 105 b) (nI (i + 1)) (nI (j + 1)) (boxR 105 t) M = some (nI (cpy (stB S b).2.2 (rng (sxE (stS S k)) i (j + 1))).length, M') ∧ Cls M' I O (setBx S t (cpB (stB S t) (cpy (stB S b).2.2 (rng (sxE (stS S k)) i (j + 1))))) K B C H N E ∧ off M M' 100 616 := by
  have h3 := h.s.n3
  have h4 := h.s.m4
  by_cases z : t = b
  · subst z
    obtain ⟨M', e, x, o⟩ := X7_copys_e (M := M) (r := sesR 105 k) (rb := boxR 105 t) (by unfold sesR boxR; omega) (a := i) (b := j + 1) (by omega) (show j + 1 ≤ (sxE (stS S k)).length by omega) (h.sx hk) (h.bx ht) (fun e he i hi => ok_hq ok hc hk hb hbx e he i (by omega)) hl
    obtain ⟨c1, o1⟩ := h.box ht (X := cpB (stB S t) (cpy (stB S t).2.2 (rng (sxE (stS S k)) i (j + 1)))) x o
    exact ⟨M', e, c1, o1⟩
  · obtain ⟨M', e, x, o⟩ := X7_copy_e (M := M) (r := sesR 105 k) (rb := boxR 105 b) (rt := boxR 105 t) (by unfold boxR; omega) (by unfold sesR boxR; omega) (a := i) (b := j + 1) (by omega) (show j + 1 ≤ (sxE (stS S k)).length by omega) (h.sx hk) (h.bx hb) (h.bx ht) hl
    obtain ⟨c1, o1⟩ := h.box ht (X := cpB (stB S t) (cpy (stB S b).2.2 (rng (sxE (stS S k)) i (j + 1)))) x o
    exact ⟨M', e, c1, o1⟩
theorem cp_cnt (ms : Ms) (es : List En) : es.countP (fun e => !gone ms e) = (cpy ms es).length := by
  rw [cpy_len, kept, List.countP_eq_length_filter]
end
