/-! PURE: copy, move -/
theorem okM_adds : ∀ (l : List (Int32 × Int32)) (n : Nat) (ms : Ms), okM (nI n) ms → 1 ≤ n → n + l.length + 1 < 2 ^ 31 → (∀ x ∈ l, 0 ≤ x.1) → okM (nI (n + l.length)) (ms ++ adds (nI n) l) := by
  intro l
  induction l with
  | nil => intro n ms h _ _ _; rw [adds, List.append_nil]; exact h
  | cons x t ih =>
    intro n ms h h1 h2 hz
    rw [List.length_cons] at h2
    have h3 := okM_snoc h (by omega) h1 x.1 x.2 (hz x List.mem_cons_self)
    have h4 := ih (n + 1) _ h3 (by omega) (by omega) (fun y hy => hz y (List.mem_cons_of_mem _ hy))
    rw [adds, nI_1, List.length_cons, show n + (t.length + 1) = n + 1 + t.length by omega]
    rw [List.append_assoc] at h4
    exact h4
theorem adds_len : ∀ (l : List (Int32 × Int32)) (nx : Int32), (adds nx l).length = l.length := by
  intro l
  induction l with
  | nil => intro nx; rfl
  | cons x t ih => intro nx; rw [adds, List.length_cons, List.length_cons, ih]
theorem okS.cp {c : Nat} {S : St} (h : okS c S) (hc : c ≤ 1000) {t : Nat} (ht : t < stN S) {l : List (Int32 × Int32)} (hl : (stB S t).2.2.length + l.length ≤ 30) (hz : ∀ x ∈ l, 0 ≤ x.1) : okS (c + 1) (setBx S t (cpB (stB S t) l)) := by
  obtain ⟨⟨n, n1, n2, n3⟩, hM, -⟩ := h.2.2.1 t ht
  rw [n1] at hM
  have e : (stB S t).2.1 + nI l.length = nI (n + l.length) := by rw [n1, nI_add]
  refine h.setB (by omega) (b := t) ⟨⟨n + l.length, e, by omega, by omega⟩, ?_, ?_⟩ ?_
  · show okM ((stB S t).2.1 + nI l.length) ((stB S t).2.2 ++ adds (stB S t).2.1 l)
    rw [e, n1]
    exact okM_adds l n _ hM n2 (by omega) hz
  · show ((stB S t).2.2 ++ adds (stB S t).2.1 l).length ≤ 30
    rw [List.length_append, adds_len]; exact hl
  · show (stB S t).2.1 ≤ (stB S t).2.1 + nI l.length
    rw [e, n1]
    exact of_eq_true (leT rfl rfl (Nat.le_add_right n _) (by omega))
theorem cpy_sz {nx : Int32} {ms : Ms} (h : okM nx ms) (es : List En) : ∀ x ∈ cpy ms es, 0 ≤ x.1 := by
  intro x hx
  obtain ⟨e, -, he⟩ := List.mem_filterMap.mp hx
  unfold cpm at he
  cases hm : mix ms (eU e) with
  | none => rw [hm] at he; cases he
  | some k =>
    rw [hm] at he
    have hk := mix_lt hm
    have : x = (mS (mg ms k), mF (mg ms k)) := (Option.some.inj he).symm
    rw [this]
    have hg : mg ms k ∈ ms := by rw [mg, List.getD_eq_getElem?_getD, List.getElem?_eq_getElem hk]; exact List.getElem_mem hk
    exact (h.2 _ hg).2
theorem ok_hq {c : Nat} {S : St} (h : okS c S) (hc : c ≤ 1000) {k b : Nat} (hk : k < stM S) (hb : b < stN S) (hbx : sxB (stS S k) = nI b) : ∀ e ∈ sxE (stS S k), ∀ i, i ≤ 30 → eU e ≠ (stB S b).2.1 + nI i := by
  intro e he i hi z
  obtain ⟨-, -, -, h4, h5⟩ := h.2.2.2 k hk
  obtain ⟨⟨n, n1, n2, n3⟩, -, -⟩ := h.2.2.1 b hb
  have a1 := (h4.2.1 e he).2
  have a2 := h5 b hb hbx
  rw [z, n1, nI_add] at a1
  rw [n1] at a2
  have a3 : nI n ≤ nI (n + i) := of_eq_true (leT rfl rfl (Nat.le_add_right n i) (by omega))
  exact Int32.lt_irrefl (Int32.lt_of_lt_of_le a2 (Int32.le_trans a3 a1))
theorem adds_mem : ∀ (l : List (Int32 × Int32)) (nx : Int32) (x : Msg), x ∈ adds nx l → ∃ i, i < l.length ∧ mU x = nx + nI i := by
  intro l
  induction l with
  | nil => intro nx x hx; exact (nomatch hx)
  | cons y t ih =>
    intro nx x hx
    rw [adds] at hx
    rcases List.mem_cons.mp hx with rfl | hx
    · exact ⟨0, by simp, by rw [nI_0, Int32.add_zero]; rfl⟩
    · obtain ⟨i, hi, e⟩ := ih _ x hx
      refine ⟨i + 1, by rw [List.length_cons]; omega, ?_⟩
      rw [e, Int32.add_assoc, nI_1add, Nat.add_comm]
theorem mem_mix {ms : Ms} {u : Int32} : mix ms u ≠ none ↔ ∃ x ∈ ms, mU x = u := by
  rw [← mix_some_mem]
  constructor
  · rintro ⟨j, hj, e⟩
    refine ⟨mg ms j, ?_, e⟩
    rw [mg, List.getD_eq_getElem?_getD, List.getElem?_eq_getElem hj]; exact List.getElem_mem hj
  · rintro ⟨x, hx, e⟩
    obtain ⟨j, hj, rfl⟩ := List.getElem_of_mem hx
    refine ⟨j, hj, ?_⟩
    rw [mg, List.getD_eq_getElem?_getD, List.getElem?_eq_getElem hj]; exact e
theorem mix_non {ms : Ms} {u : Int32} : mix ms u = none ↔ ∀ x ∈ ms, mU x ≠ u := by
  constructor
  · intro h x hx e
    exact mem_mix.mpr ⟨x, hx, e⟩ h
  · intro h
    cases e : mix ms u with
    | none => rfl
    | some k =>
      obtain ⟨x, hx, z⟩ := mem_mix.mp (show mix ms u ≠ none by rw [e]; exact fun z => nomatch z)
      exact absurd z (h x hx)
theorem rmvU_kept (ms0 : Ms) : ∀ (es : List En) (ms : Ms), (∀ e ∈ es, gone ms0 e = true → mix ms (eU e) = none) → rmvU ms (es.map eU) = rmvU ms ((kept ms0 es).map eU) := by
  intro es
  induction es with
  | nil => intro ms _; rfl
  | cons e t ih =>
    intro ms h
    have step : ∀ (l : List Int32), rmvU ms (eU e :: l) = rmvU (match mix ms (eU e) with | none => ms | some k => ms.eraseIdx k) l := fun l => rfl
    have ht : ∀ e' ∈ t, gone ms0 e' = true → mix (match mix ms (eU e) with | none => ms | some k => ms.eraseIdx k) (eU e') = none := by
      intro e' he hg
      have h1 := h e' (List.mem_cons_of_mem _ he) hg
      cases hm : mix ms (eU e) with
      | none => exact h1
      | some k => exact mix_non.mpr (fun x hx => mix_non.mp h1 x ((List.eraseIdx_sublist ms k).subset hx))
    cases hg : gone ms0 e with
    | true =>
      have hk : kept ms0 (e :: t) = kept ms0 t := by unfold kept; rw [List.filter_cons, hg]; rfl
      rw [hk, List.map_cons, step, ih _ ht, h e List.mem_cons_self hg]
    | false =>
      have hk : kept ms0 (e :: t) = e :: kept ms0 t := by unfold kept; rw [List.filter_cons, hg]; rfl
      rw [hk, List.map_cons, List.map_cons, step, step, ih _ ht]
theorem rmv_sub : ∀ (es : List En) (ms : Ms), (rmv ms es).Sublist ms := by
  intro es
  induction es with
  | nil => intro ms; exact List.Sublist.refl ms
  | cons e t ih =>
    intro ms
    have step : rmv ms (e :: t) = rmv (match mix ms (eU e) with | none => ms | some k => ms.eraseIdx k) t := rfl
    rw [step]
    refine (ih _).trans ?_
    cases hm : mix ms (eU e) with
    | none => exact List.Sublist.refl ms
    | some k => exact List.eraseIdx_sublist ms k
theorem rng_sub (es : List En) (a b : Nat) : (rng es a b).Sublist es := (List.drop_sublist a _).trans (List.take_sublist b es)
section
variable {M : Mem} {m : Nat} {R : Rs} {I O : List Int32} {S : St} {K : Nat → St} {B : Nat → Bool} {C : Nat} {H : Nat → St} {N : List Nt} {E : Er} {c : Nat}
theorem asks_f (M2 : Mem) (a u v t : Int32) (q : Bool) : f_X12_asksCopy_23 716 a u v t q (ov M2 716 R) = some (false, ov M2 716 (rsS R 0 1)) := by
  simp only [f_X12_asksCopy_23, f_X12_asksCopy_24, cond_false, f_X12_asksCopy_40, f_X12_asksCopy_41, f_X12_asksCopy_56, f_X12_asksCopy_86, f_X12_asksCopy_87, pass1, bso]
  split <;> rfl
theorem asks_1 {M2 : Mem} {a u v : Int32} (h : f_X12_areEntries 716 a u v (ov M2 716 R) = some false) (t : Int32) (q : Bool) : f_X12_asksCopy 716 a u v t q (ov M2 716 R) = some (false, ov M2 716 (rsS R 0 1)) := by
  simp only [f_X12_asksCopy, ov_ob, h, bso, cond_false, asks_f]
theorem asks_b {M2 : Mem} {a u v t : Int32} (h : f_X12_areEntries 716 a u v (ov M2 716 R) = some true) (hb : f_X12_isBox 716 t (ov M2 716 R) = some false) (q : Bool) : f_X12_asksCopy 716 a u v t q (ov M2 716 R) = some (false, ov M2 716 (rsS R 0 1)) := by
  simp only [f_X12_asksCopy, ov_ob, h, hb, bso, cond_false, cond_true, asks_f]
theorem asks_2 {M2 : Mem} {a u v t : Int32} (h : f_X12_areEntries 716 a u v (ov M2 716 R) = some true) (hb : f_X12_isBox 716 t (ov M2 716 R) = some true) (hv : v < u) (q : Bool) : f_X12_asksCopy 716 a u v t q (ov M2 716 R) = some (false, ov M2 716 (rsS R 0 2)) := by
  simp only [f_X12_asksCopy, ov_ob, h, hb, bso, cond_true, f_X12_asksCopy_24, if_pos hv, f_X12_asksCopy_40, f_X12_asksCopy_41, f_X12_asksCopy_56, cond_false, f_X12_asksCopy_86, f_X12_asksCopy_87, pass2]
theorem asks_3 {M2 : Mem} {a u v t : Int32} (h : f_X12_areEntries 716 a u v (ov M2 716 R) = some true) (hb : f_X12_isBox 716 t (ov M2 716 R) = some true) (hv : ¬ v < u) : f_X12_asksCopy 716 a u v t false (ov M2 716 R) = some (false, ov M2 716 (rsS R 0 3)) := by
  simp only [f_X12_asksCopy, ov_ob, h, hb, bso, cond_true, f_X12_asksCopy_24, if_neg hv, f_X12_asksCopy_41, f_X12_asksCopy_56, cond_false, f_X12_asksCopy_86, f_X12_asksCopy_87, pass3]
theorem asks_r {M2 : Mem} {a u v t x : Int32} {r : Bool} (h : f_X12_areEntries 716 a u v (ov M2 716 R) = some true) (hb : f_X12_isBox 716 t (ov M2 716 R) = some true) (hv : ¬ v < u) (h1 : f_X12_thereMany 716 a u v (ov M2 716 R) = some x) (h2 : f_X12_hasRoom 716 t x (ov M2 716 R) = some r) : f_X12_asksCopy 716 a u v t true (ov M2 716 R) = some (r, ov M2 716 (rsS R 0 (bif r then 0 else 3))) := by
  cases r with
  | true => simp only [f_X12_asksCopy, ov_ob, h, hb, h1, h2, bso, cond_true, f_X12_asksCopy_24, if_neg hv, f_X12_asksCopy_41, f_X12_asksCopy_56, f_X12_asksCopy_87, pass0]
  | false => simp only [f_X12_asksCopy, ov_ob, h, hb, h1, h2, bso, cond_true, f_X12_asksCopy_24, if_neg hv, f_X12_asksCopy_41, f_X12_asksCopy_56, cond_false, f_X12_asksCopy_86, f_X12_asksCopy_87, pass3]
theorem cls_cp (h : Cls M I O S K B C H N E) (ok : okS c S) (hc : c ≤ 1000) {k b t i j : Nat} (hk : k < stM S) (hb : b < stN S) (ht : t < stN S) (hbx : sxB (stS S k) = nI b) (hij : i ≤ j) (hj : j < (sxE (stS S k)).length)
    (hl : (stB S t).2.2.length + (cpy (stB S b).2.2 (rng (sxE (stS S k)) i (j + 1))).length ≤ 30) :
    ∃ M', f_X7_copyRange (sesR 105 k) (boxR 105 b) (nI (i + 1)) (nI (j + 1)) (boxR 105 t) M = some (nI (cpy (stB S b).2.2 (rng (sxE (stS S k)) i (j + 1))).length, M') ∧ Cls M' I O (setBx S t (cpB (stB S t) (cpy (stB S b).2.2 (rng (sxE (stS S k)) i (j + 1))))) K B C H N E ∧ off M M' 100 616 := by
  have h3 := h.s.n3
  have h4 := h.s.m4
  by_cases z : t = b
  · subst z
    obtain ⟨M', e, x, o⟩ := X7_copys_e (M := M) (r := sesR 105 k) (rb := boxR 105 t) (by unfold sesR boxR; omega) (a := i) (b := j + 1) (by omega) (show j + 1 ≤ (sxE (stS S k)).length by omega) (h.sx hk) (h.bx ht) (fun e he i hi => ok_hq ok hc hk hb hbx e he i (by omega)) hl
    obtain ⟨c1, o1⟩ := h.box ht (X := cpB (stB S t) (cpy (stB S t).2.2 (rng (sxE (stS S k)) i (j + 1)))) x o
    exact ⟨M', e, c1, o1⟩
  · obtain ⟨M', e, x, o⟩ := X7_copy_e (M := M) (r := sesR 105 k) (rb := boxR 105 b) (rt := boxR 105 t) (by unfold boxR; omega) (by unfold sesR boxR; omega) (a := i) (b := j + 1) (by omega) (show j + 1 ≤ (sxE (stS S k)).length by omega) (h.sx hk) (h.bx hb) (h.bx ht) hl
    obtain ⟨c1, o1⟩ := h.box ht (X := cpB (stB S t) (cpy (stB S b).2.2 (rng (sxE (stS S k)) i (j + 1)))) x o
    exact ⟨M', e, c1, o1⟩
theorem ref_cp {R : Rs} (h : rep (rowf R) S) (hw : R.2.1 = false) (ok : okS c S) (hc : c ≤ 1000) {k b t i j : Nat} (hk : k < stM S) (hb : b < stN S) (ht : t < stN S) (hbx : sxB (stS S k) = nI b) (hij : i ≤ j) (hj : j < (sxE (stS S k)).length)
    (hl : (stB S t).2.2.length + (cpy (stB S b).2.2 (rng (sxE (stS S k)) i (j + 1))).length ≤ 30) :
    ∃ R', f_X12_copies m (nI k) (nI (i + 1)) (nI (j + 1)) (nI t) (ov M m R) = some (nI (cpy (stB S b).2.2 (rng (sxE (stS S k)) i (j + 1))).length, ov M m R') ∧ rep (rowf R') (setBx S t (cpB (stB S t) (cpy (stB S b).2.2 (rng (sxE (stS S k)) i (j + 1))))) ∧ (∀ x, x < (kept (stB S b).2.2 (rng (sxE (stS S k)) i (j + 1))).length → R'.2.2.2 4 x = eU (eg (kept (stB S b).2.2 (rng (sxE (stS S k)) i (j + 1))) x)) ∧ kp [] [1] [4] R R' := by
  have h60 := h.ls hk
  obtain ⟨r1, r2, r3⟩ := rng_split (sxE (stS S k)) (a := i) (b := j + 1) (by omega) (by omega)
  obtain ⟨R', e, q, -, q2, kk⟩ := X12_cp_loop (M := M) (m := m) (s := k) (b := b) (t := t) (es := sxE (stS S k)) (rng (sxE (stS S k)) i (j + 1)) ((sxE (stS S k)).take i) ((sxE (stS S k)).drop (j + 1)) FU R S 0 r1 (by rw [r3, FU_eq]; omega) h hw hk hb ht hbx rfl (by rw [r3]; omega) (fun _ e he x hx => ok_hq ok hc hk hb hbx e ((rng_sub _ i (j + 1)).subset he) x (by omega)) hl
  rw [r2, r3, show i + (j + 1 - i) = j + 1 by omega, Nat.zero_add] at e
  refine ⟨R', ?_, q, fun x hx => by rw [← q2 x hx, Nat.zero_add], kk⟩
  simp only [f_X12_copies, ov_ob]
  exact e
theorem cp_cnt (ms : Ms) (es : List En) : es.countP (fun e => !gone ms e) = (cpy ms es).length := by
  rw [cpy_len, kept, List.countP_eq_length_filter]
theorem cs_copy (h : Cls M I O S K B C H N E) (hr : Ref R I O S K B C H N E) (w : okW c I O S K B C H N) (hc : c ≤ 1000) (a u v d : Int32) : Both (f_X11_copy 100 a u v d M) (f_X12_copy 716 a u v d) M R [("java/lang/IndexOutOfBoundsException", 1), ("java/lang/IllegalArgumentException", 2), ("java/lang/IllegalStateException", 3)] (c + 1) E := by
  have ok := w.2.2.1
  obtain ⟨L, l1, l2, l3⟩ := ok.1
  have bad1 : (∀ M2 q, f_X12_asksCopy 716 a u v d q (ov M2 716 R) = some (false, ov M2 716 (rsS R 0 1))) → f_X11_copy 100 a u v d M = some (.inr "java/lang/IndexOutOfBoundsException", mskip M) → Both (f_X11_copy 100 a u v d M) (f_X12_copy 716 a u v d) M R [("java/lang/IndexOutOfBoundsException", 1), ("java/lang/IllegalArgumentException", 2), ("java/lang/IllegalStateException", 3)] (c + 1) E := by
    intro e2 e1
    refine Both.no h hr w e1 (hf1 _ _ _) (by decide) (fun M2 => ?_)
    obtain ⟨q, hq⟩ := canDo_ex hr a M2
    simp only [f_X12_copy, ov_ob, hq, e2, bso, cond_false]
  by_cases hx : ∃ k, k < stM S ∧ a = nI k
  · obtain ⟨k, hk, rfl⟩ := hx
    have hl : (sxE (stS S k)).length ≤ 60 := (ok.2.2.2 k hk).2.2.1
    by_cases hi : ∃ i, i < (sxE (stS S k)).length ∧ u = nI (i + 1)
    · obtain ⟨i, hi, rfl⟩ := hi
      by_cases hj : ∃ i, i < (sxE (stS S k)).length ∧ v = nI (i + 1)
      · obtain ⟨j, hj, rfl⟩ := hj
        have are := fun M2 => areE_t (M := M2) (m := 716) hr.2.1 hk hi hj
        have ord : (nI (i + 1) ≤ nI (j + 1)) = (i ≤ j) := (leI rfl rfl (by omega) (by omega)).trans (by simp)
        have ord2 : (nI (j + 1) < nI (i + 1)) = (j < i) := (ltI rfl rfl (by omega) (by omega)).trans (by simp)
        by_cases hd : ∃ t, t < stN S ∧ d = nI t
        · obtain ⟨t, ht, rfl⟩ := hd
          have isb := fun M2 => X12_isBox_in (M := M2) (m := 716) hr.2.1 ht
          by_cases ho : i ≤ j
          · have n2 : ¬ (nI (j + 1) < nI (i + 1)) := by rw [ord2]; omega
            have hX : f_X11_copy 100 (nI k) (nI (i + 1)) (nI (j + 1)) (nI t) M = bX (f_X11_requireAwake 100 (sesR 105 k) M) fun x11 M12 => (f_X7_countThere (sesR 105 k) x11 (nI (i + 1)) (nI (j + 1)) M12).bind fun x13 => bX (f_X11_requireRoom 100 (boxR 105 t) x13 M12) fun _ M15 => (f_X11_beginCommand 100 (sesR 105 k) M15).bind fun M17 => (f_X7_copyRange (sesR 105 k) x11 (nI (i + 1)) (nI (j + 1)) (boxR 105 t) M17).bind fun (x18, M19) => (f_X11_endCommand 100 (nI k) true M19).bind fun (x20, M21) => some (.inl x18, M21) := by
              rw [f_X11_copy, h.ob, bX_l (reqSes_in h hk), bX_l (reqEnt_in (h.sx hk) hi), bX_l (reqEnt_in (h.sx hk) hj), bX_l (reqBox_in h ht), bX_l (reqOrd_in (by rw [ord]; exact ho) M)]
            cases hd : cdo (stS S k) with
            | false =>
              refine Both.no h hr w (by rw [hX, bX_r (reqAwk_no h hk hd)]) (hf3 neS neSA _ _ _ _) (by decide) (fun M2 => ?_)
              simp only [f_X12_copy, ov_ob, X12_canDo_in hr.2.1 hk, hd, bso, asks_3 (are M2) (isb M2) n2, cond_false]
            | true =>
              obtain ⟨b, hb, hbx, er⟩ := reqAwk_in h hk hd (ok.wf k hk)
              obtain ⟨l, hl'⟩ : ∃ l, l = cpy (stB S b).2.2 (rng (sxE (stS S k)) i (j + 1)) := ⟨_, rfl⟩
              have hl60 : l.length ≤ 60 := by
                rw [hl', cpy_len]
                exact Nat.le_trans (List.length_filter_le ..) (Nat.le_trans (rng_sub _ i (j + 1)).length_le hl)
              have cth : f_X7_countThere (sesR 105 k) (boxR 105 b) (nI (i + 1)) (nI (j + 1)) M = some (nI l.length) := by
                rw [hl', ← cp_cnt]
                exact X7_there_e (h.sx hk) (h.bx hb) (show i ≤ j + 1 by omega) (show j + 1 ≤ (sxE (stS S k)).length by omega)
              have rth : ∀ M2, f_X12_thereMany 716 (nI k) (nI (i + 1)) (nI (j + 1)) (ov M2 716 R) = some (nI l.length) := fun M2 => by
                rw [hl', ← cp_cnt, X12_there_e (M := M2) (m := 716) hr.2.1 hk (ok.2.2.2 k hk).1 (show i ≤ j + 1 by omega) (show j + 1 ≤ (sxE (stS S k)).length by omega), hbx, bof_in (by have := ok.2.1.1; omega)]
              have hrm := reqRoom_e h ht l1 l3 hl60
              have rrm : ∀ M2, f_X12_hasRoom 716 (nI t) (nI l.length) (ov M2 716 R) = some (decide (l.length = 0 ∨ (stB S t).2.2.length + l.length ≤ L)) := fun M2 => X12_room_e hr.2.1 ht l1 (by omega) hl60
              have asks := fun M2 => asks_r (are M2) (isb M2) n2 (rth M2) (rrm M2)
              by_cases er2 : l.length = 0 ∨ (stB S t).2.2.length + l.length ≤ L
              · rw [if_pos er2] at hrm
                rw [decide_eq_true er2] at asks
                have hl30 : (stB S t).2.2.length + l.length ≤ 30 := by
                  have := (ok.2.2.1 t ht).2.2
                  omega
                obtain ⟨M1, S0, e1, g0, c1, o1⟩ := begCmd_e h hk
                have ok1 := ok.inc hk 0
                obtain ⟨T, hT⟩ : ∃ T, T = setSx S k (incC (stS S k) 0) := ⟨_, rfl⟩
                have hkT : k < stM T := by rw [hT]; exact hk
                have hbT : b < stN T := by rw [hT]; exact hb
                have htT : t < stN T := by rw [hT]; exact ht
                have hxT : sxB (stS T k) = nI b := by rw [hT, stS_set]; exact hbx
                have hET : sxE (stS T k) = sxE (stS S k) := by rw [hT, stS_set]; rfl
                have hiT : sxI (stS T k) = false := by rw [hT, stS_set]; exact (cdo_t hd).2
                have hlT : cpy (stB T b).2.2 (rng (sxE (stS T k)) i (j + 1)) = l := by rw [hET, hT]; exact hl'.symm
                have hl3T : (stB T t).2.2.length + (cpy (stB T b).2.2 (rng (sxE (stS T k)) i (j + 1))).length ≤ 30 := by rw [hlT, hT]; exact hl30
                rw [← hT] at c1 ok1
                have hjT : j < (sxE (stS T k)).length := by rw [hET]; exact hj
                obtain ⟨M2', e2, c2, o2⟩ := cls_cp c1 ok1 hc hkT hbT htT hxT ho hjT hl3T
                have ok2 := ok1.cp hc htT hl3T (cpy_sz (ok1.2.2.1 b hbT).2.1 _)
                rw [hlT] at e2 c2 ok2
                obtain ⟨V, hV⟩ : ∃ V, V = setBx T t (cpB (stB T t) l) := ⟨_, rfl⟩
                have hiV : sxI (stS V k) = false := by rw [hV]; exact hiT
                rw [← hV] at c2 ok2
                have hkV : k < stM V := by rw [hV]; exact hkT
                have hle := ok2.end244 (k := k) hkV true (trm_awake hiV)
                obtain ⟨M4, e4, c4, o4⟩ := endCmd_e c2 (k := k) hkV ok2 true hle
                refine Both.yes (v := nI l.length) hr w (by rw [hX, bX_l er]; simp only [cth, bso]; rw [bX_l hrm]; simp only [e1, e2, e4, bso]) ((o1.trans o2).trans o4) c4 g0 (ok2.endOk (k := k) hkV true).1 ⟨hle, (ok2.endOk (k := k) hkV true).2⟩ (fun M2 => ?_)
                obtain ⟨R1, f1, q1, q2, q3, k1, w1⟩ := ref_beg hr ok hk M2
                rw [← hT] at q1
                obtain ⟨R3, f2, q4, -, k3⟩ := ref_cp (M := M2) (m := 716) q1 w1 ok1 hc hkT hbT htT hxT ho hjT hl3T
                rw [hlT] at f2 q4
                rw [← hV] at q4
                have w2 : R3.2.1 = false := k3.1.trans w1
                have q3' : ntR R3 [] := ⟨(k3.2.1 5 (by simp)).trans q3.1, fun i hi => absurd hi (Nat.not_lt_zero i)⟩
                obtain ⟨R2, f3, q6, q7, k2⟩ := X12_done_e (M := M2) (m := 716) (R := R3) (S := V) q4 w2 hkV ok2 (ns := []) q3' true hle (nI l.length)
                have k13 : kp [5, 25] [1, 10] [4] (rsS R 0 0) R3 := (k1.up (by simp) (by simp) (by simp)).trans (k3.up (by simp) (by simp) (by simp))
                refine ⟨R2, ?_, (k13.up (by simp) (by simp) (by simp)).trans ((k2.kp w2).up (by simp) (by simp) (by simp)), q6, q2.cg ((k2.2.1 25 (by decide)).trans (k3.2.1 25 (by simp))) ((k2.2.2.1 10 (by rw [row1 w2]; decide)).trans (k3.2.2.1 10 (by simp))), q7⟩
                simp only [f_X12_copy, ov_ob, X12_canDo_in hr.2.1 hk, hd, bso, asks, cond_true, f1, f2, f3]
              · rw [if_neg er2] at hrm
                rw [decide_eq_false er2] at asks
                refine Both.no h hr w (by rw [hX, bX_l er]; simp only [cth, bso]; rw [bX_r hrm]) (hf3 neS neSA _ _ _ _) (by decide) (fun M2 => ?_)
                simp only [f_X12_copy, ov_ob, X12_canDo_in hr.2.1 hk, hd, bso, asks, cond_false]
          · refine Both.no h hr w (by rw [f_X11_copy, h.ob, bX_l (reqSes_in h hk), bX_l (reqEnt_in (h.sx hk) hi), bX_l (reqEnt_in (h.sx hk) hj), bX_l (reqBox_in h ht), bX_r (reqOrd_no (by rw [ord]; exact ho) M)]) (hf2 neA _ _ _) (by decide) (fun M2 => ?_)
            obtain ⟨q, hq⟩ := canDo_ex hr (nI k) M2
            simp only [f_X12_copy, ov_ob, hq, bso, asks_2 (are M2) (isb M2) (by rw [ord2]; omega), cond_false]
        · exact bad1 (fun M2 q => asks_b (are M2) (X12_isBox_no hr.2.1 hd) q) (by rw [f_X11_copy, h.ob, bX_l (reqSes_in h hk), bX_l (reqEnt_in (h.sx hk) hi), bX_l (reqEnt_in (h.sx hk) hj), bX_r (reqBox_no h hd)])
      · exact bad1 (fun M2 q => asks_1 (areE_3 hr.2.1 hk hi hj) _ q) (by rw [f_X11_copy, h.ob, bX_l (reqSes_in h hk), bX_l (reqEnt_in (h.sx hk) hi), bX_r (reqEnt_no (h.sx hk) hj)])
    · exact bad1 (fun M2 q => asks_1 (areE_2 hr.2.1 hk hi v) _ q) (by rw [f_X11_copy, h.ob, bX_l (reqSes_in h hk), bX_r (reqEnt_no (h.sx hk) hi)])
  · exact bad1 (fun M2 q => asks_1 (areE_1 hr.2.1 hx u v) _ q) (by rw [f_X11_copy, h.ob, bX_r (reqSes_no h hx)])
end
