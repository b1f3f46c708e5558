/-! PURE: copying and removing by a session's numbers -/
def adds (nx : Int32) : List (Int32 × Int32) → Ms
  | [] => []
  | x :: t => (nx, x.1, x.2) :: adds (nx + 1) t
def cpm (ms : Ms) (e : En) : Option (Int32 × Int32) := (mix ms (eU e)).map (fun k => (mS (mg ms k), mF (mg ms k)))
def cpy (ms : Ms) (es : List En) : List (Int32 × Int32) := es.filterMap (cpm ms)
theorem cpy_cons (ms : Ms) (e : En) (t : List En) : cpy ms (e :: t) = match mix ms (eU e) with
  | none => cpy ms t
  | some k => (mS (mg ms k), mF (mg ms k)) :: cpy ms t := by
  unfold cpy
  cases h : mix ms (eU e) with
  | none => simp [cpm, h]
  | some k => simp [cpm, h]
theorem mix_snoc (ms : Ms) (x : Msg) {u : Int32} (h : u ≠ mU x) : mix (ms ++ [x]) u = mix ms u := by
  unfold mix ixl
  rw [List.map_append, List.findIdx?_append]
  simp [Ne.symm h]
theorem mg_app (ms t : Ms) {k : Nat} (h : k < ms.length) : mg (ms ++ t) k = mg ms k := by
  simp [mg, List.getD_eq_getElem?_getD, List.getElem?_append_left h]
theorem cpy_snoc (ms : Ms) (x : Msg) (es : List En) (h : ∀ e ∈ es, eU e ≠ mU x) : cpy (ms ++ [x]) es = cpy ms es := by
  induction es with
  | nil => rfl
  | cons e t ih =>
    rw [cpy_cons, cpy_cons, mix_snoc ms x (h e (List.mem_cons_self ..)), ih (fun e he => h e (List.mem_cons_of_mem _ he))]
    cases hm : mix ms (eU e) with
    | none => rfl
    | some k =>
      have := mix_lt hm
      simp only [mg_app ms [x] this]
def rmv (ms : Ms) (es : List En) : Ms := es.foldl (fun ms e => match mix ms (eU e) with
  | none => ms
  | some k => ms.eraseIdx k) ms
section
variable {r : Nat} {J : Int64} {bx : Int32} {rd id : Bool} {hi : Int32} {es : List En} {cn : List Int32} {rb rt : Nat} {Jb Jt : Int64} {nx : Int32} {ms : Ms}
theorem X7_cp_loop (d : rb + 7 ≤ rt ∨ rt + 7 ≤ rb) (d2 : r + 7 ≤ rt ∨ rt + 7 ≤ r) : ∀ (post pre rest : List En) (fu : Nat) (M : Mem) (n : Nat) (nx2 : Int32) (ms2 : Ms), pre ++ (post ++ rest) = es → post.length < fu → sA M r J bx rd id hi es cn → bA M rb Jb nx ms → bA M rt Jt nx2 ms2 → ms2.length + (cpy ms post).length ≤ 30 →
    ∃ M', f_X7_copyRange_6 fu r rb (nI (pre.length + post.length)) rt (nI n) (nI (pre.length + 1)) M = some (nI (n + (cpy ms post).length), M') ∧ bA M' rt Jt (nx2 + nI (cpy ms post).length) (ms2 ++ adds nx2 (cpy ms post)) ∧ off M M' rt 7 := by
  intro post
  induction post with
  | nil =>
    intro pre rest fu M n nx2 ms2 hp hf h hb ht hc
    obtain ⟨fu, rfl⟩ : ∃ m, fu = m + 1 := ⟨fu - 1, by simp at hf; omega⟩
    have hl := h.len
    rw [← hp, List.length_append] at hl
    refine ⟨M, ?_, ?_, off.rf _ _ _⟩
    · simp only [f_X7_copyRange_6, List.length_nil, Nat.add_zero, ltT rfl rfl (Nat.lt_succ_self pre.length) (show pre.length + 1 < 2 ^ 31 by omega), if_true, cpy, List.filterMap_nil]
    · simpa [cpy, adds, nI_0] using ht
  | cons e t ih =>
    intro pre rest fu M n nx2 ms2 hp hf h hb ht hc
    obtain ⟨fu, rfl⟩ : ∃ m, fu = m + 1 := ⟨fu - 1, by simp at hf; omega⟩
    simp only [List.length_cons] at hf
    have hl := h.len
    have hlb := hb.len
    have hll : es.length = pre.length + (1 + t.length + rest.length) := by rw [← hp]; simp; omega
    have he : eg es pre.length = e := by rw [← hp]; exact mid_get _ _ _ _
    have hp' : (pre ++ [e]) ++ (t ++ rest) = es := by rw [← hp]; simp
    have hln : pre.length + (e :: t).length = (pre ++ [e]).length + t.length := by simp; omega
    have hln2 : pre.length + 1 = (pre ++ [e]).length := by simp
    simp only [f_X7_copyRange_6, ltF rfl rfl (show pre.length + 1 ≤ pre.length + (e :: t).length by simp) (show pre.length + (e :: t).length < 2 ^ 31 by simp; omega), X7_size_e h, ltF rfl rfl (show pre.length + 1 ≤ es.length by omega) (show es.length < 2 ^ 31 by omega), if_false, bso, X7_uid_e h (show pre.length < 2 ^ 31 by omega), he, X0_ix hb, f_X7_copyRange_65, nI_1]
    rw [cpy_cons] at hc ⊢
    cases hm : mix ms (eU e) with
    | none =>
      simp only [hm] at hc
      obtain ⟨M', e', b', o'⟩ := ih (pre ++ [e]) rest fu M n nx2 ms2 hp' (by omega) h hb ht hc
      refine ⟨M', ?_, b', o'⟩
      simp only [oI, if_true]
      rw [hln, hln2]
      exact e'
    | some k =>
      have hk := mix_lt hm
      simp only [hm, List.length_cons] at hc
      obtain ⟨M1, e1, b1, o1⟩ := X0_add_e ht (mS (mg ms k)) (mF (mg ms k)) (by omega)
      obtain ⟨M', e', b', o'⟩ := ih (pre ++ [e]) rest fu M1 (n + 1) (nx2 + 1) _ hp' (by omega) (h.fr o1 (by omega)) (hb.fr o1 (by omega)) b1 (by rw [List.length_append, List.length_singleton]; omega)
      refine ⟨M', ?_, ?_, o1.trans o'⟩
      · simp only [oI, nI_m1 (show k < 2 ^ 31 by omega), if_false, hb.gS, hb.gF, X5_get_e hb.2.2.1, X5_get_e hb.2.2.2, lgt_n _ (show k < 2 ^ 31 by omega), mapD _ hk, bso, e1, nI_1]
        rw [hln, hln2, List.length_cons, show n + ((cpy ms t).length + 1) = n + 1 + (cpy ms t).length by omega]
        exact e'
      · rw [List.length_cons]
        simp only [adds]
        have : nx2 + nI ((cpy ms t).length + 1) = nx2 + 1 + nI (cpy ms t).length := by rw [Int32.add_assoc, show (1 : Int32) = nI 1 from rfl, nI_add, Nat.add_comm]
        rw [this]
        simpa using b'
theorem X7_cps_loop (d : r + 7 ≤ rb ∨ rb + 7 ≤ r) : ∀ (post pre rest : List En) (fu : Nat) (M : Mem) (n : Nat) (nx : Int32) (ms : Ms), pre ++ (post ++ rest) = es → post.length < fu → sA M r J bx rd id hi es cn → bA M rb Jb nx ms → (∀ e ∈ post, ∀ i, i < 30 - ms.length → eU e ≠ nx + nI i) → ms.length + (cpy ms post).length ≤ 30 →
    ∃ M', f_X7_copyRange_6 fu r rb (nI (pre.length + post.length)) rb (nI n) (nI (pre.length + 1)) M = some (nI (n + (cpy ms post).length), M') ∧ bA M' rb Jb (nx + nI (cpy ms post).length) (ms ++ adds nx (cpy ms post)) ∧ off M M' rb 7 := by
  intro post
  induction post with
  | nil =>
    intro pre rest fu M n nx ms hp hf h hb hq hc
    obtain ⟨fu, rfl⟩ : ∃ m, fu = m + 1 := ⟨fu - 1, by simp at hf; omega⟩
    have hl := h.len
    rw [← hp, List.length_append] at hl
    refine ⟨M, ?_, ?_, off.rf _ _ _⟩
    · simp only [f_X7_copyRange_6, List.length_nil, Nat.add_zero, ltT rfl rfl (Nat.lt_succ_self pre.length) (show pre.length + 1 < 2 ^ 31 by omega), if_true, cpy, List.filterMap_nil]
    · simpa [cpy, adds, nI_0] using hb
  | cons e t ih =>
    intro pre rest fu M n nx ms hp hf h hb hq hc
    obtain ⟨fu, rfl⟩ : ∃ m, fu = m + 1 := ⟨fu - 1, by simp at hf; omega⟩
    simp only [List.length_cons] at hf
    have hl := h.len
    have hlb := hb.len
    have hll : es.length = pre.length + (1 + t.length + rest.length) := by rw [← hp]; simp; omega
    have he : eg es pre.length = e := by rw [← hp]; exact mid_get _ _ _ _
    have hp' : (pre ++ [e]) ++ (t ++ rest) = es := by rw [← hp]; simp
    have hln : pre.length + (e :: t).length = (pre ++ [e]).length + t.length := by simp; omega
    have hln2 : pre.length + 1 = (pre ++ [e]).length := by simp
    have hqt : ∀ e ∈ t, ∀ i, i < 30 - ms.length → eU e ≠ nx + nI i := fun e he => hq e (List.mem_cons_of_mem _ he)
    simp only [f_X7_copyRange_6, ltF rfl rfl (show pre.length + 1 ≤ pre.length + (e :: t).length by simp) (show pre.length + (e :: t).length < 2 ^ 31 by simp; omega), X7_size_e h, ltF rfl rfl (show pre.length + 1 ≤ es.length by omega) (show es.length < 2 ^ 31 by omega), if_false, bso, X7_uid_e h (show pre.length < 2 ^ 31 by omega), he, X0_ix hb, f_X7_copyRange_65, nI_1]
    rw [cpy_cons] at hc ⊢
    cases hm : mix ms (eU e) with
    | none =>
      simp only [hm] at hc
      obtain ⟨M', e', b', o'⟩ := ih (pre ++ [e]) rest fu M n nx ms hp' (by omega) h hb hqt hc
      refine ⟨M', ?_, b', o'⟩
      simp only [oI, if_true]
      rw [hln, hln2]
      exact e'
    | some k =>
      have hk := mix_lt hm
      simp only [hm, List.length_cons] at hc
      obtain ⟨M1, e1, b1, o1⟩ := X0_add_e hb (mS (mg ms k)) (mF (mg ms k)) (by omega)
      have hcp : cpy (ms ++ [(nx, mS (mg ms k), mF (mg ms k))]) t = cpy ms t := cpy_snoc _ _ _ (fun e he z => hqt e he 0 (by omega) (by rw [z, nI_0, Int32.add_zero]; rfl))
      obtain ⟨M', e', b', o'⟩ := ih (pre ++ [e]) rest fu M1 (n + 1) (nx + 1) _ hp' (by omega) (h.fr o1 (by omega)) b1 (fun e he i hi z => hqt e he (i + 1) (by rw [List.length_append, List.length_singleton] at hi; omega) (by rw [z, Int32.add_assoc, show (1 : Int32) = nI 1 from rfl, nI_add, Nat.add_comm])) (by rw [hcp, List.length_append, List.length_singleton]; omega)
      rw [hcp] at e' b'
      refine ⟨M', ?_, ?_, o1.trans o'⟩
      · simp only [oI, nI_m1 (show k < 2 ^ 31 by omega), if_false, hb.gS, hb.gF, X5_get_e hb.2.2.1, X5_get_e hb.2.2.2, lgt_n _ (show k < 2 ^ 31 by omega), mapD _ hk, bso, e1, nI_1]
        rw [hln, hln2, List.length_cons, show n + ((cpy ms t).length + 1) = n + 1 + (cpy ms t).length by omega]
        exact e'
      · rw [List.length_cons]
        simp only [adds]
        have : nx + nI ((cpy ms t).length + 1) = nx + 1 + nI (cpy ms t).length := by rw [Int32.add_assoc, show (1 : Int32) = nI 1 from rfl, nI_add, Nat.add_comm]
        rw [this]
        simpa using b'
theorem X7_rm_loop (d : r + 7 ≤ rb ∨ rb + 7 ≤ r) : ∀ (post pre rest : List En) (fu : Nat) (M : Mem) (ms : Ms), pre ++ (post ++ rest) = es → post.length < fu → sA M r J bx rd id hi es cn → bA M rb Jb nx ms →
    ∃ M', f_X7_removeRange_3 fu r rb (nI (pre.length + post.length)) (nI (pre.length + 1)) M = some M' ∧ bA M' rb Jb nx (rmv ms post) ∧ off M M' rb 7 := by
  intro post
  induction post with
  | nil =>
    intro pre rest fu M ms hp hf h hb
    obtain ⟨fu, rfl⟩ : ∃ m, fu = m + 1 := ⟨fu - 1, by simp at hf; omega⟩
    have hl := h.len
    rw [← hp, List.length_append] at hl
    refine ⟨M, ?_, hb, off.rf _ _ _⟩
    simp only [f_X7_removeRange_3, List.length_nil, Nat.add_zero, ltT rfl rfl (Nat.lt_succ_self pre.length) (show pre.length + 1 < 2 ^ 31 by omega), if_true]
  | cons e t ih =>
    intro pre rest fu M ms hp hf h hb
    obtain ⟨fu, rfl⟩ : ∃ m, fu = m + 1 := ⟨fu - 1, by simp at hf; omega⟩
    simp only [List.length_cons] at hf
    have hl := h.len
    have hlb := hb.len
    have hll : es.length = pre.length + (1 + t.length + rest.length) := by rw [← hp]; simp; omega
    have he : eg es pre.length = e := by rw [← hp]; exact mid_get _ _ _ _
    have hp' : (pre ++ [e]) ++ (t ++ rest) = es := by rw [← hp]; simp
    have hln : pre.length + (e :: t).length = (pre ++ [e]).length + t.length := by simp; omega
    have hln2 : pre.length + 1 = (pre ++ [e]).length := by simp
    simp only [f_X7_removeRange_3, ltF rfl rfl (show pre.length + 1 ≤ pre.length + (e :: t).length by simp) (show pre.length + (e :: t).length < 2 ^ 31 by simp; omega), X7_size_e h, ltF rfl rfl (show pre.length + 1 ≤ es.length by omega) (show es.length < 2 ^ 31 by omega), if_false, bso, X7_uid_e h (show pre.length < 2 ^ 31 by omega), he, X0_ix hb, nI_1]
    cases hm : mix ms (eU e) with
    | none =>
      obtain ⟨M', e', b', o'⟩ := ih (pre ++ [e]) rest fu M ms hp' (by omega) h hb
      refine ⟨M', ?_, ?_, o'⟩
      · simp only [oI, X0_remove_no hb, bso]
        rw [hln, hln2]
        exact e'
      · simpa [rmv, hm] using b'
    | some k =>
      have hk := mix_lt hm
      obtain ⟨M1, e1, b1, o1⟩ := X0_remove_e hb hk
      obtain ⟨M', e', b', o'⟩ := ih (pre ++ [e]) rest fu M1 _ hp' (by omega) (h.fr o1 (by omega)) b1
      refine ⟨M', ?_, ?_, o1.trans o'⟩
      · simp only [oI, e1, bso]
        rw [hln, hln2]
        exact e'
      · simpa [rmv, hm] using b'
/-- the entries of a range -/
def rng (es : List En) (a b : Nat) : List En := (es.take b).drop a
theorem rng_split (es : List En) {a b : Nat} (h : a ≤ b) (hb : b ≤ es.length) : es.take a ++ (rng es a b ++ es.drop b) = es ∧ (es.take a).length = a ∧ (rng es a b).length = b - a := by
  refine ⟨?_, by rw [List.length_take]; omega, by rw [rng, List.length_drop, List.length_take]; omega⟩
  have h1 : es.take a = (es.take b).take a := by rw [List.take_take, Nat.min_eq_left h]
  rw [rng, ← List.append_assoc, h1, List.take_append_drop, List.take_append_drop]
theorem X7_copy_e {M : Mem} {nx2 : Int32} {ms2 : Ms} (d : rb + 7 ≤ rt ∨ rt + 7 ≤ rb) (d2 : r + 7 ≤ rt ∨ rt + 7 ≤ r) {a b : Nat} (hab : a ≤ b) (hbl : b ≤ es.length) (h : sA M r J bx rd id hi es cn) (hb : bA M rb Jb nx ms) (ht : bA M rt Jt nx2 ms2) (hc : ms2.length + (cpy ms (rng es a b)).length ≤ 30) :
    ∃ M', f_X7_copyRange r rb (nI (a + 1)) (nI b) rt M = some (nI (cpy ms (rng es a b)).length, M') ∧ bA M' rt Jt (nx2 + nI (cpy ms (rng es a b)).length) (ms2 ++ adds nx2 (cpy ms (rng es a b))) ∧ off M M' rt 7 := by
  have hl := h.len
  obtain ⟨s1, s2, s3⟩ := rng_split es hab hbl
  obtain ⟨M', e', b', o'⟩ := X7_cp_loop (r := r) (J := J) (bx := bx) (rd := rd) (id := id) (hi := hi) (cn := cn) (nx := nx) d d2 (rng es a b) (es.take a) (es.drop b) FU M 0 nx2 ms2 s1 (by rw [FU_eq]; omega) h hb ht hc
  rw [s2, s3, Nat.zero_add, show a + (b - a) = b by omega] at e'
  exact ⟨M', by simp only [f_X7_copyRange, ob_h h.1]; exact e', b', o'⟩
theorem X7_copys_e {M : Mem} (d : r + 7 ≤ rb ∨ rb + 7 ≤ r) {a b : Nat} (hab : a ≤ b) (hbl : b ≤ es.length) (h : sA M r J bx rd id hi es cn) (hb : bA M rb Jb nx ms) (hq : ∀ e ∈ es, ∀ i, i < 30 - ms.length → eU e ≠ nx + nI i) (hc : ms.length + (cpy ms (rng es a b)).length ≤ 30) :
    ∃ M', f_X7_copyRange r rb (nI (a + 1)) (nI b) rb M = some (nI (cpy ms (rng es a b)).length, M') ∧ bA M' rb Jb (nx + nI (cpy ms (rng es a b)).length) (ms ++ adds nx (cpy ms (rng es a b))) ∧ off M M' rb 7 := by
  have hl := h.len
  obtain ⟨s1, s2, s3⟩ := rng_split es hab hbl
  obtain ⟨M', e', b', o'⟩ := X7_cps_loop (r := r) (J := J) (bx := bx) (rd := rd) (id := id) (hi := hi) (cn := cn) d (rng es a b) (es.take a) (es.drop b) FU M 0 nx ms s1 (by rw [FU_eq]; omega) h hb (fun e he => hq e (by rw [← s1]; simp [he])) hc
  rw [s2, s3, Nat.zero_add, show a + (b - a) = b by omega] at e'
  exact ⟨M', by simp only [f_X7_copyRange, ob_h h.1]; exact e', b', o'⟩
theorem X7_remove_e {M : Mem} (d : r + 7 ≤ rb ∨ rb + 7 ≤ r) {a b : Nat} (hab : a ≤ b) (hbl : b ≤ es.length) (h : sA M r J bx rd id hi es cn) (hb : bA M rb Jb nx ms) :
    ∃ M', f_X7_removeRange r rb (nI (a + 1)) (nI b) M = some M' ∧ bA M' rb Jb nx (rmv ms (rng es a b)) ∧ off M M' rb 7 := by
  have hl := h.len
  obtain ⟨s1, s2, s3⟩ := rng_split es hab hbl
  obtain ⟨M', e', b', o'⟩ := X7_rm_loop (r := r) (J := J) (bx := bx) (rd := rd) (id := id) (hi := hi) (cn := cn) d (rng es a b) (es.take a) (es.drop b) FU M ms s1 (by rw [FU_eq]; omega) h hb
  rw [s2, s3, show a + (b - a) = b by omega] at e'
  exact ⟨M', by simp only [f_X7_removeRange, ob_h h.1]; exact e', b', o'⟩
end
