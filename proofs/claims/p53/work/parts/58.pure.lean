/-! PURE: telling a session -/
def flg (ms : Ms) (e : En) : Int32 := match mix ms (eU e) with
  | none => 0
  | some k => mF (mg ms k)
/-- the notices 0, from a number on -/
def gN (ms : Ms) (me : Int32) : Nat → List En → List Nt
  | _, [] => []
  | n, e :: t => if gone ms e = true then (me, 0, nI n, 0) :: gN ms me n t else gN ms me (n + 1) t
def kept (ms : Ms) (es : List En) : List En := es.filter (fun e => !gone ms e)
theorem gN_len (ms : Ms) (me : Int32) : ∀ (es : List En) (n : Nat), (gN ms me n es).length = es.countP (gone ms) := by
  intro es
  induction es with
  | nil => intro n; rfl
  | cons e t ih =>
    intro n
    rw [gN, List.countP_cons]
    split
    · rw [List.length_cons, ih]
    · rw [ih, Nat.add_zero]
/-- the notices 1, and the entries behind them -/
def cN (ms : Ms) (me : Int32) : Nat → List En → List Nt
  | _, [] => []
  | n, e :: t => if chg ms e = true then (me, 1, nI n, flg ms e) :: cN ms me (n + 1) t else cN ms me (n + 1) t
def cE (ms : Ms) (es : List En) : List En := es.map (fun e => if chg ms e = true then (eU e, flg ms e) else e)
theorem cN_len (ms : Ms) (me : Int32) : ∀ (es : List En) (n : Nat), (cN ms me n es).length = es.countP (chg ms) := by
  intro es
  induction es with
  | nil => intro n; rfl
  | cons e t ih =>
    intro n
    rw [cN, List.countP_cons]
    split
    · rw [List.length_cons, ih]
    · rw [ih, Nat.add_zero]
section
variable {r : Nat} {J : Int64} {bx : Int32} {rd id : Bool} {cn : List Int32} {rb rn : Nat} {Jb : Int64} {nx : Int32} {ms : Ms}
theorem X7_tg_loop (me : Int32) (d1 : r + 7 ≤ rb ∨ rb + 7 ≤ r) (d2 : r + 7 ≤ rn ∨ rn + 9 ≤ r) (d3 : rb + 7 ≤ rn ∨ rn + 9 ≤ rb) {hi : Int32} {N : Nat} (hN : N ≤ 60) :
    ∀ (post pre : List En) (fu : Nat) (M : Mem) (ns : List Nt) (n k : Nat), k + post.length = N → post.length < fu → bA M rb Jb nx ms → sA M r J bx rd id hi (pre ++ post) cn → ntA M rn ns → ns.length + post.countP (gone ms) ≤ 244 → n + post.length ≤ N →
    ∃ M', f_X7_tellGone_15 fu r me rb rn (nI N) (nI (pre.length + 1)) (nI n) (nI k) M = some (nI (n + post.countP (gone ms)), M') ∧ sA M' r J bx rd id hi (pre ++ kept ms post) (cn.set 1 (cn.getD 1 0 + nI (n + post.countP (gone ms)))) ∧ ntA M' rn (ns ++ gN ms me (pre.length + 1) post) ∧ off2 M M' r 7 rn 9 := by
  intro post
  induction post with
  | nil =>
    intro pre fu M ns n k hk hf hb h hn hc hnN
    obtain ⟨fu, rfl⟩ : ∃ m, fu = m + 1 := ⟨fu - 1, by simp at hf; omega⟩
    rw [List.length_nil, Nat.add_zero] at hk
    subst hk
    obtain ⟨M1, e1, h1, o1⟩ := X7_count_e h (k := 1) (by omega) (nI n)
    refine ⟨M1, ?_, ?_, ?_, o1.l _ _ (by omega) (by omega)⟩
    · have e1' : f_X5_increase (r + 5) 1 (nI n) M = some M1 := e1
      simp only [f_X7_tellGone_15, leT rfl rfl (Nat.le_refl k) (show k < 2 ^ 31 by omega), if_true, h.gC, e1', bso, List.countP_nil, Nat.add_zero]
    · simpa [kept] using h1
    · rw [gN, List.append_nil]; exact hn.fr o1 (by omega)
  | cons e t ih =>
    intro pre fu M ns n k hk hf hb h hn hc hnN
    obtain ⟨fu, rfl⟩ : ∃ m, fu = m + 1 := ⟨fu - 1, by simp at hf; omega⟩
    simp only [List.length_cons] at hk hf hnN
    have hl := h.len
    rw [List.length_append, List.length_cons] at hl
    have he : eg (pre ++ e :: t) pre.length = e := mid_get _ _ _ _
    simp only [f_X7_tellGone_15, leF rfl rfl (show k < N by omega) (show N < 2 ^ 31 by omega), if_false, X7_isGone_e h hb (show pre.length < 2 ^ 31 by omega), he, bso, f_X7_tellGone_72, nI_1, nI_pred]
    rw [List.countP_cons] at hc
    cases hg : gone ms e with
    | true =>
      simp only [hg, if_true] at hc
      obtain ⟨M1, e1, n1, o1⟩ := X5_removeAt_e h.2.1 (i := pre.length) (by simp) (by rw [List.length_map, FU_eq, List.length_append, List.length_cons]; omega)
      have g1 := (o1.2 r (by omega)).trans h.1
      obtain ⟨M2, e2, n2, o2⟩ := X5_removeAt_e (h.2.2.1.fr o1 (by omega)) (i := pre.length) (by simp) (by rw [List.length_map, FU_eq, List.length_append, List.length_cons]; omega)
      obtain ⟨h2, o12⟩ := h.setE (es' := pre ++ t) (by rw [← mid_era pre t e, map_er]; exact n1) o1 (by rw [← mid_era pre t e, map_er]; exact n2) o2
      obtain ⟨M3, e3, q3, o3⟩ := X4_add_e (hn.fr o12 (by omega)) me 0 (nI (pre.length + 1)) 0 (by omega)
      obtain ⟨M4, e4, h4, q4, o4⟩ := ih pre fu M3 _ (n + 1) (k + 1) (by omega) (by omega) ((hb.fr o12 (by omega)).fr o3 (by omega)) (h2.fr o3 (by omega)) q3 (by rw [List.length_append, List.length_singleton]; omega) (by omega)
      have hs : n + 1 + t.countP (gone ms) = n + (e :: t).countP (gone ms) := by rw [List.countP_cons]; simp only [hg, if_true]; omega
      refine ⟨M4, ?_, ?_, ?_, ((o12.l rn 9 (by omega) (by omega)).trans (o3.r r 7 (by omega) (by omega))).trans o4⟩
      · simp only [cond_true, h.gU, e1, gR_h g1, List.getElem?_cons_succ, List.getElem?_cons_zero, vR, bso, e2, e3, e4, hs]
      · rw [hs] at h4
        simpa [kept, hg] using h4
      · simpa [gN, hg] using q4
    | false =>
      simp only [hg, Bool.false_eq_true, if_false, Nat.add_zero] at hc
      rw [snoc_mid] at h
      obtain ⟨M4, e4, h4, q4, o4⟩ := ih (pre ++ [e]) fu M ns n (k + 1) (by omega) (by omega) hb h hn hc (by omega)
      have hs : t.countP (gone ms) = (e :: t).countP (gone ms) := by rw [List.countP_cons]; simp only [hg, Bool.false_eq_true, if_false, Nat.add_zero]
      rw [List.length_append, List.length_singleton] at e4 q4
      refine ⟨M4, ?_, ?_, ?_, o4⟩
      · simp only [cond_false, e4, hs]
      · rw [hs] at h4
        simpa [kept, hg] using h4
      · simpa [gN, hg] using q4
theorem X7_tellGone_e {M : Mem} {hi : Int32} {es : List En} {ns : List Nt} (me : Int32) (d1 : r + 7 ≤ rb ∨ rb + 7 ≤ r) (d2 : r + 7 ≤ rn ∨ rn + 9 ≤ r) (d3 : rb + 7 ≤ rn ∨ rn + 9 ≤ rb) (h : sA M r J bx rd id hi es cn) (hb : bA M rb Jb nx ms) (hn : ntA M rn ns) (hc : ns.length + es.countP (gone ms) ≤ 244) :
    ∃ M', f_X7_tellGone r me rb rn M = some (nI (es.countP (gone ms)), M') ∧ sA M' r J bx rd id hi (kept ms es) (cn.set 1 (cn.getD 1 0 + nI (es.countP (gone ms)))) ∧ ntA M' rn (ns ++ gN ms me 1 es) ∧ off2 M M' r 7 rn 9 := by
  have hl := h.len
  obtain ⟨M', e, h', q', o⟩ := X7_tg_loop (r := r) (J := J) (bx := bx) (rd := rd) (id := id) (cn := cn) (rb := rb) (rn := rn) (Jb := Jb) (nx := nx) (ms := ms) me d1 d2 d3 (hi := hi) (N := es.length) hl es [] FU M ns 0 0 (Nat.zero_add _) (by rw [FU_eq]; omega) hb h hn hc (by omega)
  rw [Nat.zero_add] at e h'
  refine ⟨M', ?_, h', q', o⟩
  simp only [f_X7_tellGone, ob_h h.1, X7_size_e h, bso]
  exact e
theorem X7_tc_loop (me : Int32) (d1 : r + 7 ≤ rb ∨ rb + 7 ≤ r) (d2 : r + 7 ≤ rn ∨ rn + 9 ≤ r) (d3 : rb + 7 ≤ rn ∨ rn + 9 ≤ rb) {hi : Int32} :
    ∀ (post pre : List En) (fu : Nat) (M : Mem) (ns : List Nt) (n : Nat), post.length < fu → bA M rb Jb nx ms → sA M r J bx rd id hi (pre ++ post) cn → ntA M rn ns → ns.length + post.countP (chg ms) ≤ 244 →
    ∃ M', f_X7_tellChanged_6 fu r me rb rn (nI n) (nI (pre.length + 1)) M = some (nI (n + post.countP (chg ms)), M') ∧ sA M' r J bx rd id hi (pre ++ cE ms post) (cn.set 2 (cn.getD 2 0 + nI (n + post.countP (chg ms)))) ∧ ntA M' rn (ns ++ cN ms me (pre.length + 1) post) ∧ off2 M M' r 7 rn 9 := by
  intro post
  induction post with
  | nil =>
    intro pre fu M ns n hf hb h hn hc
    obtain ⟨fu, rfl⟩ : ∃ m, fu = m + 1 := ⟨fu - 1, by simp at hf; omega⟩
    have hl := h.len
    rw [List.append_nil] at h hl
    obtain ⟨M1, e1, h1, o1⟩ := X7_count_e h (k := 2) (by omega) (nI n)
    refine ⟨M1, ?_, ?_, ?_, o1.l _ _ (by omega) (by omega)⟩
    · have e1' : f_X5_increase (r + 5) 2 (nI n) M = some M1 := e1
      simp only [f_X7_tellChanged_6, X7_size_e h, ltT rfl rfl (Nat.lt_succ_self pre.length) (show pre.length + 1 < 2 ^ 31 by omega), if_true, h.gC, e1', bso, List.countP_nil, Nat.add_zero]
    · simpa [cE] using h1
    · rw [cN, List.append_nil]; exact hn.fr o1 (by omega)
  | cons e t ih =>
    intro pre fu M ns n hf hb h hn hc
    obtain ⟨fu, rfl⟩ : ∃ m, fu = m + 1 := ⟨fu - 1, by simp at hf; omega⟩
    simp only [List.length_cons] at hf
    have hl := h.len
    have hlb := hb.len
    have hl2 : (pre ++ e :: t).length = pre.length + 1 + t.length := by rw [List.length_append, List.length_cons]; omega
    rw [hl2] at hl
    have he : eg (pre ++ e :: t) pre.length = e := mid_get _ _ _ _
    simp only [f_X7_tellChanged_6, X7_size_e h, hl2, ltF rfl rfl (show pre.length + 1 ≤ pre.length + 1 + t.length by omega) (show pre.length + 1 + t.length < 2 ^ 31 by omega), if_false, X7_isChg_e h hb (show pre.length < 2 ^ 31 by omega), he, bso, f_X7_tellChanged_70, nI_1, nI_pred]
    rw [List.countP_cons] at hc
    cases hg : chg ms e with
    | true =>
      simp only [hg, if_true] at hc
      obtain ⟨M1, e1, h1, o1⟩ := X7_told_set h (k := pre.length) (by omega) (flg ms e)
      rw [he, mid_set] at h1
      obtain ⟨M3, e3, q3, o3⟩ := X4_add_e (hn.fr o1 (by omega)) me 1 (nI (pre.length + 1)) (flg ms e) (by omega)
      have h3 := h1.fr o3 (by omega)
      rw [snoc_mid] at h3
      obtain ⟨M4, e4, h4, q4, o4⟩ := ih (pre ++ [(eU e, flg ms e)]) fu M3 _ (n + 1) (by omega) ((hb.fr o1 (by omega)).fr o3 (by omega)) h3 q3 (by rw [List.length_append, List.length_singleton]; omega)
      have hs : n + 1 + t.countP (chg ms) = n + (e :: t).countP (chg ms) := by rw [List.countP_cons]; simp only [hg, if_true]; omega
      rw [List.length_append, List.length_singleton] at e4 q4
      have hfl : f_X5_get (rb + 5) (oI (mix ms (eU e))) M = some (flg ms e) := X0_fl_ix hb _
      refine ⟨M4, ?_, ?_, ?_, ((o1.l rn 9 (by omega) (by omega)).trans (o3.r r 7 (by omega) (by omega))).trans o4⟩
      · simp only [cond_true, hb.gF, X7_uid_e h (show pre.length < 2 ^ 31 by omega), he, X0_ix hb, hfl, h.gT, bso, e1, e3, e4, hs]
      · rw [hs] at h4
        simpa [cE, hg] using h4
      · simpa [cN, hg] using q4
    | false =>
      simp only [hg, Bool.false_eq_true, if_false, Nat.add_zero] at hc
      rw [snoc_mid] at h
      obtain ⟨M4, e4, h4, q4, o4⟩ := ih (pre ++ [e]) fu M ns n (by omega) hb h hn hc
      have hs : t.countP (chg ms) = (e :: t).countP (chg ms) := by rw [List.countP_cons]; simp only [hg, Bool.false_eq_true, if_false, Nat.add_zero]
      rw [List.length_append, List.length_singleton] at e4 q4
      refine ⟨M4, ?_, ?_, ?_, o4⟩
      · simp only [cond_false, e4, hs]
      · rw [hs] at h4
        simpa [cE, hg] using h4
      · simpa [cN, hg] using q4
theorem X7_tellChg_e {M : Mem} {hi : Int32} {es : List En} {ns : List Nt} (me : Int32) (d1 : r + 7 ≤ rb ∨ rb + 7 ≤ r) (d2 : r + 7 ≤ rn ∨ rn + 9 ≤ r) (d3 : rb + 7 ≤ rn ∨ rn + 9 ≤ rb) (h : sA M r J bx rd id hi es cn) (hb : bA M rb Jb nx ms) (hn : ntA M rn ns) (hc : ns.length + es.countP (chg ms) ≤ 244) :
    ∃ M', f_X7_tellChanged r me rb rn M = some (nI (es.countP (chg ms)), M') ∧ sA M' r J bx rd id hi (cE ms es) (cn.set 2 (cn.getD 2 0 + nI (es.countP (chg ms)))) ∧ ntA M' rn (ns ++ cN ms me 1 es) ∧ off2 M M' r 7 rn 9 := by
  have hl := h.len
  obtain ⟨M', e, h', q', o⟩ := X7_tc_loop (r := r) (J := J) (bx := bx) (rd := rd) (id := id) (cn := cn) (rb := rb) (rn := rn) (Jb := Jb) (nx := nx) (ms := ms) me d1 d2 d3 (hi := hi) es [] FU M ns 0 (by rw [FU_eq]; omega) hb h hn hc
  rw [Nat.zero_add] at e h'
  refine ⟨M', ?_, h', q', o⟩
  simp only [f_X7_tellChanged, ob_h h.1]
  exact e
/-- the notice 2 -/
def wN (me : Int32) (es es' : List En) : List Nt := if es'.length = es.length then [] else [(me, 2, nI es'.length, 0)]
def wC (cn : List Int32) (es es' : List En) : List Int32 := if es'.length = es.length then cn else cn.set 3 (cn.getD 3 0 + 1)
theorem X7_tellNew_e {M : Mem} {hi : Int32} {es : List En} {ns : List Nt} (me : Int32) (d1 : r + 7 ≤ rb ∨ rb + 7 ≤ r) (d2 : r + 7 ≤ rn ∨ rn + 9 ≤ r) (h : sA M r J bx rd id hi es cn) (hb : bA M rb Jb nx ms) (hn : ntA M rn ns) (hc : ns.length + (wN me es (nw hi es ms).2).length ≤ 244) :
    ∃ M', f_X7_tellNew r me rb rn M = some (nI (wN me es (nw hi es ms).2).length, M') ∧ sA M' r J bx rd id (nw hi es ms).1 (nw hi es ms).2 (wC cn es (nw hi es ms).2) ∧ ntA M' rn (ns ++ wN me es (nw hi es ms).2) ∧ off2 M M' r 7 rn 9 := by
  have hl := h.len
  obtain ⟨M1, e1, h1, o1⟩ := X7_addNew_e h hb d1
  have hl1 := h1.len
  have hq := nw_len ms hi es
  have n1 := hn.fr o1 (by omega)
  simp only [f_X7_tellNew, ob_h h.1, e1, bso]
  by_cases e : (nw hi es ms).2.length = es.length
  · refine ⟨M1, ?_, ?_, ?_, o1.l _ _ (by omega) (by omega)⟩
    · rw [if_pos (show nI ((nw hi es ms).2.length - es.length) = 0 by rw [e, Nat.sub_self]; rfl), wN, if_pos e]; rfl
    · rw [wC, if_pos e]; exact h1
    · rw [wN, if_pos e, List.append_nil]; exact n1
  · rw [wN, if_neg e, List.length_singleton] at hc
    obtain ⟨M2, e2, q2, o2⟩ := X4_add_e n1 me 2 (nI (nw hi es ms).2.length) 0 (by omega)
    have h2 := h1.fr o2 (by omega)
    obtain ⟨M3, e3, h3, o3⟩ := X7_count_e h2 (k := 3) (by omega) 1
    have e3' : f_X5_increase (r + 5) 3 1 M2 = some M3 := e3
    refine ⟨M3, ?_, ?_, ?_, ((o1.l rn 9 (by omega) (by omega)).trans (o2.r r 7 (by omega) (by omega))).trans (o3.l rn 9 (by omega) (by omega))⟩
    · rw [if_neg (show ¬ (nI ((nw hi es ms).2.length - es.length) = 0) from nI_ne0 (by omega) (by omega)), wN, if_neg e]
      simp only [X7_size_e h1, bso, e2, h2.gC, e3']
      rfl
    · rw [wC, if_neg e]; exact h3
    · rw [wN, if_neg e]; exact q2.fr o3 (by omega)
end
