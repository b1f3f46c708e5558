/-! PURE: what stays, over a stretch of cells -/
def same (M M' : Mem) (a n : Nat) : Prop := ∀ q, a ≤ q → q < a + n → M'.1 q = M.1 q
def off2 (M M' : Mem) (a n b m : Nat) : Prop := M'.2 = M.2 ∧ ∀ q, (q < a ∨ a + n ≤ q) → (q < b ∨ b + m ≤ q) → M'.1 q = M.1 q
theorem same.rf (M : Mem) (a n : Nat) : same M M a n := fun _ _ _ => rfl
theorem same.trans {M M1 M2 : Mem} {a n : Nat} (h : same M M1 a n) (g : same M1 M2 a n) : same M M2 a n := fun q h1 h2 => (g q h1 h2).trans (h q h1 h2)
theorem same.sub {M M1 : Mem} {a n c k : Nat} (h : same M M1 a n) (h1 : a ≤ c) (h2 : c + k ≤ a + n) : same M M1 c k := fun q q1 q2 => h q (by omega) (by omega)
theorem off.same {M M' : Mem} {a n c k : Nat} (o : off M M' a n) (d : c + k ≤ a ∨ a + n ≤ c) : same M M' c k := fun q h1 h2 => o.2 q (by omega)
theorem off2.same {M M' : Mem} {a n b m c k : Nat} (o : off2 M M' a n b m) (d1 : c + k ≤ a ∨ a + n ≤ c) (d2 : c + k ≤ b ∨ b + m ≤ c) : same M M' c k := fun q h1 h2 => o.2 q (by omega) (by omega)
theorem off2.rf (M : Mem) (a n b m : Nat) : off2 M M a n b m := ⟨rfl, fun _ _ _ => rfl⟩
theorem off2.trans {M M1 M2 : Mem} {a n b m : Nat} (h : off2 M M1 a n b m) (g : off2 M1 M2 a n b m) : off2 M M2 a n b m := ⟨g.1.trans h.1, fun q h1 h2 => (g.2 q h1 h2).trans (h.2 q h1 h2)⟩
theorem off.l {M M' : Mem} {a' n' a n : Nat} (o : off M M' a' n') (b m : Nat) (h1 : a ≤ a') (h2 : a' + n' ≤ a + n) : off2 M M' a n b m := ⟨o.1, fun q q1 _ => o.2 q (by omega)⟩
theorem off.r {M M' : Mem} {b' m' b m : Nat} (o : off M M' b' m') (a n : Nat) (h1 : b ≤ b') (h2 : b' + m' ≤ b + m) : off2 M M' a n b m := ⟨o.1, fun q _ q2 => o.2 q (by omega)⟩
theorem off2.one {M M' : Mem} {a n b m c k : Nat} (o : off2 M M' a n b m) (h1 : c ≤ a ∧ a + n ≤ c + k) (h2 : c ≤ b ∧ b + m ≤ c + k) : off M M' c k := ⟨o.1, fun q hq => o.2 q (by omega) (by omega)⟩
theorem off2.wide {M M' : Mem} {a n b m a' n' b' m' : Nat} (o : off2 M M' a n b m) (h1 : a' ≤ a ∧ a + n ≤ a' + n') (h2 : b' ≤ b ∧ b + m ≤ b' + m') : off2 M M' a' n' b' m' := ⟨o.1, fun q q1 q2 => o.2 q (by omega) (by omega)⟩
theorem nA.sm {M M' : Mem} {r cap : Nat} {l : List Int32} (h : nA M r cap l) (s : same M M' r 2) : nA M' r cap l := by
  obtain ⟨h1, f, h2, h3⟩ := h
  exact ⟨(s r (by omega) (by omega)).trans h1, f, (s (r + 1) (by omega) (by omega)).trans h2, h3⟩
theorem bA.sm {M M' : Mem} {r : Nat} {J : Int64} {nx : Int32} {ms : Ms} (h : bA M r J nx ms) (s : same M M' r 7) : bA M' r J nx ms :=
  ⟨(s r (by omega) (by omega)).trans h.1, h.2.1.sm (s.sub (by omega) (by omega)), h.2.2.1.sm (s.sub (by omega) (by omega)), h.2.2.2.sm (s.sub (by omega) (by omega))⟩
theorem ntA.sm {M M' : Mem} {r : Nat} {ns : List Nt} (h : ntA M r ns) (s : same M M' r 9) : ntA M' r ns :=
  ⟨(s r (by omega) (by omega)).trans h.1, h.2.1.sm (s.sub (by omega) (by omega)), h.2.2.1.sm (s.sub (by omega) (by omega)), h.2.2.2.1.sm (s.sub (by omega) (by omega)), h.2.2.2.2.sm (s.sub (by omega) (by omega))⟩
theorem sA.sm {M M' : Mem} {r : Nat} {J : Int64} {bx : Int32} {rd id : Bool} {hi : Int32} {es : List En} {cn : List Int32} (h : sA M r J bx rd id hi es cn) (s : same M M' r 7) : sA M' r J bx rd id hi es cn :=
  ⟨(s r (by omega) (by omega)).trans h.1, h.2.1.sm (s.sub (by omega) (by omega)), h.2.2.1.sm (s.sub (by omega) (by omega)), h.2.2.2.sm (s.sub (by omega) (by omega))⟩
/-! rows in the middle -/
theorem mid_get {α : Type} (a b : List α) (x d : α) : (a ++ x :: b).getD a.length d = x := by simp [List.getD_eq_getElem?_getD]
theorem mid_set {α : Type} (a b : List α) (x y : α) : (a ++ x :: b).set a.length y = a ++ y :: b := by simp [List.set_append]
theorem mid_era {α : Type} (a b : List α) (x : α) : (a ++ x :: b).eraseIdx a.length = a ++ b := by simp [List.eraseIdx_append_of_length_le]
theorem snoc_mid {α : Type} (a b : List α) (x : α) : a ++ x :: b = (a ++ [x]) ++ b := by simp
/-! sessions: what writes -/
section
variable {M : Mem} {r : Nat} {J : Int64} {bx : Int32} {rd id : Bool} {hi : Int32} {es : List En} {cn : List Int32}
theorem X7_leave_e (h : sA M r J bx rd id hi es cn) : ∃ M', f_X7_leave r M = some M' ∧ sA M' r J (-1) false id 0 [] cn ∧ off M M' r 7 := by
  obtain ⟨M1, e1, h1, o1⟩ := h.pB (-1)
  obtain ⟨M2, e2, h2, o2⟩ := h1.pR false
  obtain ⟨M3, e3, h3, o3⟩ := h2.pH 0
  obtain ⟨M4, e4, n4, o4⟩ := X5_clear_e h3.2.1
  have g4 := (o4.2 r (by omega)).trans h3.1
  have t4 := h3.2.2.1.fr o4 (by omega)
  obtain ⟨M5, e5, n5, o5⟩ := X5_clear_e t4
  obtain ⟨h5, o6⟩ := h3.setE (es' := []) n4 (o4.wide (by omega) (by omega)) n5 (o5.wide (by omega) (by omega))
  refine ⟨M5, ?_, h5, ?_⟩
  · simp only [f_X7_leave, ob_h h.1, e1, e2, e3, h3.gU, e4, gR_h g4, bso, List.getElem?_cons_succ, List.getElem?_cons_zero, vR, e5]
  · exact (((o1.wide (by omega) (by omega)).trans (o2.wide (by omega) (by omega))).trans (o3.wide (by omega) (by omega))).trans o6
theorem X7_begin_e (h : sA M r J bx rd id hi es cn) (J' : Int64) (bx' : Int32) (rd' : Bool) : ∃ M', f_X7_begin r J' bx' rd' M = some M' ∧ sA M' r J' bx' rd' false 0 [] [0, 0, 0, 0, 0] ∧ off M M' r 7 := by
  obtain ⟨M1, e1, h1, o1⟩ := h.pJ J'
  obtain ⟨M2, e2, h2, o2⟩ := X7_leave_e h1
  obtain ⟨M3, e3, h3, o3⟩ := h2.pB bx'
  obtain ⟨M4, e4, h4, o4⟩ := h3.pR rd'
  obtain ⟨M5, e5, h5, o5⟩ := h4.pI false
  obtain ⟨M6, e6, n6, o6⟩ := X5_zeros_e h5.2.2.2 (n := 5) (by omega) (by rw [FU_eq]; omega)
  refine ⟨M6, ?_, h5.setC n6 o6, ?_⟩
  · have e6' : f_X5_becomeZeros (r + 5) 5 M5 = some M6 := e6
    simp only [f_X7_begin, ob_h h.1, e1, e2, e3, e4, e5, h5.gC, e6', bso]
  · exact (((((o1.wide (by omega) (by omega)).trans o2).trans (o3.wide (by omega) (by omega))).trans (o4.wide (by omega) (by omega))).trans (o5.wide (by omega) (by omega))).trans (o6.wide (by omega) (by omega))
theorem X7_take_e (h : sA M r J bx rd id hi es cn) {r2 : Nat} {J2 : Int64} {bx2 : Int32} {rd2 id2 : Bool} {hi2 : Int32} {es2 : List En} {cn2 : List Int32} (h2 : sA M r2 J2 bx2 rd2 id2 hi2 es2 cn2) (d : r + 7 ≤ r2 ∨ r2 + 7 ≤ r) : ∃ M', f_X7_takeFrom r r2 M = some M' ∧ sA M' r J2 bx2 rd2 id2 hi2 es2 cn2 ∧ off M M' r 7 := by
  have hl2 := h2.len
  obtain ⟨M1, e1, h1, o1⟩ := h.pJ J2
  have k1 := h2.fr o1 (by omega)
  obtain ⟨Ma, ea, ha, oa⟩ := h1.pB bx2
  have ka := k1.fr oa (by omega)
  obtain ⟨Mb, eb, hb, ob⟩ := ha.pR rd2
  have kb := ka.fr ob (by omega)
  obtain ⟨Mc, ec, hc, oc⟩ := hb.pI id2
  have kc := kb.fr oc (by omega)
  obtain ⟨Md, ed, hd, od⟩ := hc.pH hi2
  have kd := kc.fr od (by omega)
  obtain ⟨M3, e3, n3, o3⟩ := X5_takeFrom_e hd.2.1 kd.2.1 (by omega) (by rw [List.length_map, FU_eq]; omega)
  have k3 := kd.fr o3 (by omega)
  have t3 := hd.2.2.1.fr o3 (by omega)
  have c3 := hd.2.2.2.fr o3 (by omega)
  have g3 := (o3.2 r (by omega)).trans hd.1
  obtain ⟨M4, e4, n4, o4⟩ := X5_takeFrom_e t3 k3.2.2.1 (by omega) (by rw [List.length_map, FU_eq]; omega)
  have k4 := k3.fr o4 (by omega)
  have c4 := c3.fr o4 (by omega)
  have g4 := (o4.2 r (by omega)).trans g3
  obtain ⟨h4, o34⟩ := hd.setE n3 o3 n4 o4
  have hcl := k4.2.2.2.len
  obtain ⟨M5, e5, n5, o5⟩ := X5_takeFrom_e c4 k4.2.2.2 (by omega) (by rw [FU_eq]; omega)
  refine ⟨M5, ?_, h4.setC n5 o5, ?_⟩
  · simp only [f_X7_takeFrom, ob_h h.1, h2.gJ, e1, k1.gB, ea, ka.gR, eb, kb.gI, ec, kc.gH, ed, bso, hd.gU, kd.gU, e3, gR_h g3, k3.gT, k4.gC, List.getElem?_cons_succ, List.getElem?_cons_zero, vR, e4, gR_h g4, e5]
  · exact ((((((o1.wide (by omega) (by omega)).trans (oa.wide (by omega) (by omega))).trans (ob.wide (by omega) (by omega))).trans (oc.wide (by omega) (by omega))).trans (od.wide (by omega) (by omega))).trans o34).trans (o5.wide (by omega) (by omega))
/-- the new entries: what is behind the greatest, while there is room -/
def nw (hi : Int32) (es : List En) : Ms → Int32 × List En
  | [] => (hi, es)
  | m :: t => if es.length < 60 then (if newer hi m = true then nw (mU m) (es ++ [(mU m, mF m)]) t else nw hi es t) else (hi, es)
theorem nw_len : ∀ (t : Ms) (hi : Int32) (es : List En), es.length ≤ (nw hi es t).2.length := by
  intro t
  induction t with
  | nil => intro hi es; exact Nat.le_refl _
  | cons m t ih =>
    intro hi es
    rw [nw]
    split
    · split
      · refine Nat.le_trans ?_ (ih _ _)
        rw [List.length_append]; omega
      · exact ih _ _
    · exact Nat.le_refl _
theorem X7_add_loop {rb : Nat} {Jb : Int64} {nx : Int32} {ms : Ms} (d : r + 7 ≤ rb ∨ rb + 7 ≤ r) : ∀ (post pre : Ms) (fu : Nat) (M : Mem) (hi : Int32) (es : List En) (n : Nat), pre ++ post = ms → post.length < fu → bA M rb Jb nx ms → sA M r J bx rd id hi es cn → ∃ M', f_X7_addNewEntries_4 fu r rb (nI n) (nI pre.length) M = some (nI (n + ((nw hi es post).2.length - es.length)), M') ∧ sA M' r J bx rd id (nw hi es post).1 (nw hi es post).2 cn ∧ off M M' r 7 := by
  intro post
  induction post with
  | nil =>
    intro pre fu M hi es n hp hf hb h
    obtain ⟨fu, rfl⟩ : ∃ m, fu = m + 1 := ⟨fu - 1, by simp at hf; omega⟩
    have hlb := hb.len
    rw [List.append_nil] at hp
    subst hp
    refine ⟨M, ?_, h, off.rf _ _ _⟩
    simp only [f_X7_addNewEntries_4, X0_size_e hb, bso, leT rfl rfl (Nat.le_refl pre.length) (show pre.length < 2 ^ 31 by omega), if_true, nw, Nat.sub_self, Nat.add_zero]
  | cons m t ih =>
    intro pre fu M hi es n hp hf hb h
    obtain ⟨fu, rfl⟩ : ∃ m, fu = m + 1 := ⟨fu - 1, by simp at hf; omega⟩
    have hlb := hb.len
    have hl := h.len
    have hlt : pre.length < ms.length := by rw [← hp]; simp
    have hm : mg ms pre.length = m := by rw [← hp, mg]; exact mid_get _ _ _ _
    have hp' : (pre ++ [m]) ++ t = ms := by rw [← hp]; simp
    have hlen : (pre ++ [m]).length = pre.length + 1 := by simp
    simp only [List.length_cons] at hf
    simp only [f_X7_addNewEntries_4, X0_size_e hb, X7_size_e h, bso, leF rfl rfl hlt (show ms.length < 2 ^ 31 by omega), if_false]
    by_cases hr : es.length < 60
    · rw [if_neg (show ¬ ((60 : Int32) ≤ nI es.length) from fun z => absurd ((nI_leI (a := 60) (by omega) (by omega)).mp z) (by omega))]
      simp only [hb.gU, bso, X5_get_e hb.2.1, lgt_n _ (show pre.length < 2 ^ 31 by omega), mapD _ hlt, h.gH, hm, f_X7_addNewEntries_73, nI_1]
      by_cases hw : mU m ≤ hi
      · obtain ⟨M', e, h', o⟩ := ih (pre ++ [m]) fu M hi es n hp' (by omega) hb h
        rw [hlen] at e
        refine ⟨M', ?_, ?_, o⟩
        · simp only [hw, if_true, e, nw, hr, newer, decide_true, Bool.not_true, Bool.false_eq_true, if_false]
        · simp only [nw, hr, newer, hw, decide_true, Bool.not_true, Bool.false_eq_true, if_false, if_true]
          exact h'
      · obtain ⟨M1, e1, n1, o1⟩ := X5_add_e h.2.1 (mU m) (by rw [List.length_map]; omega)
        have b1 := hb.fr o1 (by omega)
        have g1 := (o1.2 r (by omega)).trans h.1
        obtain ⟨M2, e2, n2, o2⟩ := X5_add_e (h.2.2.1.fr o1 (by omega)) (mF m) (by rw [List.length_map]; omega)
        obtain ⟨h2, o12⟩ := h.setE (es' := es ++ [(mU m, mF m)]) (by rw [List.map_append]; exact n1) o1 (by rw [List.map_append]; exact n2) o2
        obtain ⟨M3, e3, h3, o3⟩ := h2.pH (mU m)
        obtain ⟨M', e, h', o⟩ := ih (pre ++ [m]) fu M3 (mU m) (es ++ [(mU m, mF m)]) (n + 1) hp' (by omega) ((b1.fr o2 (by omega)).fr o3 (by omega)) h3
        rw [hlen] at e
        have hq := nw_len t (mU m) (es ++ [(mU m, mF m)])
        rw [List.length_append, List.length_singleton] at hq
        refine ⟨M', ?_, ?_, (o12.trans (o3.wide (by omega) (by omega))).trans o⟩
        · simp only [hw, if_false, h.gU, e1, gR_h g1, List.getElem?_cons_succ, List.getElem?_cons_zero, vR, bso, b1.gF, X5_get_e b1.2.2.2, lgt_n _ (show pre.length < 2 ^ 31 by omega), mapD _ hlt, hm, e2, e3, nI_1, e, nw, hr, newer, decide_false, Bool.not_false, if_true, List.length_append, List.length_singleton]
          congr 3
          omega
        · simp only [nw, hr, newer, hw, decide_false, Bool.not_false, if_true]
          exact h'
    · rw [if_pos (show (60 : Int32) ≤ nI es.length from (nI_leI (a := 60) (by omega) (by omega)).mpr (by omega))]
      refine ⟨M, ?_, ?_, off.rf _ _ _⟩
      · simp only [nw, hr, if_false, Nat.sub_self, Nat.add_zero]
      · simp only [nw, hr, if_false]; exact h
theorem X7_addNew_e (h : sA M r J bx rd id hi es cn) {rb : Nat} {Jb : Int64} {nx : Int32} {ms : Ms} (hb : bA M rb Jb nx ms) (d : r + 7 ≤ rb ∨ rb + 7 ≤ r) : ∃ M', f_X7_addNewEntries r rb M = some (nI ((nw hi es ms).2.length - es.length), M') ∧ sA M' r J bx rd id (nw hi es ms).1 (nw hi es ms).2 cn ∧ off M M' r 7 := by
  have hlb := hb.len
  obtain ⟨M', e, h', o⟩ := X7_add_loop (r := r) d ms [] FU M hi es 0 rfl (by rw [FU_eq]; omega) hb h
  refine ⟨M', ?_, h', o⟩
  rw [Nat.zero_add] at e
  simp only [f_X7_addNewEntries, ob_h h.1]
  exact e
theorem X7_enter_e (h : sA M r J bx rd id hi es cn) {rb : Nat} {Jb : Int64} {nx : Int32} {ms : Ms} (hb : bA M rb Jb nx ms) (d : r + 7 ≤ rb ∨ rb + 7 ≤ r) (bx' : Int32) (rd' : Bool) : ∃ M', f_X7_enter r bx' rb rd' M = some M' ∧ sA M' r J bx' rd' id (nw 0 [] ms).1 (nw 0 [] ms).2 cn ∧ off M M' r 7 := by
  obtain ⟨M1, e1, h1, o1⟩ := X7_leave_e h
  obtain ⟨M2, e2, h2, o2⟩ := h1.pB bx'
  obtain ⟨M3, e3, h3, o3⟩ := h2.pR rd'
  obtain ⟨M4, e4, h4, o4⟩ := X7_addNew_e h3 (((hb.fr o1 (by omega)).fr o2 (by omega)).fr o3 (by omega)) d
  exact ⟨M4, by simp only [f_X7_enter, ob_h h.1, e1, e2, e3, e4, bso], h4, ((o1.trans (o2.wide (by omega) (by omega))).trans (o3.wide (by omega) (by omega))).trans o4⟩
theorem X7_count_e (h : sA M r J bx rd id hi es cn) {k : Nat} (hk : k < 5) (v : Int32) : ∃ M', f_X5_increase (r + 5) (nI k) v M = some M' ∧ sA M' r J bx rd id hi es (cn.set k (cn.getD k 0 + v)) ∧ off M M' r 7 := by
  obtain ⟨M1, e1, n1, o1⟩ := X5_increase_e h.2.2.2 (show k < 2 ^ 31 by omega) v
  exact ⟨M1, e1, h.setC n1 o1, o1.wide (by omega) (by omega)⟩
/-- an entry's told flags become others -/
theorem X7_told_set (h : sA M r J bx rd id hi es cn) {k : Nat} (hk : k < 2 ^ 31) (v : Int32) : ∃ M', f_X5_set (r + 3) (nI k) v M = some M' ∧ sA M' r J bx rd id hi (es.set k (eU (eg es k), v)) cn ∧ off M M' r 7 := by
  obtain ⟨M1, e1, n1, o1⟩ := X5_setn_e h.2.2.1 hk v
  have hU : (es.set k (eU (eg es k), v)).map eU = es.map eU := by
    rw [List.map_set]
    refine ext_getD (by simp) (fun j hj => ?_)
    rw [List.length_set, List.length_map] at hj
    by_cases e : j = k
    · subst e
      rw [mapG (0, 0) eU rfl]
      simp [List.getD_eq_getElem?_getD, hj]
      show eU (eg es j) = eU es[j]
      rw [eg_get hj]
    · simp [List.getD_eq_getElem?_getD, List.getElem?_set_ne (Ne.symm e)]
  refine ⟨M1, e1, ⟨(o1.2 r (by omega)).trans h.1, ?_, ?_, h.2.2.2.fr o1 (by omega)⟩, o1.wide (by omega) (by omega)⟩
  · rw [hU]; exact h.2.1.fr o1 (by omega)
  · rw [List.map_set]; exact n1
end
