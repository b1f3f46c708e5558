/-! PURE: boxes of the class -/
abbrev Msg : Type := Int32 × Int32 × Int32
def mU (m : Msg) : Int32 := m.1
def mS (m : Msg) : Int32 := m.2.1
def mF (m : Msg) : Int32 := m.2.2
abbrev Ms : Type := List Msg
def mg (ms : Ms) (k : Nat) : Msg := ms.getD k (0, 0, 0)
theorem mg_get {ms : Ms} {j : Nat} (h : j < ms.length) : mg ms j = ms[j] := by rw [mg, List.getD_eq_getElem?_getD, List.getElem?_eq_getElem h]; rfl
theorem mapD {ms : Ms} (f : Msg → Int32) {j : Nat} (h : j < ms.length) : (ms.map f).getD j 0 = f (mg ms j) := by
  rw [getD_get (by rw [List.length_map]; exact h), List.getElem_map, mg_get h]
def mP (m : Msg) (f : Int32) : Msg := (m.1, m.2.1, f)
def setF (ms : Ms) (k : Nat) (f : Int32) : Ms := ms.set k (mP (mg ms k) f)
theorem setF_len (ms : Ms) (k : Nat) (f : Int32) : (setF ms k f).length = ms.length := by rw [setF, List.length_set]
theorem setF_U (ms : Ms) (k : Nat) (f : Int32) : (setF ms k f).map mU = ms.map mU := by
  refine ext_getD (by simp [setF_len]) (fun j hj => ?_)
  rw [List.length_map, setF_len] at hj
  rw [mapD _ hj, mapD _ (by rw [setF_len]; exact hj), mg_get hj, mg_get (by rw [setF_len]; exact hj)]
  simp only [setF, List.getElem_set]
  split
  · rename_i e; subst e; rw [mg_get hj]; rfl
  · rfl
theorem setF_S (ms : Ms) (k : Nat) (f : Int32) : (setF ms k f).map mS = ms.map mS := by
  refine ext_getD (by simp [setF_len]) (fun j hj => ?_)
  rw [List.length_map, setF_len] at hj
  rw [mapD _ hj, mapD _ (by rw [setF_len]; exact hj), mg_get hj, mg_get (by rw [setF_len]; exact hj)]
  simp only [setF, List.getElem_set]
  split
  · rename_i e; subst e; rw [mg_get hj]; rfl
  · rfl
theorem setF_F (ms : Ms) (k : Nat) (f : Int32) : (setF ms k f).map mF = (ms.map mF).set k f := by rw [setF, List.map_set]; rfl
theorem map_er {α β : Type} (f : α → β) (l : List α) (k : Nat) : (l.eraseIdx k).map f = (l.map f).eraseIdx k := by
  refine List.ext_getElem? (fun i => ?_)
  rw [List.getElem?_map, List.getElem?_eraseIdx, List.getElem?_eraseIdx]
  split <;> rw [List.getElem?_map]
theorem take_er {α : Type} (l : List α) (k : Nat) : (l.eraseIdx k).take k = l.take k := by
  refine List.ext_getElem? (fun i => ?_)
  rw [List.getElem?_take, List.getElem?_take, List.getElem?_eraseIdx]
  split <;> rfl
theorem drop_er {α : Type} (l : List α) (k : Nat) : (l.eraseIdx k).drop k = l.drop (k + 1) := by
  refine List.ext_getElem? (fun i => ?_)
  rw [List.getElem?_drop, List.getElem?_drop, List.getElem?_eraseIdx, if_neg (by omega)]
  congr 1; omega
/-- a box at r: 7 cells -/
def bA (M : Mem) (r : Nat) (J : Int64) (nx : Int32) (ms : Ms) : Prop :=
  M.1 r = some (.inr (0, [.long J, .int nx, .ref (r + 1), .ref (r + 3), .ref (r + 5)])) ∧ nA M (r + 1) 30 (ms.map mU) ∧ nA M (r + 3) 30 (ms.map mS) ∧ nA M (r + 5) 30 (ms.map mF)
theorem bA.fr {M M' : Mem} {r a n : Nat} {J : Int64} {nx : Int32} {ms : Ms} (h : bA M r J nx ms) (o : off M M' a n) (d : r + 7 ≤ a ∨ a + n ≤ r) : bA M' r J nx ms :=
  ⟨(o.2 r (by omega)).trans h.1, h.2.1.fr o (by omega), h.2.2.1.fr o (by omega), h.2.2.2.fr o (by omega)⟩
theorem bA.len {M : Mem} {r : Nat} {J : Int64} {nx : Int32} {ms : Ms} (h : bA M r J nx ms) : ms.length ≤ 30 := by
  have := h.2.1.len
  rwa [List.length_map] at this
section
variable {M : Mem} {r : Nat} {J : Int64} {nx : Int32} {ms : Ms}
theorem bA.gU (h : bA M r J nx ms) : gR M 0 2 r = some (r + 1) := by rw [gR_h h.1]; rfl
theorem bA.gS (h : bA M r J nx ms) : gR M 0 3 r = some (r + 3) := by rw [gR_h h.1]; rfl
theorem bA.gF (h : bA M r J nx ms) : gR M 0 4 r = some (r + 5) := by rw [gR_h h.1]; rfl
theorem bA.gN (h : bA M r J nx ms) : gI M 0 1 r = some nx := by rw [gI_h h.1]; rfl
theorem bA.gJ (h : bA M r J nx ms) : gJ M 0 0 r = some J := by rw [gJ_h h.1]; rfl
theorem X0_size_e (h : bA M r J nx ms) : f_X0_size r M = some (nI ms.length) := by
  simp only [f_X0_size, ob_h h.1, h.gU, X5_size_e h.2.1, Option.bind_some, List.length_map]
theorem X0_index_e (h : bA M r J nx ms) (v : Int32) : f_X0_indexOfUid r v M = some (fnd (ms.map mU) v) := by
  have := h.len
  simp only [f_X0_indexOfUid, ob_h h.1, h.gU, X5_find_e h.2.1 v (by rw [List.length_map, FU_eq]; omega), Option.bind_some]
def b1 (k : Nat) : Int32 := 1 <<< (nI k &&& 31)
def sumS (ms : Ms) : Int32 := fd (fun k a => a + mS (mg ms k)) 0 ms.length 0
theorem X0_sum_e (h : bA M r J nx ms) : f_X0_sumOfSizes r M = some (sumS ms) := by
  have hl := h.len
  simp only [f_X0_sumOfSizes, ob_h h.1]
  refine fd_run (fun fu k a => f_X0_sumOfSizes_4 fu r a (nI k) M) _ (fun a => a) 0 ms.length ?_ ?_ ms.length 0 0 FU (Nat.zero_add _) (Nat.le_refl _) (by rw [FU_eq]; omega)
  · intro fu a
    simp only [f_X0_sumOfSizes_4, X0_size_e h, Option.bind_some, leT rfl rfl (Nat.le_refl ms.length) (show ms.length < 2 ^ 31 by omega), if_true]
  · intro fu k a _ hk
    simp only [f_X0_sumOfSizes_4, X0_size_e h, Option.bind_some, leF rfl rfl hk (show ms.length < 2 ^ 31 by omega), if_false, h.gS, X5_get_e h.2.2.1, lgt_n _ (show k < 2 ^ 31 by omega), mapD _ hk, nI_1]
def allB (n : Nat) : Int32 := fd (fun k a => a ||| b1 k) 0 n 0
/-- the set of the messages for which something holds -/
def setB (p : Msg → Bool) (ms : Ms) : Int32 := fd (fun k a => if p (mg ms k) = true then a ||| b1 k else a) 0 ms.length 0
def pF (fl : Int32) (m : Msg) : Bool := !(decide (mF m &&& fl = 0))
def pC (z l : Bool) (b : Int32) (m : Msg) : Bool := bif l then !(decide (b ≤ (bif z then mS m else mU m))) else !(decide ((bif z then mS m else mU m) ≤ b))
theorem X0_withFlag_e (h : bA M r J nx ms) (fl : Int32) : f_X0_withFlag r fl M = some (setB (pF fl) ms) := by
  have hl := h.len
  simp only [f_X0_withFlag, ob_h h.1]
  refine fd_run (fun fu k a => f_X0_withFlag_4 fu r fl a (nI k) M) _ (fun a => a) 0 ms.length ?_ ?_ ms.length 0 0 FU (Nat.zero_add _) (Nat.le_refl _) (by rw [FU_eq]; omega)
  · intro fu a
    simp only [f_X0_withFlag_4, h.gU, X5_size_e h.2.1, List.length_map, Option.bind_some, leT rfl rfl (Nat.le_refl ms.length) (show ms.length < 2 ^ 31 by omega), if_true]
  · intro fu k a _ hk
    simp only [f_X0_withFlag_4, h.gU, X5_size_e h.2.1, List.length_map, Option.bind_some, leF rfl rfl hk (show ms.length < 2 ^ 31 by omega), if_false, h.gF, X5_get_e h.2.2.2, lgt_n _ (show k < 2 ^ 31 by omega), mapD _ hk, f_X0_withFlag_34, nI_1, pF]
    by_cases e : mF (mg ms k) &&& fl = 0
    · simp [e]
    · simp [e, b1]
theorem bA.setN (h : bA M r J nx ms) (nx' : Int32) : ∃ M', pV M 0 1 r (.int nx') = some M' ∧ bA M' r J nx' ms ∧ off M M' r 1 := by
  have o := off_set M r (.inr (0, [.long J, .int nx', .ref (r + 1), .ref (r + 3), .ref (r + 5)]))
  exact ⟨_, by simp [pV_h h.1], ⟨mset_at _ _ _, h.2.1.fr o (by omega), h.2.2.1.fr o (by omega), h.2.2.2.fr o (by omega)⟩, o⟩
theorem bA.setJ (h : bA M r J nx ms) (J' : Int64) : ∃ M', pV M 0 0 r (.long J') = some M' ∧ bA M' r J' nx ms ∧ off M M' r 1 := by
  have o := off_set M r (.inr (0, [.long J', .int nx, .ref (r + 1), .ref (r + 3), .ref (r + 5)]))
  exact ⟨_, by simp [pV_h h.1], ⟨mset_at _ _ _, h.2.1.fr o (by omega), h.2.2.1.fr o (by omega), h.2.2.2.fr o (by omega)⟩, o⟩
theorem X0_begin_e (h : bA M r J nx ms) (J' : Int64) : ∃ M', f_X0_begin r J' M = some M' ∧ bA M' r J' 1 [] ∧ off M M' r 7 := by
  obtain ⟨M1, e1, h1, o1⟩ := h.setJ J'
  obtain ⟨M2, e2, h2, o2⟩ := h1.setN 1
  obtain ⟨g0, gu, gs, gf⟩ := id h2
  obtain ⟨M3, e3, n3, o3⟩ := X5_clear_e gu
  have gs := gs.fr o3 (by omega)
  obtain ⟨M4, e4, n4, o4⟩ := X5_clear_e gs
  have gf := (gf.fr o3 (by omega)).fr o4 (by omega)
  obtain ⟨M5, e5, n5, o5⟩ := X5_clear_e gf
  have g3 := (o3.2 r (by omega)).trans g0
  have g4 := (o4.2 r (by omega)).trans g3
  have g5 := (o5.2 r (by omega)).trans g4
  refine ⟨M5, ?_, ⟨g5, (n3.fr o4 (by omega)).fr o5 (by omega), n4.fr o5 (by omega), n5⟩, ?_⟩
  · simp only [f_X0_begin, ob_h h.1, e1, e2, Option.bind_some, h2.gU, e3, gR_h g3, List.getElem?_cons_succ, List.getElem?_cons_zero, vR, e4, gR_h g4, e5]
  · exact ((((o1.wide (by omega) (by omega)).trans (o2.wide (by omega) (by omega))).trans (o3.wide (by omega) (by omega))).trans (o4.wide (by omega) (by omega))).trans (o5.wide (by omega) (by omega))
theorem X0_add_e (h : bA M r J nx ms) (sz fl : Int32) (hr : ms.length < 30) : ∃ M', f_X0_addMessage r sz fl M = some M' ∧ bA M' r J (nx + 1) (ms ++ [(nx, sz, fl)]) ∧ off M M' r 7 := by
  obtain ⟨g0, gu, gs, gf⟩ := id h
  obtain ⟨M3, e3, n3, o3⟩ := X5_add_e gu nx (by rw [List.length_map]; omega)
  have gs := gs.fr o3 (by omega)
  obtain ⟨M4, e4, n4, o4⟩ := X5_add_e gs sz (by rw [List.length_map]; omega)
  have gf := (gf.fr o3 (by omega)).fr o4 (by omega)
  obtain ⟨M5, e5, n5, o5⟩ := X5_add_e gf fl (by rw [List.length_map]; omega)
  have g3 := (o3.2 r (by omega)).trans g0
  have g4 := (o4.2 r (by omega)).trans g3
  have g5 := (o5.2 r (by omega)).trans g4
  have hb : bA M5 r J nx (ms ++ [(nx, sz, fl)]) := ⟨g5, by rw [List.map_append]; exact (n3.fr o4 (by omega)).fr o5 (by omega), by rw [List.map_append]; exact n4.fr o5 (by omega), by rw [List.map_append]; exact n5⟩
  obtain ⟨M6, e6, h6, o6⟩ := hb.setN (nx + 1)
  refine ⟨M6, ?_, h6, ?_⟩
  · simp only [f_X0_addMessage, ob_h h.1, Option.bind_some, h.gU, h.gN, e3, gR_h g3, List.getElem?_cons_succ, List.getElem?_cons_zero, vR, e4, gR_h g4, e5, hb.gN, e6]
  · exact (((o3.wide (by omega) (by omega)).trans (o4.wide (by omega) (by omega))).trans (o5.wide (by omega) (by omega))).trans (o6.wide (by omega) (by omega))
theorem X0_remove_e (h : bA M r J nx ms) {k : Nat} (hk : k < ms.length) : ∃ M', f_X0_removeMessage r (nI k) M = some M' ∧ bA M' r J nx (ms.eraseIdx k) ∧ off M M' r 7 := by
  have hl := h.len
  obtain ⟨g0, gu, gs, gf⟩ := id h
  obtain ⟨M3, e3, n3, o3⟩ := X5_removeAt_e gu (i := k) (by rw [List.length_map]; omega) (by rw [List.length_map, FU_eq]; omega)
  have gs := gs.fr o3 (by omega)
  obtain ⟨M4, e4, n4, o4⟩ := X5_removeAt_e gs (i := k) (by rw [List.length_map]; omega) (by rw [List.length_map, FU_eq]; omega)
  have gf := (gf.fr o3 (by omega)).fr o4 (by omega)
  obtain ⟨M5, e5, n5, o5⟩ := X5_removeAt_e gf (i := k) (by rw [List.length_map]; omega) (by rw [List.length_map, FU_eq]; omega)
  have g3 := (o3.2 r (by omega)).trans g0
  have g4 := (o4.2 r (by omega)).trans g3
  have g5 := (o5.2 r (by omega)).trans g4
  refine ⟨M5, ?_, ⟨g5, ?_, ?_, ?_⟩, ?_⟩
  · simp only [f_X0_removeMessage, ob_h h.1, Option.bind_some, h.gU, e3, gR_h g3, List.getElem?_cons_succ, List.getElem?_cons_zero, vR, e4, gR_h g4, e5]
  · rw [map_er]; exact (n3.fr o4 (by omega)).fr o5 (by omega)
  · rw [map_er]; exact n4.fr o5 (by omega)
  · rw [map_er]; exact n5
  · exact ((o3.wide (by omega) (by omega)).trans (o4.wide (by omega) (by omega))).trans (o5.wide (by omega) (by omega))
theorem X0_remove_no (h : bA M r J nx ms) : f_X0_removeMessage r (-1) M = some M := by
  obtain ⟨g0, gu, gs, gf⟩ := id h
  simp only [f_X0_removeMessage, ob_h h.1, Option.bind_some, h.gU, h.gS, h.gF, X5_removeAt_no gu (.inl (show (-1 : Int32) < 0 by decide)), X5_removeAt_no gs (.inl (show (-1 : Int32) < 0 by decide)), X5_removeAt_no gf (.inl (show (-1 : Int32) < 0 by decide))]
theorem X0_take_e (h : bA M r J nx ms) {r2 : Nat} {J2 : Int64} {nx2 : Int32} {ms2 : Ms} (h2 : bA M r2 J2 nx2 ms2) (d : r + 7 ≤ r2 ∨ r2 + 7 ≤ r) : ∃ M', f_X0_takeFrom r r2 M = some M' ∧ bA M' r J2 nx2 ms2 ∧ off M M' r 7 := by
  have hl2 := h2.len
  obtain ⟨M1, e1, h1, o1⟩ := h.setJ J2
  have k1 := h2.fr o1 (by omega)
  obtain ⟨Ma, ea, ha, oa⟩ := h1.setN nx2
  have ka := k1.fr oa (by omega)
  obtain ⟨g0, gu, gs, gf⟩ := id ha
  obtain ⟨M3, e3, n3, o3⟩ := X5_takeFrom_e gu ka.2.1 (by omega) (by rw [List.length_map, FU_eq]; omega)
  have k3 := ka.fr o3 (by omega)
  have gs := gs.fr o3 (by omega)
  obtain ⟨M4, e4, n4, o4⟩ := X5_takeFrom_e gs k3.2.2.1 (by omega) (by rw [List.length_map, FU_eq]; omega)
  have k4 := k3.fr o4 (by omega)
  have gf := (gf.fr o3 (by omega)).fr o4 (by omega)
  obtain ⟨M5, e5, n5, o5⟩ := X5_takeFrom_e gf k4.2.2.2 (by omega) (by rw [List.length_map, FU_eq]; omega)
  have g3 := (o3.2 r (by omega)).trans g0
  have g4 := (o4.2 r (by omega)).trans g3
  have g5 := (o5.2 r (by omega)).trans g4
  refine ⟨M5, ?_, ⟨g5, (n3.fr o4 (by omega)).fr o5 (by omega), n4.fr o5 (by omega), n5⟩, ?_⟩
  · simp only [f_X0_takeFrom, ob_h h.1, h2.gJ, e1, k1.gN, ea, Option.bind_some, ha.gU, ka.gU, e3, gR_h g3, k3.gS, k4.gF, List.getElem?_cons_succ, List.getElem?_cons_zero, vR, e4, gR_h g4, e5]
  · exact ((((o1.wide (by omega) (by omega)).trans (oa.wide (by omega) (by omega))).trans (o3.wide (by omega) (by omega))).trans (o4.wide (by omega) (by omega))).trans (o5.wide (by omega) (by omega))
def fby (mode b by' : Int32) : Int32 := if mode = 0 then by' else if mode = 1 then b ||| by' else b &&& (by' ^^^ (-1))
theorem bA.putF (h : bA M r J nx ms) {k : Nat} (hk : k < 2 ^ 31) (f : Int32) : ∃ M', f_X5_set (r + 5) (nI k) f M = some M' ∧ bA M' r J nx (setF ms k f) ∧ off M M' r 7 := by
  obtain ⟨g0, gu, gs, gf⟩ := id h
  obtain ⟨M5, e5, n5, o5⟩ := X5_setn_e gf hk f
  refine ⟨M5, e5, ⟨(o5.2 r (by omega)).trans g0, by rw [setF_U]; exact gu.fr o5 (by omega), by rw [setF_S]; exact gs.fr o5 (by omega), by rw [setF_F]; exact n5⟩, o5.wide (by omega) (by omega)⟩
theorem X0_change_e (h : bA M r J nx ms) {k : Nat} (hk : k < ms.length) (mode fl : Int32) : ∃ M', f_X0_changeFlags r (nI k) mode fl M = some (!(decide (fby mode (mF (mg ms k)) fl = mF (mg ms k))), M') ∧ bA M' r J nx (setF ms k (fby mode (mF (mg ms k)) fl)) ∧ off M M' r 7 := by
  have hl := h.len
  obtain ⟨M5, e5, n5, o5⟩ := h.putF (show k < 2 ^ 31 by omega) (fby mode (mF (mg ms k)) fl)
  refine ⟨M5, ?_, n5, o5⟩
  have key : f_X0_changeFlags_50 r (nI k) (mF (mg ms k)) (fby mode (mF (mg ms k)) fl) M = some (!(decide (fby mode (mF (mg ms k)) fl = mF (mg ms k))), M5) := by
    simp only [f_X0_changeFlags_50, h.gF, Option.bind_some, e5]
    by_cases e : fby mode (mF (mg ms k)) fl = mF (mg ms k) <;> simp [e]
  simp only [f_X0_changeFlags, ob_h h.1, neg0 (show k < 2 ^ 31 by omega), if_false, X0_size_e h, Option.bind_some, ltT rfl rfl hk (show ms.length < 2 ^ 31 by omega), if_true, h.gF, X5_get_e h.2.2.2, lgt_n _ (show k < 2 ^ 31 by omega), mapD _ hk]
  rw [← key]
  unfold fby
  by_cases m0 : mode = 0
  · simp only [m0, if_true]
  · simp only [m0, if_false]
    by_cases m1 : mode = 1
    · simp only [m1, if_true]
    · simp only [m1, if_false]
theorem X0_change_no (h : bA M r J nx ms) (mode fl : Int32) : f_X0_changeFlags r (-1) mode fl M = some (false, M) := by
  simp only [f_X0_changeFlags, ob_h h.1, m1_lt0, if_true]
/-- what goes: told to be deleted, its uid in the range -/
def delq (first last : Int32) (m : Msg) : Bool := !(decide (mF m &&& 8 = 0)) && (!(decide (mU m < first)) && !(decide (last < mU m)))
theorem X0_del_loop (first last : Int32) : ∀ (j fu : Nat) (M : Mem) (ms : Ms) (n : Int32), j ≤ ms.length → j < fu → bA M r J nx ms → ∃ M', f_X0_removeDeleted_10 fu r first last n (nI j - 1) M = some (n + nI (j - ((ms.take j).filter (fun m => !delq first last m)).length), M') ∧ bA M' r J nx ((ms.take j).filter (fun m => !delq first last m) ++ ms.drop j) ∧ off M M' r 7 := by
  intro j
  induction j with
  | zero =>
    intro fu M ms n _ hf h
    obtain ⟨fu, rfl⟩ : ∃ m, fu = m + 1 := ⟨fu - 1, by omega⟩
    refine ⟨M, ?_, by simpa using h, off.rf _ _ _⟩
    have : (nI 0 - 1 < 0) := by decide
    simp [f_X0_removeDeleted_10, this, nI_0]
  | succ j ih =>
    intro fu M ms n hj hf h
    obtain ⟨fu, rfl⟩ : ∃ m, fu = m + 1 := ⟨fu - 1, by omega⟩
    have hl := h.len
    have ht : ms.take (j + 1) = ms.take j ++ [mg ms j] := by
      rw [mg_get (show j < ms.length by omega), List.take_add_one, List.getElem?_eq_getElem (show j < ms.length by omega)]
      rfl
    have hfl : ((ms.take j).filter (fun m => !delq first last m)).length ≤ j := by
      refine Nat.le_trans (List.length_filter_le _ _) ?_
      rw [List.length_take]; omega
    have hsub : nI j + (-1) = nI j - 1 := (Int32.sub_eq_add_neg (nI j) 1).symm
    rw [nI_pred, ht, List.filter_append]
    simp only [f_X0_removeDeleted_10, neg0 (show j < 2 ^ 31 by omega), if_false, h.gU, h.gF, Option.bind_some, X5_get_e h.2.1, X5_get_e h.2.2.2, lgt_n _ (show j < 2 ^ 31 by omega), mapD _ (show j < ms.length by omega)]
    cases hd : delq first last (mg ms j) with
    | true =>
      have hd' := hd
      simp only [delq, Bool.and_eq_true, Bool.not_eq_true', decide_eq_false_iff_not] at hd'
      obtain ⟨d1, d2, d3⟩ := hd'
      obtain ⟨M1, e1, b1, o1⟩ := X0_remove_e h (show j < ms.length by omega)
      obtain ⟨M2, e2, b2, o2⟩ := ih fu M1 (ms.eraseIdx j) (n + 1) (by rw [List.length_eraseIdx_of_lt (by omega)]; omega) (by omega) b1
      refine ⟨M2, ?_, ?_, o1.trans o2⟩
      · simp only [d1, d2, d3, if_false, e1, Option.bind_some, f_X0_removeDeleted_62, hsub, e2]
        rw [take_er]
        simp only [List.filter_cons, hd, Bool.not_true, List.filter_nil, List.append_nil]
        rw [Int32.add_assoc, show (1 : Int32) = nI 1 from rfl, nI_add]
        simp only [Bool.false_eq_true, if_false, List.append_nil]
        rw [show 1 + (j - ((ms.take j).filter (fun m => !delq first last m)).length) = j + 1 - ((ms.take j).filter (fun m => !delq first last m)).length by omega]
      · rw [take_er] at b2
        rw [drop_er] at b2
        simpa [List.filter_cons, hd] using b2
    | false =>
      obtain ⟨M2, e2, b2, o2⟩ := ih fu M ms n (by omega) (by omega) h
      refine ⟨M2, ?_, ?_, o2⟩
      · have hstep : ∀ X : Option (Int32 × Mem), (if mF (mg ms j) &&& 8 = 0 then f_X0_removeDeleted_62 (f_X0_removeDeleted_10 fu) r first last n (nI j) M else if mU (mg ms j) < first then f_X0_removeDeleted_62 (f_X0_removeDeleted_10 fu) r first last n (nI j) M else if last < mU (mg ms j) then f_X0_removeDeleted_62 (f_X0_removeDeleted_10 fu) r first last n (nI j) M else X) = f_X0_removeDeleted_62 (f_X0_removeDeleted_10 fu) r first last n (nI j) M := by
          intro X
          by_cases d1 : mF (mg ms j) &&& 8 = 0
          · rw [if_pos d1]
          · rw [if_neg d1]
            by_cases d2 : mU (mg ms j) < first
            · rw [if_pos d2]
            · rw [if_neg d2]
              by_cases d3 : last < mU (mg ms j)
              · rw [if_pos d3]
              · simp [delq, d1, d2, d3] at hd
        rw [hstep, f_X0_removeDeleted_62, hsub, e2]
        simp only [List.filter_cons, hd, Bool.not_false, if_true, List.filter_nil, List.length_append, List.length_singleton]
        rw [show j + 1 - (((ms.take j).filter (fun m => !delq first last m)).length + 1) = j - ((ms.take j).filter (fun m => !delq first last m)).length by omega]
      · have : ms.drop j = mg ms j :: ms.drop (j + 1) := by rw [mg_get (show j < ms.length by omega)]; exact List.drop_eq_getElem_cons (by omega)
        rw [this] at b2
        simpa [List.filter_cons, hd] using b2
def keepD (first last : Int32) (ms : Ms) : Ms := ms.filter (fun m => !delq first last m)
theorem X0_removeDeleted_e (h : bA M r J nx ms) (first last : Int32) : ∃ M', f_X0_removeDeleted r first last M = some (nI (ms.length - (keepD first last ms).length), M') ∧ bA M' r J nx (keepD first last ms) ∧ off M M' r 7 := by
  have hl := h.len
  obtain ⟨M', e, b, o⟩ := X0_del_loop (r := r) (J := J) (nx := nx) first last ms.length FU M ms 0 (Nat.le_refl _) (by rw [FU_eq]; omega) h
  rw [List.take_length, List.drop_length, List.append_nil] at b
  rw [List.take_length] at e
  refine ⟨M', ?_, b, o⟩
  simp only [f_X0_removeDeleted, ob_h h.1, X0_size_e h, Option.bind_some, e, keepD, Int32.zero_add]
end
