/-! PURE: sessions of the class -/
abbrev En : Type := Int32 × Int32
def eU (x : En) : Int32 := x.1
def eT (x : En) : Int32 := x.2
def eg (es : List En) (k : Nat) : En := es.getD k (0, 0)
theorem eg_get {es : List En} {j : Nat} (h : j < es.length) : eg es j = es[j] := by rw [eg, List.getD_eq_getElem?_getD, List.getElem?_eq_getElem h]; rfl
/-- a session at r: 7 cells -/
def sA (M : Mem) (r : Nat) (J : Int64) (bx : Int32) (rd id : Bool) (hi : Int32) (es : List En) (cn : List Int32) : Prop :=
  M.1 r = some (.inr (6, [.long J, .int bx, .int (b2i rd), .int (b2i id), .int hi, .ref (r + 1), .ref (r + 3), .ref (r + 5)])) ∧ nA M (r + 1) 60 (es.map eU) ∧ nA M (r + 3) 60 (es.map eT) ∧ nA M (r + 5) 5 cn
/-- the message of an entry, its index -/
def mix (ms : Ms) (u : Int32) : Option Nat := ixl (ms.map mU) u
def gone (ms : Ms) (e : En) : Bool := (mix ms (eU e)).isNone
def chg (ms : Ms) (e : En) : Bool := match mix ms (eU e) with
  | none => false
  | some k => !decide (mF (mg ms k) = eT e)
theorem mix_lt {ms : Ms} {u : Int32} {k : Nat} (h : mix ms u = some k) : k < ms.length := by
  have := (ixl_some h).1
  rwa [List.length_map] at this
theorem X0_ix {M : Mem} {r : Nat} {J : Int64} {nx : Int32} {ms : Ms} (h : bA M r J nx ms) (v : Int32) : f_X0_indexOfUid r v M = some (oI (mix ms v)) := by
  rw [X0_index_e h, fnd_ixl]; rfl
theorem m1_def : (-1 : Int32) = -1 := rfl
section
variable {M : Mem} {r : Nat} {J : Int64} {bx : Int32} {rd id : Bool} {hi : Int32} {es : List En} {cn : List Int32}
theorem sA.fr {M' : Mem} {a n : Nat} (h : sA M r J bx rd id hi es cn) (o : off M M' a n) (d : r + 7 ≤ a ∨ a + n ≤ r) : sA M' r J bx rd id hi es cn :=
  ⟨(o.2 r (by omega)).trans h.1, h.2.1.fr o (by omega), h.2.2.1.fr o (by omega), h.2.2.2.fr o (by omega)⟩
theorem sA.len (h : sA M r J bx rd id hi es cn) : es.length ≤ 60 := by
  have := h.2.1.len
  rwa [List.length_map] at this
theorem sA.gU (h : sA M r J bx rd id hi es cn) : gR M 6 5 r = some (r + 1) := by rw [gR_h h.1]; rfl
theorem sA.gT (h : sA M r J bx rd id hi es cn) : gR M 6 6 r = some (r + 3) := by rw [gR_h h.1]; rfl
theorem sA.gC (h : sA M r J bx rd id hi es cn) : gR M 6 7 r = some (r + 5) := by rw [gR_h h.1]; rfl
theorem sA.gB (h : sA M r J bx rd id hi es cn) : gI M 6 1 r = some bx := by rw [gI_h h.1]; rfl
theorem sA.gH (h : sA M r J bx rd id hi es cn) : gI M 6 4 r = some hi := by rw [gI_h h.1]; rfl
theorem sA.gJ (h : sA M r J bx rd id hi es cn) : gJ M 6 0 r = some J := by rw [gJ_h h.1]; rfl
theorem sA.gR (h : sA M r J bx rd id hi es cn) : gZ M 6 2 r = some rd := by rw [gZ_h h.1]; exact vZ_b rd
theorem sA.gI (h : sA M r J bx rd id hi es cn) : gZ M 6 3 r = some id := by rw [gZ_h h.1]; exact vZ_b id
theorem sA.mk' (h : sA M r J bx rd id hi es cn) (J' : Int64) (bx' : Int32) (rd' id' : Bool) (hi' : Int32) : sA (mset M r (.inr (6, [.long J', .int bx', .int (b2i rd'), .int (b2i id'), .int hi', .ref (r + 1), .ref (r + 3), .ref (r + 5)]))) r J' bx' rd' id' hi' es cn := by
  have o := off_set M r (.inr (6, [.long J', .int bx', .int (b2i rd'), .int (b2i id'), .int hi', .ref (r + 1), .ref (r + 3), .ref (r + 5)]))
  exact ⟨mset_at _ _ _, h.2.1.fr o (by omega), h.2.2.1.fr o (by omega), h.2.2.2.fr o (by omega)⟩
theorem sA.pJ (h : sA M r J bx rd id hi es cn) (x : Int64) : ∃ M', pV M 6 0 r (.long x) = some M' ∧ sA M' r x bx rd id hi es cn ∧ off M M' r 1 := ⟨_, by rw [pV_h h.1 (Nat.le_of_ble_eq_true rfl)]; rfl, h.mk' x bx rd id hi, off_set _ _ _⟩
theorem sA.pB (h : sA M r J bx rd id hi es cn) (x : Int32) : ∃ M', pV M 6 1 r (.int x) = some M' ∧ sA M' r J x rd id hi es cn ∧ off M M' r 1 := ⟨_, by rw [pV_h h.1 (Nat.le_of_ble_eq_true rfl)]; rfl, h.mk' J x rd id hi, off_set _ _ _⟩
theorem sA.pR (h : sA M r J bx rd id hi es cn) (x : Bool) : ∃ M', pV M 6 2 r (.int (b2i x)) = some M' ∧ sA M' r J bx x id hi es cn ∧ off M M' r 1 := ⟨_, by rw [pV_h h.1 (Nat.le_of_ble_eq_true rfl)]; rfl, h.mk' J bx x id hi, off_set _ _ _⟩
theorem sA.pI (h : sA M r J bx rd id hi es cn) (x : Bool) : ∃ M', pV M 6 3 r (.int (b2i x)) = some M' ∧ sA M' r J bx rd x hi es cn ∧ off M M' r 1 := ⟨_, by rw [pV_h h.1 (Nat.le_of_ble_eq_true rfl)]; rfl, h.mk' J bx rd x hi, off_set _ _ _⟩
theorem sA.pH (h : sA M r J bx rd id hi es cn) (x : Int32) : ∃ M', pV M 6 4 r (.int x) = some M' ∧ sA M' r J bx rd id x es cn ∧ off M M' r 1 := ⟨_, by rw [pV_h h.1 (Nat.le_of_ble_eq_true rfl)]; rfl, h.mk' J bx rd id x, off_set _ _ _⟩
theorem sA.setC {M' : Mem} {cn' : List Int32} (h : sA M r J bx rd id hi es cn) (n : nA M' (r + 5) 5 cn') (o : off M M' (r + 5) 2) : sA M' r J bx rd id hi es cn' :=
  ⟨(o.2 r (by omega)).trans h.1, h.2.1.fr o (by omega), h.2.2.1.fr o (by omega), n⟩
theorem sA.setE {M1 M' : Mem} {es' : List En} (h : sA M r J bx rd id hi es cn) (n1 : nA M1 (r + 1) 60 (es'.map eU)) (o1 : off M M1 (r + 1) 2) (n2 : nA M' (r + 3) 60 (es'.map eT)) (o2 : off M1 M' (r + 3) 2) : sA M' r J bx rd id hi es' cn ∧ off M M' r 7 :=
  ⟨⟨((o2.2 r (by omega)).trans (o1.2 r (by omega))).trans h.1, n1.fr o2 (by omega), n2, (h.2.2.2.fr o1 (by omega)).fr o2 (by omega)⟩, off.two o1 o2 (by omega) (by omega)⟩
theorem X7_size_e (h : sA M r J bx rd id hi es cn) : f_X7_size r M = some (nI es.length) := by
  simp only [f_X7_size, ob_h h.1, h.gU, X5_size_e h.2.1, bso, List.length_map]
theorem X7_uid_e (h : sA M r J bx rd id hi es cn) {k : Nat} (hk : k < 2 ^ 31) : f_X7_uidOf r (nI (k + 1)) M = some (eU (eg es k)) := by
  simp only [f_X7_uidOf, ob_h h.1, h.gU, bso, nI_pred, X5_get_e h.2.1, lgt_n _ hk, mapG (0, 0) eU rfl]; rfl
theorem X7_told_e (h : sA M r J bx rd id hi es cn) {k : Nat} (hk : k < 2 ^ 31) : f_X7_toldOf r (nI (k + 1)) M = some (eT (eg es k)) := by
  simp only [f_X7_toldOf, ob_h h.1, h.gT, bso, nI_pred, X5_get_e h.2.2.1, lgt_n _ hk, mapG (0, 0) eT rfl]; rfl
theorem X7_hasBox_e (h : sA M r J bx rd id hi es cn) : f_X7_hasBox r M = some (!decide (bx = -1)) := by
  simp only [f_X7_hasBox, ob_h h.1, h.gB, bso]
  by_cases e : bx = -1 <;> simp [e]
/-- an entry's number by its uid -/
def eix (es : List En) (u : Int32) : Option Nat := ixl (es.map eU) u
def nu1 (x : Option Nat) : Int32 := match x with
  | none => -1
  | some k => nI (k + 1)
theorem eix_lt {es : List En} {u : Int32} {k : Nat} (h : eix es u = some k) : k < es.length := by
  have := (ixl_some h).1
  rwa [List.length_map] at this
theorem nu1_iff {es : List En} {u : Int32} (hl : es.length ≤ 60) : nu1 (eix es u) = -1 ↔ (eix es u).isSome = false := by
  cases e : eix es u with
  | none => simp [nu1]
  | some k =>
    have := eix_lt e
    simp only [nu1, nI_m1 (show k + 1 < 2 ^ 31 by omega), Option.isSome_some, Bool.true_eq_false]
theorem X7_number_e (h : sA M r J bx rd id hi es cn) (u : Int32) : f_X7_numberOfUid r u M = some (nu1 (eix es u)) := by
  have hl := h.len
  simp only [f_X7_numberOfUid, ob_h h.1, h.gU, bso, X5_find_e h.2.1 u (by rw [List.length_map, FU_eq]; omega), fnd_ixl]
  show (if oI (eix es u) = -1 then (some (-1) : Option Int32) else some (oI (eix es u) + 1)) = _
  cases e : eix es u with
  | none => simp [oI, nu1]
  | some k =>
    have := eix_lt e
    simp only [oI, nI_m1 (show k < 2 ^ 31 by omega), if_false, nu1, nI_1]
theorem X7_isGone_e (h : sA M r J bx rd id hi es cn) {rb : Nat} {Jb : Int64} {nx : Int32} {ms : Ms} (hb : bA M rb Jb nx ms) {k : Nat} (hk : k < 2 ^ 31) : f_X7_isGone r rb (nI (k + 1)) M = some (gone ms (eg es k)) := by
  have hl := hb.len
  simp only [f_X7_isGone, ob_h h.1, X7_uid_e h hk, X0_ix hb, bso, gone]
  cases e : mix ms (eU (eg es k)) with
  | none => simp [oI]
  | some j =>
    have := mix_lt e
    simp only [oI, nI_m1 (show j < 2 ^ 31 by omega), if_false, Option.isNone_some]
theorem X7_isChg_e (h : sA M r J bx rd id hi es cn) {rb : Nat} {Jb : Int64} {nx : Int32} {ms : Ms} (hb : bA M rb Jb nx ms) {k : Nat} (hk : k < 2 ^ 31) : f_X7_isChanged r rb (nI (k + 1)) M = some (chg ms (eg es k)) := by
  have hl := hb.len
  simp only [f_X7_isChanged, ob_h h.1, X7_uid_e h hk, X0_ix hb, bso, chg]
  cases e : mix ms (eU (eg es k)) with
  | none => simp [oI]
  | some j =>
    have := mix_lt e
    simp only [oI, nI_m1 (show j < 2 ^ 31 by omega), if_false, hb.gF, X5_get_e hb.2.2.2, lgt_n _ (show j < 2 ^ 31 by omega), mapD _ this, X7_told_e h hk, bso]
    by_cases e2 : mF (mg ms j) = eT (eg es k) <;> simp [e2]
end
/-! loops that only ask -/
section
variable {M : Mem} {r : Nat} {J : Int64} {bx : Int32} {rd id : Bool} {hi : Int32} {es : List En} {cn : List Int32} {rb : Nat} {Jb : Int64} {nx : Int32} {ms : Ms}
theorem X7_goneB_e (h : sA M r J bx rd id hi es cn) (hb : bA M rb Jb nx ms) {n : Nat} (hn : n ≤ es.length) : f_X7_countGoneBefore r rb (nI (n + 1)) M = some (nI ((es.take n).countP (gone ms))) := by
  have hl := h.len
  simp only [f_X7_countGoneBefore, ob_h h.1]
  have := fd_run (fun fu k a => f_X7_countGoneBefore_5 fu r rb (nI (n + 1)) a (nI (k + 1)) M) (fun k a => if gone ms ((es.take n).getD k (0, 0)) = true then a + 1 else a) (fun a => a) 0 n
    (fun fu a => by simp only [f_X7_countGoneBefore_5, leT rfl rfl (Nat.le_refl (n + 1)) (show n + 1 < 2 ^ 31 by omega), if_true])
    (fun fu k a _ hk => by
      have hg : (es.take n).getD k (0, 0) = eg es k := by simp [eg, List.getD_eq_getElem?_getD, List.getElem?_take, hk]
      simp only [f_X7_countGoneBefore_5, leF rfl rfl (show k + 1 < n + 1 by omega) (show n + 1 < 2 ^ 31 by omega), X7_size_e h, ltF rfl rfl (show k + 1 ≤ es.length by omega) (show es.length < 2 ^ 31 by omega), if_false, bso, X7_isGone_e h hb (show k < 2 ^ 31 by omega), f_X7_countGoneBefore_33, nI_1, hg]
      cases gone ms (eg es k) <;> simp)
    n 0 0 FU (Nat.zero_add _) (Nat.le_refl _) (by rw [FU_eq]; omega)
  rw [fd_cnt (0, 0) (gone ms) (es.take n) n 0 0 (by rw [List.length_take]; omega), List.drop_zero, Int32.zero_add] at this
  exact this
theorem X7_gone_e (h : sA M r J bx rd id hi es cn) (hb : bA M rb Jb nx ms) : f_X7_countGone r rb M = some (nI (es.countP (gone ms))) := by
  simp only [f_X7_countGone, ob_h h.1, X7_size_e h, bso, nI_1, X7_goneB_e h hb (Nat.le_refl _), List.take_length]
theorem X7_there_e (h : sA M r J bx rd id hi es cn) (hb : bA M rb Jb nx ms) {a b : Nat} (ha : a ≤ b) (hn : b ≤ es.length) : f_X7_countThere r rb (nI (a + 1)) (nI b) M = some (nI (((es.take b).drop a).countP (fun e => !gone ms e))) := by
  have hl := h.len
  simp only [f_X7_countThere, ob_h h.1]
  have := fd_run (fun fu k x => f_X7_countThere_6 fu r rb (nI b) x (nI (k + 1)) M) (fun k x => if (fun e => !gone ms e) ((es.take b).getD k (0, 0)) = true then x + 1 else x) (fun x => x) a b
    (fun fu x => by simp only [f_X7_countThere_6, ltT rfl rfl (Nat.lt_succ_self b) (show b + 1 < 2 ^ 31 by omega), if_true])
    (fun fu k x _ hk => by
      have hg : (es.take b).getD k (0, 0) = eg es k := by simp [eg, List.getD_eq_getElem?_getD, List.getElem?_take, hk]
      simp only [f_X7_countThere_6, ltF rfl rfl (show k + 1 ≤ b by omega) (show b < 2 ^ 31 by omega), X7_size_e h, ltF rfl rfl (show k + 1 ≤ es.length by omega) (show es.length < 2 ^ 31 by omega), if_false, bso, X7_isGone_e h hb (show k < 2 ^ 31 by omega), f_X7_countThere_34, nI_1, hg]
      cases gone ms (eg es k) <;> simp)
    (b - a) a 0 FU (by omega) (Nat.le_refl _) (by rw [FU_eq]; omega)
  refine this.trans (congrArg some ?_)
  refine (fd_cnt (0, 0) (fun e => !gone ms e) (es.take b) (b - a) a 0 (by rw [List.length_take]; omega)).trans ?_
  rw [Int32.zero_add]
theorem X7_chg_e (h : sA M r J bx rd id hi es cn) (hb : bA M rb Jb nx ms) : f_X7_countChanged r rb M = some (nI (es.countP (chg ms))) := by
  have hl := h.len
  simp only [f_X7_countChanged, ob_h h.1]
  have := fd_run (fun fu k x => f_X7_countChanged_4 fu r rb x (nI (k + 1)) M) (fun k x => if chg ms (es.getD k (0, 0)) = true then x + 1 else x) (fun x => x) 0 es.length
    (fun fu x => by simp only [f_X7_countChanged_4, X7_size_e h, bso, ltT rfl rfl (Nat.lt_succ_self es.length) (show es.length + 1 < 2 ^ 31 by omega), if_true])
    (fun fu k x _ hk => by
      simp only [f_X7_countChanged_4, X7_size_e h, ltF rfl rfl (show k + 1 ≤ es.length by omega) (show es.length < 2 ^ 31 by omega), if_false, bso, X7_isChg_e h hb (show k < 2 ^ 31 by omega), f_X7_countChanged_24, nI_1, eg]
      cases chg ms (es.getD k (0, 0)) <;> simp)
    es.length 0 0 FU (Nat.zero_add _) (Nat.le_refl _) (by rw [FU_eq]; omega)
  rw [fd_cnt (0, 0) _ es es.length 0 0 (Nat.zero_add _), List.drop_zero, Int32.zero_add] at this
  exact this
def newer (hi : Int32) (m : Msg) : Bool := !decide (mU m ≤ hi)
theorem X7_new_e (h : sA M r J bx rd id hi es cn) (hb : bA M rb Jb nx ms) : f_X7_countNew r rb M = some (nI (ms.countP (newer hi))) := by
  have hl := hb.len
  simp only [f_X7_countNew, ob_h h.1]
  have := fd_run (fun fu k x => f_X7_countNew_4 fu r rb x (nI k) M) (fun k x => if newer hi (ms.getD k (0, 0, 0)) = true then x + 1 else x) (fun x => x) 0 ms.length
    (fun fu x => by simp only [f_X7_countNew_4, X0_size_e hb, bso, leT rfl rfl (Nat.le_refl ms.length) (show ms.length < 2 ^ 31 by omega), if_true])
    (fun fu k x _ hk => by
      simp only [f_X7_countNew_4, X0_size_e hb, leF rfl rfl hk (show ms.length < 2 ^ 31 by omega), if_false, bso, hb.gU, X5_get_e hb.2.1, lgt_n _ (show k < 2 ^ 31 by omega), mapD _ hk, h.gH, f_X7_countNew_30, nI_1, newer, mg]
      by_cases e : mU (ms.getD k (0, 0, 0)) ≤ hi <;> simp only [e, if_true, if_false, decide_true, decide_false, Bool.not_true, Bool.not_false, Bool.false_eq_true])
    ms.length 0 0 FU (Nat.zero_add _) (Nat.le_refl _) (by rw [FU_eq]; omega)
  rw [fd_cnt (0, 0, 0) _ ms ms.length 0 0 (Nat.zero_add _), List.drop_zero, Int32.zero_add] at this
  exact this
/-- how many notices telling it all would make -/
def pend (hi : Int32) (es : List En) (ms : Ms) : Nat := es.countP (gone ms) + es.countP (chg ms) + (if es.length - es.countP (gone ms) < 60 ∧ 0 < ms.countP (newer hi) then 1 else 0)
theorem X7_pend_e (h : sA M r J bx rd id hi es cn) (hb : bA M rb Jb nx ms) : f_X7_countPending r rb M = some (nI (pend hi es ms)) := by
  have hl := h.len
  have hlb := hb.len
  have hg : es.countP (gone ms) ≤ es.length := List.countP_le_length
  have hn : ms.countP (newer hi) ≤ ms.length := List.countP_le_length
  simp only [f_X7_countPending, ob_h h.1, X7_gone_e h hb, X7_size_e h, bso, nI_sub hg, f_X7_countPending_22, X7_chg_e h hb, X7_new_e h hb, cond_true, cond_false, pend]
  by_cases e : es.length - es.countP (gone ms) < 60
  · rw [if_neg (show ¬ ((60 : Int32) ≤ nI (es.length - es.countP (gone ms))) from fun z => absurd ((nI_leI (a := 60) (by omega) (by omega)).mp z) (by omega))]
    by_cases e2 : 0 < ms.countP (newer hi)
    · rw [if_neg (show ¬ (nI (ms.countP (newer hi)) ≤ 0) from nI_nle e2 (by omega)), if_pos ⟨e, e2⟩, nI_add, nI_1]
    · rw [if_pos (show nI (ms.countP (newer hi)) ≤ 0 by rw [show ms.countP (newer hi) = 0 by omega]; decide), if_neg (fun z => e2 z.2), nI_add, Int32.add_zero]; rfl
  · rw [if_pos (show (60 : Int32) ≤ nI (es.length - es.countP (gone ms)) from (nI_leI (a := 60) (by omega) (by omega)).mpr (by omega)), if_neg (fun z => e z.1), nI_add, Int32.add_zero]; rfl
/-- the lowest number told without a flag -/
def fns (es : List En) : Int32 := lp (fun k (_ : Unit) => if eT (eg es k) &&& 1 = 0 then .inr (nI (k + 1)) else .inl ()) (fun _ => -1) 0 es.length ()
theorem X7_fns_e (h : sA M r J bx rd id hi es cn) : f_X7_firstNotToldSeen r M = some (fns es) := by
  have hl := h.len
  simp only [f_X7_firstNotToldSeen, ob_h h.1]
  refine lp_run (fun fu k _ => f_X7_firstNotToldSeen_2 fu r (nI (k + 1)) M) _ _ 0 es.length ?_ ?_ es.length 0 () FU (Nat.zero_add _) (Nat.le_refl _) (by rw [FU_eq]; omega)
  · intro fu _
    simp only [f_X7_firstNotToldSeen_2, X7_size_e h, bso, ltT rfl rfl (Nat.lt_succ_self es.length) (show es.length + 1 < 2 ^ 31 by omega), if_true]
  · intro fu k _ _ hk
    simp only [f_X7_firstNotToldSeen_2, X7_size_e h, ltF rfl rfl (show k + 1 ≤ es.length by omega) (show es.length < 2 ^ 31 by omega), if_false, bso, X7_told_e h (show k < 2 ^ 31 by omega)]
    by_cases e : eT (eg es k) &&& 1 = 0
    · simp only [e, if_true]
    · simp only [e, if_false, nI_1]
/-- the size of an entry's message, 0 if it is gone -/
def esz (ms : Ms) (e : En) : Int32 := match mix ms (eU e) with
  | none => 0
  | some k => mS (mg ms k)
def lrg (es : List En) (ms : Ms) : Int32 × Int32 := fd (fun k (a : Int32 × Int32) => if esz ms (eg es k) ≤ a.2 then a else (nI (k + 1), esz ms (eg es k))) 0 es.length (-1, 0)
theorem X0_sz_ix (hb : bA M rb Jb nx ms) (u : Int32) : f_X5_get (rb + 3) (oI (mix ms u)) M = some (match mix ms u with | none => 0 | some k => mS (mg ms k)) := by
  have hl := hb.len
  rw [X5_get_e hb.2.2.1]
  cases e : mix ms u with
  | none => rfl
  | some k =>
    have := mix_lt e
    simp only [oI, lgt_n _ (show k < 2 ^ 31 by omega), mapD _ this]
theorem X0_fl_ix (hb : bA M rb Jb nx ms) (u : Int32) : f_X5_get (rb + 5) (oI (mix ms u)) M = some (match mix ms u with | none => 0 | some k => mF (mg ms k)) := by
  have hl := hb.len
  rw [X5_get_e hb.2.2.2]
  cases e : mix ms u with
  | none => rfl
  | some k =>
    have := mix_lt e
    simp only [oI, lgt_n _ (show k < 2 ^ 31 by omega), mapD _ this]
theorem X0_sz_e (hb : bA M rb Jb nx ms) (e : En) : f_X5_get (rb + 3) (oI (mix ms (eU e))) M = some (esz ms e) := X0_sz_ix hb _
theorem X7_largest_e (h : sA M r J bx rd id hi es cn) (hb : bA M rb Jb nx ms) : f_X7_largestIn r rb M = some (lrg es ms).1 := by
  have hl := h.len
  simp only [f_X7_largestIn, ob_h h.1]
  refine fd_run (fun fu k (a : Int32 × Int32) => f_X7_largestIn_7 fu r rb a.1 a.2 (nI (k + 1)) M) _ (fun a => a.1) 0 es.length ?_ ?_ es.length 0 (-1, 0) FU (Nat.zero_add _) (Nat.le_refl _) (by rw [FU_eq]; omega)
  · intro fu a
    simp only [f_X7_largestIn_7, X7_size_e h, bso, ltT rfl rfl (Nat.lt_succ_self es.length) (show es.length + 1 < 2 ^ 31 by omega), if_true]
  · intro fu k a _ hk
    simp only [f_X7_largestIn_7, X7_size_e h, ltF rfl rfl (show k + 1 ≤ es.length by omega) (show es.length < 2 ^ 31 by omega), if_false, bso, X7_uid_e h (show k < 2 ^ 31 by omega), X0_ix hb, hb.gS, X0_sz_e hb, f_X7_largestIn_47, nI_1]
    by_cases e : esz ms (eg es k) ≤ a.2 <;> simp only [e, if_true, if_false]
/-- the numbers of the entries whose messages are in a set of indexes -/
def nms (es : List En) (ms : Ms) (x : Int32) : Int64 := fd (fun k (a : Int64) => match mix ms (eU (eg es k)) with
  | none => a
  | some j => if (x >>> (nI j &&& 31)) &&& 1 = 0 then a else a ||| (1 <<< ((nI (k + 1)).toInt64 &&& 63))) 0 es.length 0
end
