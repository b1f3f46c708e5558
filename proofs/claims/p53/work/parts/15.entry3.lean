/-! THE START: checks 10 to 14, and what holds at the entry -/
theorem st_chk_all : ∀ i, i < 15 → st_chk1 i = true := fun i hi => match i, hi with
  | 0, _ => st_c0
  | 1, _ => st_c1
  | 2, _ => st_c2
  | 3, _ => st_c3
  | 4, _ => st_c4
  | 5, _ => st_c5
  | 6, _ => st_c6
  | 7, _ => st_c7
  | 8, _ => st_c8
  | 9, _ => st_c9
  | 10, _ => st_c10
  | 11, _ => st_c11
  | 12, _ => st_c12
  | 13, _ => st_c13
  | 14, _ => st_c14
  | n + 15, h => absurd h (by omega)
def st_chk2 : Bool := decide (Cond.initialized kwT ∈ lw_tbl) && decide (Cond.laysStatic kwT "KEYWORDS" "[LMailSessions$Keyword;" ∈ lw_tbl) && decide (Cond.exactly tT "[LMailSessions$Keyword;" ∈ flatC nar) && decide (Cond.arrayOf tT (.object kwT) ∈ flatC nar) && decide (Cond.eq (.length tT) (.int 15) ∈ flatC nar)
  && decide (Cond.laysStatic strT "COMPACT_STRINGS" "Z" ∈ lw_tbl) && decide (Cond.initialized strT ∈ lw_tbl) && decide (Cond.eq (.static strT "COMPACT_STRINGS" "Z") (.int 1) ∈ flatC nar)
  && decide (Cond.laysStatic "jdk/internal/util/Preconditions" "SIOOBE_FORMATTER" "Ljava/util/function/BiFunction;" ∈ lw_tbl) && decide (Cond.initialized "jdk/internal/util/Preconditions" ∈ lw_tbl) && decide (Cond.isRef (.static "jdk/internal/util/Preconditions" "SIOOBE_FORMATTER" "Ljava/util/function/BiFunction;") ∈ flatC nar)
  && vwCl.all (fun q => decide (Cond.instantiable q.1 q.2.2 ∈ lw_tbl))
set_option maxRecDepth 100000 in
theorem st_chk2_ok : st_chk2 = true := by decide +kernel
theorem va_eqr {args : Array Value} {s : State} {t u : Term} {b : Nat} (h : (Cond.eq t u).before args s = true) (hu : u.eval args s none [] s = some (.ref b)) : t.eval args s none [] s = some (.ref b) := by
  cases hv : t.eval args s none [] s with
  | none => simp [Cond.before, Cond.holds, Cond.value, hv] at h
  | some w =>
    simp only [Cond.before, Cond.holds, Cond.value, hv, hu] at h
    cases w <;> simp_all

theorem st_D {A : Array Value} {s : State} (hts : ∀ w ∈ lw_tbl, w.before A s = true) : ∃ D : va_G, va_K D vwCl [] s := by
  have h2 := st_chk2_ok
  simp only [st_chk2, Bool.and_eq_true] at h2
  have h3 := List.all_eq_true.mp h2.2
  have h0 : ∀ k : Nat, ∃ z : ClassId × (Nat → Nat), ∀ q, vwCl[k]? = some q → u_Kn s q.1 q.2.1 q.2.2 z.1 z.2 := by
    intro k
    cases hk : vwCl[k]? with
    | none => exact ⟨(0, fun _ => 0), fun q hq => nomatch hq⟩
    | some q =>
      obtain ⟨C, T, N⟩ := q
      obtain ⟨c0, i0, hKn⟩ := u_known (C := C) (T := T) (N := N) (n := N) hts (fun w hw => (cr_Ut (cls_in hk w hw)).1) (hts _ (of_decide_eq_true (h3 _ (List.mem_of_getElem? hk))))
      exact ⟨(c0, i0), fun q hq => by cases hq; exact hKn⟩
  obtain ⟨f, hf⟩ := Classical.axiomOfChoice h0
  exact ⟨(fun k => (f k).1, fun k => (f k).2), fun k q hq => hf k q hq, fun k q h => by simp at h⟩
theorem ls_len : ∀ j, j < 14 → (lsBy j).length < 2 ^ 31 := by decide
theorem st_ad {A : Array Value} {s : State} {P : Nat → Prop} {b : Nat} (hts : ∀ w ∈ lw_tbl, w.before A s = true) (hgv : nar.before A s = true) (hP : ∀ a : Nat, a < s.heap.size → ¬ P a) :
    ∃ ad : Nat → Nat, ad 42 = b ∧ (∀ i j, i < 15 → j < 15 → ad i = ad j → i = j) ∧ (∀ i, i < 15 → va_Z kwT (kwName i) kwD (.ref (ad i)) P s s.heap) ∧
      (∀ i, i < 15 → va_O kwT (ad i) P s s.heap ∧ va_OF kwT "flag" "I" (.int (kwFlag i)) (ad i) P s s.heap ∧ va_OF kwT "word" "Ljava/lang/String;" (.ref (ad (20 + i))) (ad i) P s s.heap) ∧
      (va_Z kwT "KEYWORDS" "[LMailSessions$Keyword;" (.ref (ad 40)) P s s.heap ∧ va_T (.object kwT) (ad 40) 15 (fun j => .ref (ad j)) P s s.heap) ∧
      (∀ i, i < 15 → va_O strT (ad (20 + i)) P s s.heap ∧ va_OF strT "coder" "B" (.int 0) (ad (20 + i)) P s s.heap ∧ va_OF strT "value" "[B" (.ref (ad (60 + i))) (ad (20 + i)) P s s.heap ∧ va_T .byte (ad (60 + i)) (kwWord i).length (fun j => .int ((kwWord i).getD j 0)) P s s.heap) ∧
      ((∀ j, j < 14 → vk_R "MailSessionsLaw" (lsIdx j) (lsTx j) (ad (43 + j)) s ∧ va_O strT (ad (43 + j)) P s s.heap ∧ va_OF strT "coder" "B" (.int 0) (ad (43 + j)) P s s.heap ∧ va_OF strT "value" "[B" (.ref (ad (76 + j))) (ad (43 + j)) P s s.heap ∧ va_T .byte (ad (76 + j)) (lsBy j).length (fun q => .int ((lsBy j).getD q 0)) P s s.heap) ∧
        (va_Z "java/lang/Integer" "DigitOnes" "[B" (.ref (ad 90)) P s s.heap ∧ va_T .byte (ad 90) 100 (fun q => .int (dgO.getD q 0)) P s s.heap) ∧
        (va_Z "java/lang/Integer" "DigitTens" "[B" (.ref (ad 91)) P s s.heap ∧ va_T .byte (ad 91) 100 (fun q => .int (dgT.getD q 0)) P s s.heap)) ∧
      va_Z strT "COMPACT_STRINGS" "Z" (.int 1) P s s.heap ∧
      (va_Z "jdk/internal/util/Preconditions" "SIOOBE_FORMATTER" "Ljava/util/function/BiFunction;" .null P s s.heap ∨ va_Z "jdk/internal/util/Preconditions" "SIOOBE_FORMATTER" "Ljava/util/function/BiFunction;" (.ref (ad 41)) P s s.heap) := by
  have h2 := st_chk2_ok
  simp only [st_chk2, Bool.and_eq_true, decide_eq_true_eq] at h2
  obtain ⟨⟨⟨⟨⟨⟨⟨⟨⟨⟨⟨k1, k2⟩, k3⟩, k4⟩, k5⟩, k6⟩, k7⟩, k8⟩, k9⟩, k10⟩, k11⟩, -⟩ := h2
  have lf : ∀ {w : Cond}, w ∈ flatC nar → w.before A s = true := fun h => flat_of_before _ hgv _ h
  have h1 : ∀ i, i < 15 → _ := fun i hi => st_chk_all i hi
  simp only [st_chk1, Bool.and_eq_true, decide_eq_true_eq, List.all_eq_true, List.mem_range, Bool.or_eq_true] at h1
  have hK : ∀ i : Nat, ∃ a : Nat, i < 15 → (tK i).eval A s none [] s = some (.ref a) ∧ va_O kwT a P s s.heap := by
    intro i
    by_cases hi : i < 15
    · obtain ⟨⟨⟨⟨⟨⟨⟨⟨⟨⟨l1, l2⟩, l3⟩, l4⟩, l5⟩, l6⟩, l7⟩, l8⟩, l9⟩, l12⟩, l13⟩ := h1 i hi
      obtain ⟨a, c, cell, k, q1, q2, q3, q4, q5, q6, -⟩ := Cond.exactly_spec (lf l2)
      exact ⟨a, fun _ => ⟨q1, cell, q3, q5, by rw [q6]; exact q2, hP a (Array.getElem?_eq_some_iff.mp q3).1⟩⟩
    · exact ⟨0, fun h => absurd h hi⟩
  obtain ⟨aK, haK⟩ := Classical.axiomOfChoice hK
  have hS : ∀ i : Nat, ∃ q : Nat × Nat, i < 15 → (tS i).eval A s none [] s = some (.ref q.1) ∧ va_O strT q.1 P s s.heap ∧ va_OF strT "coder" "B" (.int 0) q.1 P s s.heap ∧ va_OF strT "value" "[B" (.ref q.2) q.1 P s s.heap ∧ va_T .byte q.2 (kwWord i).length (fun j => .int ((kwWord i).getD j 0)) P s s.heap := by
    intro i
    by_cases hi : i < 15
    · obtain ⟨⟨⟨⟨⟨⟨⟨⟨⟨⟨l1, l2⟩, l3⟩, l4⟩, l5⟩, l6⟩, l7⟩, l8⟩, l9⟩, l12⟩, l13⟩ := h1 i hi
      obtain ⟨a, c, cell, k, q1, q2, q3, q4, q5, q6, -⟩ := Cond.exactly_spec (lf l5)
      obtain ⟨t, ht, hT⟩ := va_Tof (f := fun j => .int ((kwWord i).getD j 0)) (A := P) (kw_len i hi) (lf l7) (va_eqt (lf l8)) (fun j hj => va_eqt (lf (l9 j hj))) hP
      exact ⟨(a, t), fun _ => ⟨q1, ⟨cell, q3, q5, by rw [q6]; exact q2, hP a (Array.getElem?_eq_some_iff.mp q3).1⟩, vk_OFof q1 (va_eqt (lf l6)) hP, vk_OFof q1 ht hP, hT⟩⟩
    · exact ⟨(0, 0), fun h => absurd h hi⟩
  obtain ⟨aS, haS⟩ := Classical.axiomOfChoice hS
  obtain ⟨tA, ht1, ht2⟩ := va_Tof (f := fun j => .ref (aK j)) (A := P) (N := 15) (by decide) (lf k4) (va_eqt (lf k5)) (fun j hj => by
    obtain ⟨⟨⟨⟨⟨⟨⟨⟨⟨⟨l1, l2⟩, l3⟩, l4⟩, l5⟩, l6⟩, l7⟩, l8⟩, l9⟩, l12⟩, l13⟩ := h1 j hj
    exact va_eqr (lf l12) (haK j hj).1) hP
  obtain ⟨a41, h41⟩ : ∃ a41 : Nat, va_Z "jdk/internal/util/Preconditions" "SIOOBE_FORMATTER" "Ljava/util/function/BiFunction;" .null P s s.heap ∨ va_Z "jdk/internal/util/Preconditions" "SIOOBE_FORMATTER" "Ljava/util/function/BiFunction;" (.ref a41) P s s.heap := by
    rcases va_Zqof (hts _ k9) (hts _ k10) (lf k11) hP with h | ⟨t, h⟩
    · exact ⟨0, Or.inl h⟩
    · exact ⟨t, Or.inr h⟩
  have hL : ∀ j : Nat, ∃ q : Nat × Nat, j < 14 → vk_R "MailSessionsLaw" (lsIdx j) (lsTx j) q.1 s ∧ va_O strT q.1 P s s.heap ∧ va_OF strT "coder" "B" (.int 0) q.1 P s s.heap ∧ va_OF strT "value" "[B" (.ref q.2) q.1 P s s.heap ∧ va_T .byte q.2 (lsBy j).length (fun q => .int ((lsBy j).getD q 0)) P s s.heap := by
    intro j
    by_cases hj : j < 14
    · obtain ⟨m1, m2, m3, m4, m5, m6⟩ := sx_l_all j hj
      obtain ⟨a, c, cell, k, q1, q2, q3, q4, q5, q6, -⟩ := Cond.exactly_spec (lf m1)
      obtain ⟨t, ht, hT⟩ := va_Tof (f := fun q => .int ((lsBy j).getD q 0)) (A := P) (ls_len j hj) (lf m3) (va_eqt (lf m4)) (fun q hq => va_eqt (lf (m5 q hq))) hP
      exact ⟨(a, t), fun _ => ⟨vk_R.of (hts _ m6) q1, ⟨cell, q3, q5, by rw [q6]; exact q2, hP a (Array.getElem?_eq_some_iff.mp q3).1⟩, vk_OFof q1 (va_eqt (lf m2)) hP, vk_OFof q1 ht hP, hT⟩⟩
    · exact ⟨(0, 0), fun h => absurd h hj⟩
  obtain ⟨aL, haL⟩ := Classical.axiomOfChoice hL
  have hD : ∀ (n : String) (l : List Int32), sx_dg n l → ∃ t : Nat, va_Z "java/lang/Integer" n "[B" (.ref t) P s s.heap ∧ va_T .byte t 100 (fun q => .int (l.getD q 0)) P s s.heap := by
    intro n l h
    obtain ⟨m1, m2, m3, m4⟩ := h
    obtain ⟨t, ht, hT⟩ := va_Tof (f := fun q => .int (l.getD q 0)) (A := P) (N := 100) (by decide) (lf m2) (va_eqt (lf m3)) (fun q hq => va_eqt (lf (m4 q hq))) hP
    exact ⟨t, va_Zref (hts _ m1) (hts _ sx_iI) ht hP, hT⟩
  obtain ⟨aO, hO1, hO2⟩ := hD _ _ sx_dgO
  obtain ⟨aT, hT1, hT2⟩ := hD _ _ sx_dgT
  let ad : Nat → Nat := fun r => if r < 15 then aK r else if r < 35 then (aS (r - 20)).1 else if r = 40 then tA else if r = 41 then a41 else if r = 42 then b else if r < 57 then (aL (r - 43)).1 else if r < 75 then (aS (r - 60)).2 else if r < 90 then (aL (r - 76)).2 else if r = 90 then aO else aT
  have e1 : ∀ i, i < 15 → ad i = aK i := fun i hi => if_pos hi
  have e2 : ∀ i, i < 15 → ad (20 + i) = (aS i).1 := fun i hi => by
    show (if 20 + i < 15 then _ else _) = _
    rw [if_neg (by omega), if_pos (by omega), Nat.add_sub_cancel_left]
  have e3 : ∀ i, i < 15 → ad (60 + i) = (aS i).2 := fun i hi => by
    show (if 60 + i < 15 then _ else _) = _
    rw [if_neg (by omega), if_neg (by omega), if_neg (by omega), if_neg (by omega), if_neg (by omega), if_neg (by omega), if_pos (by omega), Nat.add_sub_cancel_left]
  have e4 : ∀ i, i < 14 → ad (43 + i) = (aL i).1 := fun i hi => by
    show (if 43 + i < 15 then _ else _) = _
    rw [if_neg (by omega), if_neg (by omega), if_neg (by omega), if_neg (by omega), if_neg (by omega), if_pos (by omega), Nat.add_sub_cancel_left]
  have e5 : ∀ i, i < 14 → ad (76 + i) = (aL i).2 := fun i hi => by
    show (if 76 + i < 15 then _ else _) = _
    rw [if_neg (by omega), if_neg (by omega), if_neg (by omega), if_neg (by omega), if_neg (by omega), if_neg (by omega), if_neg (by omega), if_pos (by omega), Nat.add_sub_cancel_left]
  refine ⟨ad, rfl, ?_, ?_, ?_, ?_, ?_, ?_, ?_, ?_⟩
  · intro i j hi hj e
    rw [e1 i hi, e1 j hj] at e
    by_cases hij : i = j
    · exact hij
    · obtain ⟨-, l13⟩ := h1 i hi
      rcases l13 j hj with (h | h) | h
      · exact absurd h hij
      · exact absurd e (va_neR (lf h) (haK i hi).1 (haK j hj).1)
      · exact absurd e.symm (va_neR (lf h) (haK j hj).1 (haK i hi).1)
  · intro i hi
    rw [e1 i hi]
    obtain ⟨⟨⟨⟨⟨⟨⟨⟨⟨⟨l1, l2⟩, l3⟩, l4⟩, l5⟩, l6⟩, l7⟩, l8⟩, l9⟩, l12⟩, l13⟩ := h1 i hi
    exact va_Zref (hts _ l1) (hts _ k1) (haK i hi).1 hP
  · intro i hi
    rw [e1 i hi, e2 i hi]
    obtain ⟨⟨⟨⟨⟨⟨⟨⟨⟨⟨l1, l2⟩, l3⟩, l4⟩, l5⟩, l6⟩, l7⟩, l8⟩, l9⟩, l12⟩, l13⟩ := h1 i hi
    exact ⟨(haK i hi).2, vk_OFof (haK i hi).1 (va_eqt (lf l3)) hP, vk_OFof (haK i hi).1 (va_eqr (lf l4) (haS i hi).1) hP⟩
  · refine ⟨va_Zref (hts _ k2) (hts _ k1) ht1 hP, ?_⟩
    obtain ⟨cell, c1, c2, c3, c4, c5, c6, c7⟩ := ht2
    exact ⟨cell, c1, c2, c3, c4, c5, fun j hj => by
      show cell.slots[j]? = some (Value.ref (ad j))
      rw [e1 j hj]
      exact c6 j hj, c7⟩
  · intro i hi
    rw [e2 i hi, e3 i hi]
    exact (haS i hi).2
  · refine ⟨fun j hj => ?_, ⟨hO1, hO2⟩, ⟨hT1, hT2⟩⟩
    rw [e4 j hj, e5 j hj]
    exact haL j hj
  · exact va_Zof (hts _ k6) (hts _ k7) (va_eqi (lf k8)) hP
  · exact h41


