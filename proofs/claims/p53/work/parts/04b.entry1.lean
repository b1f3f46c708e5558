/-! THE START: what holds at the law's entry -/
def kIdx (i : Nat) : Nat := ([96, 102, 105, 108, 111, 114, 117, 120, 123, 126, 129, 132, 135, 138, 141] : List Nat).getD i 0
abbrev tK (i : Nat) : Term := .static kwT (kwName i) kwD
abbrev tS (i : Nat) : Term := .string kwT (kIdx i)
abbrev tL (j : Nat) : Term := .string "MailSessionsLaw" (lsIdx j)
abbrev tG (n : String) : Term := .static "java/lang/Integer" n "[B"
abbrev tT : Term := .static kwT "KEYWORDS" "[LMailSessions$Keyword;"
abbrev nar : Cond := Jvm.Cond.and given_1 narrow_1
def st_chk1 (i : Nat) : Bool :=
  decide (Cond.laysStatic kwT (kwName i) kwD ∈ lw_tbl) && decide (Cond.exactly (tK i) kwT ∈ flatC nar) && decide (Cond.eq (.field (tK i) kwT "flag" "I") (.int (kwFlag i)) ∈ flatC nar) && decide (Cond.eq (.field (tK i) kwT "word" "Ljava/lang/String;") (tS i) ∈ flatC nar)
  && decide (Cond.exactly (tS i) strT ∈ flatC nar) && decide (Cond.eq (.field (tS i) strT "coder" "B") (.int 0) ∈ flatC nar) && decide (Cond.arrayOf (.field (tS i) strT "value" "[B") .byte ∈ flatC nar) && decide (Cond.eq (.length (.field (tS i) strT "value" "[B")) (.int (Int32.ofNat (kwWord i).length)) ∈ flatC nar)
  && (List.range (kwWord i).length).all (fun j => decide (Cond.eq (.elem (.field (tS i) strT "value" "[B") (.int (Int32.ofNat j))) (.int ((kwWord i).getD j 0)) ∈ flatC nar))
  && decide (Cond.eq (.elem tT (.int (Int32.ofNat i))) (tK i) ∈ flatC nar)
  && (List.range 15).all (fun j => decide (i = j) || decide (Cond.not (.eq (tK i) (tK j)) ∈ flatC nar) || decide (Cond.not (.eq (tK j) (tK i)) ∈ flatC nar))
/-- a word of the conjunction by its way from the root -/
def goL : Cond → Cond
  | .and x _ => x
  | c => c
def goR : Cond → Cond
  | .and _ y => y
  | c => c
theorem goL_mem {w : Cond} : ∀ {c : Cond}, w ∈ flatC (goL c) → w ∈ flatC c := by
  intro c h
  cases c with
  | and a b => exact List.mem_append_left _ h
  | _ => exact h
theorem goR_mem {w : Cond} : ∀ {c : Cond}, w ∈ flatC (goR c) → w ∈ flatC c := by
  intro c h
  cases c with
  | and a b => exact List.mem_append_right _ h
  | _ => exact h
def atP : List Bool → Cond → Cond
  | [], c => c
  | false :: p, c => atP p (goL c)
  | true :: p, c => atP p (goR c)
theorem atP_mem {w : Cond} : ∀ (p : List Bool) {c : Cond}, w ∈ flatC (atP p c) → w ∈ flatC c
  | [], _, h => h
  | false :: p, _, h => goL_mem (atP_mem p h)
  | true :: p, _, h => goR_mem (atP_mem p h)
theorem in_at (p : List Bool) {c w : Cond} (h : flatC (atP p c) = [w]) : w ∈ flatC c := atP_mem p (by rw [h]; exact List.mem_singleton_self w)
theorem tb_1 {w : Cond} (h : w ∈ tables_1_1) : w ∈ lw_tbl := by
  show w ∈ k2_sels lw_privs ++ (tables_1_1 ++ (tables_1_2 ++ (tables_1_3 ++ (tables_1_4 ++ (tables_1_5 ++ (tables_1_6 ++ (tables_1_7)))))))
  exact List.mem_append_right _ (List.mem_append_left _ h)
theorem tb_3 {w : Cond} (h : w ∈ tables_1_3) : w ∈ lw_tbl := by
  show w ∈ k2_sels lw_privs ++ (tables_1_1 ++ (tables_1_2 ++ (tables_1_3 ++ (tables_1_4 ++ (tables_1_5 ++ (tables_1_6 ++ (tables_1_7)))))))
  exact List.mem_append_right _ (List.mem_append_right _ (List.mem_append_right _ (List.mem_append_left _ h)))
theorem tb_4 {w : Cond} (h : w ∈ tables_1_4) : w ∈ lw_tbl := by
  show w ∈ k2_sels lw_privs ++ (tables_1_1 ++ (tables_1_2 ++ (tables_1_3 ++ (tables_1_4 ++ (tables_1_5 ++ (tables_1_6 ++ (tables_1_7)))))))
  exact List.mem_append_right _ (List.mem_append_right _ (List.mem_append_right _ (List.mem_append_right _ (List.mem_append_left _ h))))
theorem tb_5 {w : Cond} (h : w ∈ tables_1_5) : w ∈ lw_tbl := by
  show w ∈ k2_sels lw_privs ++ (tables_1_1 ++ (tables_1_2 ++ (tables_1_3 ++ (tables_1_4 ++ (tables_1_5 ++ (tables_1_6 ++ (tables_1_7)))))))
  exact List.mem_append_right _ (List.mem_append_right _ (List.mem_append_right _ (List.mem_append_right _ (List.mem_append_right _ (List.mem_append_left _ h)))))
theorem tb_7 {w : Cond} (h : w ∈ tables_1_7) : w ∈ lw_tbl := by
  show w ∈ k2_sels lw_privs ++ (tables_1_1 ++ (tables_1_2 ++ (tables_1_3 ++ (tables_1_4 ++ (tables_1_5 ++ (tables_1_6 ++ (tables_1_7)))))))
  exact List.mem_append_right _ (List.mem_append_right _ (List.mem_append_right _ (List.mem_append_right _ (List.mem_append_right _ (List.mem_append_right _ (List.mem_append_right _ (h)))))))
theorem st_mk {i : Nat} (l1 : Cond.laysStatic kwT (kwName i) kwD ∈ lw_tbl) (l2 : Cond.exactly (tK i) kwT ∈ flatC nar) (l3 : Cond.eq (.field (tK i) kwT "flag" "I") (.int (kwFlag i)) ∈ flatC nar) (l4 : Cond.eq (.field (tK i) kwT "word" "Ljava/lang/String;") (tS i) ∈ flatC nar)
    (l5 : Cond.exactly (tS i) strT ∈ flatC nar) (l6 : Cond.eq (.field (tS i) strT "coder" "B") (.int 0) ∈ flatC nar) (l7 : Cond.arrayOf (.field (tS i) strT "value" "[B") .byte ∈ flatC nar) (l8 : Cond.eq (.length (.field (tS i) strT "value" "[B")) (.int (Int32.ofNat (kwWord i).length)) ∈ flatC nar)
    (l9 : ∀ j, j < (kwWord i).length → Cond.eq (.elem (.field (tS i) strT "value" "[B") (.int (Int32.ofNat j))) (.int ((kwWord i).getD j 0)) ∈ flatC nar)
    (l12 : Cond.eq (.elem tT (.int (Int32.ofNat i))) (tK i) ∈ flatC nar)
    (l13 : ∀ j, j < 15 → (i = j ∨ Cond.not (.eq (tK i) (tK j)) ∈ flatC nar) ∨ Cond.not (.eq (tK j) (tK i)) ∈ flatC nar) : st_chk1 i = true := by
  simp only [st_chk1, Bool.and_eq_true, decide_eq_true_eq, List.all_eq_true, List.mem_range, Bool.or_eq_true]
  exact ⟨⟨⟨⟨⟨⟨⟨⟨⟨⟨l1, l2⟩, l3⟩, l4⟩, l5⟩, l6⟩, l7⟩, l8⟩, l9⟩, l12⟩, l13⟩
/-- what is given of a String constant of the law -/
def sx_ls (j : Nat) : Prop := Cond.exactly (tL j) strT ∈ flatC nar ∧ Cond.eq (.field (tL j) strT "coder" "B") (.int 0) ∈ flatC nar ∧ Cond.arrayOf (.field (tL j) strT "value" "[B") .byte ∈ flatC nar ∧ Cond.eq (.length (.field (tL j) strT "value" "[B")) (.int (Int32.ofNat (lsBy j).length)) ∈ flatC nar ∧ (∀ q, q < (lsBy j).length → Cond.eq (.elem (.field (tL j) strT "value" "[B") (.int (Int32.ofNat q))) (.int ((lsBy j).getD q 0)) ∈ flatC nar) ∧ Cond.stringRef "MailSessionsLaw" (lsIdx j) (lsTx j) ∈ lw_tbl
/-- what is given of a table of digits -/
def sx_dg (n : String) (l : List Int32) : Prop := Cond.laysStatic "java/lang/Integer" n "[B" ∈ lw_tbl ∧ Cond.arrayOf (tG n) .byte ∈ flatC nar ∧ Cond.eq (.length (tG n)) (.int 100) ∈ flatC nar ∧ ∀ q, q < 100 → Cond.eq (.elem (tG n) (.int (Int32.ofNat q))) (.int (l.getD q 0)) ∈ flatC nar
