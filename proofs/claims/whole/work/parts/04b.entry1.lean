/-! THE START: what holds at the law's entry -/
def kIdx (i : Nat) : Nat := ([96, 102, 105, 108, 111, 114, 117, 120, 123, 126, 129, 132, 135, 138, 141] : List Nat).getD i 0
abbrev tK (i : Nat) : Term := .static kwT (kwName i) kwD
abbrev tS (i : Nat) : Term := .string kwT (kIdx i)
abbrev tM (i : Nat) : Term := .string "MailSessionsModel" (smIdx i)
abbrev tT : Term := .static kwT "KEYWORDS" "[LMailSessions$Keyword;"
abbrev nar : Cond := Jvm.Cond.and given_1 narrow_1
def st_chk1 (i : Nat) : Bool :=
  decide (Cond.laysStatic kwT (kwName i) kwD ∈ lw_tbl) && decide (Cond.exactly (tK i) kwT ∈ flatC nar) && decide (Cond.eq (.field (tK i) kwT "flag" "I") (.int (kwFlag i)) ∈ flatC nar) && decide (Cond.eq (.field (tK i) kwT "word" "Ljava/lang/String;") (tS i) ∈ flatC nar)
  && decide (Cond.exactly (tS i) strT ∈ flatC nar) && decide (Cond.eq (.field (tS i) strT "coder" "B") (.int 0) ∈ flatC nar) && decide (Cond.arrayOf (.field (tS i) strT "value" "[B") .byte ∈ flatC nar) && decide (Cond.eq (.length (.field (tS i) strT "value" "[B")) (.int (Int32.ofNat (kwWord i).length)) ∈ flatC nar)
  && (List.range (kwWord i).length).all (fun j => decide (Cond.eq (.elem (.field (tS i) strT "value" "[B") (.int (Int32.ofNat j))) (.int ((kwWord i).getD j 0)) ∈ flatC nar))
  && decide (Cond.eq (tM i) (tS i) ∈ flatC nar) && decide (Cond.stringRef "MailSessionsModel" (smIdx i) (smTx i) ∈ lw_tbl) && decide (Cond.eq (.elem tT (.int (Int32.ofNat i))) (tK i) ∈ flatC nar)
  && (List.range 15).all (fun j => decide (i = j) || decide (Cond.not (.eq (tK i) (tK j)) ∈ flatC nar) || decide (Cond.not (.eq (tK j) (tK i)) ∈ flatC nar))
def st_chq (i : Nat) : Bool :=
  decide (Cond.laysStatic kwT (kwName i) kwD ∈ lw_tbl) && decide (Cond.exactly (tK i) kwT ∈ flatC nar) && decide (Cond.eq (.field (tK i) kwT "flag" "I") (.int (kwFlag i)) ∈ flatC nar) && decide (Cond.eq (.field (tK i) kwT "word" "Ljava/lang/String;") (tS i) ∈ flatC nar)
  && decide (Cond.exactly (tS i) strT ∈ flatC nar) && decide (Cond.eq (.field (tS i) strT "coder" "B") (.int 0) ∈ flatC nar) && decide (Cond.arrayOf (.field (tS i) strT "value" "[B") .byte ∈ flatC nar) && decide (Cond.eq (.length (.field (tS i) strT "value" "[B")) (.int (Int32.ofNat (kwWord i).length)) ∈ flatC nar)
  && (List.range (kwWord i).length).all (fun j => decide (Cond.eq (.elem (.field (tS i) strT "value" "[B") (.int (Int32.ofNat j))) (.int ((kwWord i).getD j 0)) ∈ flatC nar))
  && decide (Cond.eq (tM i) (tS i) ∈ flatC nar) && decide (Cond.stringRef "MailSessionsModel" (smIdx i) (smTx i) ∈ lw_tbl) && decide (Cond.eq (.elem tT (.int (Int32.ofNat i))) (tK i) ∈ flatC nar)
  && (List.range 15).all (fun j => decide (i = j) || (if i < j then decide (Cond.not (.eq (tK i) (tK j)) ∈ flatC nar) else decide (Cond.not (.eq (tK j) (tK i)) ∈ flatC nar)))
/-- the pairs asked in the order in which they stand -/
theorem st_of_q {i : Nat} (h : st_chq i = true) : st_chk1 i = true := by
  unfold st_chq at h
  unfold st_chk1
  obtain ⟨h1, h2⟩ := Bool.and_eq_true_iff.mp h
  refine Bool.and_eq_true_iff.mpr ⟨h1, ?_⟩
  rw [List.all_eq_true] at h2 ⊢
  intro j hj
  have h3 := h2 j hj
  by_cases e : i < j
  · rw [if_pos e] at h3
    rw [h3]; rfl
  · rw [if_neg e] at h3
    rcases Bool.or_eq_true_iff.mp h3 with h | h
    · rw [h]; rfl
    · rw [h, Bool.or_true]
