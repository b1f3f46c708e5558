/-! THE START: what holds at the law's entry -/
def kIdx (i : Nat) : Nat := ([96, 102, 105, 108, 111, 114, 117, 120, 123, 126, 129, 132, 135, 138, 141] : List Nat).getD i 0
abbrev tK (i : Nat) : Term := .static kwT (kwName i) kwD
abbrev tS (i : Nat) : Term := .string kwT (kIdx i)
abbrev tM (i : Nat) : Term := .string "MailSessionsModel" (smIdx i)
abbrev tT : Term := .static kwT "KEYWORDS" "[LMailSessions$Keyword;"
abbrev nar : Cond := Jvm.Cond.and given_1 narrow_1
def st_chk1 (i : Nat) : Bool :=
  decide (Cond.laysStatic kwT (kwName i) kwD ∈ lw_tbl) && decide (Cond.exactly (tK i) kwT ∈ flatC nar) && decide (Cond.eq (.field (tK i) kwT "flag" "I") (.int (kwFlag i)) ∈ flatC nar) && decide (Cond.eq (.field (tK i) kwT "word" "Ljava/lang/String;") (tS i) ∈ flatC nar)
  && decide (Cond.exactly (tS i) strT ∈ flatC nar) && decide (Cond.eq (.field (tS i) strT "coder" "B") (.int 0) ∈ flatC nar) && decide (Cond.arrayOf (.field (tS i) strT "value" "[B") .byte ∈ flatC nar) && decide (Cond.eq (.length (.field (tS i) strT "value" "[B")) (.int (Int32.ofNat (kwWord i).length)) ∈ flatC nar)
  && (List.range (kwWord i).length).all (fun j => decide (Cond.eq (.elem (.field (tS i) strT "value" "[B") (.int (Int32.ofNat j))) (.int ((kwWord i).getD j 0)) ∈ flatC nar))
  && decide (Cond.eq (tM i) (tS i) ∈ flatC nar) && decide (Cond.stringRef "MailSessionsModel" (smIdx i) (smTx i) ∈ lw_tbl) && decide (Cond.eq (.elem tT (.int (Int32.ofNat i))) (tK i) ∈ flatC nar)
  && (List.range 15).all (fun j => decide (i = j) || decide (Cond.not (.eq (tK i) (tK j)) ∈ flatC nar) || decide (Cond.not (.eq (tK j) (tK i)) ∈ flatC nar))
/-- where the pairs stand: the keywords, then the flags -/
def st_rk (i : Nat) : Nat := if i < 6 then i else if i < 11 then i + 4 else i - 5
def st_qk (a b : String) : Cond → Bool
  | .not (.eq (.static _ x _) (.static _ y _)) => decide (x = a) && decide (y = b)
  | _ => false
def st_has (a b : String) (w : Cond) (l : List Cond) : Bool := l.any (fun c => st_qk a b c && decide (c = w))
theorem st_has_mem {a b : String} {w : Cond} {l : List Cond} (h : st_has a b w l = true) : w ∈ l := by
  obtain ⟨c, hc, h2⟩ := List.any_eq_true.mp h
  have h3 := of_decide_eq_true (Bool.and_eq_true_iff.mp h2).2
  rw [← h3]; exact hc
def st_chq (i : Nat) : Bool :=
  decide (Cond.laysStatic kwT (kwName i) kwD ∈ lw_tbl) && decide (Cond.exactly (tK i) kwT ∈ flatC nar) && decide (Cond.eq (.field (tK i) kwT "flag" "I") (.int (kwFlag i)) ∈ flatC nar) && decide (Cond.eq (.field (tK i) kwT "word" "Ljava/lang/String;") (tS i) ∈ flatC nar)
  && decide (Cond.exactly (tS i) strT ∈ flatC nar) && decide (Cond.eq (.field (tS i) strT "coder" "B") (.int 0) ∈ flatC nar) && decide (Cond.arrayOf (.field (tS i) strT "value" "[B") .byte ∈ flatC nar) && decide (Cond.eq (.length (.field (tS i) strT "value" "[B")) (.int (Int32.ofNat (kwWord i).length)) ∈ flatC nar)
  && (List.range (kwWord i).length).all (fun j => decide (Cond.eq (.elem (.field (tS i) strT "value" "[B") (.int (Int32.ofNat j))) (.int ((kwWord i).getD j 0)) ∈ flatC nar))
  && decide (Cond.eq (tM i) (tS i) ∈ flatC nar) && decide (Cond.stringRef "MailSessionsModel" (smIdx i) (smTx i) ∈ lw_tbl) && decide (Cond.eq (.elem tT (.int (Int32.ofNat i))) (tK i) ∈ flatC nar)
  && (List.range 15).all (fun j => decide (i = j) || (if st_rk i < st_rk j then st_has (kwName i) (kwName j) (Cond.not (.eq (tK i) (tK j))) (flatC nar) else st_has (kwName j) (kwName i) (Cond.not (.eq (tK j) (tK i))) (flatC nar)))
/-- the pairs asked in the order in which they stand -/
theorem st_of_q {i : Nat} (h : st_chq i = true) : st_chk1 i = true := by
  unfold st_chq at h
  unfold st_chk1
  obtain ⟨h1, h2⟩ := Bool.and_eq_true_iff.mp h
  refine Bool.and_eq_true_iff.mpr ⟨h1, ?_⟩
  rw [List.all_eq_true] at h2 ⊢
  intro j hj
  have h3 := h2 j hj
  rcases Bool.or_eq_true_iff.mp h3 with h | h
  · rw [h]; rfl
  · by_cases e : st_rk i < st_rk j
    · rw [if_pos e] at h
      rw [decide_eq_true (st_has_mem h), Bool.or_true]; rfl
    · rw [if_neg e] at h
      rw [decide_eq_true (st_has_mem h), Bool.or_true]
