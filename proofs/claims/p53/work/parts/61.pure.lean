/-! PURE: states, what is asked of them -/
/-- the messages of the box that a session has selected -/
def bof (S : St) (bx : Int32) : Ms := if bx = -1 then [] else (stB S bx.toNatClampNeg).2.2
/-- a session's box is one that there is -/
def okB (S : St) (bx : Int32) : Prop := bx = -1 ∨ ∃ b, b < stN S ∧ bx = nI b
def wfS (S : St) : Prop := ∀ k, k < stM S → okB S (sxB (stS S k))
theorem bof_in {S : St} {b : Nat} (h : b < 2 ^ 31) : bof S (nI b) = (stB S b).2.2 := by
  rw [bof, if_neg (by rw [nI_m1 h]; exact id), nI_clamp h]
theorem bof_no (S : St) : bof S (-1) = [] := if_pos rfl
section
variable {M : Mem} {r : Nat} {S : St}
theorem X8_boxOf_no (h : stA M r S) {q : Nat} {s : Sx} (hs : sxA M q s) (hb : sxB s = -1) : f_X8_boxOf r q M = some (r + 52) := by
  have hB : gI M 6 1 q = some (-1) := by rw [← hb]; exact hs.gB
  simp only [f_X8_boxOf, ob_h h.1, hB, bso, X8_boxAt_out h (.inl (show (-1 : Int32) < 0 by decide)), h.g0]
theorem X8_boxOf_in (h : stA M r S) {q : Nat} {s : Sx} (hs : sxA M q s) {b : Nat} (hb : b < stN S) (hbx : sxB s = nI b) : f_X8_boxOf r q M = some (boxR r b) := by
  have hB : gI M 6 1 q = some (nI b) := by rw [← hbx]; exact hs.gB
  simp only [f_X8_boxOf, ob_h h.1, hB, bso, X8_boxAt_in h hb]
theorem X8_boxOf_e (h : stA M r S) {q : Nat} {s : Sx} (hs : sxA M q s) (hw : okB S (sxB s)) : ∃ rb Jb nx, f_X8_boxOf r q M = some rb ∧ bA M rb Jb nx (bof S (sxB s)) ∧ (rb = r + 52 ∨ ∃ b, b < 3 ∧ rb = boxR r b) := by
  have h3 := h.n3
  rcases hw with hw | ⟨b, hb, hw⟩
  · obtain ⟨J, nx, h0⟩ := h.2.2.2.2.2.2.2
    refine ⟨r + 52, J, nx, X8_boxOf_no h hs hw, ?_, .inl rfl⟩
    rw [hw, bof_no]; exact h0
  · refine ⟨boxR r b, (stB S b).1, (stB S b).2.1, X8_boxOf_in h hs hb hw, ?_, .inr ⟨b, by omega, rfl⟩⟩
    rw [hw, bof_in (by omega)]
    exact h.bx (k := b) (by omega)
def bnm (S : St) (J : Int64) : Int32 := lp (fun k (_ : Unit) => if (stB S k).1 = J then .inr (nI k) else .inl ()) (fun _ => -1) 0 (stN S) ()
theorem X8_boxNamed_e (h : stA M r S) (J : Int64) : f_X8_boxNamed r J M = some (bnm S J) := by
  have h3 := h.n3
  simp only [f_X8_boxNamed, ob_h h.1]
  refine lp_run (fun fu k _ => f_X8_boxNamed_2 fu r J (nI k) M) _ _ 0 (stN S) ?_ ?_ (stN S) 0 () FU (Nat.zero_add _) (Nat.le_refl _) (by rw [FU_eq]; omega)
  · intro fu _
    simp only [f_X8_boxNamed_2, h.gN, bso, leT rfl rfl (Nat.le_refl (stN S)) (show stN S < 2 ^ 31 by omega), if_true]
  · intro fu k _ _ hk
    have hJ : gJ M 0 0 (boxR r k) = some (stB S k).1 := (h.bx (k := k) (by omega)).gJ
    simp only [f_X8_boxNamed_2, h.gN, bso, leF rfl rfl hk (show stN S < 2 ^ 31 by omega), if_false, X8_boxAt_in h hk, hJ, lg_cmp_eq, f_X8_boxNamed_34, nI_1]
    by_cases e : (stB S k).1 = J
    · simp only [e, if_true]
    · simp only [e, if_false]
def snm (S : St) (J : Int64) : Int32 := lp (fun k (_ : Unit) => if (stS S k).1 = J then .inr (nI k) else .inl ()) (fun _ => -1) 0 (stM S) ()
theorem X8_sesNamed_e (h : stA M r S) (J : Int64) : f_X8_sessionNamed r J M = some (snm S J) := by
  have h3 := h.m4
  simp only [f_X8_sessionNamed, ob_h h.1]
  refine lp_run (fun fu k _ => f_X8_sessionNamed_2 fu r J (nI k) M) _ _ 0 (stM S) ?_ ?_ (stM S) 0 () FU (Nat.zero_add _) (Nat.le_refl _) (by rw [FU_eq]; omega)
  · intro fu _
    simp only [f_X8_sessionNamed_2, h.gM, bso, leT rfl rfl (Nat.le_refl (stM S)) (show stM S < 2 ^ 31 by omega), if_true]
  · intro fu k _ _ hk
    have hJ : gJ M 6 0 (sesR r k) = some (stS S k).1 := (h.sx (k := k) (by omega)).gJ
    simp only [f_X8_sessionNamed_2, h.gM, bso, leF rfl rfl hk (show stM S < 2 ^ 31 by omega), if_false, X8_sesAt_in h hk, hJ, lg_cmp_eq, f_X8_sessionNamed_34, nI_1]
    by_cases e : (stS S k).1 = J
    · simp only [e, if_true]
    · simp only [e, if_false]
def cntM (S : St) : Int32 := fd (fun k a => a + nI (stB S k).2.2.length) 0 (stN S) 0
theorem X8_count_e (h : stA M r S) : f_X8_countMessages r M = some (cntM S) := by
  have h3 := h.n3
  simp only [f_X8_countMessages, ob_h h.1]
  refine fd_run (fun fu k a => f_X8_countMessages_4 fu r a (nI k) M) _ (fun a => a) 0 (stN S) ?_ ?_ (stN S) 0 0 FU (Nat.zero_add _) (Nat.le_refl _) (by rw [FU_eq]; omega)
  · intro fu a
    simp only [f_X8_countMessages_4, h.gN, bso, leT rfl rfl (Nat.le_refl (stN S)) (show stN S < 2 ^ 31 by omega), if_true]
  · intro fu k a _ hk
    have hJ : f_X0_size (boxR r k) M = some (nI (stB S k).2.2.length) := X0_size_e (h.bx (k := k) (by omega))
    simp only [f_X8_countMessages_4, h.gN, bso, leF rfl rfl hk (show stN S < 2 ^ 31 by omega), if_false, X8_boxAt_in h hk, hJ, f_X8_countMessages_31, nI_1]
def selS (S : St) (bx : Int32) : Int32 := fd (fun k a => if sxB (stS S k) = bx then a ||| b1 k else a) 0 (stM S) 0
theorem X8_sesOf_e (h : stA M r S) (bx : Int32) : f_X8_sessionsOf r bx M = some (selS S bx) := by
  have h3 := h.m4
  simp only [f_X8_sessionsOf, ob_h h.1]
  refine fd_run (fun fu k a => f_X8_sessionsOf_4 fu r bx a (nI k) M) _ (fun a => a) 0 (stM S) ?_ ?_ (stM S) 0 0 FU (Nat.zero_add _) (Nat.le_refl _) (by rw [FU_eq]; omega)
  · intro fu a
    simp only [f_X8_sessionsOf_4, h.gM, bso, leT rfl rfl (Nat.le_refl (stM S)) (show stM S < 2 ^ 31 by omega), if_true]
  · intro fu k a _ hk
    have hJ : gI M 6 1 (sesR r k) = some (sxB (stS S k)) := (h.sx (k := k) (by omega)).gB
    simp only [f_X8_sessionsOf_4, h.gM, bso, leF rfl rfl hk (show stM S < 2 ^ 31 by omega), if_false, X8_sesAt_in h hk, hJ, f_X8_sessionsOf_39, nI_1, b1]
    by_cases e : sxB (stS S k) = bx <;> simp only [e, if_true, if_false]
def hldS (S : St) (bx u : Int32) : Int32 := fd (fun k a => if sxB (stS S k) = bx ∧ (eix (sxE (stS S k)) u).isSome = true then a ||| b1 k else a) 0 (stM S) 0
def pndS (S : St) (s : Sx) : Nat := pend (sxH s) (sxE s) (bof S (sxB s))
theorem X8_pend_e (h : stA M r S) {q : Nat} {s : Sx} (hs : sxA M q s) (hw : okB S (sxB s)) {rb : Nat} (hr : f_X8_boxOf r q M = some rb) : f_X7_countPending q rb M = some (nI (pndS S s)) := by
  obtain ⟨rb', Jb, nx, e, hb, -⟩ := X8_boxOf_e h hs hw
  rw [hr] at e
  cases e
  exact X7_pend_e hs hb
def stl (S : St) : Int32 := fd (fun k a => if 0 < pndS S (stS S k) then a ||| b1 k else a) 0 (stM S) 0
theorem pend_lt (hi : Int32) {es : List En} {ms : Ms} (h : es.length ≤ 60) : pend hi es ms ≤ 121 := by
  have h1 : es.countP (gone ms) ≤ es.length := List.countP_le_length
  have h2 : es.countP (chg ms) ≤ es.length := List.countP_le_length
  unfold pend
  split <;> omega
theorem X8_stale_e (h : stA M r S) (hw : wfS S) : f_X8_sessionsToTell r M = some (stl S) := by
  have h3 := h.m4
  simp only [f_X8_sessionsToTell, ob_h h.1]
  refine fd_run (fun fu k a => f_X8_sessionsToTell_4 fu r a (nI k) M) _ (fun a => a) 0 (stM S) ?_ ?_ (stM S) 0 0 FU (Nat.zero_add _) (Nat.le_refl _) (by rw [FU_eq]; omega)
  · intro fu a
    simp only [f_X8_sessionsToTell_4, h.gM, bso, leT rfl rfl (Nat.le_refl (stM S)) (show stM S < 2 ^ 31 by omega), if_true]
  · intro fu k a _ hk
    have hx := h.sx (k := k) (by omega)
    have hlx := hx.len
    obtain ⟨rb, Jb, nx, e, hb, -⟩ := X8_boxOf_e h hx (hw k hk)
    have hP : pndS S (stS S k) ≤ 121 := pend_lt _ hlx
    simp only [f_X8_sessionsToTell_4, h.gM, bso, leF rfl rfl hk (show stM S < 2 ^ 31 by omega), if_false, X8_sesAt_in h hk, e, X8_pend_e h hx (hw k hk) e, f_X8_sessionsToTell_40, nI_1, b1]
    by_cases e2 : 0 < pndS S (stS S k)
    · rw [if_neg (nI_nle e2 (by omega)), if_pos e2]
    · rw [if_pos (show nI (pndS S (stS S k)) ≤ 0 by rw [show pndS S (stS S k) = 0 by omega]; decide), if_neg e2]
end
/-! states, telling -/
def tlG (al : Bool) (me : Int32) (ms : Ms) (es : List En) (cn : List Int32) : List En × List Int32 × List Nt := bif al then (kept ms es, cn.set 1 (cn.getD 1 0 + nI (es.countP (gone ms))), gN ms me 1 es) else (es, cn, [])
def tlS (al : Bool) (me : Int32) (ms : Ms) (s : Sx) : Sx × List Nt :=
  let g := tlG al me ms (sxE s) (sxC s)
  let es2 := cE ms g.1
  let cn2 := g.2.1.set 2 (g.2.1.getD 2 0 + nI (g.1.countP (chg ms)))
  let w := nw (sxH s) es2 ms
  ((s.1, sxB s, sxR s, sxI s, w.1, w.2, wC cn2 es2 w.2), g.2.2 ++ (cN ms me 1 g.1 ++ wN me es2 w.2))
theorem tlS_n2 (al : Bool) (me : Int32) (ms : Ms) (s : Sx) : (tlS al me ms s).2 = (tlG al me ms (sxE s) (sxC s)).2.2 ++ (cN ms me 1 (tlG al me ms (sxE s) (sxC s)).1 ++ wN me (cE ms (tlG al me ms (sxE s) (sxC s)).1) (nw (sxH s) (cE ms (tlG al me ms (sxE s) (sxC s)).1) ms).2) := rfl
theorem tlS_B (al : Bool) (me : Int32) (ms : Ms) (s : Sx) : sxB (tlS al me ms s).1 = sxB s := rfl
theorem tlS_I (al : Bool) (me : Int32) (ms : Ms) (s : Sx) : sxI (tlS al me ms s).1 = sxI s := rfl
def setSx (S : St) (k : Nat) (s : Sx) : St := (stL S, stN S, stM S, stB S, va_up (stS S) k s)
def tlK (al : Bool) (S : St) (k : Nat) : Sx × List Nt := tlS al (nI k) (bof S (sxB (stS S k))) (stS S k)
section
variable {M : Mem} {r rn : Nat} {S : St} {ns : List Nt}
theorem X7_tell_e {q rb : Nat} {s : Sx} {Jb : Int64} {nx : Int32} {ms : Ms} (al : Bool) (me : Int32) (d1 : q + 7 ≤ rb ∨ rb + 7 ≤ q) (d2 : q + 7 ≤ rn ∨ rn + 9 ≤ q) (d3 : rb + 7 ≤ rn ∨ rn + 9 ≤ rb) (h : sxA M q s) (hb : bA M rb Jb nx ms) (hn : ntA M rn ns) (hc : ns.length + (tlS al me ms s).2.length ≤ 244) :
    ∃ M', (bif al then (f_X7_tellGone q me rb rn M).bind fun (x8, M9) => f_X8_tell_39 me rn q rb x8 M9 else f_X8_tell_39 me rn q rb 0 M) = some (nI (tlS al me ms s).2.length, M') ∧ sxA M' q (tlS al me ms s).1 ∧ ntA M' rn (ns ++ (tlS al me ms s).2) ∧ off2 M M' q 7 rn 9 := by
  have key : ∀ (M1 : Mem) (g : List En × List Int32 × List Nt), g = tlG al me ms (sxE s) (sxC s) → sA M1 q s.1 (sxB s) (sxR s) (sxI s) (sxH s) g.1 g.2.1 → bA M1 rb Jb nx ms → ntA M1 rn (ns ++ g.2.2) →
      ∃ M', f_X8_tell_39 me rn q rb (nI g.2.2.length) M1 = some (nI (tlS al me ms s).2.length, M') ∧ sxA M' q (tlS al me ms s).1 ∧ ntA M' rn (ns ++ (tlS al me ms s).2) ∧ off2 M1 M' q 7 rn 9 := by
    intro M1 g hg h1 hb1 hn1
    have hL : (tlS al me ms s).2.length = g.2.2.length + (g.1.countP (chg ms) + (wN me (cE ms g.1) (nw (sxH s) (cE ms g.1) ms).2).length) := by
      rw [hg]
      rw [tlS_n2, List.length_append, List.length_append, cN_len]
    rw [hL] at hc
    obtain ⟨M2, e2, h2, n2, o2⟩ := X7_tellChg_e me d1 d2 d3 h1 hb1 hn1 (by rw [List.length_append]; omega)
    have hb2 := hb1.sm (o2.same (by omega) (by omega))
    obtain ⟨M3, e3, h3, n3, o3⟩ := X7_tellNew_e me d1 d2 h2 hb2 n2 (by rw [List.length_append, List.length_append, cN_len]; omega)
    refine ⟨M3, ?_, ?_, ?_, o2.trans o3⟩
    · simp only [f_X8_tell_39, e2, e3, bso, nI_add, hL, Nat.add_assoc]
    · rw [hg] at h3; exact h3
    · rw [hg] at n3
      have : ns ++ (tlS al me ms s).2 = ns ++ (tlG al me ms (sxE s) (sxC s)).2.2 ++ cN ms me 1 (tlG al me ms (sxE s) (sxC s)).1 ++ wN me (cE ms (tlG al me ms (sxE s) (sxC s)).1) (nw (sxH s) (cE ms (tlG al me ms (sxE s) (sxC s)).1) ms).2 := by
        rw [tlS_n2]
        simp only [List.append_assoc]
      rw [this]; exact n3
  cases al with
  | false =>
    simp only [cond_false]
    exact key M ((sxE s), (sxC s), []) rfl h hb (by rw [List.append_nil]; exact hn)
  | true =>
    have hL : (sxE s).countP (gone ms) ≤ (tlS true me ms s).2.length := by
      show _ ≤ (gN ms me 1 (sxE s) ++ _).length
      rw [List.length_append, gN_len]; omega
    obtain ⟨M1, e1, h1, n1, o1⟩ := X7_tellGone_e me d1 d2 d3 h hb hn (by show ns.length + (sxE s).countP (gone ms) ≤ 244; omega)
    obtain ⟨M', e', h', n', o'⟩ := key M1 _ rfl h1 (hb.sm (o1.same (by omega) (by omega))) n1
    refine ⟨M', ?_, h', n', o1.trans o'⟩
    simp only [cond_true, e1, bso]
    rw [show (tlG true me ms (sxE s) (sxC s)).2.2.length = (sxE s).countP (gone ms) from gN_len _ _ _ _] at e'
    exact e'
theorem X8_tell_e (al : Bool) (d : r + 59 ≤ rn ∨ rn + 9 ≤ r) (h : stA M r S) (hn : ntA M rn ns) {k : Nat} (hk : k < stM S) (hw : okB S (sxB (stS S k))) (hc : ns.length + (tlK al S k).2.length ≤ 244) :
    ∃ M', f_X8_tell r (nI k) al rn M = some (nI (tlK al S k).2.length, M') ∧ stA M' r (setSx S k (tlK al S k).1) ∧ ntA M' rn (ns ++ (tlK al S k).2) ∧ off2 M M' r 59 rn 9 := by
  have h4 := h.m4
  have hx := h.sx (k := k) (by omega)
  obtain ⟨rb, Jb, nx, e, hb, hr⟩ := X8_boxOf_e h hx hw
  have d1 : sesR r k + 7 ≤ rb ∨ rb + 7 ≤ sesR r k := by
    rcases hr with hr | ⟨b, hb3, hr⟩
    · left; rw [hr]; unfold sesR; omega
    · right; rw [hr]; unfold sesR boxR; omega
  have d3 : rb + 7 ≤ rn ∨ rn + 9 ≤ rb := by
    rcases hr with hr | ⟨b, hb3, hr⟩
    · rw [hr]; omega
    · rw [hr]; unfold boxR; omega
  clear hr
  have d2 : sesR r k + 7 ≤ rn ∨ rn + 9 ≤ sesR r k := by unfold sesR; omega
  obtain ⟨M', e', h', n', o'⟩ := X7_tell_e al (nI k) d1 d2 d3 hx hb hn hc
  refine ⟨M', ?_, ?_, n', o'.wide (by unfold sesR; omega) (by omega)⟩
  · simp only [f_X8_tell, ob_h h.1, X8_sesAt_in h hk, e, bso]
    exact e'
  · exact h.setS (k := k) (by omega) h' (fun q q1 q2 q3 => o'.2 q q3 (by omega))
/-- all idle sessions, told -/
def tlI (n : Nat) (k : Nat) (a : St × List Nt) : St × List Nt := fd (fun k (a : St × List Nt) => if sxI (stS a.1 k) = true then (setSx a.1 k (tlK true a.1 k).1, a.2 ++ (tlK true a.1 k).2) else a) k n a
theorem tlI_len : ∀ (n k : Nat) (a : St × List Nt), a.2.length ≤ (tlI n k a).2.length := by
  intro n
  induction n with
  | zero => intro k a; exact Nat.le_refl _
  | succ n ih =>
    intro k a
    unfold tlI
    rw [fd]
    split
    · refine Nat.le_trans ?_ (ih (k + 1) _)
      rw [List.length_append]; omega
    · exact ih (k + 1) a
theorem X8_idle_loop (d : r + 59 ≤ rn ∨ rn + 9 ≤ r) : ∀ (n k fu : Nat) (M : Mem) (S : St) (ns : List Nt), k + n = stM S → n < fu → stA M r S → ntA M rn ns → wfS S → (tlI n k (S, ns)).2.length ≤ 244 →
    ∃ M', f_X8_tellIdle_2 fu r rn (nI k) M = some M' ∧ stA M' r (tlI n k (S, ns)).1 ∧ ntA M' rn (tlI n k (S, ns)).2 ∧ off2 M M' r 59 rn 9 := by
  intro n
  induction n with
  | zero =>
    intro k fu M S ns hk hf h hn hw hc
    obtain ⟨fu, rfl⟩ : ∃ m, fu = m + 1 := ⟨fu - 1, by omega⟩
    obtain rfl : k = stM S := by omega
    have := h.m4
    refine ⟨M, ?_, h, hn, off2.rf _ _ _ _ _⟩
    simp only [f_X8_tellIdle_2, h.gM, bso, leT rfl rfl (Nat.le_refl (stM S)) (show stM S < 2 ^ 31 by omega), if_true]
  | succ n ih =>
    intro k fu M S ns hk hf h hn hw hc
    obtain ⟨fu, rfl⟩ : ∃ m, fu = m + 1 := ⟨fu - 1, by omega⟩
    have h4 := h.m4
    have hI : gZ M 6 3 (sesR r k) = some (sxI (stS S k)) := (h.sx (k := k) (by omega)).gI
    simp only [f_X8_tellIdle_2, h.gM, bso, leF rfl rfl (show k < stM S by omega) (show stM S < 2 ^ 31 by omega), if_false, X8_sesAt_in h (show k < stM S by omega), hI, f_X8_tellIdle_35, nI_1]
    unfold tlI at hc ⊢
    rw [fd] at hc ⊢
    cases hi : sxI (stS S k) with
    | false =>
      simp only [hi, cond_false, Bool.false_eq_true, if_false] at hc ⊢
      exact ih (k + 1) fu M S ns (by omega) (by omega) h hn hw hc
    | true =>
      simp only [hi, cond_true, if_true] at hc ⊢
      have hq := tlI_len n (k + 1) (setSx S k (tlK true S k).1, ns ++ (tlK true S k).2)
      unfold tlI at hq
      rw [List.length_append] at hq
      obtain ⟨M1, e1, h1, n1, o1⟩ := X8_tell_e true d h hn (show k < stM S by omega) (hw k (by omega)) (by omega)
      obtain ⟨M', e', h', n', o'⟩ := ih (k + 1) fu M1 (setSx S k (tlK true S k).1) (ns ++ (tlK true S k).2) (by show k + 1 + n = stM S; omega) (by omega) h1 n1 (fun j hj => by
        show okB S (sxB (va_up (stS S) k (tlK true S k).1 j))
        by_cases e : j = k
        · subst e; rw [va_up_s]; exact hw j hj
        · rw [va_up_n _ _ e]; exact hw j hj) hc
      exact ⟨M', by simp only [e1, bso, e'], h', n', o1.trans o'⟩
theorem X8_idle_e (d : r + 59 ≤ rn ∨ rn + 9 ≤ r) (h : stA M r S) (hn : ntA M rn ns) (hw : wfS S) (hc : (tlI (stM S) 0 (S, ns)).2.length ≤ 244) :
    ∃ M', f_X8_tellIdle r rn M = some M' ∧ stA M' r (tlI (stM S) 0 (S, ns)).1 ∧ ntA M' rn (tlI (stM S) 0 (S, ns)).2 ∧ off2 M M' r 59 rn 9 := by
  have h4 := h.m4
  obtain ⟨M', e', h', n', o'⟩ := X8_idle_loop d (stM S) 0 FU M S ns (Nat.zero_add _) (by rw [FU_eq]; omega) h hn hw hc
  exact ⟨M', by simp only [f_X8_tellIdle, ob_h h.1]; exact e', h', n', o'⟩
/-- each session that has a box enters it -/
def ent (S : St) (s : Sx) : Sx := if sxB s = -1 then s else (s.1, sxB s, sxR s, sxI s, (nw 0 [] (bof S (sxB s))).1, (nw 0 [] (bof S (sxB s))).2, sxC s)
theorem X8_enter_loop : ∀ (n k fu : Nat) (M : Mem) (S0 S : St), k + n = stM S → n < fu → stA M r S → wfS S → stB S = stB S0 → (∀ j, k ≤ j → stS S j = stS S0 j) → (∀ j, j < k → stS S j = ent S0 (stS S0 j)) →
    ∃ M' S', f_X8_enterBoxes_2 fu r (nI k) M = some M' ∧ stA M' r S' ∧ off M M' r 59 ∧ stL S' = stL S ∧ stN S' = stN S ∧ stM S' = stM S ∧ stB S' = stB S0 ∧ (∀ j, j < stM S → stS S' j = ent S0 (stS S0 j)) := by
  intro n
  induction n with
  | zero =>
    intro k fu M S0 S hk hf h hw a1 a2 a3
    obtain ⟨fu, rfl⟩ : ∃ m, fu = m + 1 := ⟨fu - 1, by omega⟩
    obtain rfl : k = stM S := by omega
    have := h.m4
    refine ⟨M, S, ?_, h, off.rf _ _ _, rfl, rfl, rfl, a1, a3⟩
    simp only [f_X8_enterBoxes_2, h.gM, bso, leT rfl rfl (Nat.le_refl (stM S)) (show stM S < 2 ^ 31 by omega), if_true]
  | succ n ih =>
    intro k fu M S0 S hk hf h hw a1 a2 a3
    obtain ⟨fu, rfl⟩ : ∃ m, fu = m + 1 := ⟨fu - 1, by omega⟩
    have h4 := h.m4
    have hx := h.sx (k := k) (by omega)
    have hB : f_X7_hasBox (sesR r k) M = some (!decide (sxB (stS S k) = -1)) := X7_hasBox_e hx
    have hbx : gI M 6 1 (sesR r k) = some (sxB (stS S k)) := hx.gB
    have hrd : gZ M 6 2 (sesR r k) = some (sxR (stS S k)) := hx.gR
    obtain ⟨rb, Jb, nx, e, hb, hr⟩ := X8_boxOf_e h hx (hw k (by omega))
    simp only [f_X8_enterBoxes_2, h.gM, bso, leF rfl rfl (show k < stM S by omega) (show stM S < 2 ^ 31 by omega), if_false, X8_sesAt_in h (show k < stM S by omega), hB, f_X8_enterBoxes_44, nI_1]
    by_cases hq : sxB (stS S k) = -1
    · simp only [hq, decide_true, Bool.not_true, cond_false]
      refine ih (k + 1) fu M S0 S (by omega) (by omega) h hw a1 (fun j hj => a2 j (by omega)) (fun j hj => ?_)
      by_cases ej : j = k
      · subst ej; rw [ent, ← a2 j (Nat.le_refl _), if_pos hq]
      · exact a3 j (by omega)
    · simp only [hq, decide_false, Bool.not_false, cond_true, hbx, e, hrd, bso]
      have d1 : sesR r k + 7 ≤ rb ∨ rb + 7 ≤ sesR r k := by
        rcases hr with hr | ⟨b, hb3, hr⟩
        · left; rw [hr]; unfold sesR; omega
        · right; rw [hr]; unfold sesR boxR; omega
      obtain ⟨M1, e1, h1, o1⟩ := X7_enter_e hx hb d1 (sxB (stS S k)) (sxR (stS S k))
      have hbo : bof S (sxB (stS S k)) = bof S0 (sxB (stS S k)) := by unfold bof; rw [a1]
      have h1' : sxA M1 (sesR r k) (ent S0 (stS S0 k)) := by
        rw [ent, ← a2 k (Nat.le_refl _), if_neg hq, ← hbo]; exact h1
      have h2 := h.setS (k := k) (by omega) h1' (fun q _ _ q3 => o1.2 q q3)
      obtain ⟨M', S', e', h', o', c1, c2, c3, c4, c5⟩ := ih (k + 1) fu M1 S0 _ (by show k + 1 + n = stM S; omega) (by omega) h2 (fun j hj => by
        show okB S (sxB (va_up (stS S) k (ent S0 (stS S0 k)) j))
        by_cases ej : j = k
        · subst ej
          rw [va_up_s, ent, ← a2 j (Nat.le_refl _), if_neg hq]
          exact hw j hj
        · rw [va_up_n _ _ ej]; exact hw j hj) a1 (fun j hj => by
          show va_up (stS S) k (ent S0 (stS S0 k)) j = _
          rw [va_up_n _ _ (by omega)]; exact a2 j (by omega)) (fun j hj => by
          show va_up (stS S) k (ent S0 (stS S0 k)) j = _
          by_cases ej : j = k
          · subst ej; rw [va_up_s]
          · rw [va_up_n _ _ ej]; exact a3 j (by omega))
      exact ⟨M', S', by simp only [e1, bso, e'], h', (o1.wide (by unfold sesR; omega) (by unfold sesR; omega)).trans o', c1, c2, c3, c4, c5⟩
theorem X8_enter_e (h : stA M r S) (hw : wfS S) : ∃ M' S', f_X8_enterBoxes r M = some M' ∧ stA M' r S' ∧ off M M' r 59 ∧ stL S' = stL S ∧ stN S' = stN S ∧ stM S' = stM S ∧ stB S' = stB S ∧ (∀ j, j < stM S → stS S' j = ent S (stS S j)) := by
  have h4 := h.m4
  obtain ⟨M', S', e', rest⟩ := X8_enter_loop (r := r) (stM S) 0 FU M S S (Nat.zero_add _) (by rw [FU_eq]; omega) h hw rfl (fun _ _ => rfl) (fun j hj => absurd hj (Nat.not_lt_zero _))
  exact ⟨M', S', by simp only [f_X8_enterBoxes, ob_h h.1]; exact e', rest⟩
end
