/-! PURE, p53: what the law asks of each session holds -/
theorem cnt_take {α : Type} (d : α) (p : α → Bool) : ∀ (l : List α) (j : Nat), j < l.length → (l.take (j + 1)).countP p = (l.take j).countP p + (if p (l.getD j d) = true then 1 else 0) := by
  intro l
  induction l with
  | nil => intro j hj; exact absurd hj (Nat.not_lt_zero j)
  | cons x t ih =>
    intro j hj
    cases j with
    | zero =>
      show [x].countP p = 0 + (if p x = true then 1 else 0)
      rw [List.countP_cons, List.countP_nil]
    | succ j =>
      rw [List.length_cons] at hj
      show (x :: t.take (j + 1)).countP p = (x :: t.take j).countP p + (if p (t.getD j d) = true then 1 else 0)
      rw [List.countP_cons, List.countP_cons, ih j (by omega)]
      omega
theorem nI_b2i (a : Nat) (p : Bool) : nI a + b2i p = nI (a + (if p = true then 1 else 0)) := by
  cases p with
  | false => show nI a + 0 = nI (a + 0); rw [Int32.add_zero, Nat.add_zero]
  | true => exact nI_1 a
def lstU (es : List En) (j : Nat) : Int32 := if j = 0 then 0 else eU (eg es (j - 1))
theorem ascE_lt {es : List En} (h : ascE es) {i j : Nat} (hij : i < j) (hj : j < es.length) : eU (eg es i) < eU (eg es j) := by
  have := List.pairwise_iff_getElem.mp h i j (by omega) hj hij
  unfold eg
  rw [List.getD_eq_getElem?_getD, List.getD_eq_getElem?_getD, List.getElem?_eq_getElem hj, List.getElem?_eq_getElem (show i < es.length by omega)]
  exact this
theorem eg_mem {es : List En} {j : Nat} (hj : j < es.length) : eg es j ∈ es := by
  unfold eg
  rw [List.getD_eq_getElem?_getD, List.getElem?_eq_getElem hj]
  exact List.getElem_mem hj
theorem eix_at {es : List En} (h : ascE es) {j : Nat} (hj : j < es.length) : eix es (eU (eg es j)) = some j := by
  refine ixl_is (by rw [List.length_map]; exact hj) (eg_mapX eU hj) (fun i hi => ?_)
  rw [eg_mapX eU (by omega)]
  intro z
  have := ascE_lt h hi hj
  rw [z] at this
  exact Int32.lt_irrefl this
theorem lst_lt {hi : Int32} {es : List En} (h : okEs hi es) {j : Nat} (hj : j < es.length) : ¬ eU (eg es j) ≤ lstU es j := by
  unfold lstU
  split
  · exact Int32.not_le.mpr (h.2.1 _ (eg_mem hj)).1
  · exact Int32.not_le.mpr (ascE_lt h.1 (by omega) hj)
def G1 (es : List En) (k : Nat) (_ : Unit) : Unit ⊕ Int32 := if eT (eg es k) &&& 1 = 0 then .inr (nI (k + 1)) else .inl ()
def L1 (es : List En) (ms : Ms) (k : Nat) (a : Int32 × Int32) : Int32 × Int32 := if esz ms (eg es k) ≤ a.2 then a else (nI (k + 1), esz ms (eg es k))
theorem fns_G (es : List En) : fns es = lp (G1 es) (fun _ => -1) 0 es.length () := rfl
theorem lrg_L (es : List En) (ms : Ms) : lrg es ms = fd (L1 es ms) 0 es.length (-1, 0) := rfl
def unI (es : List En) (j d : Nat) (un : Int32) : Prop := (un = -1 ∧ lp (G1 es) (fun _ => -1) j d () = fns es) ∨ (0 ≤ un ∧ un = fns es)
def un1 (es : List En) (j : Nat) (un : Int32) : Int32 := if 0 ≤ un then un else if eT (eg es j) &&& 1 = 0 then nI (j + 1) else un
theorem unI_step {es : List En} {j d : Nat} {un : Int32} (h : unI es j (d + 1) un) (hj : j < 60) : unI es (j + 1) d (un1 es j un) := by
  unfold un1
  rcases h with ⟨h1, h2⟩ | ⟨h1, h2⟩
  · rw [h1, if_neg (by decide)]
    rw [lp] at h2
    by_cases z : eT (eg es j) &&& 1 = 0
    · rw [if_pos z]
      have : G1 es j () = .inr (nI (j + 1)) := if_pos z
      rw [this] at h2
      exact .inr ⟨nI_ge0 (by omega), h2⟩
    · rw [if_neg z]
      have : G1 es j () = .inl () := if_neg z
      rw [this] at h2
      exact .inl ⟨rfl, h2⟩
  · rw [if_pos h1]
    exact .inr ⟨h1, h2⟩
theorem unI_end {es : List En} {j : Nat} {un : Int32} (h : unI es j 0 un) : un = fns es := by
  rcases h with ⟨h1, h2⟩ | ⟨h1, h2⟩
  · rw [h1]; exact h2
  · exact h2
section
variable {I O : List Int32} {S : St} {K : Nat → St} {B : Nat → Bool} {C : Nat} {H : Nat → St} {N : List Nt} {E : Er} {c : Nat} {M : Mem}
theorem bof_b (ok : okS c S) {s b : Nat} (hb : b < stN S) (hbx : sxB (stS S s) = nI b) : bof S (sxB (stS S s)) = (stB S b).2.2 := by
  rw [hbx]; exact bof_in (by have := ok.2.1.1; omega)
theorem ses_262 (h : Cls M I O S K B C H N E) (ok : okS c S) {s b j : Nat} (hs : s < stM S) (hb : b < stN S) (hj : j < (sxE (stS S s)).length) (rc : Nat → Int32 → Int32 → Int32 → Int32 → Int32 → Int32 → Int32 → Int32 → Int32 → Mem → Option ((Bool ⊕ String) × Mem)) (g o lg mo un : Int32) (hm : 0 ≤ mo) :
    f_L_session_262 rc 100 (nI s) (nI b) g o lg mo (nI (j + 1)) (eU (eg (sxE (stS S s)) j)) (oI (mix (stB S b).2.2 (eU (eg (sxE (stS S s)) j)))) un M =
      rc 100 (nI s) (nI b) g o (eU (eg (sxE (stS S s)) j)) un (L1 (sxE (stS S s)) (stB S b).2.2 j (lg, mo)).1 (L1 (sxE (stS S s)) (stB S b).2.2 j (lg, mo)).2 (nI (j + 2)) M := by
  have hlb : (stB S b).2.2.length ≤ 30 := (ok.2.2.1 b hb).2.2
  have n2' : nI (j + 1) + 1 = nI (j + 2) := nI_1 (j + 1)
  cases hx : mix (stB S b).2.2 (eU (eg (sxE (stS S s)) j)) with
  | none =>
    have e0 : esz (stB S b).2.2 (eg (sxE (stS S s)) j) = 0 := by unfold esz; rw [hx]
    have eL : L1 (sxE (stS S s)) (stB S b).2.2 j (lg, mo) = (lg, mo) := by unfold L1; rw [e0]; exact if_pos hm
    simp only [f_L_session_262, f_L_session_296, eL, oI_n, n2']
    rw [if_pos (by decide)]
  | some k =>
    have hk := mix_lt hx
    have e0 : esz (stB S b).2.2 (eg (sxE (stS S s)) j) = mS (mg (stB S b).2.2 k) := by unfold esz; rw [hx]
    have q := (q_msg h hb hk).2.1
    simp only [f_L_session_262, f_L_session_296, oI_s, n2']
    rw [if_neg (Int32.not_lt.mpr (nI_ge0 (by omega)))]
    simp only [q, bX, bso]
    unfold L1
    rw [e0]
    by_cases z : mS (mg (stB S b).2.2 k) ≤ mo
    · rw [if_pos z, if_pos z]
    · rw [if_neg z, if_neg z]
theorem ses_234 (h : Cls M I O S K B C H N E) (ok : okS c S) {s b j : Nat} (hs : s < stM S) (hb : b < stN S) (hj : j < (sxE (stS S s)).length) (rc : Nat → Int32 → Int32 → Int32 → Int32 → Int32 → Int32 → Int32 → Int32 → Int32 → Mem → Option ((Bool ⊕ String) × Mem)) (g o lg mo un : Int32) (p : Bool) (hm : 0 ≤ mo) :
    f_L_session_234 rc 100 (nI s) (nI b) g un lg mo (nI (j + 1)) (eU (eg (sxE (stS S s)) j)) (oI (mix (stB S b).2.2 (eU (eg (sxE (stS S s)) j)))) o p M =
      rc 100 (nI s) (nI b) g (o + b2i p) (eU (eg (sxE (stS S s)) j)) (un1 (sxE (stS S s)) j un) (L1 (sxE (stS S s)) (stB S b).2.2 j (lg, mo)).1 (L1 (sxE (stS S s)) (stB S b).2.2 j (lg, mo)).2 (nI (j + 2)) M := by
  have q := (q_ent h ok hs hj).2.1
  simp only [f_L_session_234, f_L_session_260, q, bX, bso, ses_262 h ok hs hb hj rc g (o + b2i p) lg mo _ hm]
  unfold un1
  by_cases z : 0 ≤ un
  · rw [if_pos z, if_pos z]
  · rw [if_neg z, if_neg z]
    by_cases y : eT (eg (sxE (stS S s)) j) &&& 1 = 0
    · rw [if_pos y, if_pos y]
    · rw [if_neg y, if_neg y]
theorem ses_step (h : Cls M I O S K B C H N E) (ok : okS c S) {s b j fu : Nat} (hs : s < stM S) (hb : b < stN S) (hbx : sxB (stS S s) = nI b) (hj : j < (sxE (stS S s)).length) (o un lg mo : Int32) (hm : 0 ≤ mo) :
    f_L_session_27 (fu + 1) 100 (nI s) (nI b) (nI (((sxE (stS S s)).take j).countP (gone (stB S b).2.2))) o (lstU (sxE (stS S s)) j) un lg mo (nI (j + 1)) M =
      f_L_session_27 fu 100 (nI s) (nI b) (nI (((sxE (stS S s)).take j).countP (gone (stB S b).2.2)) + b2i (gone (stB S b).2.2 (eg (sxE (stS S s)) j))) (o + b2i (chg (stB S b).2.2 (eg (sxE (stS S s)) j))) (eU (eg (sxE (stS S s)) j)) (un1 (sxE (stS S s)) j un) (L1 (sxE (stS S s)) (stB S b).2.2 j (lg, mo)).1 (L1 (sxE (stS S s)) (stB S b).2.2 j (lg, mo)).2 (nI (j + 2)) M := by
  have h3 := ok.2.1.1
  have hl : (sxE (stS S s)).length ≤ 60 := (ok.2.2.2 s hs).2.2.1
  have hes := (ok.2.2.2 s hs).2.2.2.1
  have hlb : (stB S b).2.2.length ≤ 30 := (ok.2.2.1 b hb).2.2
  have hbo := bof_b ok hb hbx
  obtain ⟨t0, t1, t2, t3, t4⟩ := q_ent h ok hs hj
  have tN := q_numT h ok hs hj
  rw [hbo] at t2 t3 t4 tN
  have tO := q_numberOf h hs (eU (eg (sxE (stS S s)) j))
  rw [eix_at hes.1 hj] at tO
  have tO : f_X11_numberOf 100 (nI s) (eU (eg (sxE (stS S s)) j)) M = some (.inl (nI (j + 1)), M) := tO
  have tI := q_indexOf h hb (eU (eg (sxE (stS S s)) j))
  have hb0 : (0 : Int32) ≤ nI b := nI_ge0 (by omega)
  have hA := ses_234 h ok hs hb hj (f_L_session_27 fu)
  simp only [f_L_session_27, (q_ses h ok hs).2.2.2.1, bX, bso]
  rw [if_neg (by rw [ltF rfl rfl (show j + 1 ≤ (sxE (stS S s)).length by omega) (by omega)]; exact id)]
  simp only [t0, bX, bso]
  rw [if_pos hb0]
  simp only [tI, bX, bso, f_L_session_63]
  rw [if_neg (lst_lt hes hj)]
  simp only [t2, bX, bso]
  have hA := fun g o p => hA g o lg mo un p hm
  cases hx : mix (stB S b).2.2 (eU (eg (sxE (stS S s)) j)) with
  | none =>
    have e0 : esz (stB S b).2.2 (eg (sxE (stS S s)) j) = 0 := by unfold esz; rw [hx]
    have f0 : flg (stB S b).2.2 (eg (sxE (stS S s)) j) = 0 := by unfold flg; rw [hx]
    have g0 : gone (stB S b).2.2 (eg (sxE (stS S s)) j) = true := by unfold gone; rw [hx]; rfl
    have c0 : chg (stB S b).2.2 (eg (sxE (stS S s)) j) = false := by unfold chg; rw [hx]
    rw [hx] at hA
    rw [g0, cond_true] at tN
    rw [e0] at t3
    rw [f0] at t4
    have nn1 : ¬ (0 : Int32) ≤ oI none := by decide
    have nn2 : oI none < 0 := by decide
    rw [if_neg nn1, g0, c0]
    simp only [f_L_session_90]
    rw [if_pos (show (if True then (1 : Int32) else 0) = b2i true from rfl)]
    simp only [tO, bX, bso]
    rw [if_pos trivial]
    simp only [t3, bX, bso]
    rw [if_neg nn1]
    simp only [f_L_session_132]
    rw [if_pos trivial]
    simp only [t4, bX, bso]
    rw [if_neg nn1]
    simp only [f_L_session_160]
    rw [if_pos trivial]
    simp only [tN, bX, bso]
    rw [if_neg nn1]
    simp only [f_L_session_185]
    rw [if_pos trivial, if_neg nn1]
    simp only [f_L_session_201]
    rw [if_pos nn2]
    simp only [f_L_session_233]
    exact hA _ _ false
  | some k =>
    have hk := mix_lt hx
    have e0 : esz (stB S b).2.2 (eg (sxE (stS S s)) j) = mS (mg (stB S b).2.2 k) := by unfold esz; rw [hx]
    have f0 : flg (stB S b).2.2 (eg (sxE (stS S s)) j) = mF (mg (stB S b).2.2 k) := by unfold flg; rw [hx]
    have g0 : gone (stB S b).2.2 (eg (sxE (stS S s)) j) = false := by unfold gone; rw [hx]; rfl
    have c0 : chg (stB S b).2.2 (eg (sxE (stS S s)) j) = !decide (mF (mg (stB S b).2.2 k) = eT (eg (sxE (stS S s)) j)) := by unfold chg; rw [hx]
    obtain ⟨-, m1, m2⟩ := q_msg h hb hk
    rw [hx] at hA
    rw [g0, cond_false] at tN
    rw [e0] at t3
    rw [f0] at t4
    have nn1 : (0 : Int32) ≤ oI (some k) := nI_ge0 (by omega)
    have nn2 : ¬ oI (some k) < 0 := Int32.not_lt.mpr nn1
    have m1 : f_X11_message 100 (nI b) (oI (some k)) 1 M = _ := m1
    have m2 : f_X11_message 100 (nI b) (oI (some k)) 2 M = _ := m2
    rw [if_pos nn1, g0, c0]
    simp only [f_L_session_90]
    rw [if_pos (show (if (some k : Option Nat) = none then (1 : Int32) else 0) = b2i false from rfl)]
    simp only [tO, bX, bso]
    rw [if_pos trivial]
    simp only [t3, bX, bso]
    rw [if_pos nn1]
    simp only [m1, bX, bso, f_L_session_132]
    rw [if_pos trivial]
    simp only [t4, bX, bso]
    rw [if_pos nn1]
    simp only [m2, bX, bso, f_L_session_160]
    rw [if_pos trivial]
    simp only [tN, bX, bso]
    rw [if_pos nn1]
    simp only [f_L_session_185]
    rw [if_pos trivial, if_pos nn1]
    simp only [f_L_session_201]
    rw [if_neg nn2]
    simp only [m2, t1, bX, bso]
    by_cases z : mF (mg (stB S b).2.2 k) = eT (eg (sxE (stS S s)) j)
    · rw [if_pos z, decide_eq_true z]
      simp only [f_L_session_233]
      exact hA _ _ false
    · rw [if_neg z, decide_eq_false z]
      exact hA _ _ true
theorem ses_ents (h : Cls M I O S K B C H N E) (ok : okS c S) {s b : Nat} (hs : s < stM S) (hb : b < stN S) (hbx : sxB (stS S s) = nI b) : ∀ (d j fu : Nat) (un lg mo : Int32), d + j = (sxE (stS S s)).length → d < fu → 0 ≤ mo → unI (sxE (stS S s)) j d un → fd (L1 (sxE (stS S s)) (stB S b).2.2) j d (lg, mo) = lrg (sxE (stS S s)) (stB S b).2.2 →
    f_L_session_27 fu 100 (nI s) (nI b) (nI (((sxE (stS S s)).take j).countP (gone (stB S b).2.2))) (nI (((sxE (stS S s)).take j).countP (chg (stB S b).2.2))) (lstU (sxE (stS S s)) j) un lg mo (nI (j + 1)) M =
      f_L_session_306 100 (nI s) (nI b) (nI ((sxE (stS S s)).countP (gone (stB S b).2.2))) (nI ((sxE (stS S s)).countP (chg (stB S b).2.2))) (lstU (sxE (stS S s)) (sxE (stS S s)).length) (fns (sxE (stS S s))) (lrg (sxE (stS S s)) (stB S b).2.2).1 M := by
  have hl : (sxE (stS S s)).length ≤ 60 := (ok.2.2.2 s hs).2.2.1
  intro d
  induction d with
  | zero =>
    intro j fu un lg mo hd hf hm hu hL
    obtain ⟨fu, rfl⟩ : ∃ x, fu = x + 1 := ⟨fu - 1, by omega⟩
    obtain rfl : j = (sxE (stS S s)).length := by omega
    have hL : (lg, mo) = lrg (sxE (stS S s)) (stB S b).2.2 := hL
    simp only [f_L_session_27, (q_ses h ok hs).2.2.2.1, bX, bso]
    rw [if_pos (by rw [ltT rfl rfl (show (sxE (stS S s)).length < (sxE (stS S s)).length + 1 by omega) (by omega)]; trivial), List.take_length, ← hL, unI_end hu]
  | succ d ih =>
    intro j fu un lg mo hd hf hm hu hL
    obtain ⟨fu, rfl⟩ : ∃ x, fu = x + 1 := ⟨fu - 1, by omega⟩
    have hj : j < (sxE (stS S s)).length := by omega
    rw [ses_step h ok hs hb hbx hj _ un lg mo hm, nI_b2i, nI_b2i]
    have e1 := cnt_take (0, 0) (gone (stB S b).2.2) (sxE (stS S s)) j hj
    have e2 := cnt_take (0, 0) (chg (stB S b).2.2) (sxE (stS S s)) j hj
    have e1 : _ = _ + (if gone (stB S b).2.2 (eg (sxE (stS S s)) j) = true then 1 else 0) := e1
    have e2 : _ = _ + (if chg (stB S b).2.2 (eg (sxE (stS S s)) j) = true then 1 else 0) := e2
    rw [← e1, ← e2]
    have e3 : eU (eg (sxE (stS S s)) j) = lstU (sxE (stS S s)) (j + 1) := by unfold lstU; rw [if_neg (by omega)]; rfl
    rw [e3]
    refine ih (j + 1) fu _ _ _ (by omega) (by omega) ?_ (unI_step hu (by omega)) ?_
    · unfold L1
      split
      · exact hm
      · rename_i z
        exact Int32.le_trans hm (Int32.le_of_lt (Int32.not_le.mp z))
    · rw [fd] at hL
      exact hL
/-- a message that no entry stands for -/
def frs (es : List En) (la : Int32) (m : Msg) : Bool := !decide (mU m ≤ la) && (eix es (mU m)).isNone
theorem ses_fresh (h : Cls M I O S K B C H N E) (ok : okS c S) {s b : Nat} (hs : s < stM S) (hb : b < stN S) (g o la un lg : Int32) : ∀ (d j fu : Nat), d + j = (stB S b).2.2.length → d < fu →
    f_L_session_312 fu 100 (nI s) (nI b) g o la un lg (nI (((stB S b).2.2.take j).countP (frs (sxE (stS S s)) la))) (nI j) M = f_L_session_372 100 (nI s) (nI b) g o un lg (nI ((stB S b).2.2.countP (frs (sxE (stS S s)) la))) M := by
  have h3 := ok.2.1.1
  have hl : (sxE (stS S s)).length ≤ 60 := (ok.2.2.2 s hs).2.2.1
  have hlb : (stB S b).2.2.length ≤ 30 := (ok.2.2.1 b hb).2.2
  have hb0 : ¬ nI b < 0 := Int32.not_lt.mpr (nI_ge0 (by omega))
  intro d
  induction d with
  | zero =>
    intro j fu hd hf
    obtain ⟨fu, rfl⟩ : ∃ x, fu = x + 1 := ⟨fu - 1, by omega⟩
    obtain rfl : j = (stB S b).2.2.length := by omega
    simp only [f_L_session_312, q_box0 h hb, bX, bso]
    rw [if_neg hb0, if_pos (by rw [leT rfl rfl (Nat.le_refl (stB S b).2.2.length) (by omega)]; trivial), List.take_length]
  | succ d ih =>
    intro j fu hd hf
    obtain ⟨fu, rfl⟩ : ∃ x, fu = x + 1 := ⟨fu - 1, by omega⟩
    have hj : j < (stB S b).2.2.length := by omega
    have e1 := cnt_take (0, 0, 0) (frs (sxE (stS S s)) la) (stB S b).2.2 j hj
    have e1 : _ = _ + (if frs (sxE (stS S s)) la (mg (stB S b).2.2 j) = true then 1 else 0) := e1
    have m0 := (q_msg h hb hj).1
    have hih := ih (j + 1) fu (by omega) (by omega)
    rw [e1, ← nI_b2i] at hih
    simp only [f_L_session_312, q_box0 h hb, bX, bso]
    rw [if_neg hb0, if_neg (by rw [leF rfl rfl hj (by omega)]; exact id)]
    simp only [m0, bX, bso, f_L_session_362, f_L_session_363, nI_1]
    unfold frs at hih
    by_cases z : mU (mg (stB S b).2.2 j) ≤ la
    · rw [if_pos z]
      rw [decide_eq_true z, Bool.not_true, Bool.false_and] at hih
      exact hih
    · rw [if_neg z]
      rw [decide_eq_false z, Bool.not_false, Bool.true_and] at hih
      simp only [q_numberOf h hs, bX, bso]
      cases hx : eix (sxE (stS S s)) (mU (mg (stB S b).2.2 j)) with
      | none =>
        rw [hx] at hih
        rw [if_neg (by decide)]
        exact hih
      | some i =>
        rw [hx] at hih
        have hi := eix_lt hx
        rw [if_pos (show (0 : Int32) ≤ nu1 (some i) from nI_ge0 (by omega))]
        exact hih
end
/-- the bit of a session among those to be told -/
theorem stl_bit (S : St) (h4 : stM S ≤ 4) {s : Nat} (hs : s < stM S) : (stl S >>> (nI s &&& 31)) &&& 1 = if 0 < pndS S (stS S s) then 1 else 0 := by
  unfold stl
  obtain ⟨q, hq⟩ : ∃ q : Nat → Bool, q = fun k => decide (0 < pndS S (stS S k)) := ⟨_, rfl⟩
  have e1 : (fun k (a : Int32) => if 0 < pndS S (stS S k) then a ||| b1 k else a) = fun k a => bif q k then a ||| b1 k else a := by
    funext k a
    rw [hq]
    by_cases z : 0 < pndS S (stS S k)
    · rw [if_pos z]; show _ = bif decide (0 < pndS S (stS S k)) then _ else _; rw [decide_eq_true z]; rfl
    · rw [if_neg z]; show _ = bif decide (0 < pndS S (stS S k)) then _ else _; rw [decide_eq_false z]; rfl
  have e2 : (if 0 < pndS S (stS S s) then (1 : Int32) else 0) = bif q s then 1 else 0 := by
    rw [hq]
    by_cases z : 0 < pndS S (stS S s)
    · rw [if_pos z]; show _ = bif decide (0 < pndS S (stS S s)) then _ else _; rw [decide_eq_true z]; rfl
    · rw [if_neg z]; show _ = bif decide (0 < pndS S (stS S s)) then _ else _; rw [decide_eq_false z]; rfl
  rw [e1, e2]
  clear hq e1 e2
  have key : ∀ m : Nat, m ≤ 4 → ∀ s, s < m → (fd (fun k (a : Int32) => bif q k then a ||| b1 k else a) 0 m 0 >>> (nI s &&& 31)) &&& 1 = bif q s then 1 else 0 := by
    intro m hm s hs
    have h01 : ∀ a b c d : Bool, ∀ r, r = (bif d then (bif c then (bif b then (bif a then (0 : Int32) ||| b1 0 else 0) ||| b1 1 else (bif a then (0 : Int32) ||| b1 0 else 0)) ||| b1 2 else (bif b then (bif a then (0 : Int32) ||| b1 0 else 0) ||| b1 1 else (bif a then (0 : Int32) ||| b1 0 else 0))) ||| b1 3 else (bif c then (bif b then (bif a then (0 : Int32) ||| b1 0 else 0) ||| b1 1 else (bif a then (0 : Int32) ||| b1 0 else 0)) ||| b1 2 else (bif b then (bif a then (0 : Int32) ||| b1 0 else 0) ||| b1 1 else (bif a then (0 : Int32) ||| b1 0 else 0)))) →
        (r >>> (nI 0 &&& 31)) &&& 1 = (bif a then 1 else 0) ∧ (r >>> (nI 1 &&& 31)) &&& 1 = (bif b then 1 else 0) ∧ (r >>> (nI 2 &&& 31)) &&& 1 = (bif c then 1 else 0) ∧ (r >>> (nI 3 &&& 31)) &&& 1 = (bif d then 1 else 0) := by
      intro a b c d r hr
      subst hr
      revert a b c d
      decide +kernel
    match m, hm with
    | 0, _ => omega
    | 1, _ =>
      have := h01 (q 0) false false false _ rfl
      match s, hs with
      | 0, _ => exact this.1
    | 2, _ =>
      have := h01 (q 0) (q 1) false false _ rfl
      match s, hs with
      | 0, _ => exact this.1
      | 1, _ => exact this.2.1
    | 3, _ =>
      have := h01 (q 0) (q 1) (q 2) false _ rfl
      match s, hs with
      | 0, _ => exact this.1
      | 1, _ => exact this.2.1
      | 2, _ => exact this.2.2.1
    | 4, _ =>
      have := h01 (q 0) (q 1) (q 2) (q 3) _ rfl
      match s, hs with
      | 0, _ => exact this.1
      | 1, _ => exact this.2.1
      | 2, _ => exact this.2.2.1
      | 3, _ => exact this.2.2.2
    | m + 5, hm => omega
  exact key (stM S) h4 s hs
section
variable {I O : List Int32} {S : St} {K : Nat → St} {B : Nat → Bool} {C : Nat} {H : Nat → St} {N : List Nt} {E : Er} {c : Nat} {M : Mem}
theorem ses_end (h : Cls M I O S K B C H N E) (ok : okS c S) {s : Nat} (hs : s < stM S) (fr : Nat) (hfr : (bof S (sxB (stS S s))).countP (newer (sxH (stS S s))) ≤ fr) (hf : fr < 2 ^ 31) :
    f_L_session_372 100 (nI s) (sxB (stS S s)) (nI ((sxE (stS S s)).countP (gone (bof S (sxB (stS S s)))))) (nI ((sxE (stS S s)).countP (chg (bof S (sxB (stS S s)))))) (fns (sxE (stS S s))) (lrg (sxE (stS S s)) (bof S (sxB (stS S s)))).1 (nI fr) M = some (.inl true, M) := by
  have h3 := ok.2.1.1
  have h4 := ok.2.1.2
  obtain ⟨q0, q1, q2, q3, q4, q5, q6⟩ := q_ses h ok hs
  have hl : (sxE (stS S s)).length ≤ 60 := (ok.2.2.2 s hs).2.2.1
  have a1 : (sxE (stS S s)).countP (gone (bof S (sxB (stS S s)))) ≤ (sxE (stS S s)).length := List.countP_le_length
  have a2 : (sxE (stS S s)).countP (chg (bof S (sxB (stS S s)))) ≤ (sxE (stS S s)).length := List.countP_le_length
  have qp := q_pending h ok hs
  have qc := q_cur h ok hs
  have qs := q_stale h ok
  have qb := stl_bit S h4 hs
  obtain ⟨nw', hnw⟩ : ∃ nw', nw' = (bof S (sxB (stS S s))).countP (newer (sxH (stS S s))) := ⟨_, rfl⟩
  have hpn : pndS S (stS S s) = (sxE (stS S s)).countP (gone (bof S (sxB (stS S s)))) + (sxE (stS S s)).countP (chg (bof S (sxB (stS S s)))) + (if (sxE (stS S s)).length - (sxE (stS S s)).countP (gone (bof S (sxB (stS S s)))) < 60 ∧ 0 < nw' then 1 else 0) := by rw [hnw]; rfl
  rw [← hnw] at q6 hfr
  have hno : sxB (stS S s) = -1 → pndS S (stS S s) = 0 := fun z => by
    have e0 := (ok.2.2.2 s hs).1.2 z
    have : nw' = 0 := by rw [hnw, z, bof_no]; rfl
    rw [hpn, e0, this, if_neg (by omega)]; rfl
  obtain ⟨g, hg⟩ : ∃ g, g = (sxE (stS S s)).countP (gone (bof S (sxB (stS S s)))) := ⟨_, rfl⟩
  obtain ⟨o, ho⟩ : ∃ o, o = (sxE (stS S s)).countP (chg (bof S (sxB (stS S s)))) := ⟨_, rfl⟩
  obtain ⟨pn, hpe⟩ : ∃ pn, pn = pndS S (stS S s) := ⟨_, rfl⟩
  rw [← hg] at q4 a1 hpn ⊢
  rw [← ho] at q5 a2 hpn ⊢
  rw [← hpe] at hpn qp qc qb hno
  have hfin : ∀ s1 : Bool, pn = g + o + (if s1 = true then 1 else 0) → f_L_session_459 100 (nI s) (sxB (stS S s)) (nI g + nI o) s1 M = some (.inl true, M) := by
    intro s1 e
    have e9 : nI g + nI o + b2i s1 = nI pn := by rw [nI_add, nI_b2i, e]
    simp only [f_L_session_459, e9, qp, bX, bso]
    rw [if_pos trivial]
    simp only [qc, bX, bso, f_L_session_490, f_L_session_491, qs, qb, f_L_session_515, f_L_session_516]
    have hp121 : pn < 2 ^ 31 := by rw [e]; split <;> omega
    have z0 : (nI pn = 0) = (pn = 0) := propext (nI_eq (b := 0) hp121 (by omega))
    rcases (ok.2.2.2 s hs).1.1 with hb | ⟨b, hb, hb2⟩
    · have p0 := hno hb
      rw [hb, p0]
      rfl
    · have n0 : ¬ sxB (stS S s) < 0 := by rw [hb2]; exact Int32.not_lt.mpr (nI_ge0 (by omega))
      have n1 : ¬ sxB (stS S s) = -1 := by rw [hb2, nI_m1 (by omega)]; exact id
      rw [if_neg n0, decide_eq_false n1]
      simp only [z0]
      by_cases y : pn = 0
      · have le0 : nI pn ≤ 0 := by rw [y]; decide
        rw [if_pos y, decide_eq_true y]
        simp only [if_neg n0, if_pos le0]
        rw [if_neg (show ¬ 0 < pn by omega)]
        rfl
      · have le0 : ¬ nI pn ≤ 0 := nI_nle (by omega) (by omega)
        rw [if_neg y, decide_eq_false y]
        simp only [if_neg n0, if_neg le0]
        rw [if_pos (show 0 < pn by omega)]
        rfl
  have hnw31 : nw' < 2 ^ 31 := by omega
  simp only [f_L_session_372, q4, q5, q6, q3, bX, bso]
  rw [if_pos trivial, if_pos trivial, if_neg (by rw [ltF rfl rfl hfr (by omega)]; exact id)]
  simp only [q_first h hs, q_largest h ok hs, q6, bX, bso]
  rw [if_pos trivial, if_pos trivial]
  by_cases z : nw' = 0
  · rw [if_pos (by rw [z]; decide)]
    simp only [f_L_session_458]
    exact hfin false (by rw [hpn, if_neg (by omega)]; rfl)
  · rw [if_neg (nI_nle (by omega) (by omega))]
    simp only [q3, bX, bso]
    rw [nI_sub a1]
    by_cases y : (sxE (stS S s)).length - g < 60
    · rw [if_neg (show ¬ ((60 : Int32) ≤ nI ((sxE (stS S s)).length - g)) from fun w => absurd ((nI_leI (a := 60) (by omega) (by omega)).mp w) (by omega))]
      exact hfin true (by rw [hpn, if_pos ⟨y, by omega⟩]; rfl)
    · rw [if_pos (show (60 : Int32) ≤ nI ((sxE (stS S s)).length - g) from (nI_leI (a := 60) (by omega) (by omega)).mpr (by omega))]
      simp only [f_L_session_458]
      exact hfin false (by rw [hpn, if_neg (fun w => y w.1)]; rfl)
theorem session_e (h : Cls M I O S K B C H N E) (ok : okS c S) {s : Nat} (hs : s < stM S) : f_L_session 100 (nI s) M = some (.inl true, M) := by
  have h3 := ok.2.1.1
  have hl : (sxE (stS S s)).length ≤ 60 := (ok.2.2.2 s hs).2.2.1
  have hes := (ok.2.2.2 s hs).2.2.2.1
  have q := q_ses h ok hs
  simp only [f_L_session, q.1, bX, bso]
  rcases (ok.2.2.2 s hs).1.1 with hb | ⟨b, hb, hbx⟩
  · have e0 := (ok.2.2.2 s hs).1.2 hb
    have he := ses_end h ok hs 0 (by rw [hb, bof_no]; exact Nat.le_refl _) (by omega)
    rw [hb, bof_no, e0] at he
    rw [hb]
    have q3 := q.2.2.2.1
    rw [e0] at q3
    have k1 : ∀ fu, f_L_session_27 (fu + 1) 100 (nI s) (-1) 0 0 0 (-1) (-1) 0 1 M = f_L_session_306 100 (nI s) (-1) 0 0 0 (-1) (-1) M := fun fu => by
      simp only [f_L_session_27, q3, bX, bso]
      rw [if_pos (show nI ([] : List En).length < 1 by decide)]
    have k2 : ∀ fu, f_L_session_312 (fu + 1) 100 (nI s) (-1) 0 0 0 (-1) (-1) 0 0 M = f_L_session_372 100 (nI s) (-1) 0 0 (-1) (-1) 0 M := fun fu => by
      simp only [f_L_session_312]
      rw [if_pos (show (-1 : Int32) < 0 by decide)]
    refine (k1 60).trans ?_
    unfold f_L_session_306
    exact (k2 30).trans he
  · have hbo := bof_b ok hb hbx
    have hlb : (stB S b).2.2.length ≤ 30 := (ok.2.2.1 b hb).2.2
    have h1 := ses_ents h ok hs hb hbx (sxE (stS S s)).length 0 61 (-1) (-1) 0 (by omega) (by omega) (by decide) (.inl ⟨rfl, (fns_G _).symm⟩) (lrg_L _ _).symm
    have h1 : f_L_session_27 61 100 (nI s) (nI b) 0 0 0 (-1) (-1) 0 1 M = _ := h1
    rw [hbx, h1]
    simp only [f_L_session_306]
    have h2 := ses_fresh h ok hs hb (nI ((sxE (stS S s)).countP (gone (stB S b).2.2))) (nI ((sxE (stS S s)).countP (chg (stB S b).2.2))) (lstU (sxE (stS S s)) (sxE (stS S s)).length) (fns (sxE (stS S s))) (lrg (sxE (stS S s)) (stB S b).2.2).1 (stB S b).2.2.length 0 31 (by omega) (by omega)
    have h2 : f_L_session_312 31 100 (nI s) (nI b) (nI ((sxE (stS S s)).countP (gone (stB S b).2.2))) (nI ((sxE (stS S s)).countP (chg (stB S b).2.2))) (lstU (sxE (stS S s)) (sxE (stS S s)).length) (fns (sxE (stS S s))) (lrg (sxE (stS S s)) (stB S b).2.2).1 0 0 M = _ := h2
    rw [h2]
    have he := ses_end h ok hs ((stB S b).2.2.countP (frs (sxE (stS S s)) (lstU (sxE (stS S s)) (sxE (stS S s)).length))) (by
      rw [hbo]
      refine List.countP_mono_left (fun m _ hm => ?_)
      have hgt : sxH (stS S s) < mU m := by
        simp only [newer, Bool.not_eq_true', decide_eq_false_iff_not] at hm
        exact Int32.not_le.mp hm
      have hla : lstU (sxE (stS S s)) (sxE (stS S s)).length ≤ sxH (stS S s) := by
        unfold lstU
        split
        · exact hes.2.2
        · exact (hes.2.1 _ (eg_mem (by omega))).2
      have hno : eix (sxE (stS S s)) (mU m) = none := by
        refine ixl_no (fun i hi => ?_)
        rw [List.length_map] at hi
        rw [eg_mapX eU hi]
        intro z
        have := (hes.2.1 _ (eg_mem hi)).2
        rw [z] at this
        exact Int32.lt_irrefl (Int32.lt_of_lt_of_le hgt this)
      unfold frs
      rw [hno, decide_eq_false (Int32.not_le.mpr (Int32.lt_of_le_of_lt hla hgt))]; rfl) (Nat.lt_of_le_of_lt (List.countP_le_length (l := (stB S b).2.2)) (by omega))
    rw [hbo, hbx] at he
    exact he
end
