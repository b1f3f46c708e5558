/-! PURE, p53: what the class answers to the questions of the law, said openly -/
section
variable {M : Mem} {I O : List Int32} {S : St} {K : Nat → St} {B : Nat → Bool} {C : Nat} {H : Nat → St} {N : List Nt} {E : Er} {c : Nat}
theorem q_prop0 (h : Cls M I O S K B C H N E) : f_X11_property 100 0 M = some (.inl (nI (stN S)), M) := by
  rw [f_X11_property, h.ob, if_pos rfl]; simp only [h.g2, h.s.gN, bso]
theorem q_prop1 (h : Cls M I O S K B C H N E) : f_X11_property 100 1 M = some (.inl (nI (stM S)), M) := by
  rw [f_X11_property, h.ob, if_neg (by decide), if_pos rfl]; simp only [h.g2, h.s.gM, bso]
theorem q_prop2 (h : Cls M I O S K B C H N E) : f_X11_property 100 2 M = some (.inl (stL S), M) := by
  rw [f_X11_property, h.ob, if_neg (by decide), if_neg (by decide), if_pos rfl]; simp only [h.g2, h.s.gL, bso]
theorem q_prop3 (h : Cls M I O S K B C H N E) : f_X11_property 100 3 M = some (.inl (cntM S), M) := by
  rw [f_X11_property, h.ob, if_neg (by decide), if_neg (by decide), if_neg (by decide), if_pos rfl]; simp only [h.g2, X8_count_e h.s, bso]
theorem q_prop4 (h : Cls M I O S K B C H N E) : f_X11_property 100 4 M = some (.inl (nI N.length), M) := by
  rw [f_X11_property, h.ob, if_neg (by decide), if_neg (by decide), if_neg (by decide), if_neg (by decide), if_pos rfl]; simp only [h.g7, X4_size_e h.n, bso]
theorem q_errC (h : Cls M I O S K B C H N E) : f_X11_errorCode 100 M = some E.1 := by rw [f_X11_errorCode, h.ob, h.g11]; rfl
theorem q_errP (h : Cls M I O S K B C H N E) : f_X11_errorPosition 100 M = some E.2 := by rw [f_X11_errorPosition, h.ob, h.g12]; rfl
theorem q_indexOf (h : Cls M I O S K B C H N E) {b : Nat} (hb : b < stN S) (u : Int32) : f_X11_indexOf 100 (nI b) u M = some (.inl (oI (mix (stB S b).2.2 u)), M) := by
  rw [f_X11_indexOf, h.ob, bX_l (reqBox_in h hb)]; simp only [X0_ix (h.bx hb), bso]
theorem q_numberOf (h : Cls M I O S K B C H N E) {s : Nat} (hs : s < stM S) (u : Int32) : f_X11_numberOf 100 (nI s) u M = some (.inl (nu1 (eix (sxE (stS S s)) u)), M) := by
  have hq : f_X7_numberOfUid (sesR 105 s) u M = some (nu1 (eix (sxE (stS S s)) u)) := X7_number_e (h.sx hs) u
  rw [f_X11_numberOf, h.ob, bX_l (reqSes_in h hs)]; simp only [hq, bso]
/-- the session's box as the class finds it -/
theorem cls_bofX (h : Cls M I O S K B C H N E) {s : Nat} (hs : s < stM S) (hw : okB S (sxB (stS S s))) : ∃ rb Jb nx, f_X8_boxOf 105 (sesR 105 s) M = some rb ∧ bA M rb Jb nx (bof S (sxB (stS S s))) := by
  obtain ⟨rb, Jb, nx, e, hb, -⟩ := X8_boxOf_e h.s (h.sx hs) hw
  exact ⟨rb, Jb, nx, e, hb⟩
theorem q_pending (h : Cls M I O S K B C H N E) (ok : okS c S) {s : Nat} (hs : s < stM S) : f_X11_pending 100 (nI s) M = some (.inl (nI (pndS S (stS S s))), M) := by
  obtain ⟨rb, Jb, nx, e, hb⟩ := cls_bofX h hs (ok.v s hs).1
  have hq := X8_pend_e h.s (h.sx hs) (ok.v s hs).1 e
  rw [f_X11_pending, h.ob, bX_l (reqSes_in h hs)]; simp only [h.g2, e, hq, bso]
theorem q_first (h : Cls M I O S K B C H N E) {s : Nat} (hs : s < stM S) : f_X11_firstUnseen 100 (nI s) M = some (.inl (fns (sxE (stS S s))), M) := by
  have hq : f_X7_firstNotToldSeen (sesR 105 s) M = some (fns (sxE (stS S s))) := X7_fns_e (h.sx hs)
  rw [f_X11_firstUnseen, h.ob, bX_l (reqSes_in h hs)]; simp only [hq, bso]
theorem q_largest (h : Cls M I O S K B C H N E) (ok : okS c S) {s : Nat} (hs : s < stM S) : f_X11_largest 100 (nI s) M = some (.inl (lrg (sxE (stS S s)) (bof S (sxB (stS S s)))).1, M) := by
  obtain ⟨rb, Jb, nx, e, hb⟩ := cls_bofX h hs (ok.v s hs).1
  have hq : f_X7_largestIn (sesR 105 s) rb M = some (lrg (sxE (stS S s)) (bof S (sxB (stS S s)))).1 := X7_largest_e (h.sx hs) hb
  rw [f_X11_largest, h.ob, bX_l (reqSes_in h hs)]; simp only [h.g2, e, hq, bso]
theorem q_stale (h : Cls M I O S K B C H N E) (ok : okS c S) : f_X11_stale 100 M = some (stl S) := by
  simp only [f_X11_stale, h.ob, h.g2, X8_stale_e h.s ok.wf, bso]
theorem q_box0 (h : Cls M I O S K B C H N E) {b : Nat} (hb : b < stN S) : f_X11_box 100 (nI b) 0 M = some (.inl (nI (stB S b).2.2.length), M) := by
  have hsz : f_X0_size (boxR 105 b) M = some (nI (stB S b).2.2.length) := X0_size_e (h.bx hb)
  rw [f_X11_box, h.ob, bX_l (reqBox_in h hb), if_pos rfl]; simp only [hsz, bso]
theorem q_box1 (h : Cls M I O S K B C H N E) {b : Nat} (hb : b < stN S) : f_X11_box 100 (nI b) 1 M = some (.inl (stB S b).2.1, M) := by
  have hgN : gI M 0 1 (boxR 105 b) = some (stB S b).2.1 := bA.gN (h.bx hb)
  rw [f_X11_box, h.ob, bX_l (reqBox_in h hb), if_neg (by decide), if_pos rfl]; simp only [hgN, bso]
theorem q_msg (h : Cls M I O S K B C H N E) {b : Nat} (hb : b < stN S) {j : Nat} (hj : j < (stB S b).2.2.length) :
    f_X11_message 100 (nI b) (nI j) 0 M = some (.inl (mU (mg (stB S b).2.2 j)), M) ∧ f_X11_message 100 (nI b) (nI j) 1 M = some (.inl (mS (mg (stB S b).2.2 j)), M) ∧ f_X11_message 100 (nI b) (nI j) 2 M = some (.inl (mF (mg (stB S b).2.2 j)), M) := by
  have hbx := h.bx hb
  have l30 : (stB S b).2.2.length ≤ 30 := bA.len hbx
  have hsz : f_X0_size (boxR 105 b) M = some (nI (stB S b).2.2.length) := X0_size_e hbx
  have n0 : ¬ (nI j < 0) := Int32.not_lt.mpr (nI_ge0 (by omega))
  have n1 : nI j < nI (stB S b).2.2.length := by rw [nI_ltI (by omega) (by omega)]; exact hj
  have hX : ∀ s : Int32, f_X11_message 100 (nI b) (nI j) s M = if s = 0 then ((gR M 0 2 (boxR 105 b)).bind fun x4 => (f_X5_get x4 (nI j) M).bind fun x5 => some (.inl x5, M)) else if s = 1 then ((gR M 0 3 (boxR 105 b)).bind fun x6 => (f_X5_get x6 (nI j) M).bind fun x7 => some (.inl x7, M)) else if s = 2 then ((gR M 0 4 (boxR 105 b)).bind fun x8 => (f_X5_get x8 (nI j) M).bind fun x9 => some (.inl x9, M)) else (some (.inr "java/lang/IllegalArgumentException", mskip M)) := by
    intro s
    rw [f_X11_message, h.ob, bX_l (reqBox_in h hb), if_neg n0]
    simp only [hsz, bso]
    rw [if_pos n1]
  have gU : gR M 0 2 (boxR 105 b) = some (boxR 105 b + 1) := bA.gU hbx
  have gS : gR M 0 3 (boxR 105 b) = some (boxR 105 b + 3) := bA.gS hbx
  have gF : gR M 0 4 (boxR 105 b) = some (boxR 105 b + 5) := bA.gF hbx
  have u1 : f_X5_get (boxR 105 b + 1) (nI j) M = some (mU (mg (stB S b).2.2 j)) := by
    have : f_X5_get (boxR 105 b + 1) (nI j) M = some (lgt ((stB S b).2.2.map mU) (nI j)) := X5_get_e hbx.2.1 _
    rw [this, lgt_n _ (by omega), mapD _ hj]
  have u2 : f_X5_get (boxR 105 b + 3) (nI j) M = some (mS (mg (stB S b).2.2 j)) := by
    have : f_X5_get (boxR 105 b + 3) (nI j) M = some (lgt ((stB S b).2.2.map mS) (nI j)) := X5_get_e hbx.2.2.1 _
    rw [this, lgt_n _ (by omega), mapD _ hj]
  have u3 : f_X5_get (boxR 105 b + 5) (nI j) M = some (mF (mg (stB S b).2.2 j)) := by
    have : f_X5_get (boxR 105 b + 5) (nI j) M = some (lgt ((stB S b).2.2.map mF) (nI j)) := X5_get_e hbx.2.2.2 _
    rw [this, lgt_n _ (by omega), mapD _ hj]
  refine ⟨?_, ?_, ?_⟩
  · rw [hX, if_pos rfl]; simp only [gU, u1, bso]
  · rw [hX, if_neg (by decide), if_pos rfl]; simp only [gS, u2, bso]
  · rw [hX, if_neg (by decide), if_neg (by decide), if_pos rfl]; simp only [gF, u3, bso]
theorem q_ses (h : Cls M I O S K B C H N E) (ok : okS c S) {k : Nat} (hk : k < stM S) :
    f_X11_session 100 (nI k) 0 M = some (.inl (sxB (stS S k)), M) ∧ f_X11_session 100 (nI k) 1 M = some (.inl (b2i (sxR (stS S k))), M) ∧ f_X11_session 100 (nI k) 2 M = some (.inl (b2i (sxI (stS S k))), M) ∧
    f_X11_session 100 (nI k) 3 M = some (.inl (nI (sxE (stS S k)).length), M) ∧ f_X11_session 100 (nI k) 4 M = some (.inl (nI ((sxE (stS S k)).countP (gone (bof S (sxB (stS S k)))))), M) ∧
    f_X11_session 100 (nI k) 5 M = some (.inl (nI ((sxE (stS S k)).countP (chg (bof S (sxB (stS S k)))))), M) ∧ f_X11_session 100 (nI k) 6 M = some (.inl (nI ((bof S (sxB (stS S k))).countP (newer (sxH (stS S k))))), M) := by
  have hsx := h.sx hk
  have hv : okV S (stS S k) := ok.v k hk
  obtain ⟨rb, Jb, nx, e, hb⟩ := cls_bofX h hk hv.1
  have hX : ∀ s : Int32, f_X11_session 100 (nI k) s M = if s = 0 then ((gI M 6 1 (sesR 105 k)).bind fun x5 => some (.inl x5, M)) else if s = 1 then ((gZ M 6 2 (sesR 105 k)).bind fun x6 => bif x6 then (some (.inl 1, M)) else (some (.inl 0, M))) else if s = 2 then ((gZ M 6 3 (sesR 105 k)).bind fun x7 => bif x7 then (some (.inl 1, M)) else (some (.inl 0, M))) else if s = 3 then ((f_X7_size (sesR 105 k) M).bind fun x8 => some (.inl x8, M)) else if s = 4 then ((f_X7_countGone (sesR 105 k) rb M).bind fun x9 => some (.inl x9, M)) else if s = 5 then ((f_X7_countChanged (sesR 105 k) rb M).bind fun x10 => some (.inl x10, M)) else if s = 6 then ((f_X7_countNew (sesR 105 k) rb M).bind fun x11 => some (.inl x11, M)) else (some (.inr "java/lang/IllegalArgumentException", mskip M)) := by
    intro s
    rw [f_X11_session, h.ob, bX_l (reqSes_in h hk)]
    simp only [h.g2, e, bso]
  have q0 : gI M 6 1 (sesR 105 k) = some (sxB (stS S k)) := sA.gB hsx
  have q1 : gZ M 6 2 (sesR 105 k) = some (sxR (stS S k)) := sA.gR hsx
  have q2 : gZ M 6 3 (sesR 105 k) = some (sxI (stS S k)) := sA.gI hsx
  have q3 : f_X7_size (sesR 105 k) M = some (nI (sxE (stS S k)).length) := X7_size_e hsx
  have q4 : f_X7_countGone (sesR 105 k) rb M = some (nI ((sxE (stS S k)).countP (gone (bof S (sxB (stS S k)))))) := X7_gone_e hsx hb
  have q5 : f_X7_countChanged (sesR 105 k) rb M = some (nI ((sxE (stS S k)).countP (chg (bof S (sxB (stS S k)))))) := X7_chg_e hsx hb
  have q6 : f_X7_countNew (sesR 105 k) rb M = some (nI ((bof S (sxB (stS S k))).countP (newer (sxH (stS S k))))) := X7_new_e hsx hb
  refine ⟨?_, ?_, ?_, ?_, ?_, ?_, ?_⟩
  · rw [hX, if_pos rfl]; simp only [q0, bso]
  · rw [hX, if_neg (by decide), if_pos rfl]; simp only [q1, bso]; cases sxR (stS S k) <;> rfl
  · rw [hX, if_neg (by decide), if_neg (by decide), if_pos rfl]; simp only [q2, bso]; cases sxI (stS S k) <;> rfl
  · rw [hX, if_neg (by decide), if_neg (by decide), if_neg (by decide), if_pos rfl]; simp only [q3, bso]
  · rw [hX, if_neg (by decide), if_neg (by decide), if_neg (by decide), if_neg (by decide), if_pos rfl]; simp only [q4, bso]
  · rw [hX, if_neg (by decide), if_neg (by decide), if_neg (by decide), if_neg (by decide), if_neg (by decide), if_pos rfl]; simp only [q5, bso]
  · rw [hX, if_neg (by decide), if_neg (by decide), if_neg (by decide), if_neg (by decide), if_neg (by decide), if_neg (by decide), if_pos rfl]; simp only [q6, bso]
theorem q_ent (h : Cls M I O S K B C H N E) (ok : okS c S) {k : Nat} (hk : k < stM S) {n : Nat} (hn : n < (sxE (stS S k)).length) :
    f_X11_entry 100 (nI k) (nI (n + 1)) 0 M = some (.inl (eU (eg (sxE (stS S k)) n)), M) ∧ f_X11_entry 100 (nI k) (nI (n + 1)) 1 M = some (.inl (eT (eg (sxE (stS S k)) n)), M) ∧
    f_X11_entry 100 (nI k) (nI (n + 1)) 2 M = some (.inl (if mix (bof S (sxB (stS S k))) (eU (eg (sxE (stS S k)) n)) = none then 1 else 0), M) ∧
    f_X11_entry 100 (nI k) (nI (n + 1)) 3 M = some (.inl (esz (bof S (sxB (stS S k))) (eg (sxE (stS S k)) n)), M) ∧ f_X11_entry 100 (nI k) (nI (n + 1)) 4 M = some (.inl (flg (bof S (sxB (stS S k))) (eg (sxE (stS S k)) n)), M) := by
  have hsx := h.sx hk
  have hv : okV S (stS S k) := ok.v k hk
  have l60 : (sxE (stS S k)).length ≤ 60 := (ok.2.2.2 k hk).2.2.1
  obtain ⟨rb, Jb, nx, e, hb⟩ := cls_bofX h hk hv.1
  have l30 : (bof S (sxB (stS S k))).length ≤ 30 := bA.len hb
  obtain ⟨en, hen⟩ : ∃ en, en = eg (sxE (stS S k)) n := ⟨_, rfl⟩
  obtain ⟨ms, hms⟩ : ∃ ms, ms = bof S (sxB (stS S k)) := ⟨_, rfl⟩
  rw [← hms] at hb l30
  have hu : f_X7_uidOf (sesR 105 k) (nI (n + 1)) M = some (eU en) := by rw [hen]; exact X7_uid_e hsx (show n < 2 ^ 31 by omega)
  have ht : f_X7_toldOf (sesR 105 k) (nI (n + 1)) M = some (eT en) := by rw [hen]; exact X7_told_e hsx (show n < 2 ^ 31 by omega)
  have hix : f_X0_indexOfUid rb (eU en) M = some (oI (mix ms (eU en))) := X0_ix hb _
  have hS3 : f_X5_get (rb + 3) (oI (mix ms (eU en))) M = some (esz ms en) := X0_sz_ix hb _
  have hF5 : f_X5_get (rb + 5) (oI (mix ms (eU en))) M = some (flg ms en) := X0_fl_ix hb _
  have m1 : (oI (mix ms (eU en)) = -1) = (mix ms (eU en) = none) := oI_m1 l30
  have hX : ∀ s : Int32, f_X11_entry 100 (nI k) (nI (n + 1)) s M = if s = 0 then (some (.inl (eU en), M)) else if s = 1 then (some (.inl (eT en), M)) else if s = 2 then (if oI (mix ms (eU en)) = (-1) then (some (.inl 1, M)) else (some (.inl 0, M))) else if s = 3 then (some (.inl (esz ms en), M)) else if s = 4 then (some (.inl (flg ms en), M)) else (some (.inr "java/lang/IllegalArgumentException", mskip M)) := by
    intro s
    rw [f_X11_entry, h.ob, bX_l (reqSes_in h hk), bX_l (reqEnt_in hsx hn)]
    simp only [h.g2, e, hu, ht, hix, hb.gS, hb.gF, hS3, hF5, bso]
  rw [← hms, ← hen]
  refine ⟨?_, ?_, ?_, ?_, ?_⟩
  · rw [hX, if_pos rfl]
  · rw [hX, if_neg (by decide), if_pos rfl]
  · rw [hX, if_neg (by decide), if_neg (by decide), if_pos rfl]; simp only [m1]; split <;> rfl
  · rw [hX, if_neg (by decide), if_neg (by decide), if_neg (by decide), if_pos rfl]
  · rw [hX, if_neg (by decide), if_neg (by decide), if_neg (by decide), if_neg (by decide), if_pos rfl]
theorem q_numT (h : Cls M I O S K B C H N E) (ok : okS c S) {k : Nat} (hk : k < stM S) {n : Nat} (hn : n < (sxE (stS S k)).length) :
    f_X11_numberThen 100 (nI k) (nI (n + 1)) M = some (.inl (bif gone (bof S (sxB (stS S k))) (eg (sxE (stS S k)) n) then -1 else nI (n + 1) - nI (((sxE (stS S k)).take n).countP (gone (bof S (sxB (stS S k)))))), M) := by
  have hsx := h.sx hk
  have hv : okV S (stS S k) := ok.v k hk
  have l60 : (sxE (stS S k)).length ≤ 60 := (ok.2.2.2 k hk).2.2.1
  obtain ⟨rb, Jb, nx, e, hb⟩ := cls_bofX h hk hv.1
  have c1 : f_X7_isGone (sesR 105 k) rb (nI (n + 1)) M = some (gone (bof S (sxB (stS S k))) (eg (sxE (stS S k)) n)) := X7_isGone_e hsx hb (show n < 2 ^ 31 by omega)
  have c2 : f_X7_countGoneBefore (sesR 105 k) rb (nI (n + 1)) M = some (nI (((sxE (stS S k)).take n).countP (gone (bof S (sxB (stS S k)))))) := X7_goneB_e hsx hb (show n ≤ (sxE (stS S k)).length by omega)
  rw [f_X11_numberThen, h.ob, bX_l (reqSes_in h hk), bX_l (reqEnt_in hsx hn)]
  simp only [h.g2, e, c1, c2, bso]
  cases gone (bof S (sxB (stS S k))) (eg (sxE (stS S k)) n) <;> rfl
theorem q_acc (h : Cls M I O S K B C H N E) {k : Nat} (hk : k < stM S) {j : Nat} (hj : j < 5) : f_X11_account 100 (nI k) (nI j) M = some (.inl ((sxC (stS S k)).getD j 0), M) := by
  have hsx := h.sx hk
  have n0 : ¬ (nI j < 0) := Int32.not_lt.mpr (nI_ge0 (by omega))
  have n5 : nI j < 5 := by
    have : (nI j < nI 5) = (j < 5) := propext (nI_ltI (by omega) (by omega))
    show nI j < nI 5
    rw [this]; exact hj
  have gC : gR M 6 7 (sesR 105 k) = some (sesR 105 k + 5) := sA.gC hsx
  have g5 : f_X5_get (sesR 105 k + 5) (nI j) M = some ((sxC (stS S k)).getD j 0) := by
    have : f_X5_get (sesR 105 k + 5) (nI j) M = some (lgt (sxC (stS S k)) (nI j)) := X5_get_e hsx.2.2.2 _
    rw [this, lgt_n _ (by omega)]
  rw [f_X11_account, h.ob, bX_l (reqSes_in h hk), if_neg n0, if_pos n5]; simp only [gC, g5, bso]
theorem q_cur (h : Cls M I O S K B C H N E) (ok : okS c S) {k : Nat} (hk : k < stM S) : f_X11_isCurrent 100 (nI k) M = some (.inl (!decide (sxB (stS S k) = -1) && decide (pndS S (stS S k) = 0)), M) := by
  have hsx := h.sx hk
  have hv : okV S (stS S k) := ok.v k hk
  obtain ⟨rb, Jb, nx, e, hb⟩ := cls_bofX h hk hv.1
  have hp := X8_pend_e h.s hsx hv.1 e
  have hh : f_X7_hasBox (sesR 105 k) M = some (!decide (sxB (stS S k) = -1)) := X7_hasBox_e hsx
  have hlt : pndS S (stS S k) < 2 ^ 31 := by
    have a1 : (sxE (stS S k)).length ≤ 60 := (ok.2.2.2 k hk).2.2.1
    have a2 : (sxE (stS S k)).countP (gone (bof S (sxB (stS S k)))) ≤ (sxE (stS S k)).length := List.countP_le_length
    have a3 : (sxE (stS S k)).countP (chg (bof S (sxB (stS S k)))) ≤ (sxE (stS S k)).length := List.countP_le_length
    unfold pndS pend
    split <;> omega
  have z0 : (nI (pndS S (stS S k)) = 0) = (pndS S (stS S k) = 0) := propext (nI_eq (b := 0) hlt (by omega))
  rw [f_X11_isCurrent, h.ob, bX_l (reqSes_in h hk)]
  simp only [hh, h.g2, e, hp, bso, z0]
  by_cases e1 : sxB (stS S k) = -1
  · rw [decide_eq_true e1]; rfl
  · rw [decide_eq_false e1]
    by_cases e2 : pndS S (stS S k) = 0
    · rw [decide_eq_true e2]
      simp only [if_pos e2]; rfl
    · rw [decide_eq_false e2]
      simp only [if_neg e2]; rfl
theorem ng_mapX (f : Nt → Int32) {k : Nat} (hk : k < N.length) : (N.map f).getD k 0 = f (ng N k) := by
  unfold ng
  rw [List.getD_eq_getElem?_getD, List.getD_eq_getElem?_getD, List.getElem?_map, List.getElem?_eq_getElem hk]
  rfl
theorem q_note (h : Cls M I O S K B C H N E) {k : Nat} (hk : k < N.length) :
    f_X11_notice 100 (nI k) 0 M = some (.inl (n0 (ng N k)), M) ∧ f_X11_notice 100 (nI k) 1 M = some (.inl (n1 (ng N k)), M) ∧ f_X11_notice 100 (nI k) 2 M = some (.inl (n2 (ng N k)), M) ∧ f_X11_notice 100 (nI k) 3 M = some (.inl (n3 (ng N k)), M) := by
  have hN := h.n
  have l244 : N.length ≤ 244 := ntA.len hN
  have sz : f_X4_size 699 M = some (nI N.length) := X4_size_e hN
  have k0 : ¬ (nI k < 0) := Int32.not_lt.mpr (nI_ge0 (by omega))
  have k1 : nI k < nI N.length := by rw [nI_ltI (by omega) (by omega)]; exact hk
  obtain ⟨h0, a0, a1, a2, a3⟩ := id hN
  have gr : ∀ i, i < 4 → gR M 3 i 699 = some (699 + 1 + 2 * i) := fun i hi => by
    rw [gR_h h0]
    match i, hi with
    | 0, _ => rfl
    | 1, _ => rfl
    | 2, _ => rfl
    | 3, _ => rfl
  have ge : ∀ (r : Nat) (f : Nt → Int32), nA M r 244 (N.map f) → f_X5_get r (nI k) M = some (f (ng N k)) := fun r f hA => by
    have : f_X5_get r (nI k) M = some (lgt (N.map f) (nI k)) := X5_get_e hA _
    rw [this, lgt_n _ (by omega), ng_mapX f hk]
  have g0 := gr 0 (by omega)
  have g1 := gr 1 (by omega)
  have g2 := gr 2 (by omega)
  have g3 := gr 3 (by omega)
  have e0 := ge _ n0 a0
  have e1 := ge _ n1 a1
  have e2 := ge _ n2 a2
  have e3 := ge _ n3 a3
  refine ⟨?_, ?_, ?_, ?_⟩
  · rw [f_X11_notice, h.ob, if_neg (by decide), if_pos (by decide), if_neg k0]; simp only [h.g7, sz, bso]; rw [if_pos k1, if_pos trivial]; simp only [g0, e0, bso]
  · rw [f_X11_notice, h.ob, if_neg (by decide), if_pos (by decide), if_neg k0]; simp only [h.g7, sz, bso]; rw [if_pos k1, if_neg (by decide), if_pos trivial]; simp only [g1, e1, bso]
  · rw [f_X11_notice, h.ob, if_neg (by decide), if_pos (by decide), if_neg k0]; simp only [h.g7, sz, bso]; rw [if_pos k1, if_neg (by decide), if_neg (by decide), if_pos trivial]; simp only [g2, e2, bso]
  · rw [f_X11_notice, h.ob, if_neg (by decide), if_pos (by decide), if_neg k0]; simp only [h.g7, sz, bso]; rw [if_pos k1, if_neg (by decide), if_neg (by decide), if_neg (by decide)]; simp only [g3, e3, bso]
end
