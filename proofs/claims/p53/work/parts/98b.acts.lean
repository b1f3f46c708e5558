/-! PURE, p53: the class's acts, said openly: refused, or done with a new state and new notices -/
def Done (f : Option ((Int32 ⊕ String) × Mem)) (M : Mem) (I O : List Int32) (K : Nat → St) (B : Nat → Bool) (E : Er) (c : Nat) (v : Int32) (X : St × List Nt) : Prop :=
  ∃ M' C' H', f = some (.inl v, M') ∧ Cls M' I O X.1 K B C' H' X.2 E ∧ off M M' 100 616 ∧ okS c X.1 ∧ X.2.length ≤ 244 ∧ ∀ x ∈ X.2, okNt x
def Refu (f : Option ((Int32 ⊕ String) × Mem)) (M : Mem) : Prop := f = some (.inr "java/lang/IllegalStateException", mskip M)
/-- the state as a command begins -/
def cmS (S : St) (k : Nat) : St := setSx S k (incC (stS S k) 0)
def idl (S : St) : St × List Nt := tlI (stM S) 0 (S, [])
def aId (S : St) (k : Nat) (v : Bool) : St := setSx (cmS S k) k (idS (stS (cmS S k) k) v)
def aDl (S : St) (b : Nat) : St := setBx S b (setMs (stB S b) (keepD 0 2147483647 (stB S b).2.2))
def aSl (S : St) (k b : Nat) (rd : Bool) : St := setSx (cmS S k) k (seS (stS (cmS S k) k) b rd (stB S b).2.2)
def aLv (S : St) (k : Nat) : St := setSx S k (lvS (stS S k))
def aCm (S : St) (b : Nat) (sz fl : Int32) : St := setBx S b ((stB S b).1, (stB S b).2.1 + 1, (stB S b).2.2 ++ [((stB S b).2.1, sz, fl)])
section
variable {M : Mem} {I O : List Int32} {S : St} {K : Nat → St} {B : Nat → Bool} {C : Nat} {H : Nat → St} {N : List Nt} {E : Er} {c : Nat}
theorem cmS_b (S : St) (k : Nat) : stB (cmS S k) = stB S := rfl
theorem c_noop (h : Cls M I O S K B C H N E) (ok : okS c S) {k : Nat} (hk : k < stM S) :
    (cdo (stS S k) = false → Refu (f_X11_noop 100 (nI k) M) M) ∧
    (cdo (stS S k) = true → Done (f_X11_noop 100 (nI k) M) M I O K B E c (nI (tlK true (cmS S k) k).2.length) (endS true (cmS S k) k [])) := by
  refine ⟨fun hd => ?_, fun hd => ?_⟩
  · unfold Refu
    rw [f_X11_noop, h.ob, bX_l (reqSes_in h hk), bX_r (reqAwk_no h hk hd)]
  · obtain ⟨b, hb, hbx, er⟩ := reqAwk_in h hk hd (ok.wf k hk)
    obtain ⟨M1, S0, e1, g0, c1, o1⟩ := begCmd_e h hk
    have ok1 := ok.inc hk 0
    have hkk : k < stM (setSx S k (incC (stS S k) 0)) := hk
    have hl := ok1.end244 hkk true (trm_awake (by rw [stS_set]; exact (cdo_t hd).2))
    obtain ⟨M3, e3, c3, o3⟩ := endCmd_e c1 hkk ok1 true hl
    exact ⟨M3, _, _, (by rw [f_X11_noop, h.ob, bX_l (reqSes_in h hk), bX_l er]; simp only [e1, e3, bso]; rfl), c3, o1.trans o3, (ok1.endOk hkk true).1, hl, (ok1.endOk hkk true).2⟩
theorem c_startIdle (h : Cls M I O S K B C H N E) (ok : okS c S) {k : Nat} (hk : k < stM S) :
    (cdo (stS S k) = false → Refu (f_X11_startIdle 100 (nI k) M) M) ∧
    (cdo (stS S k) = true → Done (f_X11_startIdle 100 (nI k) M) M I O K B E c (nI (tlK true (aId S k true) k).2.length) (endS true (aId S k true) k [])) := by
  refine ⟨fun hd => ?_, fun hd => ?_⟩
  · unfold Refu
    rw [f_X11_startIdle, h.ob, bX_l (reqSes_in h hk), bX_r (reqAwk_no h hk hd)]
  · obtain ⟨b, hb, hbx, er⟩ := reqAwk_in h hk hd (ok.wf k hk)
    obtain ⟨M1, S0, e1, g0, c1, o1⟩ := begCmd_e h hk
    have ok1 := ok.inc hk 0
    have hk1 : k < stM (setSx S k (incC (stS S k) 0)) := hk
    obtain ⟨M2', e2, c2, o2⟩ := cls_setI c1 hk1 true
    obtain ⟨T, hT⟩ : ∃ T, T = aId S k true := ⟨_, rfl⟩
    have okT : okS c T := by rw [hT]; exact ok1.setS (okE_id (ok1.2.2.2 k hk1) true)
    have hkT : k < stM T := by rw [hT]; exact hk
    have c2 : Cls M2' I O (aId S k true) K B (upC C) (push S0 H) [] E := c2
    rw [← hT] at c2
    have hl := okT.end244 hkT true (trm_twice okT hkT)
    obtain ⟨M3, e3, c3, o3⟩ := endCmd_e c2 hkT okT true hl
    rw [← hT]
    exact ⟨M3, _, _, (by rw [f_X11_startIdle, h.ob, bX_l (reqSes_in h hk), bX_l er]; simp only [e1, e2, e3, bso]), c3, (o1.trans o2).trans o3, (okT.endOk hkT true).1, hl, (okT.endOk hkT true).2⟩
theorem c_stopIdle (h : Cls M I O S K B C H N E) (ok : okS c S) {k : Nat} (hk : k < stM S) :
    (sxI (stS S k) = false → Refu (f_X11_stopIdle 100 (nI k) M) M) ∧
    (sxI (stS S k) = true → Done (f_X11_stopIdle 100 (nI k) M) M I O K B E c (nI (tlK true (aId S k false) k).2.length) (endS true (aId S k false) k [])) := by
  have gi : gZ M 6 3 (sesR 105 k) = some (sxI (stS S k)) := sA.gI (h.sx hk)
  refine ⟨fun hd => ?_, fun hd => ?_⟩
  · unfold Refu
    rw [f_X11_stopIdle, h.ob, bX_l (reqSes_in h hk), gi, hd, bso]; rfl
  · obtain ⟨M1, S0, e1, g0, c1, o1⟩ := begCmd_e h hk
    have ok1 := ok.inc hk 0
    have hk1 : k < stM (setSx S k (incC (stS S k) 0)) := hk
    obtain ⟨M2', e2, c2, o2⟩ := cls_setI c1 hk1 false
    obtain ⟨T, hT⟩ : ∃ T, T = aId S k false := ⟨_, rfl⟩
    have okT : okS c T := by rw [hT]; exact ok1.setS (okE_id (ok1.2.2.2 k hk1) false)
    have hkT : k < stM T := by rw [hT]; exact hk
    have hiT : sxI (stS T k) = false := by rw [hT, aId, stS_set]; rfl
    have c2 : Cls M2' I O (aId S k false) K B (upC C) (push S0 H) [] E := c2
    rw [← hT] at c2
    have hl := okT.end244 hkT true (trm_awake hiT)
    obtain ⟨M3, e3, c3, o3⟩ := endCmd_e c2 hkT okT true hl
    rw [← hT]
    exact ⟨M3, _, _, (by rw [f_X11_stopIdle, h.ob, bX_l (reqSes_in h hk), gi, hd, bso]; simp only [cond_true, e1, e2, e3, bso]), c3, (o1.trans o2).trans o3, (okT.endOk hkT true).1, hl, (okT.endOk hkT true).2⟩
theorem c_expunge (h : Cls M I O S K B C H N E) (ok : okS c S) {k : Nat} (hk : k < stM S) :
    ((cdo (stS S k) && !sxR (stS S k)) = false → Refu (f_X11_expunge 100 (nI k) M) M) ∧
    ((cdo (stS S k) && !sxR (stS S k)) = true → ∃ b, b < stN S ∧ sxB (stS S k) = nI b ∧ Done (f_X11_expunge 100 (nI k) M) M I O K B E c (nI ((stB S b).2.2.length - (keepD 0 2147483647 (stB S b).2.2).length)) (endS true (aDl (cmS S k) b) k [])) := by
  refine ⟨fun hd => ?_, fun hd => ?_⟩
  · unfold Refu
    rw [f_X11_expunge, h.ob, bX_l (reqSes_in h hk), bX_r (reqWri_no h hk hd (ok.wf k hk))]
  · obtain ⟨b, hb, hbx, er⟩ := reqWri_in h hk hd (ok.wf k hk)
    obtain ⟨M1, S0, e1, g0, c1, o1⟩ := begCmd_e h hk
    have ok1 := ok.inc hk 0
    obtain ⟨T, hT⟩ : ∃ T, T = cmS S k := ⟨_, rfl⟩
    have hkT : k < stM T := by rw [hT]; exact hk
    have hbT : b < stN T := by rw [hT]; exact hb
    have hiT : sxI (stS T k) = false := by rw [hT, cmS, stS_set]; exact (cdo_t (Bool.and_eq_true_iff.mp hd).1).2
    have hBT : stB T b = stB S b := by rw [hT]; rfl
    have c1 : Cls M1 I O (cmS S k) K B (upC C) (push S0 H) [] E := c1
    have ok1 : okS c (cmS S k) := ok1
    rw [← hT] at c1 ok1
    have gN : gI M1 0 1 (boxR 105 b) = some (stB T b).2.1 := bA.gN (c1.bx hbT)
    obtain ⟨M2', e2, c2, o2⟩ := cls_del c1 hbT 1 (stB T b).2.1
    rw [keepD_0 (ok1.2.2.1 b hbT).2.1] at e2 c2
    have ok2 := ok1.del hbT 0 2147483647
    have hl := ok2.end244 (k := k) hkT true (trm_awake hiT)
    obtain ⟨M3, e3, c3, o3⟩ := endCmd_e c2 (k := k) hkT ok2 true hl
    refine ⟨b, hb, hbx, ?_⟩
    rw [← hT, ← hBT]
    exact ⟨M3, _, _, (by rw [f_X11_expunge, h.ob, bX_l (reqSes_in h hk), bX_l er]; simp only [e1, gN, e2, e3, bso]), c3, (o1.trans o2).trans o3, (ok2.endOk (k := k) hkT true).1, hl, (ok2.endOk (k := k) hkT true).2⟩
theorem c_select (h : Cls M I O S K B C H N E) (ok : okS c S) (hc : c ≤ 1000) {k b : Nat} (hk : k < stM S) (hb : b < stN S) (rd : Bool) :
    (sxI (stS S k) = true → Refu (f_X11_select 100 (nI k) (nI b) rd M) M) ∧
    (sxI (stS S k) = false → Done (f_X11_select 100 (nI k) (nI b) rd M) M I O K B E c (nI (sxE (stS (idl (aSl S k b rd)).1 k)).length) (idl (aSl S k b rd))) := by
  have gi : gZ M 6 3 (sesR 105 k) = some (sxI (stS S k)) := sA.gI (h.sx hk)
  refine ⟨fun hd => ?_, fun hd => ?_⟩
  · unfold Refu
    rw [f_X11_select, h.ob, bX_l (reqSes_in h hk), bX_l (reqBox_in h hb), gi, hd, bso]; rfl
  · obtain ⟨M1, S0, e1, g0, c1, o1⟩ := begCmd_e h hk
    have ok1 := ok.inc hk 0
    obtain ⟨T, hT⟩ : ∃ T, T = cmS S k := ⟨_, rfl⟩
    have hkT : k < stM T := by rw [hT]; exact hk
    have hbT : b < stN T := by rw [hT]; exact hb
    have c1 : Cls M1 I O (cmS S k) K B (upC C) (push S0 H) [] E := c1
    have ok1 : okS c (cmS S k) := ok1
    rw [← hT] at c1 ok1
    have h3 := ok1.2.1.1
    have h4 := ok1.2.1.2
    obtain ⟨M2', e2, x2, o2⟩ := X7_enter_e (c1.sx hkT) (c1.bx hbT) (by unfold sesR boxR; omega) (nI b) rd
    obtain ⟨c2, o2'⟩ := c1.ses hkT (X := seS (stS T k) b rd (stB T b).2.2) x2 o2
    have ok2 := ok1.setS (k := k) (okE_sel ok1 hc hbT (ok1.2.2.2 k hkT) rd)
    obtain ⟨V, hV⟩ : ∃ V, V = aSl S k b rd := ⟨_, rfl⟩
    have hV2 : V = setSx T k (seS (stS T k) b rd (stB T b).2.2) := by rw [hV, hT]; rfl
    rw [← hV2] at c2 ok2
    have hkV : k < stM V := by rw [hV2]; exact hkT
    obtain ⟨i1, i2, i3⟩ := ok2.idlOk
    obtain ⟨M3, e3, c3, o3⟩ := tellIdle_e c2 ok2 i2
    have hkW : k < stM (tlI (stM V) 0 (V, [])).1 := by rw [tlI_M]; exact hkV
    have sz : f_X7_size (sesR 105 k) M3 = some (nI (sxE (stS (tlI (stM V) 0 (V, [])).1 k)).length) := X7_size_e (c3.sx hkW)
    rw [← hV]
    exact ⟨M3, _, _, (by rw [f_X11_select, h.ob, bX_l (reqSes_in h hk), bX_l (reqBox_in h hb), gi, hd, bso]; simp only [cond_false, e1, e2, c2.g2, c2.g7, e3, sz, bso]; rfl), c3, (o1.trans o2').trans o3, i1, i2, i3⟩
theorem c_close (h : Cls M I O S K B C H N E) (ok : okS c S) {k : Nat} (hk : k < stM S) :
    (cdo (stS S k) = false → Refu (f_X11_close 100 (nI k) M) M) ∧
    (cdo (stS S k) = true → ∃ b, b < stN S ∧ sxB (stS S k) = nI b ∧ ∃ n : Nat, n ≤ 30 ∧ Done (f_X11_close 100 (nI k) M) M I O K B E c (nI n) (idl (aLv (bif sxR (stS S k) then cmS S k else aDl (cmS S k) b) k))) := by
  refine ⟨fun hd => ?_, fun hd => ?_⟩
  · unfold Refu
    rw [f_X11_close, h.ob, bX_l (reqSes_in h hk), bX_r (reqAwk_no h hk hd)]
  · obtain ⟨b, hb, hbx, er⟩ := reqAwk_in h hk hd (ok.wf k hk)
    obtain ⟨M1, S0, e1, g0, c1, o1⟩ := begCmd_e h hk
    have ok1 := ok.inc hk 0
    obtain ⟨T, hT⟩ : ∃ T, T = cmS S k := ⟨_, rfl⟩
    have hkT : k < stM T := by rw [hT]; exact hk
    have hbT : b < stN T := by rw [hT]; exact hb
    have hrT : sxR (stS T k) = sxR (stS S k) := by rw [hT, cmS, stS_set]; rfl
    have c1 : Cls M1 I O (cmS S k) K B (upC C) (push S0 H) [] E := c1
    have ok1 : okS c (cmS S k) := ok1
    rw [← hT] at c1 ok1
    have tail : ∀ (W : St) (v : Int32) (M2' : Mem), okS c W → k < stM W → Cls M2' I O W K B (upC C) (push S0 H) [] E → off M M2' 100 616 → f_X11_close 100 (nI k) M = f_X11_close_38 100 (sesR 105 k) v M2' →
        Done (f_X11_close 100 (nI k) M) M I O K B E c v (idl (aLv W k)) := by
      intro W v M2' okW' hkW c2 o2 eX
      have h4 := okW'.2.1.2
      obtain ⟨M3, e3, x3, o3⟩ := X7_leave_e (c2.sx hkW)
      obtain ⟨c3, o3'⟩ := c2.ses hkW (X := lvS (stS W k)) x3 o3
      have ok3 := okW'.setS (k := k) (okE_lv okW'.2.1.1 (okW'.2.2.2 k hkW))
      obtain ⟨V, hV⟩ : ∃ V, V = aLv W k := ⟨_, rfl⟩
      have hV2 : V = setSx W k (lvS (stS W k)) := hV
      rw [← hV2] at c3 ok3
      obtain ⟨i1, i2, i3⟩ := ok3.idlOk
      obtain ⟨M4, e4, c4, o4⟩ := tellIdle_e c3 ok3 i2
      rw [← hV]
      exact ⟨M4, _, _, (by rw [eX]; simp only [f_X11_close_38, e3, c3.g2, c3.g7, e4, bso]), c4, (o2.trans o3').trans o4, i1, i2, i3⟩
    have gr : gZ M1 6 2 (sesR 105 k) = some (sxR (stS T k)) := sA.gR (c1.sx hkT)
    refine ⟨b, hb, hbx, ?_⟩
    rw [← hT]
    cases hrd : sxR (stS S k) with
    | true =>
      refine ⟨0, by omega, tail T 0 M1 ok1 hkT c1 o1 ?_⟩
      rw [f_X11_close, h.ob, bX_l (reqSes_in h hk), bX_l er, e1, bso, gr, bso, hrT, hrd]; rfl
    | false =>
      have gN : gI M1 0 1 (boxR 105 b) = some (stB T b).2.1 := bA.gN (c1.bx hbT)
      obtain ⟨M2', e2, c2, o2⟩ := cls_del c1 hbT 1 (stB T b).2.1
      rw [keepD_0 (ok1.2.2.1 b hbT).2.1] at e2 c2
      have ok2 := ok1.del hbT 0 2147483647
      have hl30 : (stB T b).2.2.length ≤ 30 := (ok1.2.2.1 b hbT).2.2
      refine ⟨(stB T b).2.2.length - (keepD 0 2147483647 (stB T b).2.2).length, by omega, tail _ _ M2' ok2 hkT c2 (o1.trans o2) ?_⟩
      rw [f_X11_close, h.ob, bX_l (reqSes_in h hk), bX_l er, e1, bso, gr, bso, hrT, hrd, cond_false, gN, bso, e2]; rfl
theorem c_deliver (h : Cls M I O S K B C H N E) (ok : okS c S) (hc : c ≤ 1000) {b : Nat} (hb : b < stN S) {L : Nat} (l1 : stL S = nI L) (l3 : L ≤ 30) {sz fl : Int32} (s1 : ¬ sz < 1) (s2 : ¬ 9999 < sz) (s3 : ¬ fl < 0) (s4 : fl ≤ 31) :
    (¬ (stB S b).2.2.length + 1 ≤ L → Refu (f_X11_deliver 100 (nI b) sz fl M) M) ∧
    ((stB S b).2.2.length + 1 ≤ L → Done (f_X11_deliver 100 (nI b) sz fl M) M I O K B E (c + 1) (stB S b).2.1 (idl (aCm S b sz fl))) := by
  have hX : f_X11_deliver 100 (nI b) sz fl M = bX (f_X11_requireRoom 100 (boxR 105 b) 1 M) fun _ M4 => (f_X11_beginAct 100 M4).bind fun M6 => (gI M6 0 1 (boxR 105 b)).bind fun x7 => (f_X0_addMessage (boxR 105 b) sz fl M6).bind fun M9 => (gR M9 10 2 100).bind fun x10 => (gR M9 10 7 100).bind fun x11 => (f_X8_tellIdle x10 x11 M9).bind fun M13 => some (.inl x7, M13) := by
    rw [f_X11_deliver, h.ob, bX_l (reqBox_in h hb), if_neg s1, if_neg s2, if_neg s3, if_pos s4]
  have hrm := reqRoom_e h hb l1 l3 (k := 1) (by omega)
  have hrm : f_X11_requireRoom 100 (boxR 105 b) 1 M = _ := hrm
  refine ⟨fun er => ?_, fun er => ?_⟩
  · rw [if_neg (fun z => by rcases z with z | z; exact absurd z (by decide); exact er z)] at hrm
    unfold Refu
    rw [hX, bX_r hrm]
  · rw [if_pos (.inr er)] at hrm
    have hlen : (stB S b).2.2.length < 30 := by omega
    obtain ⟨M1, S0, e1, g0, c1, o1⟩ := beginAct_e h
    have gn : gI M1 0 1 (boxR 105 b) = some (stB S b).2.1 := bA.gN (c1.bx hb)
    obtain ⟨M2', e2, x2, o2⟩ := X0_add_e (c1.bx hb) sz fl hlen
    obtain ⟨c2, o2'⟩ := c1.box hb (X := ((stB S b).1, (stB S b).2.1 + 1, (stB S b).2.2 ++ [((stB S b).2.1, sz, fl)])) x2 o2
    have hz : 0 ≤ sz := Int32.le_of_lt (Int32.lt_of_lt_of_le (show (0 : Int32) < 1 by decide) (Int32.not_lt.mp s1))
    have ok2 := ok.add hc hb hlen sz fl hz
    obtain ⟨V, hV⟩ : ∃ V, V = aCm S b sz fl := ⟨_, rfl⟩
    have hV2 : V = setBx S b ((stB S b).1, (stB S b).2.1 + 1, (stB S b).2.2 ++ [((stB S b).2.1, sz, fl)]) := hV
    rw [← hV2] at c2 ok2
    obtain ⟨i1, i2, i3⟩ := ok2.idlOk
    obtain ⟨M3, e3, c3, o3⟩ := tellIdle_e c2 ok2 i2
    rw [← hV]
    exact ⟨M3, _, _, (by rw [hX, bX_l hrm]; simp only [e1, gn, e2, c2.g2, c2.g7, e3, bso]), c3, (o1.trans o2').trans o3, i1, i2, i3⟩
end
