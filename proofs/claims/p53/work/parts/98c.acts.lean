/-! PURE, p53: the acts on ranges of entries, said openly -/
/-- fetch: the messages set seen, and the bytes read -/
def fcR (S : St) (k b i j : Nat) (peek : Bool) : Ms × Int32 := ftc (!peek && !sxR (stS (cmS S k) k)) (rng (sxE (stS S k)) i (j + 1)) ((stB S b).2.2, 0)
def aFc (S : St) (k b i j : Nat) (peek : Bool) : St := setSx (setBx (cmS S k) b (setMs (stB (cmS S k) b) (fcR S k b i j peek).1)) k (addC (stS (setBx (cmS S k) b (setMs (stB (cmS S k) b) (fcR S k b i j peek).1)) k) 4 (fcR S k b i j peek).2)
def stR (S : St) (k b i j : Nat) (mode fl : Int32) (si : Bool) : List En × (Ms × Int32) := sto mode fl si (rng (sxE (stS S k)) i (j + 1)) ((stB S b).2.2, 0)
def aSt (S : St) (k b i j : Nat) (mode fl : Int32) (si : Bool) : St := stW (cmS S k) k b ((sxE (stS S k)).take i ++ ((stR S k b i j mode fl si).1 ++ (sxE (stS S k)).drop (j + 1))) (stR S k b i j mode fl si).2.1
def aUs (S : St) (k b : Nat) (mode fl fs ls : Int32) : St := setBx (cmS S k) b (setMs (stB (cmS S k) b) (ust mode fl fs ls (stB S b).2.2 0).1)
def cpL (S : St) (k b i j : Nat) : List (Int32 × Int32) := cpy (stB S b).2.2 (rng (sxE (stS S k)) i (j + 1))
def aCp (S : St) (k b t i j : Nat) : St := setBx (cmS S k) t (cpB (stB (cmS S k) t) (cpL S k b i j))
def aMv (S : St) (k b t i j : Nat) : St := setBx (aCp S k b t i j) b (setMs (stB (aCp S k b t i j) b) (rmv (stB (aCp S k b t i j) b).2.2 (rng (sxE (stS S k)) i (j + 1))))
section
variable {M : Mem} {I O : List Int32} {S : St} {K : Nat → St} {B : Nat → Bool} {C : Nat} {H : Nat → St} {N : List Nt} {E : Er} {c : Nat}
theorem cmS_k (S : St) (k : Nat) : stS (cmS S k) k = incC (stS S k) 0 := by rw [cmS, stS_set]
theorem c_fetch (h : Cls M I O S K B C H N E) (ok : okS c S) {k i j : Nat} (hk : k < stM S) (hj : j < (sxE (stS S k)).length) (ho : i ≤ j) (peek : Bool) :
    (cdo (stS S k) = false → Refu (f_X11_fetch 100 (nI k) (nI (i + 1)) (nI (j + 1)) peek M) M) ∧
    (cdo (stS S k) = true → ∃ b, b < stN S ∧ sxB (stS S k) = nI b ∧ Done (f_X11_fetch 100 (nI k) (nI (i + 1)) (nI (j + 1)) peek M) M I O K B E c (fcR S k b i j peek).2 (endS false (aFc S k b i j peek) k [])) := by
  have hl : (sxE (stS S k)).length ≤ 60 := (ok.2.2.2 k hk).2.2.1
  have hi : i < (sxE (stS S k)).length := by omega
  have ord : (nI (i + 1) ≤ nI (j + 1)) = (i ≤ j) := (leI rfl rfl (by omega) (by omega)).trans (by simp)
  refine ⟨fun hd => ?_, fun hd => ?_⟩
  · unfold Refu
    rw [f_X11_fetch, h.ob, bX_l (reqSes_in h hk), bX_l (reqEnt_in (h.sx hk) hi), bX_l (reqEnt_in (h.sx hk) hj), bX_l (reqOrd_in (by rw [ord]; exact ho) M), bX_r (reqAwk_no h hk hd)]
  · obtain ⟨b, hb, hbx, er⟩ := reqAwk_in h hk hd (ok.wf k hk)
    obtain ⟨M1, S0, e1, g0, c1, o1⟩ := begCmd_e h hk
    have ok1 := ok.inc hk 0
    obtain ⟨T, hT⟩ : ∃ T, T = cmS S k := ⟨_, rfl⟩
    have hkT : k < stM T := by rw [hT]; exact hk
    have hbT : b < stN T := by rw [hT]; exact hb
    have hET : sxE (stS T k) = sxE (stS S k) := by rw [hT, cmS_k]; rfl
    have hBT : (stB T b).2.2 = (stB S b).2.2 := by rw [hT]; rfl
    have hiT : sxI (stS T k) = false := by rw [hT, cmS_k]; exact (cdo_t hd).2
    have c1 : Cls M1 I O (cmS S k) K B (upC C) (push S0 H) [] E := c1
    have ok1 : okS c (cmS S k) := ok1
    rw [← hT] at c1 ok1
    obtain ⟨r1, r2, r3⟩ := rng_split (sxE (stS S k)) (a := i) (b := j + 1) (by omega) (by omega)
    obtain ⟨ft, hft⟩ : ∃ ft, ft = fcR S k b i j peek := ⟨_, rfl⟩
    have hft2 : ft = ftc (!peek && !sxR (stS T k)) (rng (sxE (stS S k)) i (j + 1)) ((stB T b).2.2, 0) := by rw [hft, fcR, hT]; rfl
    obtain ⟨M2', e2, c2, o2⟩ := cls_fetch_loop (k := k) (b := b) peek (rng (sxE (stS S k)) i (j + 1)) ((sxE (stS S k)).take i) ((sxE (stS S k)).drop (j + 1)) FU M1 T 0 r1 (by rw [r3, FU_eq]; omega) c1 hkT hbT hET
    rw [← hft2] at e2 c2
    rw [r2, r3, show i + (j + 1 - i) = j + 1 by omega] at e2
    obtain ⟨m1, m2⟩ := ftc_map (!peek && !sxR (stS T k)) (rng (sxE (stS S k)) i (j + 1)) ((stB T b).2.2, 0)
    rw [← hft2] at m1 m2
    have ok2 := ok1.mp hbT m1 m2
    obtain ⟨U, hU⟩ : ∃ U, U = setBx T b (setMs (stB T b) ft.1) := ⟨_, rfl⟩
    rw [← hU] at c2 ok2
    have hkU : k < stM U := by rw [hU]; exact hkT
    have hsU : stS U k = stS T k := by rw [hU]; rfl
    obtain ⟨M3', e3, c3, o3⟩ := cls_addC c2 hkU ft.2
    have ok3 := ok2.setS (k := k) (okE_addC (k := 4) (ok2.2.2.2 k hkU) ft.2)
    obtain ⟨V, hV⟩ : ∃ V, V = setSx U k (addC (stS U k) 4 ft.2) := ⟨_, rfl⟩
    rw [← hV] at c3 ok3
    have hkV : k < stM V := by rw [hV]; exact hkU
    have hiV : sxI (stS V k) = false := by rw [hV, stS_set]; show sxI (stS U k) = false; rw [hsU]; exact hiT
    have hle := ok3.end244 (k := k) hkV false (trm_awake hiV)
    obtain ⟨M4, e4, c4, o4⟩ := endCmd_e c3 (k := k) hkV ok3 false hle
    have gC : gR M2' 6 7 (sesR 105 k) = some (sesR 105 k + 5) := sA.gC (c2.sx hkU)
    have hVa : aFc S k b i j peek = V := by rw [hV, hU, hT, hft]; rfl
    refine ⟨b, hb, hbx, ?_⟩
    rw [hVa, ← hft]
    exact ⟨M4, _, _, (by rw [f_X11_fetch, h.ob, bX_l (reqSes_in h hk), bX_l (reqEnt_in (h.sx hk) hi), bX_l (reqEnt_in (h.sx hk) hj), bX_l (reqOrd_in (by rw [ord]; exact ho) M), bX_l er, e1, bso, e2]; simp only [f_X11_fetch_115, gC, e3, e4, bso]), c4, ((o1.trans o2).trans o3).trans o4, (ok3.endOk (k := k) hkV false).1, hle, (ok3.endOk (k := k) hkV false).2⟩
theorem c_store (h : Cls M I O S K B C H N E) (ok : okS c S) {k i j : Nat} (hk : k < stM S) (hj : j < (sxE (stS S k)).length) (ho : i ≤ j) {mode fl : Int32} (hmo : mfOK mode fl = true) (si : Bool) :
    ((cdo (stS S k) && !sxR (stS S k)) = false → Refu (f_X11_store 100 (nI k) (nI (i + 1)) (nI (j + 1)) mode fl si M) M) ∧
    ((cdo (stS S k) && !sxR (stS S k)) = true → ∃ b, b < stN S ∧ sxB (stS S k) = nI b ∧ Done (f_X11_store 100 (nI k) (nI (i + 1)) (nI (j + 1)) mode fl si M) M I O K B E c (stR S k b i j mode fl si).2.2 (endS false (aSt S k b i j mode fl si) k [])) := by
  have hl : (sxE (stS S k)).length ≤ 60 := (ok.2.2.2 k hk).2.2.1
  have hi : i < (sxE (stS S k)).length := by omega
  have ord : (nI (i + 1) ≤ nI (j + 1)) = (i ≤ j) := (leI rfl rfl (by omega) (by omega)).trans (by simp)
  refine ⟨fun hd => ?_, fun hd => ?_⟩
  · unfold Refu
    rw [f_X11_store, h.ob, bX_l (reqSes_in h hk), bX_l (reqEnt_in (h.sx hk) hi), bX_l (reqEnt_in (h.sx hk) hj), bX_l (reqOrd_in (by rw [ord]; exact ho) M), bX_l (reqMF_in hmo M), bX_r (reqWri_no h hk hd (ok.wf k hk))]
  · obtain ⟨b, hb, hbx, er⟩ := reqWri_in h hk hd (ok.wf k hk)
    obtain ⟨M1, S0, e1, g0, c1, o1⟩ := begCmd_e h hk
    have ok1 := ok.inc hk 0
    obtain ⟨T, hT⟩ : ∃ T, T = cmS S k := ⟨_, rfl⟩
    have hkT : k < stM T := by rw [hT]; exact hk
    have hbT : b < stN T := by rw [hT]; exact hb
    have hET : sxE (stS T k) = sxE (stS S k) := by rw [hT, cmS_k]; rfl
    have hiT : sxI (stS T k) = false := by rw [hT, cmS_k]; exact (cdo_t (Bool.and_eq_true_iff.mp hd).1).2
    have c1 : Cls M1 I O (cmS S k) K B (upC C) (push S0 H) [] E := c1
    have ok1 : okS c (cmS S k) := ok1
    rw [← hT] at c1 ok1
    obtain ⟨r1, r2, r3⟩ := rng_split (sxE (stS S k)) (a := i) (b := j + 1) (by omega) (by omega)
    obtain ⟨ft, hft⟩ : ∃ ft, ft = stR S k b i j mode fl si := ⟨_, rfl⟩
    have hft2 : ft = sto mode fl si (rng (sxE (stS S k)) i (j + 1)) ((stB T b).2.2, 0) := by rw [hft, stR, hT]; rfl
    obtain ⟨M2', e2, c2, o2⟩ := cls_store_loop (k := k) (b := b) mode fl si (rng (sxE (stS S k)) i (j + 1)) ((sxE (stS S k)).take i) ((sxE (stS S k)).drop (j + 1)) FU M1 T 0 (by rw [r3, FU_eq]; omega) c1 hkT hbT (by rw [hET]; exact r1.symm)
    rw [← hft2] at e2 c2
    rw [r2, r3, show i + (j + 1 - i) = j + 1 by omega] at e2
    obtain ⟨m0, m1, m2⟩ := sto_map mode fl si (rng (sxE (stS S k)) i (j + 1)) ((stB T b).2.2, 0)
    rw [← hft2] at m0 m1 m2
    have m3 : ((sxE (stS S k)).take i ++ (ft.1 ++ (sxE (stS S k)).drop (j + 1))).map eU = (sxE (stS T k)).map eU := by
      rw [hET, List.map_append, List.map_append, m0, ← List.map_append, ← List.map_append, r1]
    have ok2 := ok1.st hkT hbT m1 m2 m3
    obtain ⟨V, hV⟩ : ∃ V, V = stW T k b ((sxE (stS S k)).take i ++ (ft.1 ++ (sxE (stS S k)).drop (j + 1))) ft.2.1 := ⟨_, rfl⟩
    have hiV : sxI (stS V k) = false := by rw [hV, stW_s]; exact hiT
    rw [← hV] at c2 ok2
    have hkV : k < stM V := by rw [hV]; exact hkT
    have hle := ok2.end244 (k := k) hkV false (trm_awake hiV)
    obtain ⟨M4, e4, c4, o4⟩ := endCmd_e c2 (k := k) hkV ok2 false hle
    have hVa : aSt S k b i j mode fl si = V := by rw [hV, hT, hft]; rfl
    refine ⟨b, hb, hbx, ?_⟩
    rw [hVa, ← hft]
    exact ⟨M4, _, _, (by rw [f_X11_store, h.ob, bX_l (reqSes_in h hk), bX_l (reqEnt_in (h.sx hk) hi), bX_l (reqEnt_in (h.sx hk) hj), bX_l (reqOrd_in (by rw [ord]; exact ho) M), bX_l (reqMF_in hmo M), bX_l er, e1, bso, e2]; simp only [f_X11_store_134, e4, bso]), c4, (o1.trans o2).trans o4, (ok2.endOk (k := k) hkV false).1, hle, (ok2.endOk (k := k) hkV false).2⟩
theorem c_uidStore (h : Cls M I O S K B C H N E) (ok : okS c S) {k : Nat} (hk : k < stM S) (fs ls : Int32) {mode fl : Int32} (hmo : mfOK mode fl = true) :
    ((cdo (stS S k) && !sxR (stS S k)) = false → Refu (f_X11_uidStore 100 (nI k) fs ls mode fl M) M) ∧
    ((cdo (stS S k) && !sxR (stS S k)) = true → ∃ b, b < stN S ∧ sxB (stS S k) = nI b ∧ Done (f_X11_uidStore 100 (nI k) fs ls mode fl M) M I O K B E c (ust mode fl fs ls (stB S b).2.2 0).2 (endS true (aUs S k b mode fl fs ls) k [])) := by
  refine ⟨fun hd => ?_, fun hd => ?_⟩
  · unfold Refu
    rw [f_X11_uidStore, h.ob, bX_l (reqSes_in h hk), bX_l (reqMF_in hmo M), bX_r (reqWri_no h hk hd (ok.wf k hk))]
  · obtain ⟨b, hb, hbx, er⟩ := reqWri_in h hk hd (ok.wf k hk)
    obtain ⟨M1, S0, e1, g0, c1, o1⟩ := begCmd_e h hk
    have ok1 := ok.inc hk 0
    obtain ⟨T, hT⟩ : ∃ T, T = cmS S k := ⟨_, rfl⟩
    have hkT : k < stM T := by rw [hT]; exact hk
    have hbT : b < stN T := by rw [hT]; exact hb
    have hBT : (stB T b).2.2 = (stB S b).2.2 := by rw [hT]; rfl
    have hiT : sxI (stS T k) = false := by rw [hT, cmS_k]; exact (cdo_t (Bool.and_eq_true_iff.mp hd).1).2
    have c1 : Cls M1 I O (cmS S k) K B (upC C) (push S0 H) [] E := c1
    have ok1 : okS c (cmS S k) := ok1
    rw [← hT] at c1 ok1
    have hlb : (stB T b).2.2.length ≤ 30 := (ok1.2.2.1 b hbT).2.2
    obtain ⟨ft, hft⟩ : ∃ ft, ft = ust mode fl fs ls (stB S b).2.2 0 := ⟨_, rfl⟩
    have hft2 : ft = ust mode fl fs ls (stB T b).2.2 0 := by rw [hft, hBT]
    obtain ⟨M2', e2, c2, o2⟩ := cls_us_loop (b := b) (nI k) mode fl fs ls (stB T b).2.2 [] FU M1 T 0 (by rw [FU_eq]; omega) c1 hbT rfl
    rw [← hft2, List.nil_append] at c2
    have e2 : f_X11_uidStore_34 FU 100 (nI k) fs ls mode fl (boxR 105 b) 0 0 M1 = uTX (nI k) ft.2 M2' := by rw [hft2]; exact e2
    obtain ⟨m1, m2⟩ := ust_map mode fl fs ls (stB T b).2.2 0
    rw [← hft2] at m1 m2
    have ok2 := ok1.mp hbT m1 m2
    obtain ⟨V, hV⟩ : ∃ V, V = setBx T b (setMs (stB T b) ft.1) := ⟨_, rfl⟩
    have hiV : sxI (stS V k) = false := by rw [hV]; exact hiT
    rw [← hV] at c2 ok2
    have hkV : k < stM V := by rw [hV]; exact hkT
    have hle := ok2.end244 (k := k) hkV true (trm_awake hiV)
    obtain ⟨M4, e4, c4, o4⟩ := endCmd_e c2 (k := k) hkV ok2 true hle
    have hVa : aUs S k b mode fl fs ls = V := by rw [hV, hT, hft]; rfl
    refine ⟨b, hb, hbx, ?_⟩
    rw [hVa, ← hft]
    exact ⟨M4, _, _, (by rw [f_X11_uidStore, h.ob, bX_l (reqSes_in h hk), bX_l (reqMF_in hmo M), bX_l er, e1, bso, e2]; simp only [uTX, e4, bso]), c4, (o1.trans o2).trans o4, (ok2.endOk (k := k) hkV true).1, hle, (ok2.endOk (k := k) hkV true).2⟩
theorem c_copy (h : Cls M I O S K B C H N E) (ok : okS c S) (hc : c ≤ 1000) {k t i j : Nat} (hk : k < stM S) (ht : t < stN S) (hj : j < (sxE (stS S k)).length) (ho : i ≤ j) :
    Refu (f_X11_copy 100 (nI k) (nI (i + 1)) (nI (j + 1)) (nI t) M) M ∨
    ∃ b, b < stN S ∧ cdo (stS S k) = true ∧ sxB (stS S k) = nI b ∧ (stB S t).2.2.length + (cpL S k b i j).length ≤ 30 ∧ Done (f_X11_copy 100 (nI k) (nI (i + 1)) (nI (j + 1)) (nI t) M) M I O K B E (c + 1) (nI (cpL S k b i j).length) (endS true (aCp S k b t i j) k []) := by
  obtain ⟨L, l1, l2, l3⟩ := ok.1
  have hl : (sxE (stS S k)).length ≤ 60 := (ok.2.2.2 k hk).2.2.1
  have hi : i < (sxE (stS S k)).length := by omega
  have ord : (nI (i + 1) ≤ nI (j + 1)) = (i ≤ j) := (leI rfl rfl (by omega) (by omega)).trans (by simp)
  have hX : f_X11_copy 100 (nI k) (nI (i + 1)) (nI (j + 1)) (nI t) M = bX (f_X11_requireAwake 100 (sesR 105 k) M) fun x11 M12 => (f_X7_countThere (sesR 105 k) x11 (nI (i + 1)) (nI (j + 1)) M12).bind fun x13 => bX (f_X11_requireRoom 100 (boxR 105 t) x13 M12) fun _ M15 => (f_X11_beginCommand 100 (sesR 105 k) M15).bind fun M17 => (f_X7_copyRange (sesR 105 k) x11 (nI (i + 1)) (nI (j + 1)) (boxR 105 t) M17).bind fun (x18, M19) => (f_X11_endCommand 100 (nI k) true M19).bind fun (x20, M21) => some (.inl x18, M21) := by
    rw [f_X11_copy, h.ob, bX_l (reqSes_in h hk), bX_l (reqEnt_in (h.sx hk) hi), bX_l (reqEnt_in (h.sx hk) hj), bX_l (reqBox_in h ht), bX_l (reqOrd_in (by rw [ord]; exact ho) M)]
  cases hd : cdo (stS S k) with
  | false => exact .inl (by unfold Refu; rw [hX, bX_r (reqAwk_no h hk hd)])
  | true =>
    obtain ⟨b, hb, hbx, er⟩ := reqAwk_in h hk hd (ok.wf k hk)
    obtain ⟨l, hl'⟩ : ∃ l, l = cpL S k b i j := ⟨_, rfl⟩
    have hl60 : l.length ≤ 60 := by
      rw [hl', cpL, cpy_len]
      exact Nat.le_trans (List.length_filter_le ..) (Nat.le_trans (rng_sub _ i (j + 1)).length_le hl)
    have cth : f_X7_countThere (sesR 105 k) (boxR 105 b) (nI (i + 1)) (nI (j + 1)) M = some (nI l.length) := by
      rw [hl', cpL, ← cp_cnt]
      exact X7_there_e (h.sx hk) (h.bx hb) (show i ≤ j + 1 by omega) (show j + 1 ≤ (sxE (stS S k)).length by omega)
    have hrm := reqRoom_e h ht l1 l3 hl60
    by_cases er2 : l.length = 0 ∨ (stB S t).2.2.length + l.length ≤ L
    · rw [if_pos er2] at hrm
      have hl30 : (stB S t).2.2.length + l.length ≤ 30 := by
        have := (ok.2.2.1 t ht).2.2
        omega
      obtain ⟨M1, S0, e1, g0, c1, o1⟩ := begCmd_e h hk
      have ok1 := ok.inc hk 0
      obtain ⟨T, hT⟩ : ∃ T, T = cmS S k := ⟨_, rfl⟩
      have hkT : k < stM T := by rw [hT]; exact hk
      have hbT : b < stN T := by rw [hT]; exact hb
      have htT : t < stN T := by rw [hT]; exact ht
      have hxT : sxB (stS T k) = nI b := by rw [hT, cmS_k]; exact hbx
      have hET : sxE (stS T k) = sxE (stS S k) := by rw [hT, cmS_k]; rfl
      have hiT : sxI (stS T k) = false := by rw [hT, cmS_k]; exact (cdo_t hd).2
      have hlT : cpy (stB T b).2.2 (rng (sxE (stS T k)) i (j + 1)) = l := by rw [hET, hT]; exact hl'.symm
      have hl3T : (stB T t).2.2.length + (cpy (stB T b).2.2 (rng (sxE (stS T k)) i (j + 1))).length ≤ 30 := by rw [hlT, hT]; exact hl30
      have c1 : Cls M1 I O (cmS S k) K B (upC C) (push S0 H) [] E := c1
      have ok1 : okS c (cmS S k) := ok1
      rw [← hT] at c1 ok1
      have hjT : j < (sxE (stS T k)).length := by rw [hET]; exact hj
      obtain ⟨M2', e2, c2, o2⟩ := cls_cp c1 ok1 hc hkT hbT htT hxT ho hjT hl3T
      have ok2 := ok1.cp hc htT hl3T (cpy_sz (ok1.2.2.1 b hbT).2.1 _)
      rw [hlT] at e2 c2 ok2
      obtain ⟨V, hV⟩ : ∃ V, V = setBx T t (cpB (stB T t) l) := ⟨_, rfl⟩
      have hiV : sxI (stS V k) = false := by rw [hV]; exact hiT
      rw [← hV] at c2 ok2
      have hkV : k < stM V := by rw [hV]; exact hkT
      have hle := ok2.end244 (k := k) hkV true (trm_awake hiV)
      obtain ⟨M4, e4, c4, o4⟩ := endCmd_e c2 (k := k) hkV ok2 true hle
      have hVa : aCp S k b t i j = V := by rw [hV, hT, hl']; rfl
      refine .inr ⟨b, hb, rfl, hbx, by rw [← hl']; exact hl30, ?_⟩
      rw [hVa, ← hl']
      exact ⟨M4, _, _, (by rw [hX, bX_l er]; simp only [cth, bso]; rw [bX_l hrm]; simp only [e1, e2, e4, bso]), c4, (o1.trans o2).trans o4, (ok2.endOk (k := k) hkV true).1, hle, (ok2.endOk (k := k) hkV true).2⟩
    · rw [if_neg er2] at hrm
      exact .inl (by unfold Refu; rw [hX, bX_l er]; simp only [cth, bso]; rw [bX_r hrm])
theorem c_move (h : Cls M I O S K B C H N E) (ok : okS c S) (hc : c ≤ 1000) {k t i j : Nat} (hk : k < stM S) (ht : t < stN S) (hj : j < (sxE (stS S k)).length) (ho : i ≤ j) :
    Refu (f_X11_move 100 (nI k) (nI (i + 1)) (nI (j + 1)) (nI t) M) M ∨
    ∃ b, b < stN S ∧ (cdo (stS S k) && !sxR (stS S k)) = true ∧ sxB (stS S k) = nI b ∧ (stB S t).2.2.length + (cpL S k b i j).length ≤ 30 ∧ Done (f_X11_move 100 (nI k) (nI (i + 1)) (nI (j + 1)) (nI t) M) M I O K B E (c + 1) (nI (cpL S k b i j).length) (endS true (aMv S k b t i j) k []) := by
  obtain ⟨L, l1, l2, l3⟩ := ok.1
  have hl : (sxE (stS S k)).length ≤ 60 := (ok.2.2.2 k hk).2.2.1
  have hi : i < (sxE (stS S k)).length := by omega
  have ord : (nI (i + 1) ≤ nI (j + 1)) = (i ≤ j) := (leI rfl rfl (by omega) (by omega)).trans (by simp)
  have hX : f_X11_move 100 (nI k) (nI (i + 1)) (nI (j + 1)) (nI t) M = bX (f_X11_requireWriting 100 (sesR 105 k) M) fun x11 M12 => (f_X7_countThere (sesR 105 k) x11 (nI (i + 1)) (nI (j + 1)) M12).bind fun x13 => bX (f_X11_requireRoom 100 (boxR 105 t) x13 M12) fun _ M15 => (f_X11_beginCommand 100 (sesR 105 k) M15).bind fun M17 => (f_X7_copyRange (sesR 105 k) x11 (nI (i + 1)) (nI (j + 1)) (boxR 105 t) M17).bind fun (x18, M19) => (f_X7_removeRange (sesR 105 k) x11 (nI (i + 1)) (nI (j + 1)) M19).bind fun M21 => (f_X11_endCommand 100 (nI k) true M21).bind fun (x22, M23) => some (.inl x18, M23) := by
    rw [f_X11_move, h.ob, bX_l (reqSes_in h hk), bX_l (reqEnt_in (h.sx hk) hi), bX_l (reqEnt_in (h.sx hk) hj), bX_l (reqBox_in h ht), bX_l (reqOrd_in (by rw [ord]; exact ho) M)]
  cases hd : (cdo (stS S k) && !sxR (stS S k)) with
  | false => exact .inl (by unfold Refu; rw [hX, bX_r (reqWri_no h hk hd (ok.wf k hk))])
  | true =>
    obtain ⟨b, hb, hbx, er⟩ := reqWri_in h hk hd (ok.wf k hk)
    obtain ⟨l, hl'⟩ : ∃ l, l = cpL S k b i j := ⟨_, rfl⟩
    have hl60 : l.length ≤ 60 := by
      rw [hl', cpL, cpy_len]
      exact Nat.le_trans (List.length_filter_le ..) (Nat.le_trans (rng_sub _ i (j + 1)).length_le hl)
    have cth : f_X7_countThere (sesR 105 k) (boxR 105 b) (nI (i + 1)) (nI (j + 1)) M = some (nI l.length) := by
      rw [hl', cpL, ← cp_cnt]
      exact X7_there_e (h.sx hk) (h.bx hb) (show i ≤ j + 1 by omega) (show j + 1 ≤ (sxE (stS S k)).length by omega)
    have hrm := reqRoom_e h ht l1 l3 hl60
    by_cases er2 : l.length = 0 ∨ (stB S t).2.2.length + l.length ≤ L
    · rw [if_pos er2] at hrm
      have hl30 : (stB S t).2.2.length + l.length ≤ 30 := by
        have := (ok.2.2.1 t ht).2.2
        omega
      obtain ⟨M1, S0, e1, g0, c1, o1⟩ := begCmd_e h hk
      have ok1 := ok.inc hk 0
      obtain ⟨T, hT⟩ : ∃ T, T = cmS S k := ⟨_, rfl⟩
      have hkT : k < stM T := by rw [hT]; exact hk
      have hbT : b < stN T := by rw [hT]; exact hb
      have htT : t < stN T := by rw [hT]; exact ht
      have hxT : sxB (stS T k) = nI b := by rw [hT, cmS_k]; exact hbx
      have hET : sxE (stS T k) = sxE (stS S k) := by rw [hT, cmS_k]; rfl
      have hiT : sxI (stS T k) = false := by rw [hT, cmS_k]; exact (cdo_t (Bool.and_eq_true_iff.mp hd).1).2
      have hlT : cpy (stB T b).2.2 (rng (sxE (stS T k)) i (j + 1)) = l := by rw [hET, hT]; exact hl'.symm
      have hl3T : (stB T t).2.2.length + (cpy (stB T b).2.2 (rng (sxE (stS T k)) i (j + 1))).length ≤ 30 := by rw [hlT, hT]; exact hl30
      have c1 : Cls M1 I O (cmS S k) K B (upC C) (push S0 H) [] E := c1
      have ok1 : okS c (cmS S k) := ok1
      rw [← hT] at c1 ok1
      have hjT : j < (sxE (stS T k)).length := by rw [hET]; exact hj
      obtain ⟨M2', e2, c2, o2⟩ := cls_cp c1 ok1 hc hkT hbT htT hxT ho hjT hl3T
      have ok2 := ok1.cp hc htT hl3T (cpy_sz (ok1.2.2.1 b hbT).2.1 _)
      rw [hlT] at e2 c2 ok2
      obtain ⟨V, hV⟩ : ∃ V, V = setBx T t (cpB (stB T t) l) := ⟨_, rfl⟩
      have hiV : sxI (stS V k) = false := by rw [hV]; exact hiT
      rw [← hV] at c2 ok2
      have hkV : k < stM V := by rw [hV]; exact hkT
      have hbV : b < stN V := by rw [hV]; exact hbT
      have hEV : sxE (stS V k) = sxE (stS S k) := by rw [← hET, hV]; rfl
      obtain ⟨M3, e3, x3, o3⟩ := X7_remove_e (M := M2') (r := sesR 105 k) (rb := boxR 105 b) (by have := c2.s.n3; have := c2.s.m4; unfold sesR boxR; omega) (a := i) (b := j + 1) (by omega) (show j + 1 ≤ (sxE (stS V k)).length by rw [hEV]; omega) (c2.sx hkV) (c2.bx hbV)
      obtain ⟨c3, o3'⟩ := c2.box hbV (X := setMs (stB V b) (rmv (stB V b).2.2 (rng (sxE (stS V k)) i (j + 1)))) x3 o3
      have hms := rmv_sub (rng (sxE (stS V k)) i (j + 1)) (stB V b).2.2
      have ok3 := ok2.setM hbV (okM_sub (ok2.2.2.1 b hbV).2.1 hms) (Nat.le_trans hms.length_le (ok2.2.2.1 b hbV).2.2)
      obtain ⟨W, hW⟩ : ∃ W, W = setBx V b (setMs (stB V b) (rmv (stB V b).2.2 (rng (sxE (stS V k)) i (j + 1)))) := ⟨_, rfl⟩
      have hiW : sxI (stS W k) = false := by rw [hW]; exact hiV
      rw [← hW] at c3 ok3
      have hkW : k < stM W := by rw [hW]; exact hkV
      have hle := ok3.end244 (k := k) hkW true (trm_awake hiW)
      obtain ⟨M4, e4, c4, o4⟩ := endCmd_e c3 (k := k) hkW ok3 true hle
      have hVa : aCp S k b t i j = V := by rw [hV, hT, hl']; rfl
      have hWa : aMv S k b t i j = W := by rw [aMv, hVa, hW, hEV]
      refine .inr ⟨b, hb, rfl, hbx, by rw [← hl']; exact hl30, ?_⟩
      rw [hWa, ← hl']
      exact ⟨M4, _, _, (by rw [hX, bX_l er]; simp only [cth, bso]; rw [bX_l hrm]; simp only [e1, e2, e3, e4, bso]), c4, ((o1.trans o2).trans o3').trans o4, (ok3.endOk (k := k) hkW true).1, hle, (ok3.endOk (k := k) hkW true).2⟩
    · rw [if_neg er2] at hrm
      exact .inl (by unfold Refu; rw [hX, bX_l er]; simp only [cth, bso]; rw [bX_r hrm])
end
