/-! PURE, p53: what each act leaves, to the law's questions -/
def szM (ms : Ms) : Prop := ∀ x ∈ ms.map mS, 0 ≤ x ∧ x ≤ (9999 : Int32)
def szS (S : St) : Prop := ∀ b, b < stN S → szM (stB S b).2.2
def btO (kind one : Nat) : Nat := if kind = 0 ∨ kind = 13 then one else 9
def Aft (S : St) (c kind one : Nat) (si : Bool) (v : Int32) (X : St × List Nt) : Prop :=
  okS (c + 1) X.1 ∧ idQ X.1 ∧ szS X.1 ∧ (stN X.1 = stN S ∧ stM X.1 = stM S) ∧ 0 ≤ v ∧
  (∀ W, RV si 9 W S → okWs (stM S) X.2 W ∧ RV si (btO kind one) (apWs X.2 W) X.1) ∧
  ((1 ≤ kind ∧ kind ≤ 4 ∨ 8 ≤ kind ∧ kind ≤ 12) → sxB (stS X.1 one) ≠ -1 ∧ quiet (bof X.1 (sxB (stS X.1 one))) (stS X.1 one)) ∧
  (5 ≤ kind ∧ kind ≤ 7 → ∀ e ∈ sxE (stS X.1 one), chg (bof X.1 (sxB (stS X.1 one))) e = false) ∧
  (1 ≤ kind ∧ kind ≤ 4 → v = nI (X.2.countP (fun x => decide (n0 x = nI one))))
theorem okS_up {c c' : Nat} {S : St} (h : okS c S) (e : c ≤ c') : okS c' S :=
  ⟨h.1, h.2.1, fun b hb => by
    obtain ⟨⟨n, h1, h2, h3⟩, h4⟩ := h.2.2.1 b hb
    exact ⟨⟨n, h1, h2, by omega⟩, h4⟩, h.2.2.2⟩
theorem szS_cg {S T : St} (h : szS S) (e : stB T = stB S) (n : stN T = stN S) : szS T := fun b hb => by rw [e]; exact h b (by omega)
theorem aft_end {S V : St} {c kind one : Nat} {si al : Bool} {v : Int32} (okV : okS (c + 1) V) (hk : one < stM V) (hM : stN V = stN S ∧ stM V = stM S) (hid : idB V) (sz : szS V) (hB : sxB (stS V one) ≠ -1) (hv : 0 ≤ v)
    (hE : ∀ W, RV si 9 W S → RV si 9 W V) (hkd : kind ≠ 0 ∧ kind ≠ 13) (hal : al = true ∨ (5 ≤ kind ∧ kind ≤ 7)) (hT : 1 ≤ kind → kind ≤ 4 → v = nI (tlK true V one).2.length) : Aft S c kind one si v (endS al V one []) := by
  have h4 := okV.2.1.2
  obtain ⟨⟨⟨a1, a2⟩, a3, a4⟩, -⟩ := tlI_get (stM V) 0 (setSx V one (tlK al V one).1) ([] ++ (tlK al V one).2)
  have a1 : stB (endS al V one []).1 = stB V := a1
  have a2 : stM (endS al V one []).1 = stM V := a2
  have a3 : stN (endS al V one []).1 = stN V := a3
  obtain ⟨k1, k2, k3, k4⟩ := endS_k okV hk al
  have hbt : btO kind one = 9 := if_neg (fun z => z.elim hkd.1 hkd.2)
  refine ⟨(okV.endOk hk al).1, endS_idQ okV hid hk al, szS_cg sz a1 a3, ⟨a3.trans hM.1, a2.trans hM.2⟩, hv, fun W hW => ?_, fun z => ?_, fun z => ?_, fun z => ?_⟩
  · obtain ⟨w1, w2⟩ := (hE W hW).endS okV hk (by omega) al
    rw [hbt, ← hM.2]
    exact ⟨w1, w2⟩
  · rw [k1]
    refine ⟨hB, ?_⟩
    rw [k2]
    exact k3 (hal.resolve_right (fun w => by omega))
  · rw [k1, k2]
    exact k4
  · rw [hT z.1 z.2]
    have hal1 : al = true := hal.resolve_right (fun w => by omega)
    subst hal1
    rw [endS_cnt okV hk]
theorem aft_idl {S V : St} {c kind one : Nat} {si : Bool} {v : Int32} (okV : okS (c + 1) V) (hM : stN V = stN S ∧ stM V = stM S) (hid : idB V) (sz : szS V) (hv : 0 ≤ v)
    (hE : ∀ W, RV si 9 W S → RV si (btO kind one) W V) (hi : btO kind one < stM V → sxI (stS V (btO kind one)) = false) (hkd : kind = 0 ∨ 13 ≤ kind) : Aft S c kind one si v (idl V) := by
  obtain ⟨⟨⟨a1, a2⟩, a3, a4⟩, -⟩ := tlI_get (stM V) 0 V []
  have a1 : stB (idl V).1 = stB V := a1
  have a2 : stM (idl V).1 = stM V := a2
  have a3 : stN (idl V).1 = stN V := a3
  refine ⟨okV.idlOk.1, idl_idQ okV hid, szS_cg sz a1 a3, ⟨a3.trans hM.1, a2.trans hM.2⟩, hv, fun W hW => ?_, fun z => by omega, fun z => by omega, fun z => by omega⟩
  rw [← hM.2]
  exact (hE W hW).idl okV hi
theorem RV_same {S V : St} {si : Bool} {bt : Nat} {W : Nat → Vw} (h4 : stM S ≤ 4) (hM : stM V = stM S) (e : ∀ s, s < stM S → s ≠ bt → sxE (stS V s) = sxE (stS S s)) (h : RV si 9 W S) : RV si bt W V := by
  intro s hs hn
  rw [hM] at hs
  rw [e s hs hn]
  exact h s hs (by omega)
theorem f2_sil {es : List En} : ∀ {es' : List En} {V : Vw}, es'.map eU = es.map eU → F2 (vwM true) V es → F2 (vwM true) V es' := by
  induction es with
  | nil =>
    intro es' V e h
    have : es' = [] := List.map_eq_nil_iff.mp e
    rw [this]; exact h
  | cons x t ih =>
    intro es' V e h
    obtain ⟨q, Q, rfl, h1, h2⟩ := f2_cr h
    match es', e with
    | y :: u, e =>
      rw [List.map_cons, List.map_cons] at e
      have e1 : eU y = eU x := (List.cons.inj e).1
      exact F2.cons ⟨fun z => by rw [e1]; exact h1.1 z, fun z => by cases z⟩ (ih (List.cons.inj e).2 h2)
theorem oth (S : St) (k : Nat) (x : Sx) {s : Nat} (h : s ≠ k) : stS (setSx S k x) s = stS S s := va_up_n _ _ h
theorem cm_E (S : St) (k s : Nat) : sxE (stS (cmS S k) s) = sxE (stS S s) ∧ sxI (stS (cmS S k) s) = sxI (stS S s) ∧ sxB (stS (cmS S k) s) = sxB (stS S s) := by
  by_cases e : s = k
  · rw [e, cmS_k]; exact ⟨rfl, rfl, rfl⟩
  · have : stS (cmS S k) s = stS S s := oth _ _ _ e
    rw [this]; exact ⟨rfl, rfl, rfl⟩
theorem idB_cg {S T : St} (h : idB S) (n : stM T = stM S) (e : ∀ s, s < stM S → sxI (stS T s) = sxI (stS S s) ∧ sxB (stS T s) = sxB (stS S s)) : idB T := fun s hs hi => by
  rw [n] at hs
  obtain ⟨e1, e2⟩ := e s hs
  rw [e2]; exact h s hs (by rw [← e1]; exact hi)
theorem idB_cm {S : St} (h : idB S) (k : Nat) : idB (cmS S k) := idB_cg h rfl (fun s _ => ⟨(cm_E S k s).2.1, (cm_E S k s).2.2⟩)
theorem nI_nn {n : Nat} (h : n < 2 ^ 31) : (0 : Int32) ≤ nI n := nI_ge0 h
theorem cdo_b {s : Sx} (h : cdo s = true) : sxB s ≠ -1 ∧ sxI s = false := by
  unfold cdo at h
  obtain ⟨h1, h2⟩ := Bool.and_eq_true_iff.mp h
  refine ⟨fun z => ?_, by simpa using h2⟩
  rw [z] at h1
  exact absurd h1 (by decide)
section
variable {S : St} {c k : Nat} {si : Bool}
theorem a_noop (ok : okS c S) (hid : idB S) (sz : szS S) (hk : k < stM S) (hd : cdo (stS S k) = true) {kind : Nat} (hkd : 1 ≤ kind ∧ kind ≤ 4) : Aft S c kind k si (nI (tlK true (cmS S k) k).2.length) (endS true (cmS S k) k []) := by
  have okc : okS (c + 1) (cmS S k) := okS_up (ok.inc hk 0) (by omega)
  have hl := okc.tlK_len (k := k) hk true
  exact aft_end okc hk ⟨rfl, rfl⟩ (idB_cm hid k) sz (by rw [(cm_E S k k).2.2]; exact (cdo_b hd).1) (nI_nn (by omega)) (fun W hW => RV_same ok.2.1.2 rfl (fun s _ _ => (cm_E S k s).1) hW) ⟨by omega, by omega⟩ (.inl rfl) (fun _ _ => rfl)
theorem ai_E (S : St) (k s : Nat) (v : Bool) : sxE (stS (aId S k v) s) = sxE (stS S s) ∧ sxB (stS (aId S k v) s) = sxB (stS S s) ∧ (s ≠ k → sxI (stS (aId S k v) s) = sxI (stS S s)) := by
  by_cases e : s = k
  · rw [e, aId, stS_set]
    exact ⟨(cm_E S k k).1, (cm_E S k k).2.2, fun z => absurd rfl z⟩
  · have : stS (aId S k v) s = stS (cmS S k) s := oth _ _ _ e
    rw [this]; exact ⟨(cm_E S k s).1, (cm_E S k s).2.2, fun _ => (cm_E S k s).2.1⟩
theorem a_idle (ok : okS c S) (hid : idB S) (sz : szS S) (hk : k < stM S) (v : Bool) (hb : sxB (stS S k) ≠ -1) {kind : Nat} (hkd : 1 ≤ kind ∧ kind ≤ 4) : Aft S c kind k si (nI (tlK true (aId S k v) k).2.length) (endS true (aId S k v) k []) := by
  have ok1 := ok.inc hk 0
  have okc : okS (c + 1) (aId S k v) := okS_up (okS.setS ok1 (okE_id (ok1.2.2.2 k hk) v)) (by omega)
  have hl := okc.tlK_len (k := k) hk true
  refine aft_end okc hk ⟨rfl, rfl⟩ (fun s hs hi => ?_) sz (by rw [(ai_E S k k v).2.1]; exact hb) (nI_nn (by omega)) (fun W hW => RV_same ok.2.1.2 rfl (fun s _ _ => (ai_E S k s v).1) hW) ⟨by omega, by omega⟩ (.inl rfl) (fun _ _ => rfl)
  rw [(ai_E S k s v).2.1]
  by_cases e : s = k
  · rw [e]; exact hb
  · exact hid s hs (by rw [← (ai_E S k s v).2.2 e]; exact hi)
theorem szM_map {ms ms' : Ms} (h : szM ms) (e : ms'.map mS = ms.map mS) : szM ms' := by unfold szM; rw [e]; exact h
theorem szM_sub {ms ms' : Ms} (h : szM ms) (e : ms'.Sublist ms) : szM ms' := fun x hx => h x ((e.map mS).subset hx)
theorem szS_bx {S : St} (h : szS S) {b : Nat} {x : Bx} (hx : szM x.2.2) : szS (setBx S b x) := by
  intro j hj
  by_cases e : j = b
  · rw [e, stB_set]; exact hx
  · have : stB (setBx S b x) j = stB S j := va_up_n _ _ e
    rw [this]; exact h j hj
theorem ft_sum (wr : Bool) : ∀ (l : List En) (ms : Ms) (a : Nat), szM ms → ∃ a', (ftc wr l (ms, nI a)).2 = nI a' ∧ a' ≤ a + 9999 * l.length := by
  intro l
  induction l with
  | nil => intro ms a _; exact ⟨a, rfl, by omega⟩
  | cons e t ih =>
    intro ms a h
    rw [ftc, List.length_cons]
    cases hm : mix ms (eU e) with
    | none =>
      obtain ⟨a', h1, h2⟩ := ih ms a h
      exact ⟨a', h1, by omega⟩
    | some k =>
      have hk := mix_lt hm
      obtain ⟨z1, z2⟩ := h (mS (mg ms k)) (List.mem_map.mpr ⟨mg ms k, by
        rw [mg, List.getD_eq_getElem?_getD, List.getElem?_eq_getElem hk]; exact List.getElem_mem hk, rfl⟩)
      obtain ⟨n, n1, n2⟩ := int_eq_ofNat_of_bounds (C := 9999) (by omega) z1 z2
      have hs : szM (bif wr then setF ms k (mF (mg ms k) ||| 1) else ms) := by
        cases wr with
        | false => exact h
        | true => exact szM_map h (setF_S _ _ _)
      obtain ⟨a', h1, h2⟩ := ih _ (a + n) hs
      refine ⟨a', ?_, by omega⟩
      rw [← h1]
      show (ftc wr t (_, nI a + mS (mg ms k))).2 = _
      rw [n2]
      show (ftc wr t (_, nI a + nI n)).2 = _
      rw [nI_add]
theorem fc_E (S : St) (k b i j s : Nat) (p : Bool) : sxE (stS (aFc S k b i j p) s) = sxE (stS S s) ∧ sxI (stS (aFc S k b i j p) s) = sxI (stS S s) ∧ sxB (stS (aFc S k b i j p) s) = sxB (stS S s) := by
  by_cases e : s = k
  · rw [e, aFc, stS_set]; exact cm_E S k k
  · have : stS (aFc S k b i j p) s = stS (cmS S k) s := oth _ _ _ e
    rw [this]; exact cm_E S k s
theorem a_fetch (ok : okS c S) (hid : idB S) (sz : szS S) (hk : k < stM S) (hd : cdo (stS S k) = true) {b i j : Nat} (hb : b < stN S) (hj : j < (sxE (stS S k)).length) (p : Bool) : Aft S c 5 k si (fcR S k b i j p).2 (endS false (aFc S k b i j p) k []) := by
  have ok1 : okS c (cmS S k) := ok.inc hk 0
  have hl : (sxE (stS S k)).length ≤ 60 := (ok.2.2.2 k hk).2.2.1
  obtain ⟨m1, m2⟩ := ftc_map (!p && !sxR (stS (cmS S k) k)) (rng (sxE (stS S k)) i (j + 1)) ((stB S b).2.2, 0)
  have ok2 : okS c (setBx (cmS S k) b (setMs (stB (cmS S k) b) (fcR S k b i j p).1)) := okS.mp ok1 hb m1 m2
  have ok3 : okS (c + 1) (aFc S k b i j p) := okS_up (okS.setS (k := k) ok2 (okE_addC (k := 4) (ok2.2.2.2 k hk) (fcR S k b i j p).2)) (by omega)
  obtain ⟨a', e1, e2⟩ := ft_sum (!p && !sxR (stS (cmS S k) k)) (rng (sxE (stS S k)) i (j + 1)) (stB S b).2.2 0 (sz b hb)
  have e1 : (fcR S k b i j p).2 = nI a' := e1
  have hr := (rng_sub (sxE (stS S k)) i (j + 1)).length_le
  refine aft_end ok3 hk ⟨rfl, rfl⟩ (idB_cg hid rfl (fun s _ => (fc_E S k b i j s p).2)) (szS_bx (S := cmS S k) sz (szM_map (sz b hb) m2)) (by rw [(fc_E S k b i j k p).2.2]; exact (cdo_b hd).1) (by rw [e1]; exact nI_nn (by omega)) (fun W hW => RV_same ok.2.1.2 rfl (fun s _ _ => (fc_E S k b i j s p).1) hW) ⟨by omega, by omega⟩ (.inr ⟨by omega, by omega⟩) (fun _ z => absurd z (by omega))
theorem sto_sum (mode fl : Int32) (si : Bool) : ∀ (l : List En) (ms : Ms) (a : Nat), ∃ a', (sto mode fl si l (ms, nI a)).2.2 = nI a' ∧ a' ≤ a + l.length := by
  intro l
  induction l with
  | nil => intro ms a; exact ⟨a, rfl, by omega⟩
  | cons e t ih =>
    intro ms a
    rw [List.length_cons]
    cases hm : mix ms (eU e) with
    | none =>
      rw [sto_none (a := (ms, nI a)) hm]
      obtain ⟨a', h1, h2⟩ := ih ms a
      exact ⟨a', h1, by omega⟩
    | some k =>
      rw [sto_some (a := (ms, nI a)) hm]
      have e9 : nI a + b2i (!decide (fby mode (mF (mg ms k)) fl = mF (mg ms k))) = nI (a + (if (!decide (fby mode (mF (mg ms k)) fl = mF (mg ms k))) = true then 1 else 0)) := nI_b2i a _
      obtain ⟨a', h1, h2⟩ := ih (setF ms k (fby mode (mF (mg ms k)) fl)) (a + (if (!decide (fby mode (mF (mg ms k)) fl = mF (mg ms k))) = true then 1 else 0))
      rw [← e9] at h1
      refine ⟨a', h1, ?_⟩
      split at h2 <;> omega
theorem sto_same (mode fl : Int32) : ∀ (l : List En) (a : Ms × Int32), (sto mode fl false l a).1 = l := by
  intro l
  induction l with
  | nil => intro a; rfl
  | cons e t ih =>
    intro a
    cases hm : mix a.1 (eU e) with
    | none => rw [sto_none hm, ih]
    | some k => rw [sto_some hm, ih]; rfl
theorem st_E (S : St) (k b i j s : Nat) (mode fl : Int32) (sl : Bool) : sxI (stS (aSt S k b i j mode fl sl) s) = sxI (stS S s) ∧ sxB (stS (aSt S k b i j mode fl sl) s) = sxB (stS S s) := by
  by_cases e : s = k
  · rw [e, aSt, stW_s]; exact (cm_E S k k).2
  · have : stS (aSt S k b i j mode fl sl) s = stS (cmS S k) s := oth _ _ _ e
    rw [this]; exact (cm_E S k s).2
theorem a_store (ok : okS c S) (hid : idB S) (sz : szS S) (hk : k < stM S) (hd : cdo (stS S k) = true) {b i j : Nat} (hb : b < stN S) (hij : i ≤ j) (hj : j < (sxE (stS S k)).length) (mode fl : Int32) (sl : Bool) {kind : Nat} (hkd : 6 ≤ kind ∧ kind ≤ 7) : Aft S c kind k sl (stR S k b i j mode fl sl).2.2 (endS false (aSt S k b i j mode fl sl) k []) := by
  have ok1 : okS c (cmS S k) := ok.inc hk 0
  have hl : (sxE (stS S k)).length ≤ 60 := (ok.2.2.2 k hk).2.2.1
  obtain ⟨m0, m1, m2⟩ := sto_map mode fl sl (rng (sxE (stS S k)) i (j + 1)) ((stB S b).2.2, 0)
  obtain ⟨r1, r2, r3⟩ := rng_split (sxE (stS S k)) (a := i) (b := j + 1) (by omega) (by omega)
  have m3 : ((sxE (stS S k)).take i ++ ((stR S k b i j mode fl sl).1 ++ (sxE (stS S k)).drop (j + 1))).map eU = (sxE (stS S k)).map eU := by
    have m0 : (stR S k b i j mode fl sl).1.map eU = _ := m0
    rw [List.map_append, List.map_append, m0, ← List.map_append, ← List.map_append, r1]
  have ok2 : okS (c + 1) (aSt S k b i j mode fl sl) := okS_up (okS.st ok1 (k := k) hk hb m1 m2 (by rw [(cm_E S k k).1]; exact m3)) (by omega)
  obtain ⟨a', e1, e2⟩ := sto_sum mode fl sl (rng (sxE (stS S k)) i (j + 1)) (stB S b).2.2 0
  have e1 : (stR S k b i j mode fl sl).2.2 = nI a' := e1
  have hr := (rng_sub (sxE (stS S k)) i (j + 1)).length_le
  have hEk : sxE (stS (aSt S k b i j mode fl sl) k) = (sxE (stS S k)).take i ++ ((stR S k b i j mode fl sl).1 ++ (sxE (stS S k)).drop (j + 1)) := by rw [aSt, stW_s]; rfl
  refine aft_end ok2 hk ⟨rfl, rfl⟩ (idB_cg hid rfl (fun s _ => st_E S k b i j s mode fl sl)) (szS_bx (S := cmS S k) sz (szM_map (sz b hb) m2)) (by rw [(st_E S k b i j k mode fl sl).2]; exact (cdo_b hd).1) (by rw [e1]; exact nI_nn (by omega)) (fun W hW s hs hn => ?_) ⟨by omega, by omega⟩ (.inr ⟨by omega, by omega⟩) (fun _ z => absurd z (by omega))
  have hs : s < stM S := hs
  by_cases e : s = k
  · subst e
    rw [hEk]
    cases sl with
    | true => exact f2_sil m3 (hW s hs hn)
    | false =>
      have : (stR S s b i j mode fl false).1 = rng (sxE (stS S s)) i (j + 1) := sto_same _ _ _ _
      rw [this, r1]
      exact hW s hs hn
  · have h1 : stS (aSt S k b i j mode fl sl) s = stS (cmS S k) s := oth _ _ _ e
    rw [h1, (cm_E S k s).1]
    exact hW s hs hn
theorem ust_sum (mode fl fs ls : Int32) : ∀ (l : Ms) (a : Nat), ∃ a', (ust mode fl fs ls l (nI a)).2 = nI a' ∧ a' ≤ a + l.length := by
  intro l
  induction l with
  | nil => intro a; exact ⟨a, rfl, by omega⟩
  | cons x t ih =>
    intro a
    rw [ust, List.length_cons]
    cases (!decide (mU x < fs) && !decide (ls < mU x)) with
    | true =>
      obtain ⟨a', h1, h2⟩ := ih (a + (if (!decide (fby mode (mF x) fl = mF x)) = true then 1 else 0))
      rw [← nI_b2i] at h1
      refine ⟨a', h1, ?_⟩
      split at h2 <;> omega
    | false =>
      obtain ⟨a', h1, h2⟩ := ih a
      exact ⟨a', h1, by omega⟩
theorem a_uids (ok : okS c S) (hid : idB S) (sz : szS S) (hk : k < stM S) (hd : cdo (stS S k) = true) {b : Nat} (hb : b < stN S) (mode fl fs ls : Int32) : Aft S c 8 k si (ust mode fl fs ls (stB S b).2.2 0).2 (endS true (aUs S k b mode fl fs ls) k []) := by
  have ok1 : okS c (cmS S k) := ok.inc hk 0
  obtain ⟨m1, m2⟩ := ust_map mode fl fs ls (stB S b).2.2 0
  have ok2 : okS (c + 1) (aUs S k b mode fl fs ls) := okS_up (okS.mp ok1 hb m1 m2) (by omega)
  have hl30 : (stB S b).2.2.length ≤ 30 := (ok.2.2.1 b hb).2.2
  obtain ⟨a', e1, e2⟩ := ust_sum mode fl fs ls (stB S b).2.2 0
  have e1 : (ust mode fl fs ls (stB S b).2.2 0).2 = nI a' := e1
  exact aft_end ok2 hk ⟨rfl, rfl⟩ (idB_cg hid rfl (fun s _ => (cm_E S k s).2)) (szS_bx (S := cmS S k) sz (szM_map (sz b hb) m2)) (by show sxB (stS (cmS S k) k) ≠ -1; rw [(cm_E S k k).2.2]; exact (cdo_b hd).1) (by rw [e1]; exact nI_nn (by omega)) (fun W hW => RV_same ok.2.1.2 rfl (fun s _ _ => (cm_E S k s).1) hW) ⟨by omega, by omega⟩ (.inl rfl) (fun _ z => absurd z (by omega))
theorem a_exp (ok : okS c S) (hid : idB S) (sz : szS S) (hk : k < stM S) (hd : cdo (stS S k) = true) {b : Nat} (hb : b < stN S) {kind : Nat} (hkd : 9 ≤ kind ∧ kind ≤ 10) : Aft S c kind k si (nI ((stB S b).2.2.length - (keepD 0 2147483647 (stB S b).2.2).length)) (endS true (aDl (cmS S k) b) k []) := by
  have ok1 : okS c (cmS S k) := ok.inc hk 0
  have ok2 : okS (c + 1) (aDl (cmS S k) b) := okS_up (okS.del ok1 hb 0 2147483647) (by omega)
  have hl30 : (stB S b).2.2.length ≤ 30 := (ok.2.2.1 b hb).2.2
  exact aft_end ok2 hk ⟨rfl, rfl⟩ (idB_cg hid rfl (fun s _ => (cm_E S k s).2)) (szS_bx (S := cmS S k) sz (szM_sub (sz b hb) (keepD_sub _ _ _))) (by show sxB (stS (cmS S k) k) ≠ -1; rw [(cm_E S k k).2.2]; exact (cdo_b hd).1) (nI_nn (by omega)) (fun W hW => RV_same ok.2.1.2 rfl (fun s _ _ => (cm_E S k s).1) hW) ⟨by omega, by omega⟩ (.inl rfl) (fun _ z => absurd z (by omega))
theorem adds_S : ∀ (l : List (Int32 × Int32)) (nx : Int32), (adds nx l).map mS = l.map Prod.fst := by
  intro l
  induction l with
  | nil => intro nx; rfl
  | cons x t ih => intro nx; rw [adds, List.map_cons, List.map_cons, ih]; rfl
theorem cpy_szM {ms : Ms} (h : szM ms) (es : List En) : ∀ x ∈ (cpy ms es).map Prod.fst, 0 ≤ x ∧ x ≤ (9999 : Int32) := by
  intro x hx
  obtain ⟨y, hy, rfl⟩ := List.mem_map.mp hx
  obtain ⟨e, -, he⟩ := List.mem_filterMap.mp hy
  unfold cpm at he
  cases hm : mix ms (eU e) with
  | none => rw [hm] at he; cases he
  | some k =>
    rw [hm] at he
    have hk := mix_lt hm
    have : y = (mS (mg ms k), mF (mg ms k)) := (Option.some.inj he).symm
    rw [this]
    exact h (mS (mg ms k)) (List.mem_map.mpr ⟨mg ms k, by
      rw [mg, List.getD_eq_getElem?_getD, List.getElem?_eq_getElem hk]; exact List.getElem_mem hk, rfl⟩)
theorem cp_sz (sz : szS S) {b t i j : Nat} (hb : b < stN S) (ht : t < stN S) : szS (aCp S k b t i j) := by
  refine szS_bx (S := cmS S k) sz ?_
  intro x hx
  have hx : x ∈ ((stB S t).2.2 ++ adds (stB S t).2.1 (cpL S k b i j)).map mS := hx
  rw [List.map_append, adds_S] at hx
  rcases List.mem_append.mp hx with hx | hx
  · exact sz t ht x hx
  · exact cpy_szM (sz b hb) _ x hx
theorem cp_ok (ok : okS c S) (hc : c ≤ 1000) (hk : k < stM S) {b t i j : Nat} (hb : b < stN S) (ht : t < stN S) (hl : (stB S t).2.2.length + (cpL S k b i j).length ≤ 30) : okS (c + 1) (aCp S k b t i j) := by
  have ok1 : okS c (cmS S k) := ok.inc hk 0
  exact okS.cp ok1 hc ht hl (cpy_sz (ok.2.2.1 b hb).2.1 _)
theorem a_copy (ok : okS c S) (hc : c ≤ 1000) (hid : idB S) (sz : szS S) (hk : k < stM S) (hd : cdo (stS S k) = true) {b t i j : Nat} (hb : b < stN S) (ht : t < stN S) (hl : (stB S t).2.2.length + (cpL S k b i j).length ≤ 30) : Aft S c 11 k si (nI (cpL S k b i j).length) (endS true (aCp S k b t i j) k []) :=
  aft_end (cp_ok ok hc hk hb ht hl) hk ⟨rfl, rfl⟩ (idB_cg hid rfl (fun s _ => (cm_E S k s).2)) (cp_sz sz hb ht) (by show sxB (stS (cmS S k) k) ≠ -1; rw [(cm_E S k k).2.2]; exact (cdo_b hd).1) (nI_nn (by omega)) (fun W hW => RV_same ok.2.1.2 rfl (fun s _ _ => (cm_E S k s).1) hW) ⟨by omega, by omega⟩ (.inl rfl) (fun _ z => absurd z (by omega))
theorem a_move (ok : okS c S) (hc : c ≤ 1000) (hid : idB S) (sz : szS S) (hk : k < stM S) (hd : cdo (stS S k) = true) {b t i j : Nat} (hb : b < stN S) (ht : t < stN S) (hl : (stB S t).2.2.length + (cpL S k b i j).length ≤ 30) : Aft S c 12 k si (nI (cpL S k b i j).length) (endS true (aMv S k b t i j) k []) := by
  have ok2 := cp_ok ok hc hk hb ht hl
  have hms := rmv_sub (rng (sxE (stS S k)) i (j + 1)) (stB (aCp S k b t i j) b).2.2
  have ok3 : okS (c + 1) (aMv S k b t i j) := okS.setM ok2 (b := b) hb (okM_sub (ok2.2.2.1 b hb).2.1 hms) (Nat.le_trans hms.length_le (ok2.2.2.1 b hb).2.2)
  exact aft_end ok3 hk ⟨rfl, rfl⟩ (idB_cg hid rfl (fun s _ => (cm_E S k s).2)) (szS_bx (S := aCp S k b t i j) (cp_sz sz hb ht) (szM_sub (cp_sz sz hb ht b hb) hms)) (by show sxB (stS (cmS S k) k) ≠ -1; rw [(cm_E S k k).2.2]; exact (cdo_b hd).1) (nI_nn (by omega)) (fun W hW => RV_same ok.2.1.2 rfl (fun s _ _ => (cm_E S k s).1) hW) ⟨by omega, by omega⟩ (.inl rfl) (fun _ z => absurd z (by omega))
theorem a_close (ok : okS c S) (hid : idB S) (sz : szS S) (hk : k < stM S) (hd : cdo (stS S k) = true) {b n : Nat} (hb : b < stN S) (hn : n ≤ 30) : Aft S c 13 k si (nI n) (idl (aLv (bif sxR (stS S k) then cmS S k else aDl (cmS S k) b) k)) := by
  have ok1 : okS c (cmS S k) := ok.inc hk 0
  have ok2 := okS.del ok1 hb 0 2147483647
  have tail : ∀ T : St, okS c T → szS T → stN T = stN S → stM T = stM S → stS T = stS (cmS S k) → Aft S c 13 k si (nI n) (idl (aLv T k)) := by
    intro T okT szT nT mT sT
    have hkT : k < stM T := by rw [mT]; exact hk
    have okV : okS (c + 1) (aLv T k) := okS_up (okS.setS okT (okE_lv okT.2.1.1 (okT.2.2.2 k hkT))) (by omega)
    have hV : ∀ s, s ≠ k → stS (aLv T k) s = stS S s := fun s e => by
      have h1 : stS (aLv T k) s = stS T s := oth _ _ _ e
      rw [h1, sT]; exact oth _ _ _ e
    have hVk : stS (aLv T k) k = lvS (stS T k) := stS_set _ _ _
    have hIk : sxI (stS (aLv T k) k) = false := by
      rw [hVk]
      show sxI (stS T k) = false
      rw [sT, (cm_E S k k).2.1]; exact (cdo_b hd).2
    refine aft_idl okV ⟨nT, mT⟩ (fun s hs hi => ?_) szT (nI_nn (by omega)) (fun W hW => RV_same ok.2.1.2 mT (fun s _ e => by rw [hV s e]) hW) (fun _ => hIk) (.inr (by omega))
    by_cases e : s = k
    · rw [e, hIk] at hi; cases hi
    · rw [hV s e] at hi ⊢
      exact hid s (by rw [← mT]; exact hs) hi
  cases sxR (stS S k) with
  | true => exact tail _ ok1 sz rfl rfl rfl
  | false => exact tail _ ok2 (szS_bx (S := cmS S k) sz (szM_sub (sz b hb) (keepD_sub _ _ _))) rfl rfl rfl
theorem a_sel (ok : okS c S) (hc : c ≤ 1000) (hid : idB S) (sz : szS S) (hk : k < stM S) (hi : sxI (stS S k) = false) {b : Nat} (hb : b < stN S) (rd : Bool) : Aft S c 0 k si (nI (sxE (stS (idl (aSl S k b rd)).1 k)).length) (idl (aSl S k b rd)) := by
  have ok1 : okS c (cmS S k) := ok.inc hk 0
  have okV : okS c (aSl S k b rd) := okS.setS ok1 (okE_sel ok1 hc hb (ok1.2.2.2 k hk) rd)
  have okV1 := okS_up okV (c' := c + 1) (by omega)
  have hV : ∀ s, s ≠ k → stS (aSl S k b rd) s = stS S s := fun s e => (oth (cmS S k) k _ e).trans (oth S k _ e)
  have hIk : sxI (stS (aSl S k b rd) k) = false := by
    rw [aSl, stS_set]
    show sxI (stS (cmS S k) k) = false
    rw [(cm_E S k k).2.1]; exact hi
  have hl : (sxE (stS (idl (aSl S k b rd)).1 k)).length ≤ 60 := by
    have h1 := okV1.idlOk.1
    have hm : stM (idl (aSl S k b rd)).1 = stM S := (tlI_get (stM (aSl S k b rd)) 0 (aSl S k b rd) []).1.1.2
    exact (h1.2.2.2 k (show k < stM (idl (aSl S k b rd)).1 by rw [hm]; exact hk)).2.2.1
  refine aft_idl okV1 ⟨rfl, rfl⟩ (fun s hs hi => ?_) sz (nI_nn (by omega)) (fun W hW => RV_same ok.2.1.2 rfl (fun s _ e => by rw [hV s e]) hW) (fun _ => hIk) (.inl rfl)
  by_cases e : s = k
  · rw [e, hIk] at hi; cases hi
  · rw [hV s e] at hi ⊢
    exact hid s hs hi
theorem a_del (ok : okS c S) (hc : c ≤ 1000) (hid : idB S) (sz : szS S) {b : Nat} (hb : b < stN S) (hlen : (stB S b).2.2.length < 30) {sq fl : Int32} (s1 : 0 ≤ sq) (s2 : sq ≤ 9999) {kind : Nat} (hkd : 14 ≤ kind) : Aft S c kind k si (stB S b).2.1 (idl (aCm S b sq fl)) := by
  have okV : okS (c + 1) (aCm S b sq fl) := okS.add ok hc hb hlen sq fl s1
  have hbt : btO kind k = 9 := if_neg (by omega)
  have h4 := ok.2.1.2
  obtain ⟨⟨n, n1, n2, n3⟩, -⟩ := ok.2.2.1 b hb
  refine aft_idl okV ⟨rfl, rfl⟩ hid (szS_bx sz ?_) (by rw [n1]; exact nI_nn (by omega)) (fun W hW => RV_same h4 rfl (fun _ _ _ => rfl) hW) (fun z => ?_) (.inr (by omega))
  · intro x hx
    have hx : x ∈ ((stB S b).2.2 ++ [((stB S b).2.1, sq, fl)]).map mS := hx
    rw [List.map_append] at hx
    rcases List.mem_append.mp hx with hx | hx
    · exact sz b hb x hx
    · rw [List.map_singleton] at hx
      rw [List.mem_singleton.mp hx]
      exact ⟨s1, s2⟩
  · rw [hbt] at z
    have z : 9 < stM S := z
    omega
end
