/-! PURE, p53: the law loads its text, and finds what it wrote -/
theorem Bd.new {M : Mem} {r : Nat} {l : List Int32} (h : Bd M r l) (c : PC) : Bd (mnew M c) r l := by
  obtain ⟨a, cap, ⟨⟨z, p⟩, b, hr, ha⟩, hc, hl⟩ := h
  have k : ∀ q, q < M.2.1 → (mnew M c).1 q = M.1 q := fun q hq => mnew_ne c (by omega)
  have e : (mnew M c).2.1 = M.2.1 + 1 := rfl
  exact ⟨a, cap, ⟨⟨z, by rw [k r hr.2]; exact p⟩, b.cg (k a ha.2), ⟨hr.1, by omega⟩, ⟨ha.1, by omega⟩⟩, hc, hl⟩
theorem bxsA_T (nb : Nat) : ∀ d k, pcT (bxsA nb d k) = bxT d k := by
  intro d
  induction d with
  | zero => intro k; rfl
  | succ d ih => intro k; rw [bxsA, pcT_app, ih, bxT, boxP_T]
theorem msA_T : ∀ (ms : List (Nat × Nat × Nat)), (∀ m ∈ ms, m.2.2 < 32) → pcT (msA ms) = mT ms := by
  intro ms
  induction ms with
  | nil => intro _; rfl
  | cons m t ih => intro h; rw [msA, pcT_app, ih (fun x hx => h x (List.mem_cons_of_mem _ hx)), mT, msP_T (h m List.mem_cons_self)]
theorem seA_T : ∀ (ss : List (Nat × Nat × Nat)), pcT (seA ss) = sT ss := by
  intro ss
  induction ss with
  | nil => rfl
  | cons s t ih => rw [seA, pcT_app, ih, sT, seP_T]
theorem gd_boxes {nb : Nat} {z : List Pc} (hz : gdT z) : ∀ d k, k + d ≤ 3 → gdT (bxsA nb d k ++ z) := by
  intro d
  induction d with
  | zero => intro k _; exact hz
  | succ d ih => intro k h; rw [bxsA, List.append_assoc]; exact gd_box (by omega) (ih (k + 1) (by omega))
theorem okC_m : ∀ {ms : List (Nat × Nat × Nat)} {lim nb : Nat} {cnt : Nat → Nat}, okC lim nb ms cnt → ∀ m ∈ ms, m.1 < nb ∧ m.2.1 ≤ 999 ∧ m.2.2 < 32 := by
  intro ms
  induction ms with
  | nil => intro _ _ _ _ m hm; exact nomatch hm
  | cons x t ih =>
    intro lim nb cnt h m hm
    rcases List.mem_cons.mp hm with rfl | hm
    · exact ⟨h.1.1.1, h.1.2.1.2, h.1.2.2⟩
    · exact ih h.2 m hm
theorem gd_msgs {z : List Pc} (hz : gdT z) : ∀ (ms : List (Nat × Nat × Nat)), (∀ m ∈ ms, m.1 < 4 ∧ m.2.1 ≤ 999 ∧ m.2.2 < 32) → gdT (msA ms ++ z) := by
  intro ms
  induction ms with
  | nil => intro _; exact hz
  | cons m t ih =>
    intro h
    rw [msA, List.append_assoc]
    obtain ⟨a, b, -⟩ := h m List.mem_cons_self
    exact gd_msg a (by omega) (ih (fun x hx => h x (List.mem_cons_of_mem _ hx)))
theorem gd_sess {z : List Pc} (hz : gdT z) : ∀ (ss : List (Nat × Nat × Nat)), (∀ s ∈ ss, s.1 < 4 ∧ s.2.2 < 4) → gdT (seA ss ++ z) := by
  intro ss
  induction ss with
  | nil => intro _; exact hz
  | cons m t ih =>
    intro h
    rw [seA, List.append_assoc]
    obtain ⟨a, b⟩ := h m List.mem_cons_self
    exact gd_ses a b (ih (fun x hx => h x (List.mem_cons_of_mem _ hx)))
theorem okC_mLs (Lx : Nat × (Nat → Int32)) {nb lim : Nat} (hb : 0 < nb) : ∀ (d k : Nat) (cnt : Nat → Nat), (∀ j, cnt j ≤ lim) → okC lim nb (mLs Lx nb lim d k cnt) cnt ∧ (mLs Lx nb lim d k cnt).length ≤ d := by
  intro d
  induction d with
  | zero => intro k cnt _; exact ⟨trivial, Nat.le_refl _⟩
  | succ d ih =>
    intro k cnt h
    rw [mLs]
    by_cases z : cnt (dr Lx (10 + k) nb) = lim
    · rw [if_pos z]
      obtain ⟨a, b⟩ := ih (k + 1) cnt h
      exact ⟨a, by omega⟩
    · rw [if_neg z]
      have h1 := h (dr Lx (10 + k) nb)
      have h2 := dr_lt Lx (20 + k) (k := 500) (by omega)
      obtain ⟨a, b⟩ := ih (k + 1) (va_up cnt (dr Lx (10 + k) nb) (cnt (dr Lx (10 + k) nb) + 1)) (fun j => by
        rw [va_up_if]
        split
        · omega
        · exact h j)
      refine ⟨⟨⟨⟨dr_lt Lx _ hb, by show cnt (dr Lx (10 + k) nb) < lim; omega⟩, ⟨by show 1 ≤ 1 + _; omega, by show 1 + dr Lx (20 + k) 500 ≤ 999; omega⟩, dr_lt Lx _ (by omega)⟩, a⟩, by rw [List.length_cons]; omega⟩
theorem sLs_len (Lx : Nat × (Nat → Int32)) (nb : Nat) : ∀ d k, (sLs Lx nb d k).length = d := by
  intro d
  induction d with
  | zero => intro k; rfl
  | succ d ih => intro k; rw [sLs, List.length_cons, ih]
theorem sLs_get (Lx : Nat × (Nat → Int32)) (nb : Nat) : ∀ d k j, j < d → (sLs Lx nb d k).getD j (0, 0, 0) = (k + j, dr Lx (4 + (k + j)) 6, dr Lx (40 + (k + j)) nb) := by
  intro d
  induction d with
  | zero => intro k j h; exact absurd h (Nat.not_lt_zero j)
  | succ d ih =>
    intro k j h
    cases j with
    | zero => rfl
    | succ j =>
      show (sLs Lx nb d (k + 1)).getD j (0, 0, 0) = _
      rw [ih (k + 1) j (by omega), show k + 1 + j = k + (j + 1) by omega]
/-- what the text says -/
def TxQ (Lx : Nat × (Nat → Int32)) (nb sN lim : Nat) (ms : List (Nat × Nat × Nat)) (T : St) : Prop := stL T = nI lim ∧ stN T = nb ∧ stM T = sN ∧ (∀ j, j < nb → (stB T j).2.2.length = cnM ms (fun _ => 0) j ∧ szM (stB T j).2.2) ∧
  ∀ j, j < sN → sxB (stS T j) = itB (j, dr Lx (4 + j) 6, dr Lx (40 + j) nb) ∧ sxR (stS T j) = decide (dr Lx (4 + j) 6 = 1)
theorem txt_e (Lx : Nat × (Nat → Int32)) {nb sN lim : Nat} {ms : List (Nat × Nat × Nat)} (hb0 : 0 < nb) (hb : nb ≤ 3) (hs : sN ≤ 4) (h1 : 1 ≤ lim) (h30 : lim ≤ 30) (hm : ms.length ≤ 8) (hok : okC lim nb ms (fun _ => 0)) (Sl : St) :
    ∃ P, pTxt (lsBy 0 ++ dgs lim ++ lsBy 1 ++ bxT nb 0 ++ mT ms ++ sT (sLs Lx nb sN 0)) (clr Sl) = .inl P ∧ TxQ Lx nb sN lim ms P.2.1 := by
  obtain ⟨T, hT⟩ : ∃ T, T = limP lim ++ (bxsA nb nb 0 ++ (msA ms ++ (seA (sLs Lx nb sN 0) ++ []))) := ⟨_, rfl⟩
  have hmm := okC_m hok
  have hl : lsBy 0 ++ dgs lim ++ lsBy 1 ++ bxT nb 0 ++ mT ms ++ sT (sLs Lx nb sN 0) = pcT T := by
    rw [hT, pcT_app, pcT_app, pcT_app, pcT_app, limP_T, bxsA_T, msA_T ms (fun m hm => (hmm m hm).2.2), seA_T]
    show _ = _ ++ (_ ++ (_ ++ (_ ++ [])))
    simp only [List.append_assoc, List.append_nil]
  have hg : gdT T := by
    rw [hT]
    refine gd_lim (by omega) (gd_boxes (gd_msgs (gd_sess (z := []) (trivial : gdT []) _ (fun s hs => ?_)) ms (fun m hm => ⟨by have := (hmm m hm).1; omega, (hmm m hm).2⟩)) nb 0 (by omega))
    obtain ⟨j, hj, rfl⟩ := List.getElem_of_mem hs
    have hj' : j < sN := by rw [sLs_len] at hj; exact hj
    have e := sLs_get Lx nb sN 0 j hj'
    rw [List.getD_eq_getElem?_getD, List.getElem?_eq_getElem hj] at e
    have e : (sLs Lx nb sN 0)[j] = _ := e
    rw [e]
    exact ⟨by show 0 + j < 4; omega, Nat.lt_of_lt_of_le (dr_lt Lx _ hb0) (by omega)⟩
  rw [hl]
  obtain ⟨S1, hS1⟩ : ∃ S1 : St, S1 = (nI lim, (clr Sl).2) := ⟨_, rfl⟩
  have p0 := p_lim hg h1 h30 hT (clr Sl)
  rw [← hS1] at p0
  have n1 : stN S1 = 0 := by rw [hS1]; rfl
  have m1 : stM S1 = 0 := by rw [hS1]; rfl
  have l1 : stL S1 = nI lim := by rw [hS1]; rfl
  obtain ⟨S2, a1, a2, a3, a4, a5⟩ := all_boxes hg hb nb 0 (700 - nb) (limP lim) (msA ms ++ (seA (sLs Lx nb sN 0) ++ [])) 3 S1 (true, false) (by omega) hT rfl n1 (fun j hj => absurd hj (Nat.not_lt_zero j))
  rw [show 700 - nb + nb = 700 by omega] at a1
  obtain ⟨S3, x3, b1, b2, b3, b4, b5⟩ := all_msgs hg hb h30 ms (700 - nb - ms.length) (limP lim ++ bxsA nb nb 0) (seA (sLs Lx nb sN 0) ++ []) (limP lim ++ bxsA nb nb 0).length S2 (fun _ => 0) (true, false) hok (by rw [hT]; simp only [List.append_assoc]) rfl a2 (a3.trans l1) (fun j hj => by
    obtain ⟨c1, c2⟩ := a5 j hj
    exact ⟨c1, by rw [c2]; rfl, by rw [c2]; intro x hx; exact nomatch hx⟩)
  rw [show 700 - nb - ms.length + ms.length = 700 - nb by omega] at b1
  obtain ⟨S4, c1, c2, c3, c4, c5, -, c7⟩ := rd_ses hg hb (sLs Lx nb sN 0) 0 (700 - nb - ms.length - sN) (limP lim ++ bxsA nb nb 0 ++ msA ms) [] (limP lim ++ bxsA nb nb 0 ++ msA ms).length S3 x3 (fun j hj => by
    rw [sLs_len] at hj
    rw [sLs_get Lx nb sN 0 j hj]
    exact ⟨rfl, dr_lt Lx _ hb0⟩) (by rw [sLs_len]; omega) (by rw [hT]; simp only [List.append_assoc]) rfl b2 (fun j hj => (b5 j hj).1) (b4.trans (a4.trans m1)) (fun j hj => absurd hj (Nat.not_lt_zero j))
  rw [sLs_len] at c1 c5 c7
  rw [show 700 - nb - ms.length - sN + sN = 700 - nb - ms.length by omega] at c1
  have hend : limP lim ++ bxsA nb nb 0 ++ msA ms ++ seA (sLs Lx nb sN 0) = T := by rw [hT]; simp only [List.append_assoc, List.append_nil]
  rw [hend] at c1
  obtain ⟨f, hf⟩ : ∃ f, 700 - nb - ms.length - sN = f + 1 := ⟨700 - nb - ms.length - sN - 1, by omega⟩
  rw [hf, pAll, if_pos (tok_e hg)] at c1
  refine ⟨(T.length, S4, x3), ?_, c4.trans b3, c3, by rw [c5]; omega, fun j hj => by rw [c2]; exact (b5 j hj).2, fun j hj => ?_⟩
  · unfold pTxt
    rw [p0]
    show pAll (pcT T) 700 (3, S1, true, false) = _
    rw [a1, b1, c1]
  · have := c7 j hj
    rw [Nat.zero_add, sLs_get Lx nb sN 0 j hj, Nat.zero_add] at this
    exact this
/-- sums over at most three boxes -/
def sm3 (nb : Nat) (f : Nat → Nat) : Nat := (if 0 < nb then f 0 else 0) + ((if 1 < nb then f 1 else 0) + (if 2 < nb then f 2 else 0))
theorem sm3_up {nb to : Nat} (hto : to < nb) (hb : nb ≤ 3) (f : Nat → Nat) : sm3 nb (va_up f to (f to + 1)) = sm3 nb f + 1 := by
  unfold sm3
  rw [va_up_if, va_up_if, va_up_if]
  match to, hto with
  | 0, h => rw [if_pos (show (0 : Nat) = 0 from rfl), if_neg (show ¬ (1 : Nat) = 0 by omega), if_neg (show ¬ (2 : Nat) = 0 by omega)]; simp only [if_pos h]; omega
  | 1, h => rw [if_neg (show ¬ (0 : Nat) = 1 by omega), if_pos (show (1 : Nat) = 1 from rfl), if_neg (show ¬ (2 : Nat) = 1 by omega)]; simp only [if_pos h]; omega
  | 2, h => rw [if_neg (show ¬ (0 : Nat) = 2 by omega), if_neg (show ¬ (1 : Nat) = 2 by omega), if_pos (show (2 : Nat) = 2 from rfl)]; simp only [if_pos h]; omega
  | t + 3, h => omega
theorem sm3_cnM {nb lim : Nat} (hb : nb ≤ 3) : ∀ (ms : List (Nat × Nat × Nat)) (cnt : Nat → Nat), okC lim nb ms cnt → sm3 nb (cnM ms cnt) = sm3 nb cnt + ms.length := by
  intro ms
  induction ms with
  | nil => intro cnt _; rfl
  | cons m t ih =>
    intro cnt h
    rw [cnM, ih _ h.2, sm3_up h.1.1.1 hb, List.length_cons]
    omega
theorem cntM_sm {S : St} (hb : stN S ≤ 3) : cntM S = nI (sm3 (stN S) (fun j => (stB S j).2.2.length)) := by
  unfold cntM sm3
  match hn : stN S, hb with
  | 0, _ => rfl
  | 1, _ =>
    show (0 : Int32) + nI _ = nI _
    rw [Int32.zero_add]; rfl
  | 2, _ =>
    show (0 : Int32) + nI _ + nI _ = nI (_ + (_ + 0))
    rw [Int32.zero_add, nI_add]; rfl
  | 3, _ =>
    show (0 : Int32) + nI _ + nI _ + nI _ = nI (_ + (_ + _))
    rw [Int32.zero_add, nI_add, nI_add, Nat.add_assoc]; rfl
  | n + 4, h => omega
/-- all messages of a box are new to a session that enters -/
theorem nw_all : ∀ (ms : Ms) (hi : Int32) (es : List En), ascU hi ms → es.length + ms.length ≤ 60 → (nw hi es ms).2.length = es.length + ms.length := by
  intro ms
  induction ms with
  | nil => intro hi es _ _; rfl
  | cons m t ih =>
    intro hi es h hl
    rw [List.length_cons] at hl
    have hn : newer hi m = true := by
      unfold newer
      rw [decide_eq_false (Int32.not_le.mpr h.1)]; rfl
    rw [nw, if_pos (show es.length < 60 by omega), if_pos hn, ih (mU m) _ h.2 (by rw [List.length_append, List.length_singleton]; omega), List.length_append, List.length_singleton, List.length_cons]
    omega
theorem ascU_okM {nx : Int32} {ms : Ms} (h : okM nx ms) : ascU 0 ms := h.1
section
variable {Lx : Nat × (Nat → Int32)} {nb sN lim : Nat} {ms : List (Nat × Nat × Nat)}
variable {I O : List Int32} {S T0 : St} {K : Nat → St} {B : Nat → Bool} {C : Nat} {H : Nat → St} {N : List Nt} {E : Er} {M : Mem} {p : Nat}
/-- the state behind the load -/
def LdQ (Lx : Nat × (Nat → Int32)) (nb sN lim : Nat) (ms : List (Nat × Nat × Nat)) (S : St) : Prop := stL S = nI lim ∧ stN S = nb ∧ stM S = sN ∧ (∀ j, j < nb → (stB S j).2.2.length = cnM ms (fun _ => 0) j ∧ (stB S j).2.1 = nI (cnM ms (fun _ => 0) j + 1) ∧ szM (stB S j).2.2 ∧ (stB S j).2.2.length ≤ 30) ∧
  ∀ j, j < sN → sxB (stS S j) = itB (j, dr Lx (4 + j) 6, dr Lx (40 + j) nb) ∧ sxR (stS S j) = decide (dr Lx (4 + j) 6 = 1) ∧ sxI (stS S j) = false ∧ (sxE (stS S j)).length = if dr Lx (4 + j) 6 = 0 then 0 else cnM ms (fun _ => 0) (dr Lx (40 + j) nb)
theorem ld_of (hb0 : 0 < nb) (hb : nb ≤ 3) (hq : TxQ Lx nb sN lim ms T0) (hp : pOK T0) (ga : agr S (entS T0)) : LdQ Lx nb sN lim ms S := by
  obtain ⟨q1, q2, q3, q4, q5⟩ := hq
  obtain ⟨g1, g2, g3, g4, g5⟩ := ga
  have g2 : stN S = stN T0 := g2
  have g3 : stM S = stM T0 := g3
  have hbx : ∀ j, j < nb → (stB T0 j).2.1 = nI ((stB T0 j).2.2.length + 1) ∧ okM (stB T0 j).2.1 (stB T0 j).2.2 ∧ (stB T0 j).2.2.length ≤ 30 := fun j hj => hp.2.1 j (by omega)
  refine ⟨g1.trans q1, g2.trans q2, g3.trans q3, fun j hj => ?_, fun j hj => ?_⟩
  · have e : stB S j = stB T0 j := g4 j (by show j < stN T0; omega)
    obtain ⟨a, -, c⟩ := hbx j hj
    obtain ⟨d, f⟩ := q4 j hj
    rw [e]
    exact ⟨d, by rw [a, d], f, c⟩
  · have e : stS S j = ent T0 (stS T0 j) := g5 j (by show j < stM T0; omega)
    obtain ⟨J, bx, rd, hs, hok, hno⟩ := hp.2.2 j (by omega)
    obtain ⟨a, b⟩ := q5 j hj
    have hI : sxI (stS T0 j) = false := by rw [hs]; rfl
    have hE : sxE (stS T0 j) = [] := by rw [hs]; rfl
    rw [e]
    unfold ent
    by_cases z : sxB (stS T0 j) = -1
    · rw [if_pos z]
      refine ⟨a, b, hI, ?_⟩
      have h0 : dr Lx (4 + j) 6 = 0 := by
        rcases Nat.eq_zero_or_pos (dr Lx (4 + j) 6) with y | y
        · exact y
        · rw [a] at z
          have : itB (j, dr Lx (4 + j) 6, dr Lx (40 + j) nb) = nI (dr Lx (40 + j) nb) := if_neg (show ¬ dr Lx (4 + j) 6 = 0 by omega)
          have hlt := dr_lt Lx (40 + j) hb0
          rw [this, nI_m1 (by omega)] at z
          exact z.elim
      rw [hE, if_pos h0]; rfl
    · rw [if_neg z]
      refine ⟨a, b, hI, ?_⟩
      have h0 : ¬ dr Lx (4 + j) 6 = 0 := fun y => z (by rw [a]; exact if_pos y)
      have hlt := dr_lt Lx (40 + j) hb0
      have hB : sxB (stS T0 j) = nI (dr Lx (40 + j) nb) := by rw [a]; exact if_neg h0
      rw [if_neg h0]
      show (nw 0 [] (bof T0 (sxB (stS T0 j)))).2.length = _
      obtain ⟨-, c, d⟩ := hbx (dr Lx (40 + j) nb) hlt
      rw [hB, bof_in (by omega), nw_all _ 0 [] c.1 (by show 0 + _ ≤ 60; omega), (q4 _ hlt).1]
      show 0 + _ = _
      rw [Nat.zero_add]
theorem ld_ses (hL : Lx.1 < 2 ^ 31) (hx : M.2.2 = Lx) (h : Cls M I O S K B C H N E) (ok : okS 0 S) (hb0 : 0 < nb) (hb : nb ≤ 3) (hs4 : sN ≤ 4) (hq : LdQ Lx nb sN lim ms S) (ha : iA M p (cl3 (cnM ms (fun _ => 0)))) : ∀ (d k fu : Nat), k + d = sN → d < fu → f_L_load_445 fu 100 42 (nI nb) (nI sN) p (nI k) M = some (.inl true, M) := by
  obtain ⟨q1, q2, q3, q4, q5⟩ := hq
  intro d
  induction d with
  | zero =>
    intro k fu hk hf
    obtain ⟨fu, rfl⟩ : ∃ x, fu = x + 1 := ⟨fu - 1, by omega⟩
    simp only [f_L_load_445]
    rw [if_pos (by rw [leT rfl rfl (show sN ≤ k by omega) (by omega)]; trivial)]
  | succ d ih =>
    intro k fu hk hf
    obtain ⟨fu, rfl⟩ : ∃ x, fu = x + 1 := ⟨fu - 1, by omega⟩
    have hih := ih (k + 1) fu (by omega) (by omega)
    have hks : k < stM S := by omega
    obtain ⟨a1, a2, a3, a4⟩ := q5 k (by omega)
    have q := q_ses h ok hks
    rw [a1, a2, a3, a4] at q
    obtain ⟨x0, x1, x2, x3, -⟩ := q
    have hho := dr_lt Lx (4 + k) (k := 6) (by omega)
    have hbb := dr_lt Lx (40 + k) hb0
    obtain ⟨ho, eho⟩ : ∃ ho, ho = dr Lx (4 + k) 6 := ⟨_, rfl⟩
    obtain ⟨b, eb⟩ : ∃ b, b = dr Lx (40 + k) nb := ⟨_, rfl⟩
    have d1 : f_L_draw 42 (4 + nI k) 6 M = some (nI ho) := by
      have e : 4 + nI k = nI (4 + k) := nI_add 4 k
      rw [e, eho]; exact draw_e hx hL (k := 6) (by omega) (by omega) (by omega)
    have d2 : f_L_draw 42 (40 + nI k) (nI nb) M = some (nI b) := by
      have e : 40 + nI k = nI (40 + k) := nI_add 40 k
      rw [e, eb]; exact draw_e hx hL (by omega) hb0 (by omega)
    rw [← eho, ← eb] at x0 x3
    rw [← eho] at x1 hho
    rw [← eb] at hbb
    have h0 : (nI ho = 0) ↔ (ho = 0) := nI_eq (b := 0) (by omega) (by omega)
    have h1 : (nI ho = 1) ↔ (ho = 1) := nI_eq (b := 1) (by omega) (by omega)
    have fin : ∀ its : Int32, its = itB (k, ho, b) → f_L_load_482 (f_L_load_445 fu) 100 42 (nI nb) (nI sN) p (nI k) (nI ho) its M = some (.inl true, M) := by
      intro its hits
      have f514 : ∀ y : Bool, y = decide (ho = 1) → f_L_load_514 (f_L_load_445 fu) 100 42 (nI nb) (nI sN) p (nI k) its (b2i (decide (ho = 1))) y M = some (.inl true, M) := by
        intro y hy
        unfold f_L_load_514
        rw [if_pos (by rw [hy])]
        simp only [x2, bX, bso]
        rw [if_pos (show b2i false = 0 from rfl)]
        simp only [x3, bX, bso, f_L_load_548, nI_1]
        by_cases z : ho = 0
        · have : its = -1 := by rw [hits]; exact if_pos z
          rw [this, if_neg (by decide), if_pos z, if_pos (show nI 0 = 0 from rfl)]
          exact hih
        · have : its = nI b := by rw [hits]; exact if_neg z
          rw [this, if_pos (nI_ge0 (by omega)), if_neg z, ha.g (by show b < 3; omega), cl3_get _ (by omega)]
          simp only [bso]
          rw [if_pos trivial]
          exact hih
      unfold f_L_load_482
      simp only [x0, bX, bso]
      rw [if_pos hits.symm]
      simp only [x1, bX, bso]
      by_cases z : ho = 1
      · rw [if_pos (h1.mpr z)]; exact f514 true (decide_eq_true z).symm
      · rw [if_neg (fun w => z (h1.mp w))]; exact f514 false (decide_eq_false z).symm
    simp only [f_L_load_445]
    rw [if_neg (by rw [leF rfl rfl (show k < sN by omega) (by omega)]; exact id)]
    simp only [d1, bso]
    by_cases z : ho = 0
    · rw [if_pos (h0.mpr z)]
      exact fin (-1) (if_pos z).symm
    · rw [if_neg (fun w => z (h0.mp w))]
      simp only [d2, bso]
      exact fin (nI b) (if_neg z).symm
theorem ld_box (hL : Lx.1 < 2 ^ 31) (hx : M.2.2 = Lx) (h : Cls M I O S K B C H N E) (ok : okS 0 S) (hb0 : 0 < nb) (hb : nb ≤ 3) (hs4 : sN ≤ 4) (hq : LdQ Lx nb sN lim ms S) (ha : iA M p (cl3 (cnM ms (fun _ => 0)))) : ∀ (d k fu : Nat), k + d = nb → d < fu → f_L_load_396 fu 100 42 (nI nb) (nI sN) p (nI k) M = some (.inl true, M) := by
  intro d
  induction d with
  | zero =>
    intro k fu hk hf
    obtain ⟨fu, rfl⟩ : ∃ x, fu = x + 1 := ⟨fu - 1, by omega⟩
    simp only [f_L_load_396]
    rw [if_pos (by rw [leT rfl rfl (show nb ≤ k by omega) (by omega)]; trivial)]
    exact ld_ses hL hx h ok hb0 hb hs4 hq ha sN 0 5 (by omega) (by omega)
  | succ d ih =>
    intro k fu hk hf
    obtain ⟨fu, rfl⟩ : ∃ x, fu = x + 1 := ⟨fu - 1, by omega⟩
    have hih := ih (k + 1) fu (by omega) (by omega)
    obtain ⟨a1, a2, -, a4⟩ := hq.2.2.2.1 k (by omega)
    have hks : k < stN S := by have := hq.2.1; omega
    have b0 := q_box0 h hks
    have b1 := q_box1 h hks
    rw [a1] at b0 a4
    rw [a2] at b1
    simp only [f_L_load_396]
    rw [if_neg (by rw [leF rfl rfl (show k < nb by omega) (by omega)]; exact id)]
    simp only [b0, b1, ha.g (show k < (cl3 (cnM ms (fun _ => 0))).length by show k < 3; omega), cl3_get _ (show k < 3 by omega), bX, bso, nI_1]
    rw [if_pos trivial, if_pos trivial]
    exact hih
end
