/-! PURE, p53: what the law draws; its act -/
theorem and31 (x : Int32) : ∃ m, m < 2 ^ 31 ∧ x &&& 2147483647 = nI m := by
  refine ⟨(x &&& 2147483647).toBitVec.toNat, ?_, ?_⟩
  · rw [Int32.toBitVec_and, BitVec.toNat_and]
    exact Nat.lt_of_le_of_lt Nat.and_le_right (by decide)
  · apply Int32.toBitVec_inj.mp
    unfold nI
    rw [Int32.toBitVec_ofNat', BitVec.ofNat_toNat, BitVec.setWidth_eq]
theorem nI_quo {a k : Nat} (ha : a < 2 ^ 31) (hk : k < 2 ^ 31) : nI a / nI k = nI (a / k) := by
  apply Int32.toInt_inj.mp
  have h : a / k ≤ a := Nat.div_le_self a k
  rw [Int32.toInt_div]
  unfold nI
  rw [Int32.toInt_ofNat_small ha, Int32.toInt_ofNat_small hk, Int32.toInt_ofNat_small (Nat.lt_of_le_of_lt h ha)]
  rw [Int.tdiv_eq_ediv_of_nonneg (Int.natCast_nonneg a), ← Int.natCast_ediv]
  generalize a / k = q at h ⊢
  exact Int.bmod_eq_of_le (by omega) (by omega)
theorem nI_rem {a k : Nat} (ha : a < 2 ^ 31) (hk : k < 2 ^ 31) : nI a - nI a / nI k * nI k = nI (a % k) := by
  rw [nI_quo ha hk, nI_mul, nI_sub (Nat.div_mul_le_self a k)]
  congr 1
  have := Nat.div_add_mod a k
  rw [Nat.mul_comm] at this
  omega
def drX (Lx : Nat × (Nat → Int32)) (i : Nat) : Int32 := (if Lx.1 ≤ i then 0 else Lx.2 i) &&& 2147483647
def dr (Lx : Nat × (Nat → Int32)) (i k : Nat) : Nat := (drX Lx i).toNatClampNeg % k
theorem dr_lt (Lx : Nat × (Nat → Int32)) (i : Nat) {k : Nat} (hk : 0 < k) : dr Lx i k < k := Nat.mod_lt _ hk
theorem draw_e {M : Mem} {Lx : Nat × (Nat → Int32)} (hx : M.2.2 = Lx) (hL : Lx.1 < 2 ^ 31) {i k : Nat} (hi : i < 2 ^ 31) (hk : 0 < k) (hk2 : k < 2 ^ 31) : f_L_draw 42 (nI i) (nI k) M = some (nI (dr Lx i k)) := by
  have hs : sL M 42 = some (nI Lx.1) := by unfold sL; rw [if_pos rfl, hx]; rfl
  have k0 : ¬ nI k = 0 := by
    have := nI_eq (a := k) (b := 0) hk2 (by omega)
    exact fun z => by have := this.mp z; omega
  obtain ⟨m, m1, m2⟩ := and31 (if Lx.1 ≤ i then 0 else Lx.2 i)
  have hd : dr Lx i k = m % k := by
    unfold dr drX
    rw [m2, nI_c m1]
  rw [hd, ← nI_rem m1 hk2, ← m2]
  simp only [f_L_draw, hs, bso, dv]
  by_cases z : Lx.1 ≤ i
  · rw [if_pos (by rw [leT rfl rfl z hi]; trivial), if_neg k0, if_pos z]
  · rw [if_neg (by rw [leF rfl rfl (show i < Lx.1 by omega) hL]; exact id), if_neg z]
    have hc : sC M 42 (nI i) = some (Lx.2 i) := by
      unfold sC
      rw [hx, if_pos ⟨rfl, inR_nx (by omega) hL⟩, nI_c hi]
    simp only [hc, bso]
    rw [if_neg k0]
theorem bH_l {f : Option ((Int32 ⊕ String) × Mem)} {v : Int32} {M1 : Mem} {hs : List (String × Int32)} (h : f = some (.inl v, M1)) : (bH hs f fun x1 M2 => some (x1, M2)) = some (v, M1) := by rw [h]; rfl
theorem bH_r {f : Option ((Int32 ⊕ String) × Mem)} {M : Mem} (h : Refu f M) : (bH [("java/lang/IllegalStateException", (-2147483648))] f fun x1 M2 => some (x1, M2)) = some (-2147483648, mskip M) := by rw [h]; rfl
def siO (kind set : Nat) : Bool := decide (6 ≤ kind ∧ kind ≤ 7 ∧ 20 < set)
/-- what an act comes to -/
def ActR (f : Option ((Int32 ⊕ String) × Mem)) (M : Mem) (I O : List Int32) (S : St) (K : Nat → St) (B : Nat → Bool) (E : Er) (c kind one : Nat) (si : Bool) : Prop :=
  (∃ M', f = some (.inl (-2147483648), M') ∧ M'.1 = M.1 ∧ M'.2.2 = M.2.2) ∨
  ∃ v X C' H' M', f = some (.inl v, M') ∧ Cls M' I O X.1 K B C' H' X.2 E ∧ off M M' 100 616 ∧ X.2.length ≤ 244 ∧ (∀ x ∈ X.2, okNt x) ∧ Aft S c kind one si v X
section
variable {M : Mem} {I O : List Int32} {S : St} {K : Nat → St} {B : Nat → Bool} {C : Nat} {H : Nat → St} {N : List Nt} {E : Er} {c kind one : Nat} {si : Bool}
theorem ActR.ref0 : ActR (some (.inl (-2147483648), M)) M I O S K B E c kind one si := .inl ⟨M, rfl, rfl, rfl⟩
theorem ActR.of {f : Option ((Int32 ⊕ String) × Mem)} {g : Option (Int32 × Mem)} (hg : g = bH [("java/lang/IllegalStateException", (-2147483648))] f fun x1 M2 => some (x1, M2))
    (h : Refu f M ∨ ∃ v X c', Done f M I O K B E c' v X ∧ Aft S c kind one si v X) : ActR (g.bind fun (x, M2) => some (.inl x, M2)) M I O S K B E c kind one si := by
  subst hg
  rcases h with h | ⟨v, X, c', ⟨M', C', H', e, hc, ho, hok, hl, hn⟩, ha⟩
  · rw [bH_r h]
    exact .inl ⟨mskip M, rfl, rfl, rfl⟩
  · rw [bH_l e]
    exact .inr ⟨v, X, C', H', M', rfl, hc, ho, hl, hn, ha⟩
theorem act_81 (h : Cls M I O S K B C H N E) (ok : okS c S) (hc : c ≤ 1000) (hid : idB S) (sz : szS S) {Lx : Nat × (Nat → Int32)} (hx : M.2.2 = Lx) (hL : Lx.1 < 2 ^ 31) {q : Nat} (hq : q + 10 < 2 ^ 31) {b i j len : Nat} (hone : one < stM S) (hb : b < stN S) (hlen : len = (sxE (stS S one)).length)
    {fr to : Int32} (hij : 0 < len → fr = nI (i + 1) ∧ to = nI (j + 1) ∧ i ≤ j ∧ j < len) : ActR (f_L_act_81 100 42 (nI q) (nI one) (nI b) (nI len) fr to M) M I O S K B E c (dr Lx (q + 5) 16) one (siO (dr Lx (q + 5) 16) (dr Lx (q + 4) 32)) := by
  have hl60 : (sxE (stS S one)).length ≤ 60 := (ok.2.2.2 one hone).2.2.1
  obtain ⟨L, l1, l2, l3⟩ := id ok.1
  have d4 : f_L_draw 42 (nI q + 4) 32 M = some (nI (dr Lx (q + 4) 32)) := by
    have e : nI q + 4 = nI (q + 4) := nI_add q 4
    rw [e]; exact draw_e hx hL (k := 32) (by omega) (by omega) (by omega)
  have d5 : f_L_draw 42 (nI q + 5) 16 M = some (nI (dr Lx (q + 5) 16)) := by
    have e : nI q + 5 = nI (q + 5) := nI_add q 5
    rw [e]; exact draw_e hx hL (k := 16) (by omega) (by omega) (by omega)
  have k1 := dr_lt Lx (q + 5) (k := 16) (by omega)
  have s1 := dr_lt Lx (q + 4) (k := 32) (by omega)
  obtain ⟨kd, hkd⟩ : ∃ kd, kd = dr Lx (q + 5) 16 := ⟨_, rfl⟩
  obtain ⟨st, hst⟩ : ∃ st, st = dr Lx (q + 4) 32 := ⟨_, rfl⟩
  simp only [f_L_act_81, d4, d5, bso]
  rw [← hkd, ← hst]
  rw [← hkd] at k1
  rw [← hst] at s1
  have ls : nI len = 0 ↔ len = 0 := nI_eq (b := 0) (by omega) (by omega)
  have hmo : mfOK (nI (st % 3)) (nI st) = true := by
    unfold mfOK
    have m3 : st % 3 < 3 := Nat.mod_lt _ (by omega)
    have a1 : ¬ nI (st % 3) < 0 := Int32.not_lt.mpr (nI_ge0 (by omega))
    have a2 : ¬ 2 < nI (st % 3) := by
      have : ((2 : Int32) < nI (st % 3)) = (2 < st % 3) := ltI (x := 2) (a := 2) rfl rfl (by omega) (by omega)
      rw [this]; omega
    have a3 : ¬ nI st < 0 := Int32.not_lt.mpr (nI_ge0 (by omega))
    have a4 : ¬ 31 < nI st := by
      have : ((31 : Int32) < nI st) = (31 < st) := ltI (x := 31) (a := 31) rfl rfl (by omega) (by omega)
      rw [this]; omega
    rw [decide_eq_false a1, decide_eq_false a2, decide_eq_false a3, decide_eq_false a4]; rfl
  have md : ∀ k, k < 2 ^ 31 → nI st - nI st / nI k * nI k = nI (st % k) := fun k hk => nI_rem (by omega) hk
  have md3 : nI st - nI st / 3 * 3 = nI (st % 3) := md 3 (by omega)
  have wcd : ∀ {x : Sx}, (cdo x && !sxR x) = true → cdo x = true := fun hx => (Bool.and_eq_true_iff.mp hx).1
  have stp : sxI (stS S one) = true → sxB (stS S one) ≠ -1 := fun hi => hid one hone hi
  have hstore : ∀ kd', 6 ≤ kd' → kd' ≤ 7 → ActR (f_L_act_240 100 (nI one) (nI len) fr to (nI st) M) M I O S K B E c kd' one (siO kd' st) := by
    intro kd' g1 g2
    unfold f_L_act_240
    by_cases z : len = 0
    · rw [if_pos (ls.mpr z)]; exact ActR.ref0
    · rw [if_neg (fun w => z (ls.mp w))]
      obtain ⟨rfl, rfl, ho, hj⟩ := hij (by omega)
      have key : ∀ sl : Bool, siO kd' st = sl → ActR (f_L_act_274 100 (nI one) (nI (i + 1)) (nI (j + 1)) (nI (st % 3)) (nI st) sl M) M I O S K B E c kd' one (siO kd' st) := by
        intro sl hsl
        rw [hsl]
        refine ActR.of (f := f_X11_store 100 (nI one) (nI (i + 1)) (nI (j + 1)) (nI (st % 3)) (nI st) sl M) rfl ?_
        obtain ⟨w1, w2⟩ := c_store h ok hone (by omega) ho hmo sl
        cases hw : (cdo (stS S one) && !sxR (stS S one)) with
        | false => exact .inl (w1 hw)
        | true =>
          obtain ⟨b', hb', -, hdn⟩ := w2 hw
          exact .inr ⟨_, _, _, hdn, a_store ok hid sz hone (wcd hw) hb' ho (by omega) _ _ _ ⟨g1, g2⟩⟩
      have hle : (nI st ≤ 20) = (st ≤ 20) := leI (y := 20) (b := 20) rfl rfl (by omega) (by omega)
      rw [md3]
      by_cases y : st ≤ 20
      · rw [if_pos (by rw [hle]; exact y)]
        exact key false (decide_eq_false (by omega))
      · rw [if_neg (by rw [hle]; exact y)]
        exact key true (decide_eq_true (by omega))
  have hstop : ∀ kd', 3 ≤ kd' → kd' ≤ 4 → ActR (f_L_act_202 100 (nI one) M) M I O S K B E c kd' one (siO kd' st) := by
    intro kd' g1 g2
    refine ActR.of (f := f_X11_stopIdle 100 (nI one) M) rfl ?_
    obtain ⟨w1, w2⟩ := c_stopIdle h ok hone
    cases hw : sxI (stS S one) with
    | false => exact .inl (w1 hw)
    | true => exact .inr ⟨_, _, _, w2 hw, a_idle ok hid sz hone false (stp hw) ⟨by omega, by omega⟩⟩
  have hexp : ∀ kd', 9 ≤ kd' → kd' ≤ 10 → ActR (f_L_act_299 100 (nI one) M) M I O S K B E c kd' one (siO kd' st) := by
    intro kd' g1 g2
    refine ActR.of (f := f_X11_expunge 100 (nI one) M) rfl ?_
    obtain ⟨w1, w2⟩ := c_expunge h ok hone
    cases hw : (cdo (stS S one) && !sxR (stS S one)) with
    | false => exact .inl (w1 hw)
    | true =>
      obtain ⟨b', hb', -, hdn⟩ := w2 hw
      exact .inr ⟨_, _, _, hdn, a_exp ok hid sz hone (wcd hw) hb' ⟨g1, g2⟩⟩
  have hsel : ∀ rd, ActR (f_L_act_186 100 (nI one) (nI b) rd M) M I O S K B E c 0 one (siO 0 st) := by
    intro rd
    refine ActR.of (f := f_X11_select 100 (nI one) (nI b) rd M) rfl ?_
    obtain ⟨w1, w2⟩ := c_select h ok hc hone hb rd
    cases hw : sxI (stS S one) with
    | true => exact .inl (w1 hw)
    | false => exact .inr ⟨_, _, _, w2 hw, a_sel ok hc hid sz hone hw hb rd⟩
  have hdel : ∀ kd', 14 ≤ kd' → ActR ((f_L_delivered 100 (nI b) (1 + nI st) (nI st) M).bind fun (x35, M36) => some (.inl x35, M36)) M I O S K B E c kd' one (siO kd' st) := by
    intro kd' g1
    have e1 : 1 + nI st = nI (1 + st) := nI_1add st
    rw [e1]
    refine ActR.of (f := f_X11_deliver 100 (nI b) (nI (1 + st)) (nI st) M) rfl ?_
    have c1 : ¬ nI (1 + st) < 1 := by
      have : (nI (1 + st) < (1 : Int32)) = (1 + st < 1) := ltI (y := 1) (b := 1) rfl rfl (by omega) (by omega)
      rw [this]; omega
    have c2 : ¬ 9999 < nI (1 + st) := by
      have : ((9999 : Int32) < nI (1 + st)) = (9999 < 1 + st) := ltI (x := 9999) (a := 9999) rfl rfl (by omega) (by omega)
      rw [this]; omega
    have c3 : ¬ nI st < 0 := Int32.not_lt.mpr (nI_ge0 (by omega))
    have c4 : nI st ≤ 31 := by
      have : (nI st ≤ (31 : Int32)) = (st ≤ 31) := leI (y := 31) (b := 31) rfl rfl (by omega) (by omega)
      rw [this]; omega
    obtain ⟨w1, w2⟩ := c_deliver h ok hc hb l1 l3 c1 c2 c3 c4
    by_cases hw : (stB S b).2.2.length + 1 ≤ L
    · exact .inr ⟨_, _, _, w2 hw, a_del ok hc hid sz hb (by omega) (nI_nn (by omega)) (by
        have : (nI (1 + st) ≤ (9999 : Int32)) = (1 + st ≤ 9999) := leI (y := 9999) (b := 9999) rfl rfl (by omega) (by omega)
        rw [this]; omega) g1⟩
    · exact .inl (w1 hw)
  match kd, k1 with
  | 0, _ =>
    rw [if_pos (by decide)]
    by_cases z : nI st = 0
    · rw [if_pos z]; exact hsel true
    · rw [if_neg z]; exact hsel false
  | 1, _ =>
    rw [if_neg (by decide), if_pos (by decide)]
    refine ActR.of (f := f_X11_noop 100 (nI one) M) rfl ?_
    obtain ⟨w1, w2⟩ := c_noop h ok hone
    cases hw : cdo (stS S one) with
    | false => exact .inl (w1 hw)
    | true => exact .inr ⟨_, _, _, w2 hw, a_noop ok hid sz hone hw ⟨by omega, by omega⟩⟩
  | 2, _ =>
    rw [if_neg (by decide), if_neg (by decide), if_pos (by decide)]
    refine ActR.of (f := f_X11_startIdle 100 (nI one) M) rfl ?_
    obtain ⟨w1, w2⟩ := c_startIdle h ok hone
    cases hw : cdo (stS S one) with
    | false => exact .inl (w1 hw)
    | true => exact .inr ⟨_, _, _, w2 hw, a_idle ok hid sz hone true (cdo_b hw).1 ⟨by omega, by omega⟩⟩
  | 3, _ =>
    rw [if_neg (by decide), if_neg (by decide), if_neg (by decide), if_pos (by decide)]
    exact hstop 3 (by omega) (by omega)
  | 4, _ =>
    rw [if_neg (by decide), if_neg (by decide), if_neg (by decide), if_neg (by decide), if_pos (by decide)]
    exact hstop 4 (by omega) (by omega)
  | 5, _ =>
    rw [if_neg (by decide), if_neg (by decide), if_neg (by decide), if_neg (by decide), if_neg (by decide), if_pos (by decide)]
    by_cases z : len = 0
    · rw [if_pos (ls.mpr z)]; exact ActR.ref0
    · rw [if_neg (fun w => z (ls.mp w))]
      obtain ⟨rfl, rfl, ho, hj⟩ := hij (by omega)
      have key : ∀ p : Bool, ActR (f_L_act_236 100 (nI one) (nI (i + 1)) (nI (j + 1)) p M) M I O S K B E c 5 one (siO 5 st) := by
        intro p
        refine ActR.of (f := f_X11_fetch 100 (nI one) (nI (i + 1)) (nI (j + 1)) p M) rfl ?_
        obtain ⟨w1, w2⟩ := c_fetch h ok hone (by omega) ho p
        cases hw : cdo (stS S one) with
        | false => exact .inl (w1 hw)
        | true =>
          obtain ⟨b', hb', -, hdn⟩ := w2 hw
          exact .inr ⟨_, _, _, hdn, a_fetch ok hid sz hone hw hb' (by omega) p⟩
      split
      · exact key true
      · exact key false
  | 6, _ =>
    rw [if_neg (by decide), if_neg (by decide), if_neg (by decide), if_neg (by decide), if_neg (by decide), if_neg (by decide), if_pos (by decide)]
    exact hstore 6 (by omega) (by omega)
  | 7, _ =>
    rw [if_neg (by decide), if_neg (by decide), if_neg (by decide), if_neg (by decide), if_neg (by decide), if_neg (by decide), if_neg (by decide), if_pos (by decide)]
    exact hstore 7 (by omega) (by omega)
  | 8, _ =>
    rw [if_neg (by decide), if_neg (by decide), if_neg (by decide), if_neg (by decide), if_neg (by decide), if_neg (by decide), if_neg (by decide), if_neg (by decide), if_pos (by decide), md3]
    refine ActR.of (f := f_X11_uidStore 100 (nI one) (nI st - nI st / 5 * 5) (nI st - nI st / 11 * 11) (nI (st % 3)) (nI st) M) rfl ?_
    obtain ⟨w1, w2⟩ := c_uidStore h ok hone (nI st - nI st / 5 * 5) (nI st - nI st / 11 * 11) hmo
    cases hw : (cdo (stS S one) && !sxR (stS S one)) with
    | false => exact .inl (w1 hw)
    | true =>
      obtain ⟨b', hb', -, hdn⟩ := w2 hw
      exact .inr ⟨_, _, _, hdn, a_uids ok hid sz hone (wcd hw) hb' _ _ _ _⟩
  | 9, _ =>
    rw [if_neg (by decide), if_neg (by decide), if_neg (by decide), if_neg (by decide), if_neg (by decide), if_neg (by decide), if_neg (by decide), if_neg (by decide), if_neg (by decide), if_pos (by decide)]
    exact hexp 9 (by omega) (by omega)
  | 10, _ =>
    rw [if_neg (by decide), if_neg (by decide), if_neg (by decide), if_neg (by decide), if_neg (by decide), if_neg (by decide), if_neg (by decide), if_neg (by decide), if_neg (by decide), if_neg (by decide), if_pos (by decide)]
    exact hexp 10 (by omega) (by omega)
  | 11, _ =>
    rw [if_neg (by decide), if_neg (by decide), if_neg (by decide), if_neg (by decide), if_neg (by decide), if_neg (by decide), if_neg (by decide), if_neg (by decide), if_neg (by decide), if_neg (by decide), if_neg (by decide), if_pos (by decide)]
    by_cases z : len = 0
    · rw [if_pos (ls.mpr z)]; exact ActR.ref0
    · rw [if_neg (fun w => z (ls.mp w))]
      obtain ⟨rfl, rfl, ho, hj⟩ := hij (by omega)
      refine ActR.of (f := f_X11_copy 100 (nI one) (nI (i + 1)) (nI (j + 1)) (nI b) M) rfl ?_
      rcases c_copy h ok hc hone hb (show j < (sxE (stS S one)).length by omega) ho with w | ⟨b', hb', hd, -, hl, hdn⟩
      · exact .inl w
      · exact .inr ⟨_, _, _, hdn, a_copy ok hc hid sz hone hd hb' hb hl⟩
  | 12, _ =>
    rw [if_neg (by decide), if_neg (by decide), if_neg (by decide), if_neg (by decide), if_neg (by decide), if_neg (by decide), if_neg (by decide), if_neg (by decide), if_neg (by decide), if_neg (by decide), if_neg (by decide), if_neg (by decide), if_pos (by decide)]
    by_cases z : len = 0
    · rw [if_pos (ls.mpr z)]; exact ActR.ref0
    · rw [if_neg (fun w => z (ls.mp w))]
      obtain ⟨rfl, rfl, ho, hj⟩ := hij (by omega)
      refine ActR.of (f := f_X11_move 100 (nI one) (nI (i + 1)) (nI (j + 1)) (nI b) M) rfl ?_
      rcases c_move h ok hc hone hb (show j < (sxE (stS S one)).length by omega) ho with w | ⟨b', hb', hd, -, hl, hdn⟩
      · exact .inl w
      · exact .inr ⟨_, _, _, hdn, a_move ok hc hid sz hone (wcd hd) hb' hb hl⟩
  | 13, _ =>
    rw [if_neg (by decide), if_neg (by decide), if_neg (by decide), if_neg (by decide), if_neg (by decide), if_neg (by decide), if_neg (by decide), if_neg (by decide), if_neg (by decide), if_neg (by decide), if_neg (by decide), if_neg (by decide), if_neg (by decide), if_pos (by decide)]
    refine ActR.of (f := f_X11_close 100 (nI one) M) rfl ?_
    obtain ⟨w1, w2⟩ := c_close h ok hone
    cases hw : cdo (stS S one) with
    | false => exact .inl (w1 hw)
    | true =>
      obtain ⟨b', hb', -, n, hn, hdn⟩ := w2 hw
      exact .inr ⟨_, _, _, hdn, a_close ok hid sz hone hw hb' hn⟩
  | 14, _ =>
    rw [if_neg (by decide), if_neg (by decide), if_neg (by decide), if_neg (by decide), if_neg (by decide), if_neg (by decide), if_neg (by decide), if_neg (by decide), if_neg (by decide), if_neg (by decide), if_neg (by decide), if_neg (by decide), if_neg (by decide), if_neg (by decide)]
    exact hdel 14 (by omega)
  | 15, _ =>
    rw [if_neg (by decide), if_neg (by decide), if_neg (by decide), if_neg (by decide), if_neg (by decide), if_neg (by decide), if_neg (by decide), if_neg (by decide), if_neg (by decide), if_neg (by decide), if_neg (by decide), if_neg (by decide), if_neg (by decide), if_neg (by decide)]
    exact hdel 15 (by omega)
  | k + 16, hk => omega
theorem act_e (h : Cls M I O S K B C H N E) (ok : okS c S) (hc : c ≤ 1000) (hid : idB S) (sz : szS S) (hN : 0 < stN S) (hM : 0 < stM S) {Lx : Nat × (Nat → Int32)} (hx : M.2.2 = Lx) (hL : Lx.1 < 2 ^ 31) {q : Nat} (hq : q + 10 < 2 ^ 31) :
    ActR (f_L_act 100 42 (nI q) M) M I O S K B E c (dr Lx (q + 5) 16) (dr Lx q (stM S)) (siO (dr Lx (q + 5) 16) (dr Lx (q + 4) 32)) := by
  have h3 := ok.2.1.1
  have h4 := ok.2.1.2
  have ho := dr_lt Lx q hM
  have hb := dr_lt Lx (q + 1) hN
  obtain ⟨one', hone⟩ : ∃ one', one' = dr Lx q (stM S) := ⟨_, rfl⟩
  obtain ⟨b, hbb⟩ : ∃ b, b = dr Lx (q + 1) (stN S) := ⟨_, rfl⟩
  have d0 : f_L_draw 42 (nI q) (nI (stM S)) M = some (nI one') := by rw [hone]; exact draw_e hx hL (by omega) hM (by omega)
  have d1 : f_L_draw 42 (nI q + 1) (nI (stN S)) M = some (nI b) := by rw [hbb, nI_1]; exact draw_e hx hL (by omega) hN (by omega)
  rw [← hone] at ho ⊢
  rw [← hbb] at hb
  have hl60 : (sxE (stS S one')).length ≤ 60 := (ok.2.2.2 one' ho).2.2.1
  have q3 := (q_ses h ok ho).2.2.2.1
  obtain ⟨len, hlen⟩ : ∃ len, len = (sxE (stS S one')).length := ⟨_, rfl⟩
  rw [← hlen] at q3 hl60
  have ls : (nI len = 0) = (len = 0) := propext (nI_eq (b := 0) (by omega) (by omega))
  simp only [f_L_act, q_prop1 h, q_prop0 h, d0, d1, q3, bX, bso, ls]
  by_cases z : len = 0
  · rw [if_pos z]
    simp only [f_L_act_53, ls]
    rw [if_pos z]
    exact act_81 (i := 0) (j := 0) h ok hc hid sz hx hL hq ho hb hlen (fun w => absurd w (by omega))
  · rw [if_neg z]
    have d2 : f_L_draw 42 (nI q + 2) (nI len) M = some (nI (dr Lx (q + 2) len)) := by
      have e : nI q + 2 = nI (q + 2) := nI_add q 2
      rw [e]; exact draw_e hx hL (by omega) (by omega) (by omega)
    have i1 := dr_lt Lx (q + 2) (k := len) (by omega)
    obtain ⟨i, hi⟩ : ∃ i, i = dr Lx (q + 2) len := ⟨_, rfl⟩
    rw [← hi] at d2 i1
    have e1 : 1 + nI i = nI (i + 1) := by rw [nI_1add, Nat.add_comm]
    have e2 : nI len - nI (i + 1) + 1 = nI (len - i) := by
      rw [nI_sub (by omega), nI_1]
      congr 1
      omega
    have d3 : f_L_draw 42 (nI q + 3) (nI (len - i)) M = some (nI (dr Lx (q + 3) (len - i))) := by
      have e : nI q + 3 = nI (q + 3) := nI_add q 3
      rw [e]; exact draw_e hx hL (by omega) (by omega) (by omega)
    have j1 := dr_lt Lx (q + 3) (k := len - i) (by omega)
    obtain ⟨j, hj⟩ : ∃ j, j = dr Lx (q + 3) (len - i) := ⟨_, rfl⟩
    rw [← hj] at d3 j1
    have e3 : nI (i + 1) + nI j = nI (i + j + 1) := by
      rw [nI_add]
      congr 1
      omega
    simp only [d2, bso, e1, f_L_act_53, ls]
    rw [if_neg z]
    simp only [e2, d3, bso, e3]
    exact act_81 (i := i) (j := i + j) h ok hc hid sz hx hL hq ho hb hlen (fun _ => ⟨rfl, rfl, by omega, by omega⟩)
end
