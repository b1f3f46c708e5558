/-! PURE, p53: a turn of the law -/
def InvL (t : Nat) (Lx : Nat × (Nat → Int32)) (M : Mem) : Prop := M.2.2 = Lx ∧ ∃ I O S K B C H N E, Cls M I O S K B C H N E ∧ okS t S ∧ idB S ∧ szS S ∧ 0 < stN S ∧ 0 < stM S
theorem idQ.b {S : St} (h : idQ S) : idB S := fun s hs hi => (h s hs hi).1
def vw0 (S : St) : Nat → Vw := fun s => (sxE (stS S s)).map (fun e => (eU e, eT e))
theorem vw0_R (S : St) (si : Bool) : RV si 9 (vw0 S) S := by
  intro s _ _
  show F2 (vwM si) ((sxE (stS S s)).map (fun e => (eU e, eT e))) (sxE (stS S s))
  induction sxE (stS S s) with
  | nil => exact F2.nil
  | cons e t ih => exact F2.cons ⟨fun _ => rfl, fun _ _ => rfl⟩ ih
theorem vw0_1 (S : St) (s : Nat) : (vw0 S s).map Prod.fst = (sxE (stS S s)).map (wht false) := by
  unfold vw0
  rw [List.map_map]
  rfl
theorem vw0_2 (S : St) (s : Nat) : (vw0 S s).map Prod.snd = (sxE (stS S s)).map (wht true) := by
  unfold vw0
  rw [List.map_map]
  rfl
section
variable {I O : List Int32} {S : St} {K : Nat → St} {B : Nat → Bool} {C : Nat} {H : Nat → St} {N : List Nt} {E : Er} {c : Nat} {M : Mem}
theorem two_views (h : Cls M I O S K B C H N E) (ok : okS c S) (hn : 716 ≤ M.2.1) : ∃ r1 r2 M1 M2, f_L_views 100 0 M = some (.inl r1, M1) ∧ f_L_views 100 1 M1 = some (.inl r2, M2) ∧ Cls M2 I O S K B C H N E ∧ vwA M2 r1 r2 (stM S) (vw0 S) ∧ M2.2.2 = M.2.2 ∧ 716 ≤ M2.2.1 := by
  obtain ⟨M1, e1, v1, w1, l1, k1⟩ := views_e h ok false hn
  have h1 : Cls M1 I O S K B C H N E := h.sm (fun q _ q2 => k1 q (by omega))
  obtain ⟨M2, e2, v2, w2, l2, k2⟩ := views_e h1 ok true (by omega)
  have h2 : Cls M2 I O S K B C H N E := h1.sm (fun q _ q2 => k2 q (by omega))
  obtain ⟨g1, o1, a1, -, b1, c1⟩ := v1
  obtain ⟨g2, o2, a2, d2, b2, c2⟩ := v2
  refine ⟨_, _, M1, M2, e1, e2, h2, ⟨g1, g2, ⟨o1.cg (k2 _ (by omega)), o2⟩, fun s hs => ⟨?_, ?_⟩, fun s t hs ht => ?_, d2, by omega, ⟨⟨by omega, by omega⟩, ⟨by omega, by omega⟩⟩, fun s hs => ?_⟩, w2.trans w1, by omega⟩
  · rw [vw0_1]; exact (a1 s hs).cg (k2 _ (c1 s hs).2)
  · rw [vw0_2]; exact a2 s hs
  · have := c1 s hs
    have := c2 t ht
    omega
  · have := c1 s hs
    have := c2 s hs
    omega
theorem vwA_off {M M' : Mem} {r1 r2 m : Nat} {W : Nat → Vw} (h : vwA M r1 r2 m W) (o : off M M' 100 616) : vwA M' r1 r2 m W := by
  obtain ⟨g1, g2, ho, hi, h12, h22, hr, hb, hg⟩ := h
  have k : ∀ q, 716 ≤ q → M'.1 q = M.1 q := fun q hq => o.2 q (by omega)
  refine ⟨g1, g2, ⟨ho.1.cg (k _ hb.1.1), ho.2.cg (k _ hb.2.1)⟩, fun s hs => ⟨(hi s hs).1.cg (k _ (hg s hs).1.1), (hi s hs).2.cg (k _ (hg s hs).2.1)⟩, h12, h22, hr, by rw [o.1]; exact hb, by rw [o.1]; exact hg⟩
variable {rc : Nat → Nat → Int32 → Mem → Option (Bool × Mem)} {X : Bool × Mem} {q : Nat}
/-- the notices of the acting session, counted -/
theorem told_loop {one v : Int32} (h : Cls M I O S K B C H N E) (hfin : f_L_law_375 rc 42 100 (nI q) M = some X) (hv : v = nI (N.countP (fun x => decide (n0 x = one)))) : ∀ (d k fu : Nat), d + k = N.length → d < fu → f_L_law_328 rc fu 42 100 (nI q) one v (nI ((N.take k).countP (fun x => decide (n0 x = one)))) (nI k) M = some X := by
  have l244 : N.length ≤ 244 := ntA.len h.n
  intro d
  induction d with
  | zero =>
    intro k fu hd hf
    obtain ⟨fu, rfl⟩ : ∃ x, fu = x + 1 := ⟨fu - 1, by omega⟩
    simp only [f_L_law_328, q_prop4 h, bN, bso]
    rw [if_pos (by rw [leT rfl rfl (show N.length ≤ k by omega) (by omega)]; trivial), List.take_of_length_le (by omega)]
    simp only [f_L_law_366]
    rw [if_pos hv]
    exact hfin
  | succ d ih =>
    intro k fu hd hf
    obtain ⟨fu, rfl⟩ : ∃ x, fu = x + 1 := ⟨fu - 1, by omega⟩
    have hk : k < N.length := by omega
    have e1 := cnt_take (0, 0, 0, 0) (fun x => decide (n0 x = one)) N k hk
    have hih := ih (k + 1) fu (by omega) (by omega)
    rw [e1, ← nI_b2i] at hih
    simp only [f_L_law_328, q_prop4 h, (q_note h hk).1, bN, bso]
    rw [if_neg (by rw [leF rfl rfl hk (by omega)]; exact id)]
    simp only [f_L_law_357, nI_1]
    have hih : f_L_law_328 rc fu 42 100 (nI q) one v (nI ((N.take k).countP (fun x => decide (n0 x = one))) + b2i (decide (n0 (ng N k) = one))) (nI (k + 1)) M = some X := hih
    by_cases z : n0 (ng N k) = one
    · rw [if_pos z]
      rw [decide_eq_true z] at hih
      exact hih
    · rw [if_neg z]
      rw [decide_eq_false z] at hih
      exact hih
theorem cur_t (h : Cls M I O S K B C H N E) (ok : okS c S) {s : Nat} (hs : s < stM S) (hb : sxB (stS S s) ≠ -1) (hq : quiet (bof S (sxB (stS S s))) (stS S s)) : f_X11_isCurrent 100 (nI s) M = some (.inl true, M) := by
  have hp : pndS S (stS S s) = 0 := quiet_pend hq
  rw [q_cur h ok hs, hp, decide_eq_false hb]; rfl
theorem ses_loop (h : Cls M I O S K B C H N E) (ok : okS c S) (hid : idQ S) {one v : Int32} {kind : Nat} (hfin : f_L_law_311 rc 42 100 (nI q) one (nI kind) v M = some X) : ∀ (d s fu : Nat), d + s = stM S → d < fu → f_L_law_262 rc fu 42 100 (nI q) one (nI kind) v (nI s) M = some X := by
  have h4 := ok.2.1.2
  intro d
  induction d with
  | zero =>
    intro s fu hd hf
    obtain ⟨fu, rfl⟩ : ∃ x, fu = x + 1 := ⟨fu - 1, by omega⟩
    simp only [f_L_law_262, q_prop1 h, bN, bso]
    rw [if_pos (by rw [leT rfl rfl (show stM S ≤ s by omega) (by omega)]; trivial)]
    exact hfin
  | succ d ih =>
    intro s fu hd hf
    obtain ⟨fu, rfl⟩ : ∃ x, fu = x + 1 := ⟨fu - 1, by omega⟩
    have hs : s < stM S := by omega
    have hih := ih (s + 1) fu (by omega) (by omega)
    simp only [f_L_law_262, q_prop1 h, session_e h ok hs, (q_ses h ok hs).2.2.1, bN, bso]
    rw [if_neg (by rw [leF rfl rfl hs (by omega)]; exact id)]
    simp only [cond_true, f_L_law_305, nI_1]
    cases hi : sxI (stS S s) with
    | false =>
      rw [if_neg (show ¬ b2i false = 1 by decide)]
      exact hih
    | true =>
      rw [if_pos (show b2i true = 1 by decide)]
      obtain ⟨hb, hq⟩ := hid s hs hi
      simp only [cur_t h ok hs hb hq, bso, cond_true]
      exact hih
/-- behind an act that was done -/
theorem law_done (h : Cls M I O S K B C H N E) {S0 : St} {X' : St × List Nt} {c0 kind one : Nat} {v : Int32} {si : Bool} (ha : Aft S0 c0 kind one si v X') (e1 : X'.1 = S) (e2 : X'.2 = N) (hone : one < stM S) (hk16 : kind < 16) (hfin : f_L_law_375 rc 42 100 (nI q) M = some X) :
    (kind ≤ 0 → f_L_law_191 rc 42 100 (nI q) (nI one) (nI kind) v M = some X) ∧ (0 < kind → kind < 5 → f_L_law_205 rc 42 100 (nI q) (nI one) (nI kind) v M = some X) ∧ (5 ≤ kind → f_L_law_191 rc 42 100 (nI q) (nI one) (nI kind) v M = some X) := by
  obtain ⟨ok, hid, -, -, -, -, hK, hC, hT⟩ := ha
  rw [e1] at ok hid hK hC
  rw [e2] at hT
  have q4 := (q_ses h ok hone).2.2.2.2.1
  have q5 := (q_ses h ok hone).2.2.2.2.2.1
  have kle : ∀ n, n < 2 ^ 31 → (nI kind ≤ nI n) = (kind ≤ n) := fun n hn => leI rfl rfl (by omega) hn
  have kge : ∀ n, n < 2 ^ 31 → (nI n ≤ nI kind) = (n ≤ kind) := fun n hn => leI rfl rfl hn (by omega)
  have k0 : (nI kind ≤ 0) = (kind ≤ 0) := kle 0 (by omega)
  have k4 : (nI kind ≤ 4) = (kind ≤ 4) := kle 4 (by omega)
  have k7 : (nI kind ≤ 7) = (kind ≤ 7) := kle 7 (by omega)
  have g5 : ((5 : Int32) ≤ nI kind) = (5 ≤ kind) := kge 5 (by omega)
  have g8 : ((8 : Int32) ≤ nI kind) = (8 ≤ kind) := kge 8 (by omega)
  have g13 : ((13 : Int32) ≤ nI kind) = (13 ≤ kind) := kge 13 (by omega)
  have l311 : f_L_law_311 rc 42 100 (nI q) (nI one) (nI kind) v M = some X := by
    unfold f_L_law_311
    by_cases z : kind ≤ 0
    · rw [if_pos (by rw [k0]; exact z)]; exact hfin
    · rw [if_neg (by rw [k0]; exact z)]
      by_cases y : 5 ≤ kind
      · rw [if_pos (by rw [g5]; exact y)]; exact hfin
      · rw [if_neg (by rw [g5]; exact y)]
        exact told_loop h hfin (hT ⟨by omega, by omega⟩) N.length 0 246 (by omega) (Nat.lt_of_le_of_lt (ntA.len h.n) (by omega))
  have l259 : f_L_law_259 rc 42 100 (nI q) (nI one) (nI kind) v M = some X := by
    unfold f_L_law_259
    exact ses_loop h ok hid l311 (stM S) 0 5 (by omega) (by have := ok.2.1.2; omega)
  have l234 : f_L_law_234 rc 42 100 (nI q) (nI one) (nI kind) v M = some X := by
    unfold f_L_law_234
    by_cases z : kind ≤ 4
    · rw [if_pos (by rw [k4]; exact z)]; exact l259
    · rw [if_neg (by rw [k4]; exact z)]
      by_cases y : 8 ≤ kind
      · rw [if_pos (by rw [g8]; exact y)]; exact l259
      · rw [if_neg (by rw [g8]; exact y)]
        have c0 := cnt0 (chg (bof S (sxB (stS S one)))) (sxE (stS S one)) (hC ⟨by omega, by omega⟩)
        rw [c0] at q5
        simp only [q5, bN, bso]
        rw [if_pos (show nI 0 = 0 from rfl)]
        exact l259
  have l205 : (1 ≤ kind ∧ kind ≤ 4 ∨ 8 ≤ kind ∧ kind ≤ 12) → f_L_law_205 rc 42 100 (nI q) (nI one) (nI kind) v M = some X := by
    intro z
    obtain ⟨hb, hq⟩ := hK z
    have g0 := cnt0 (gone (bof S (sxB (stS S one)))) (sxE (stS S one)) (fun e he => (hq.1 e he).1)
    have c0 := cnt0 (chg (bof S (sxB (stS S one)))) (sxE (stS S one)) (fun e he => (hq.1 e he).2)
    rw [g0] at q4
    rw [c0] at q5
    unfold f_L_law_205
    simp only [q4, q5, bN, bso]
    rw [if_pos (show nI 0 + nI 0 = 0 from rfl)]
    simp only [cur_t h ok hone hb hq, bso, cond_true]
    exact l234
  have l191 : (kind ≤ 0 ∨ 5 ≤ kind) → f_L_law_191 rc 42 100 (nI q) (nI one) (nI kind) v M = some X := by
    intro z
    unfold f_L_law_191
    by_cases y : kind ≤ 7
    · rw [if_pos (by rw [k7]; exact y)]; exact l234
    · rw [if_neg (by rw [k7]; exact y)]
      by_cases w : 13 ≤ kind
      · rw [if_pos (by rw [g13]; exact w)]; exact l234
      · rw [if_neg (by rw [g13]; exact w)]
        exact l205 (.inr ⟨by omega, by omega⟩)
  exact ⟨fun z => l191 (.inl z), fun z y => l205 (.inl ⟨by omega, by omega⟩), fun z => l191 (.inr z)⟩
end
theorem lg_self (d : Int64) : lg_cmp d d = 0 := by
  unfold lg_cmp
  simp
theorem law_turn {rc : Nat → Nat → Int32 → Mem → Option (Bool × Mem)} {X : Bool × Mem} {q t : Nat} {Lx : Nat × (Nat → Int32)} {M : Mem} (hL : Lx.1 < 2 ^ 31) (hrc : ∀ M', InvL (t + 1) Lx M' → rc 42 100 (nI (q + 6)) M' = some X) (hI : InvL t Lx M) (hn : 716 ≤ M.2.1) (ht : t ≤ 1000) (hq : q < 182) :
    f_L_law_21 rc 42 100 (nI q) M = some X := by
  obtain ⟨hx, I, O, S, K, B, C, H, N, E, h, ok, hid, sz, hN, hM⟩ := hI
  have h4 := ok.2.1.2
  obtain ⟨r1, r2, M1, M2, e1, e2, h2, hW, w2, l2⟩ := two_views h ok hn
  have hx2 : M2.2.2 = Lx := w2.trans hx
  obtain ⟨d, hd⟩ := all_e (I := I) (O := O) (K := K) (B := B) (C := C) (H := H) (N := N) (E := E) ok
  obtain ⟨one, hone⟩ : ∃ one, one = dr Lx q (stM S) := ⟨_, rfl⟩
  obtain ⟨kind, hkind⟩ : ∃ kind, kind = dr Lx (q + 5) 16 := ⟨_, rfl⟩
  obtain ⟨st, hst⟩ : ∃ st, st = dr Lx (q + 4) 32 := ⟨_, rfl⟩
  have ho : one < stM S := by rw [hone]; exact dr_lt Lx q hM
  have hk16 : kind < 16 := by rw [hkind]; exact dr_lt Lx (q + 5) (by omega)
  have hs32 : st < 32 := by rw [hst]; exact dr_lt Lx (q + 4) (by omega)
  have d0 : f_L_draw 42 (nI q) (nI (stM S)) M2 = some (nI one) := by rw [hone]; exact draw_e hx2 hL (by omega) hM (by omega)
  have d5 : f_L_draw 42 (nI q + 5) 16 M2 = some (nI kind) := by
    have e : nI q + 5 = nI (q + 5) := nI_add q 5
    rw [e, hkind]; exact draw_e hx2 hL (k := 16) (by omega) (by omega) (by omega)
  have hA := act_e h2 ok ht hid sz hN hM hx2 hL (q := q) (by omega)
  rw [← hone, ← hkind, ← hst] at hA
  have e6 : nI q + 6 = nI (q + 6) := nI_add q 6
  have n182 : ¬ (182 : Int32) ≤ nI q := by
    have : ((182 : Int32) ≤ nI q) = (182 ≤ q) := leI (x := 182) (a := 182) rfl rfl (by omega) (by omega)
    rw [this]; omega
  unfold f_L_law_21
  rw [if_neg n182]
  simp only [e1, e2, hd M2 h2, q_prop4 h2, q_prop1 h2, d0, d5, bN, bso]
  rcases hA with ⟨M3, e3, s1, s2⟩ | ⟨v, Y, C', H', M3, e3, c3, o3, l3, n3, ha⟩
  · have h3 : Cls M3 I O S K B C H N E := h2.sm (fun q _ _ => by rw [s1])
    simp only [e3, bso]
    rw [if_pos trivial]
    simp only [hd M3 h3, bso]
    rw [if_pos (lg_self d)]
    simp only [q_prop4 h3, bso]
    rw [if_pos trivial]
    simp only [f_L_law_375, e6]
    exact hrc M3 ⟨s2.trans hx2, I, O, S, K, B, C, H, N, E, h3, okS_up ok (by omega), hid, sz, hN, hM⟩
  · have ha' := ha
    obtain ⟨okY, hidY, szY, ⟨nY, mY⟩, v0, hV, -⟩ := ha'
    have hx3 : M3.2.2 = Lx := by rw [o3.1]; exact hx2
    have vne : ¬ v = -2147483648 := fun z => by rw [z] at v0; exact absurd v0 (by decide)
    obtain ⟨w1, w2'⟩ := hV (vw0 S) (vw0_R S _)
    have hW3 := vwA_off hW o3
    rw [← mY] at hW3 w1
    have hoY : one < stM Y.1 := by rw [mY]; exact ho
    -- behind the replay
    have fin : ∀ but : Int32, (∀ s, s < stM Y.1 → (nI s = but ↔ s = btO kind one)) → f_L_law_170 rc 42 100 (nI q) (nI one) (nI kind) v (siO kind st) 100 r1 r2 but M3 = some X := by
      intro but hbut
      obtain ⟨M4, e4, h4', z4⟩ := replays_e c3 okY hW3 w1 w2' hbut
      have hf : f_L_law_375 rc 42 100 (nI q) M4 = some X := by
        simp only [f_L_law_375, e6]
        exact hrc M4 ⟨z4.trans hx3, I, O, Y.1, K, B, C', H', Y.2, E, h4', okY, hidY.b, szY, by omega, by omega⟩
      obtain ⟨f1, f2, f3⟩ := law_done h4' ha rfl rfl hoY hk16 hf
      have k0 : (nI kind ≤ 0) = (kind ≤ 0) := leI (y := 0) (b := 0) rfl rfl (by omega) (by omega)
      have k5 : (nI kind < 5) = (kind < 5) := ltI (y := 5) (b := 5) rfl rfl (by omega) (by omega)
      unfold f_L_law_170
      simp only [e4, bN, bso, cond_true]
      by_cases z : kind ≤ 0
      · rw [if_pos (by rw [k0]; exact z)]; exact f1 z
      · rw [if_neg (by rw [k0]; exact z)]
        by_cases y : kind < 5
        · rw [if_pos (by rw [k5]; exact y)]; exact f2 (by omega) y
        · rw [if_neg (by rw [k5]; exact y)]; exact f3 (by omega)
    have l146 : f_L_law_146 rc 42 100 (nI q) r1 r2 (nI one) (nI kind) v (siO kind st) M3 = some X := by
      have k0 : (nI kind = 0) ↔ (kind = 0) := nI_eq (b := 0) (by omega) (by omega)
      have k13 : (nI kind = 13) ↔ (kind = 13) := nI_eq (b := 13) (by omega) (by omega)
      have hmy : stM Y.1 ≤ 4 := okY.2.1.2
      have bo : (kind = 0 ∨ kind = 13) → f_L_law_164 rc 42 100 (nI q) (nI one) (nI kind) v (siO kind st) 100 r1 r2 M3 = some X := fun z => by
        unfold f_L_law_164
        refine fin (nI one) (fun s hs => ?_)
        have : btO kind one = one := if_pos z
        rw [this]
        exact nI_eq (by omega) (by omega)
      unfold f_L_law_146
      by_cases z : kind = 0
      · rw [if_pos (k0.mpr z)]; exact bo (.inl z)
      · rw [if_neg (fun w => z (k0.mp w))]
        by_cases y : kind = 13
        · rw [if_pos (k13.mpr y)]; exact bo (.inr y)
        · rw [if_neg (fun w => y (k13.mp w))]
          refine fin (-1) (fun s hs => ?_)
          have : btO kind one = 9 := if_neg (fun w => w.elim z y)
          rw [this, nI_m1 (show s < 2 ^ 31 by omega)]
          exact ⟨fun w => w.elim, fun w => by omega⟩
    simp only [e3, bso]
    rw [if_neg vne]
    have k5 : (nI kind ≤ 5) = (kind ≤ 5) := leI (y := 5) (b := 5) rfl rfl (by omega) (by omega)
    have g8 : ((8 : Int32) ≤ nI kind) = (8 ≤ kind) := leI (x := 8) (a := 8) rfl rfl (by omega) (by omega)
    have l145 : siO kind st = false → f_L_law_145 rc 42 100 (nI q) r1 r2 (nI one) (nI kind) v M3 = some X := fun z => by
      unfold f_L_law_145
      rw [z] at l146
      exact l146
    by_cases z : kind ≤ 5
    · rw [if_pos (by rw [k5]; exact z)]
      exact l145 (decide_eq_false (by omega))
    · rw [if_neg (by rw [k5]; exact z)]
      by_cases y : 8 ≤ kind
      · rw [if_pos (by rw [g8]; exact y)]
        exact l145 (decide_eq_false (by omega))
      · rw [if_neg (by rw [g8]; exact y)]
        have d4 : f_L_draw 42 (nI q + 4) 32 M3 = some (nI st) := by
          have e : nI q + 4 = nI (q + 4) := nI_add q 4
          rw [e, hst]; exact draw_e hx3 hL (k := 32) (by omega) (by omega) (by omega)
        simp only [d4, bso]
        have s20 : (nI st ≤ 20) = (st ≤ 20) := leI (y := 20) (b := 20) rfl rfl (by omega) (by omega)
        by_cases w : st ≤ 20
        · rw [if_pos (by rw [s20]; exact w)]
          exact l145 (decide_eq_false (by omega))
        · rw [if_neg (by rw [s20]; exact w)]
          have : siO kind st = true := decide_eq_true ⟨by omega, by omega, by omega⟩
          rw [this] at l146
          exact l146
