/-! PURE, p53: the law's load holds; the law comes to true -/
theorem bxT_len : ∀ d k, (bxT d k).length = 7 * d := by
  intro d
  induction d with
  | zero => intro k; rfl
  | succ d ih => intro k; rw [bxT, List.length_append, bxX_len, ih]; omega
theorem mT_len : ∀ (ms : List (Nat × Nat × Nat)), (∀ m ∈ ms, m.2.2 < 32) → (mT ms).length ≤ 56 * ms.length := by
  intro ms
  induction ms with
  | nil => intro _; exact Nat.le_refl _
  | cons m t ih =>
    intro h
    have h1 := mX_len (h m List.mem_cons_self)
    have h2 := ih (fun x hx => h x (List.mem_cons_of_mem _ hx))
    rw [mT, List.length_append, List.length_cons]
    omega
theorem sT_len : ∀ (ss : List (Nat × Nat × Nat)), (sT ss).length ≤ 20 * ss.length := by
  intro ss
  induction ss with
  | nil => exact Nat.le_refl _
  | cons s t ih =>
    have h1 := sX_len s
    rw [sT, List.length_append, List.length_cons]
    omega
theorem load_e {I O : List Int32} {S : St} {K : Nat → St} {B : Nat → Bool} {C : Nat} {H : Nat → St} {N : List Nt} {E : Er} {M : Mem} {Lx : Nat × (Nat → Int32)} (hx : M.2.2 = Lx) (hL : Lx.1 < 2 ^ 31) (h : Cls M I O S K B C H N E) (hI : I.length ≤ 700) (hlo : lo0 M) (hn : 716 ≤ M.2.1) :
    ∃ M', f_L_load 100 42 M = some (.inl true, M') ∧ InvL 0 Lx M' := by
  have b0 := dr_lt Lx 0 (k := 3) (by omega)
  have b1 := dr_lt Lx 1 (k := 4) (by omega)
  have b2 := dr_lt Lx 2 (k := 9) (by omega)
  have b3 := dr_lt Lx 3 (k := 25) (by omega)
  have d0 : f_L_draw 42 0 3 M = some (nI (dr Lx 0 3)) := draw_e hx hL (i := 0) (k := 3) (by omega) (by omega) (by omega)
  have d1 : f_L_draw 42 1 4 M = some (nI (dr Lx 1 4)) := draw_e hx hL (i := 1) (k := 4) (by omega) (by omega) (by omega)
  have d2 : f_L_draw 42 2 9 M = some (nI (dr Lx 2 9)) := draw_e hx hL (i := 2) (k := 9) (by omega) (by omega) (by omega)
  have d3 : f_L_draw 42 3 25 M = some (nI (dr Lx 3 25)) := draw_e hx hL (i := 3) (k := 25) (by omega) (by omega) (by omega)
  obtain ⟨nb, hnb⟩ : ∃ nb, nb = 1 + dr Lx 0 3 := ⟨_, rfl⟩
  obtain ⟨sN, hsN⟩ : ∃ sN, sN = 1 + dr Lx 1 4 := ⟨_, rfl⟩
  obtain ⟨mN, hmN⟩ : ∃ mN, mN = dr Lx 2 9 := ⟨_, rfl⟩
  obtain ⟨lim, hlim⟩ : ∃ lim, lim = 6 + dr Lx 3 25 := ⟨_, rfl⟩
  have enb : 1 + nI (dr Lx 0 3) = nI nb := by rw [nI_1add, hnb]
  have esN : 1 + nI (dr Lx 1 4) = nI sN := by rw [nI_1add, hsN]
  have elm : 6 + nI (dr Lx 3 25) = nI lim := by rw [hlim]; exact nI_add 6 _
  rw [← hmN] at d2
  obtain ⟨ms, hms⟩ : ∃ ms, ms = mLs Lx nb lim mN 0 (fun _ => 0) := ⟨_, rfl⟩
  obtain ⟨hok, hml⟩ := okC_mLs Lx (nb := nb) (lim := lim) (by omega) mN 0 (fun _ => 0) (fun _ => Nat.zero_le _)
  rw [← hms] at hok hml
  have hmm := okC_m hok
  obtain ⟨l6, l1, -⟩ := lsX_len
  have l3 := dgs_3 lim
  have al : alc M = some M.2.1 := alc_e (by omega)
  obtain ⟨r, hr⟩ : ∃ r, r = M.2.1 := ⟨_, rfl⟩
  obtain ⟨M1, a1, e1, s1, w1, n1, k1⟩ := sb_newS (s := 43) hn (ls_str M (j := 0) (by omega)).1 (ls_str M (j := 0) (by omega)).2.1 (by rw [l6]; omega) (hlo 43 (by omega))
  rw [← hr] at e1 s1
  have B1 : Bd M1 r (lsBy 0) := ⟨a1, _, s1, .inl (by rw [l6]), (ls_str M (j := 0) (by omega)).1.1⟩
  have z1 : kp0 M M1 := ⟨n1, w1, fun q hq => k1 q (by omega)⟩
  have lo1 : lo0 M1 := fun q hq => (k1 q (by omega)).trans (hlo q hq)
  obtain ⟨M2, e2, B2, k2⟩ := bd_int (n := lim) B1 (by omega) (by omega)
  obtain ⟨M3, e3, B3, k3⟩ := bd_const (j := 1) B2 (k2.lo lo1) (by omega) (by rw [List.length_append]; omega)
  have e3 : f_J4_append_15ec4 r 44 M2 = some (r, M3) := e3
  have hl3 : (lsBy 0 ++ dgs lim ++ lsBy 1).length = 7 + (dgs lim).length := by rw [List.length_append, List.length_append, l6, l1]; omega
  have l1' : 1 ≤ (dgs lim).length := by
    rw [dgs_len]
    split
    · omega
    · split <;> omega
  obtain ⟨M4, e4, B4, k4⟩ := box_loop (sN := sN) (mN := mN) (lim := lim) (nb := nb) (by omega) nb 0 4 M3 _ (by omega) (by omega) B3 ((k2.trans k3).lo lo1) (by rw [hl3]; omega)
  have k24 := (k2.trans k3).trans k4
  obtain ⟨p, hp⟩ : ∃ p, p = M4.2.1 := ⟨_, rfl⟩
  have hp7 : 716 ≤ p := by rw [hp]; exact Nat.le_trans hn (Nat.le_trans n1 k24.1)
  have al4 : alc M4 = some p := by rw [alc_e (by omega), hp]
  obtain ⟨M5, hM5⟩ : ∃ M5, M5 = mnew M4 (.inl (0, (3, .inl (fun _ => 0)))) := ⟨_, rfl⟩
  have B5 : Bd M5 r (lsBy 0 ++ dgs lim ++ lsBy 1 ++ bxT nb 0) := by rw [hM5]; exact B4.new _
  have A5 : iA M5 p (cl3 (fun _ => 0)) := by rw [hM5, hp]; exact iA_new (k := 3) (by omega)
  have w5 : M5.2 = (p + 1, M4.2.2) := by rw [hM5, hp]; rfl
  have z5 : kp0 M4 M5 := ⟨by rw [w5, hp]; show M4.2.1 ≤ M4.2.1 + 1; omega, by rw [w5], fun q hq => by rw [hM5]; exact mnew_ne _ (by omega)⟩
  have zz5 : kp0 M M5 := (z1.trans k24.z).trans z5
  have lo5 : lo0 M5 := fun q hq => (zz5.2.2 q (by omega)).trans (hlo q hq)
  have hx5 : M5.2.2 = Lx := zz5.2.1.trans hx
  have hl5 : (lsBy 0 ++ dgs lim ++ lsBy 1 ++ bxT nb 0).length = 7 + (dgs lim).length + 7 * nb := by rw [List.length_append, hl3, bxT_len]
  obtain ⟨M6, e6, B6, z6, A6⟩ := msg_loop (Lx := Lx) (sN := sN) (mN := mN) (lim := lim) (nb := nb) (r := r) (p := p) hL (by omega) (by omega) (by omega) mN 0 9 M5 _ (fun _ => 0) 0 (by omega) (by omega) (by omega) B5 lo5 hx5 A5 ⟨hp7, by rw [w5]; show p < p + 1; omega⟩ (fun _ => Nat.zero_le _) (by rw [hl5]; omega) (by rw [hl5]; omega)
  rw [← hms] at e6 B6 A6
  have zz6 := zz5.trans z6
  have lo6 : lo0 M6 := fun q hq => (zz6.2.2 q (by omega)).trans (hlo q hq)
  have hmt := mT_len ms (fun m hm => (hmm m hm).2.2)
  have hl6 : (lsBy 0 ++ dgs lim ++ lsBy 1 ++ bxT nb 0 ++ mT ms).length ≤ 7 + (dgs lim).length + 7 * nb + 56 * ms.length := by rw [List.length_append, hl5]; omega
  obtain ⟨M7, e7, B7, k7⟩ := ses_lp (Lx := Lx) (sN := sN) (lim := lim) (nb := nb) (r := r) (p := p) (told := nI (0 + ms.length)) hL (by omega) (by omega) sN 0 5 M6 _ (by omega) (by omega) (by omega) B6 lo6 (zz6.2.1.trans hx) (by omega)
  have zz7 := zz6.trans k7.z
  have A7 := k7.2.2.2 p _ (by have := z6.1; rw [w5] at this; have : p + 1 ≤ M6.2.1 := this; omega) A6
  obtain ⟨l, hl⟩ : ∃ l, l = lsBy 0 ++ dgs lim ++ lsBy 1 ++ bxT nb 0 ++ mT ms ++ sT (sLs Lx nb sN 0) := ⟨_, rfl⟩
  rw [← hl] at B7
  have hst := sT_len (sLs Lx nb sN 0)
  rw [sLs_len] at hst
  have hll : l.length ≤ 559 := by rw [hl, List.length_append]; omega
  have hll0 : 0 < l.length := by rw [hl, List.length_append, List.length_append, hl5]; omega
  obtain ⟨a7, cap7, s7, -, asc7⟩ := B7
  have n7 : 716 ≤ M7.2.1 := Nat.le_trans hn zz7.1
  obtain ⟨M8, v, e8, s8, sv, v8, n8, w8, k8⟩ := sb_toS s7 asc7
  have zz8 : kp0 M M8 := zz7.trans ⟨Nat.le_of_lt n8, w8, fun q hq => k8 q (by omega)⟩
  have hpM7 : p < M7.2.1 := by
    have h1 := z6.1
    rw [w5] at h1
    have h1 : p + 1 ≤ M6.2.1 := h1
    have h2 := k7.1
    omega
  have A8 := A7.cg (k8 p hpM7)
  have c8 : Cls M8 I O S K B C H N E := h.sm (fun q _ q2 => zz8.2.2 q (by omega))
  obtain ⟨M9, e9, c9, o9⟩ := feed_e c8 hI s8 n7 sv (by omega) hll0 (by omega)
  obtain ⟨M10, S', C', H', T0, e10, c10, o10, ok10, ga, hpk, hq⟩ := c_load c9 (Q := TxQ Lx nb sN lim ms) (fun Sl => by
    rw [hl]
    exact txt_e Lx (by omega) (by omega) (by omega) (by omega) (by omega) (by omega) hok Sl)
  have A10 : iA M10 p (cl3 (cnM ms (fun _ => 0))) := (A8.cg (o9.2 p (by omega))).cg (o10.2 p (by omega))
  have hx10 : M10.2.2 = Lx := by rw [o10.1, o9.1]; exact zz8.2.1.trans hx
  have hld := ld_of (by omega) (by omega) hq hpk ga
  have hcnt : cntM T0 = nI ms.length := by
    have h1 := cntM_sm (S := T0) (by have := hq.2.1; omega)
    have h2 := sm3_cnM (nb := nb) (by omega) ms (fun _ => 0) hok
    have h3 : sm3 (stN T0) (fun j => (stB T0 j).2.2.length) = sm3 nb (cnM ms (fun _ => 0)) := by
      rw [hq.2.1]
      unfold sm3
      have g : ∀ j, (if j < nb then (stB T0 j).2.2.length else 0) = if j < nb then cnM ms (fun _ => 0) j else 0 := fun j => by
        by_cases z : j < nb
        · rw [if_pos z, if_pos z, (hq.2.2.2.1 j z).1]
        · rw [if_neg z, if_neg z]
      have g0 := g 0
      have g1 := g 1
      have g2 := g 2
      show (if 0 < nb then (stB T0 0).2.2.length else 0) + ((if 1 < nb then (stB T0 1).2.2.length else 0) + (if 2 < nb then (stB T0 2).2.2.length else 0)) = _
      rw [g0, g1, g2]
    have h4 : sm3 nb (fun _ => 0) = 0 := by unfold sm3; split <;> split <;> split <;> rfl
    rw [h1, h3, h2, h4, Nat.zero_add]
  have hcnt1 : nI (cntN T0) = nI ms.length := by rw [← cntM_N, hcnt]
  have hcnt2 : cntM S' = nI ms.length := by rw [cntM_agr ga]; exact hcnt
  have q0 := q_prop0 c10
  have q1 := q_prop1 c10
  have q2 := q_prop2 c10
  have q3 := q_prop3 c10
  have q4 := q_prop4 c10
  rw [hld.2.1] at q0
  rw [hld.2.2.1] at q1
  rw [hld.1] at q2
  rw [hcnt2] at q3
  have hbx := ld_box hL hx10 c10 ok10 (by omega) (by omega) (by omega) hld A10 nb 0 4 (by omega) (by omega)
  refine ⟨M10, ?_, hx10, _, _, _, _, _, _, _, _, _, c10, ok10, fun s hs hi => ?_, fun b hb => ?_, by have := hld.2.1; omega, by have := hld.2.2.1; omega⟩
  · have e2 : f_J4_append_bf812 r (nI lim) M1 = some (r, M2) := e2
    have al : alc M = some r := by rw [al, hr]
    have e4 : f_L_load_63 4 100 42 (nI nb) (nI sN) (nI mN) (nI lim) r 0 M3 = _ := e4
    have e6 : f_L_load_108 9 100 42 (nI nb) (nI sN) (nI mN) (nI lim) r p 0 0 M5 = _ := e6
    have e7 : f_L_load_222 5 100 42 (nI nb) (nI sN) (nI lim) r p (nI (0 + ms.length)) 0 M6 = _ := e7
    have e12 : f_L_load_312 100 42 (nI nb) (nI sN) (nI lim) r p (nI (0 + ms.length)) M7 = some (.inl true, M10) := by
      rw [Nat.zero_add]
      simp only [f_L_load_312, e8, bso, e9, bX, e10]
      rw [if_pos hcnt1]
      simp only [q_errC c10, q_errP c10, bso, if_true, q0, q1, q2, q3, q4]
      rw [if_pos (show nI ([] : List Nt).length = 0 from rfl)]
      exact hbx
    simp only [f_L_load, d0, d1, d2, d3, bso, enb, esN, elm, al, e1, e2, e3, e4, f_L_load_97, al4, ← hM5, e6, f_L_load_219, e7]
    exact e12
  · have hs : s < sN := by rw [← hld.2.2.1]; exact hs
    rw [(hld.2.2.2.2 s hs).2.2.1] at hi
    cases hi
  · exact (hld.2.2.2.1 b (by rw [← hld.2.1]; exact hb)).2.2.1
