/-! PURE, p53: texts made of builders; flags; the builder of the law's text -/
/-- a text out of a builder -/
theorem sb_toS {M : Mem} {r a cap : Nat} {l : List Int32} (h : sbA M r a cap l) (hl : asc l) :
    ∃ M' v, f_J4_toString_0e30d r M = some (M.2.1, M') ∧ strA M' M.2.1 l ∧ (∃ z w, M'.1 M.2.1 = some (.inr (11, [.ref v, .int 0, z, w]))) ∧ (M.2.1 ≤ v ∧ v < M'.2.1) ∧ M.2.1 < M'.2.1 ∧ M'.2.2 = M.2.2 ∧ ∀ q, q < M.2.1 → M'.1 q = M.1 q := by
  obtain ⟨⟨z0, p0⟩, ⟨b1, b2, f, b3, b4, b5⟩, hr, ha⟩ := id h
  obtain ⟨n, hn⟩ : ∃ n, n = M.2.1 := ⟨_, rfl⟩
  have al : alc M = some n := by rw [alc_e (by omega), hn]
  obtain ⟨M1, hM1⟩ : ∃ M1, M1 = mnew M (.inr (11, [.null, .int 0, .int 0, .int 0])) := ⟨_, rfl⟩
  have p1 : M1.1 n = some (.inr (11, [.null, .int 0, .int 0, .int 0])) := by rw [hM1, hn]; exact if_pos rfl
  have k1 : ∀ q, q ≠ n → M1.1 q = M.1 q := fun q hq => by rw [hM1]; exact mnew_ne _ (by rw [← hn]; exact hq)
  have w1 : M1.2 = (n + 1, M.2.2) := by rw [hM1, hn]; rfl
  obtain ⟨M2, hM2⟩ : ∃ M2, M2 = mset M1 n (.inr (11, [.null, .int 0, .int 0, .int 0])) := ⟨_, rfl⟩
  have e2 : pV M1 11 1 n (.int 0) = some M2 := by rw [pV_h p1 (Nat.le_of_ble_eq_true rfl), hM2]; rfl
  have w2 : M2.2 = (n + 1, M.2.2) := by rw [hM2]; exact w1
  have e21 : M2.2.1 = n + 1 := by rw [w2]
  have k2 : ∀ q, q ≠ n → M2.1 q = M.1 q := fun q hq => by rw [hM2, mset_ne _ _ hq]; exact k1 q hq
  have p2 : M2.1 n = some (.inr (11, [.null, .int 0, .int 0, .int 0])) := by rw [hM2, mset_at]
  have al2 : alc M2 = some (n + 1) := by rw [alc_e (by rw [e21]; omega), e21]
  have pr1 : M1.1 r = some (.inr (12, [.ref a, .int 0, z0, .int (nI l.length)])) := (k1 r (by omega)).trans p0
  have pr2 : M2.1 r = some (.inr (12, [.ref a, .int 0, z0, .int (nI l.length)])) := (k2 r (by omega)).trans p0
  have za2 : M2.1 a = some (.inl (2, (cap, .inl f))) := (k2 a (by omega)).trans b3
  have aL2 : aL M2 a = some (nI cap) := aL_h za2
  -- the bytes, copied
  have hcopy : ∃ M3, f_J7_copyOfRange_39247 a 0 (nI l.length) M2 = some (n + 1, M3) ∧ M3.2 = (n + 2, M.2.2) ∧ (∀ q, q ≠ n + 1 → M3.1 q = M2.1 q) ∧ byA M3 (n + 1) l.length l := by
    by_cases e : l.length = cap
    · have hc : cln M2 1024 a = some (.inl (2, (cap, .inl f))) := by
        unfold cln
        rw [za2]
        show (bif Nat.ble cap 1024 && (List.range cap).all (fun i => fits .byte (.int (f i))) then (some (.inl (2, cap, .inl f)) : Option PC) else none) = _
        have hall : (List.range cap).all (fun i => fits .byte (.int (f i))) = true := List.all_eq_true.mpr (fun i hi => b5 i (List.mem_range.mp hi))
        rw [hall, Nat.ble_eq_true_of_le b2]; rfl
      obtain ⟨M3, hM3⟩ : ∃ M3, M3 = mnew M2 (.inl (2, (cap, .inl f))) := ⟨_, rfl⟩
      have z3 : M3.1 (n + 1) = some (.inl (2, (cap, .inl f))) := by rw [hM3, ← e21]; exact if_pos rfl
      have iby : isBy M3 (n + 1) = true := by unfold isBy; rw [z3]; rfl
      refine ⟨M3, ?_, by rw [hM3]; show (M2.2.1 + 1, M2.2.2) = _; rw [w2], fun q hq => by rw [hM3]; exact mnew_ne _ (by rw [e21]; exact hq), Nat.le_refl _, by omega, f, by rw [e]; exact z3, b4, fun j hj => b5 j (by omega)⟩
      simp only [f_J7_copyOfRange_39247, aL2, bso, if_true, e, hc, al2, ← hM3, iby, gd, cond_true]
    · obtain ⟨M3, hM3⟩ : ∃ M3, M3 = mnew M2 (.inl (2, (l.length, .inl (fun _ => 0)))) := ⟨_, rfl⟩
      have z3 : M3.1 (n + 1) = some (.inl (2, (l.length, .inl (fun _ => 0)))) := by rw [hM3, ← e21]; exact if_pos rfl
      have k3 : ∀ q, q ≠ n + 1 → M3.1 q = M2.1 q := fun q hq => by rw [hM3]; exact mnew_ne _ (by rw [e21]; exact hq)
      have w3 : M3.2 = (n + 2, M.2.2) := by rw [hM3]; show (M2.2.1 + 1, M2.2.2) = _; rw [w2]
      have za3 : M3.1 a = some (.inl (2, (cap, .inl f))) := (k3 a (by omega)).trans za2
      obtain ⟨g, hg⟩ : ∃ g, g = va_cpy f (fun _ => (0 : Int32)) 0 0 l.length := ⟨_, rfl⟩
      have g' : ∀ j, j < l.length → g j = f j := fun j hj => by
        rw [hg]
        show (if 0 ≤ j ∧ j < 0 + l.length then f (0 + (j - 0)) else 0) = f j
        rw [if_pos ⟨Nat.zero_le _, by omega⟩, Nat.zero_add, Nat.sub_zero]
      obtain ⟨M4, hM4⟩ : ∃ M4, M4 = mset M3 (n + 1) (.inl (2, (l.length, .inl g))) := ⟨_, rfl⟩
      have hcp : bcp M3 a 0 (n + 1) 0 (nI l.length) = some M4 := by
        unfold bcp srcB
        rw [cB_hi (show 100 ≤ a by omega), za3, z3]
        have hok : cpOK cap l.length f 0 0 (nI l.length) = true := cpOK_n (sp := 0) (dp := 0) (by omega) (by omega) (by omega) (by omega) (fun j hj => by rw [Nat.zero_add]; exact b5 j (by omega))
        have hne : Nat.beq a (n + 1) = false := by
          cases hb : Nat.beq a (n + 1) with
          | false => rfl
          | true => have := Nat.eq_of_beq_eq_true hb; omega
        show (bif cpOK cap l.length f 0 0 (nI l.length) && !(Nat.beq a (n + 1)) then some (mset M3 (n + 1) (.inl (2, l.length, .inl (va_cpy f (fun _ => 0) (0 : Int32).toNatClampNeg (0 : Int32).toNatClampNeg (nI l.length).toNatClampNeg)))) else none) = _
        rw [hok, hne, nI_c (by omega), hM4, hg]; rfl
      refine ⟨M4, ?_, by rw [hM4]; exact w3, fun q hq => by rw [hM4, mset_ne _ _ hq]; exact k3 q hq, Nat.le_refl _, by omega, g, by rw [hM4, mset_at], fun j hj => by rw [g' j hj]; exact b4 j hj, fun j hj => by rw [g' j hj]; exact b5 j (by omega)⟩
      have s0 : nI l.length - 0 = nI l.length := Int32.sub_zero _
      have s1 : nI cap - 0 = nI cap := Int32.sub_zero _
      have s2 : ¬ nI l.length = nI cap := fun w => e ((nI_eq (by omega) (by omega)).mp w)
      have aL3 : aL M3 a = some (nI cap) := aL_h za3
      have hlt : nI l.length < nI cap := by rw [nI_ltI (by omega) (by omega)]; omega
      simp only [f_J7_copyOfRange_39247, aL2, bso, if_true]
      rw [if_neg s2]
      simp only [f_J7_copyOfRange_39247_10, f_J7_copyOfRangeByte_39247, f_J7_checkLength_df160]
      rw [if_pos (nI_ge0 (by omega))]
      simp only [bso, s0, s1, okN_n (show l.length ≤ 1024 by omega) (show l.length < 2 ^ 31 by omega), gd, cond_true, al2, nI_c (show l.length < 2 ^ 31 by omega), ← hM3, aL3, f_J9_min_7cf53]
      rw [if_pos hlt]
      simp only [bso, hcp]
  obtain ⟨M3, e3, w3, k3, h3⟩ := hcopy
  have p3 : M3.1 n = some (.inr (11, [.null, .int 0, .int 0, .int 0])) := (k3 n (by omega)).trans p2
  obtain ⟨M4, hM4⟩ : ∃ M4, M4 = mset M3 n (.inr (11, [.ref (n + 1), .int 0, .int 0, .int 0])) := ⟨_, rfl⟩
  have e4 : pV M3 11 0 n (.ref (n + 1)) = some M4 := by rw [pV_h p3 (Nat.le_of_ble_eq_true rfl), hM4]; rfl
  have w4 : M4.2 = (n + 2, M.2.2) := by rw [hM4]; exact w3
  have p4 : M4.1 n = some (.inr (11, [.ref (n + 1), .int 0, .int 0, .int 0])) := by rw [hM4, mset_at]
  have h4 : byA M4 (n + 1) l.length l := h3.cg (by rw [hM4, mset_ne _ _ (by omega)])
  rw [← hn]
  refine ⟨M4, n + 1, ?_, ⟨hl, by omega, .inr ⟨by omega, n + 1, _, _, by omega, p4, h4⟩⟩, ⟨_, _, p4⟩, by rw [w4]; exact ⟨by omega, by show n + 1 < n + 2; omega⟩, by rw [w4]; show n < n + 2; omega, by rw [w4], fun q hq => ?_⟩
  · have gr1 : gR M1 12 0 r = some a := by rw [gR_h pr1]; rfl
    have gl1 : gI M1 12 3 r = some (nI l.length) := by rw [gI_h pr1]; rfl
    have gk1 : gI M1 12 1 r = some 0 := by rw [gI_h pr1]; rfl
    have isb : isB 0 = true := by decide
    have hgv : f_J5_getValue_6d5f1 r M1 = some a := by rw [f_J5_getValue_6d5f1, ob_h pr1]; simp only [gr1, bso]
    have hle : f_J4_length_8abf5 r M1 = some (nI l.length) := by rw [f_J4_length_8abf5, ob_h pr1, f_J5_length_8abf5, ob_h pr1]; simp only [gl1, bso]
    have hla : f_J5_isLatin1_aae02 r M1 = some true := by rw [f_J5_isLatin1_aae02, ob_h pr1]; simp only [gk1, bso, if_true]
    rw [f_J4_toString_0e30d, ob_h p0]
    simp only [al, bso, ← hM1]
    rw [f_J0_init_81219, ob_h p1, f_J0_init_db425, ob_h p1]
    simp only [hgv, hle, hla, bso, cond_true, gd, isb, e2, e3, e4]
  · rw [hM4, mset_ne _ _ (by omega), k3 q (by omega), k2 q (by omega)]
/-- a text of the law: nothing, or its bytes -/
theorem ls_str (M : Mem) {j : Nat} (hj : j < 14) : strA M (43 + j) (lsBy j) ∧ strc (43 + j) = true ∧ (lsBy j).length ≤ 9 := by
  have h : ∀ j, j < 14 → (∀ x ∈ lsBy j, x ∈ (List.range 128).map nI) ∧ (lsBy j).length ≤ 9 ∧ strc (43 + j) = true ∧ cB (strb (43 + j)) = some (lsBy j) := by decide +kernel
  obtain ⟨a1, a2, a3, a4⟩ := h j hj
  refine ⟨⟨fun x hx => ?_, by omega, .inl ⟨a3, a4⟩⟩, a3, a2⟩
  obtain ⟨d, hd, e⟩ := List.mem_map.mp (a1 x hx)
  exact ⟨d, List.mem_range.mp hd, e.symm⟩
def flS (st : Nat) : Nat → List Int32
  | 0 => []
  | k + 1 => flS st k ++ (if st.testBit k = true then lsBy (5 + k) else [])
theorem fl_bit : ∀ st, st < 32 → ∀ f, f < 5 → decide ((nI st >>> (nI f &&& 31)) &&& 1 = 1) = st.testBit f := by decide +kernel
theorem fl_len : ∀ st, st < 32 → ∀ f, f < 6 → (flS st f).length ≤ 36 := by decide +kernel
theorem fl_asc : ∀ st, st < 32 → ∀ f, f < 6 → ∀ x ∈ flS st f, x ∈ (List.range 128).map nI := by decide +kernel
def lo0 (M : Mem) : Prop := ∀ q, q < 100 → M.1 q = none
theorem sb_const {M : Mem} {r a cap j : Nat} {l : List Int32} (h : sbA M r a cap l) (hlo : lo0 M) (hj : j < 14) (h1 : l.length + (lsBy j).length ≤ cap ∨ (l.length + (lsBy j).length ≤ 2 * cap + 2 ∧ 2 * cap + 2 ≤ 1024)) :
    ∃ M' a' cap', f_J4_append_15ec4 r (43 + j) M = some (r, M') ∧ sbA M' r a' cap' (l ++ lsBy j) ∧ ((cap' = cap ∧ l.length + (lsBy j).length ≤ cap) ∨ (cap' = 2 * cap + 2 ∧ cap < l.length + (lsBy j).length)) ∧ (a' = a ∨ M.2.1 ≤ a') ∧ keepB M M' r a :=
  sb_str h (ls_str M hj).1 (by have := h.2.2.1.1; omega) (fun v z w y => by rw [hlo (43 + j) (by omega)] at y; cases y) h1
theorem keepB.lo {M M' : Mem} {r a : Nat} (k : keepB M M' r a) (hlo : lo0 M) (hr : 716 ≤ r) (ha : 716 ≤ a) (hn : 716 ≤ M.2.1) : lo0 M' := fun q hq => (k.2.2 q (by omega) (by omega) (by omega)).trans (hlo q hq)
theorem flags_loop {st r1 r : Nat} (hst : st < 32) : ∀ (d k fu : Nat) (M : Mem) (a cap : Nat), d + k = 5 → d < fu → sbA M r a cap (flS st k) → (cap = 16 ∨ cap = 34 ∨ cap = 70) → lo0 M → (∀ f, f < 5 → aQ M 10 r1 (nI f) = some (some (48 + f))) → r1 < M.2.1 → r1 ≠ r → (∃ x, M.1 r1 = some (.inl (10, x))) →
    ∃ M' a' cap' M'', f_L_flags_40 fu (nI st) r1 r (nI k) M = f_L_flags_73 r M' ∧ sbA M' r a' cap' (flS st 5) ∧ (a' = a ∨ M.2.1 ≤ a') ∧ M'' = M' ∧ keepB M M' r a := by
  intro d
  induction d with
  | zero =>
    intro k fu M a cap hd hf h hc hlo hq hr hrr hk
    obtain ⟨fu, rfl⟩ : ∃ x, fu = x + 1 := ⟨fu - 1, by omega⟩
    obtain rfl : k = 5 := by omega
    refine ⟨M, a, cap, M, ?_, h, .inl rfl, rfl, Nat.le_refl _, rfl, fun _ _ _ _ => rfl⟩
    simp only [f_L_flags_40]
    rw [if_pos (by decide)]
  | succ d ih =>
    intro k fu M a cap hd hf h hc hlo hq hr hrr ⟨x, hk⟩
    obtain ⟨fu, rfl⟩ : ∃ x, fu = x + 1 := ⟨fu - 1, by omega⟩
    have hk5 : k < 5 := by omega
    have l1 := fl_len st hst k (by omega)
    have l2 := fl_len st hst (k + 1) (by omega)
    obtain ⟨j, hj, hje, hjl⟩ : ∃ j, j < 14 ∧ flS st (k + 1) = flS st k ++ lsBy j ∧ (if st.testBit k = true then 48 + k else 53) = 43 + j := by
      by_cases b : st.testBit k = true
      · exact ⟨5 + k, by omega, by rw [flS, if_pos b], by rw [if_pos b]; omega⟩
      · refine ⟨10, by omega, ?_, by rw [if_neg b]⟩
        rw [flS, if_neg b]; rfl
    have hlen : (flS st k).length + (lsBy j).length ≤ 36 := by rw [← List.length_append, ← hje]; exact l2
    have l9 := (ls_str M hj).2.2
    have lc := h.2.1.1
    obtain ⟨M1, a1, cap1, e1, h1, c1, d1, k1⟩ := sb_const h hlo hj (by
      rcases hc with rfl | rfl | rfl <;> omega)
    have ha := h.2.2.2
    have hr' := h.2.2.1
    have hane : r1 ≠ a := fun y => by
      obtain ⟨-, -, g, g1, -⟩ := h.2.1
      rw [y, g1] at hk; simp at hk
    have hk1 : M1.1 r1 = M.1 r1 := k1.2.2 r1 hr hrr hane
    rw [← hje] at h1
    obtain ⟨M', a', cap', M'', e', h', d', -, k'⟩ := ih (k + 1) fu M1 a1 cap1 (by omega) (by omega) h1 (by rcases hc with rfl | rfl | rfl <;> rcases c1 with ⟨c, -⟩ | ⟨c, c2⟩ <;> omega) (k1.lo hlo hr'.1 ha.1 (by omega)) (fun f hf => by
      have := hq f hf
      unfold aQ at this ⊢
      rw [hk1]; exact this) (by have := k1.1; omega) hrr ⟨x, hk1.trans hk⟩
    refine ⟨M', a', cap', M', ?_, h', ?_, rfl, ?_⟩
    · simp only [f_L_flags_40]
      have n5 : ¬ (5 : Int32) ≤ nI k := by
        have : ((5 : Int32) ≤ nI k) = (5 ≤ k) := leI (x := 5) (a := 5) rfl rfl (by omega) (by omega)
        rw [this]; omega
      rw [if_neg n5]
      have hb := fl_bit st hst k hk5
      by_cases b : st.testBit k = true
      · rw [if_pos (of_decide_eq_true (by rw [hb]; exact b))]
        rw [if_pos b] at hjl
        simp only [hq k hk5, bso, f_L_flags_63, hjl, e1, nI_1]
        exact e'
      · rw [if_neg (of_decide_eq_false (by rw [hb]; cases hx : st.testBit k with | true => exact absurd hx b | false => rfl))]
        rw [if_neg b] at hjl
        simp only [f_L_flags_63, bso]
        have e1' : f_J4_append_15ec4 r 53 M = some (r, M1) := by rw [hjl]; exact e1
        simp only [e1', bso, nI_1]
        exact e'
    · have := k1.1
      rcases d1 with rfl | d1
      · rcases d' with d' | d'
        · exact .inl d'
        · exact .inr (by omega)
      · rcases d' with rfl | d'
        · exact .inr d1
        · exact .inr (by omega)
    · refine ⟨Nat.le_trans k1.1 k'.1, k'.2.1.trans k1.2.1, fun q q1 q2 q3 => ?_⟩
      have := k1.1
      rw [k'.2.2 q (by omega) q2 (by rcases d1 with rfl | d1 <;> omega)]
      exact k1.2.2 q q1 q2 q3
/-- the words of a set of flags -/
theorem flags_e {M : Mem} {st : Nat} (hst : st < 32) (hn : 716 ≤ M.2.1) (hlo : lo0 M) :
    ∃ M' s v, f_L_flags (nI st) M = some (s, M') ∧ strA M' s (flS st 5) ∧ (∃ z w, M'.1 s = some (.inr (11, [.ref v, .int 0, z, w]))) ∧ (M.2.1 ≤ s ∧ s < M'.2.1) ∧ (M.2.1 ≤ v ∧ v < M'.2.1) ∧ M'.2.2 = M.2.2 ∧ ∀ q, q < M.2.1 → M'.1 q = M.1 q := by
  obtain ⟨n, hn'⟩ : ∃ n, n = M.2.1 := ⟨_, rfl⟩
  have al : alc M = some n := by rw [alc_e (by omega), hn']
  obtain ⟨g, hg⟩ : ∃ g : Nat → Option Nat, g = va_up (va_up (va_up (va_up (va_up (fun _ => none) 0 (some 48)) 1 (some 49)) 2 (some 50)) 3 (some 51)) 4 (some 52) := ⟨_, rfl⟩
  have sq : ∀ (M : Mem) (h : Nat → Option Nat) (k : Nat) (x : Nat), M.1 n = some (.inl (10, (5, .inr (.inr (.inr (.inr h)))))) → k < 5 → sQ M 10 n (nI k) (some x) = some (mset M n (.inl (10, (5, .inr (.inr (.inr (.inr (va_up h k (some x))))))))) := by
    intro M h k x hm hk
    unfold sQ
    rw [hm]
    show (if (10 : Nat) = 10 ∧ inR (nI k) 5 = true then some (mset M n (.inl (10, 5, .inr (.inr (.inr (.inr (va_up h (nI k).toNatClampNeg (some x)))))))) else none) = _
    rw [if_pos ⟨rfl, inR_nx hk (by omega)⟩, nI_c (by omega)]
  obtain ⟨M1, hM1⟩ : ∃ M1, M1 = mnew M (.inl (10, (5, .inr (.inr (.inr (.inr (fun _ => none))))))) := ⟨_, rfl⟩
  have z1 : M1.1 n = some (.inl (10, (5, .inr (.inr (.inr (.inr (fun _ => none))))))) := by rw [hM1, hn']; exact if_pos rfl
  have k1 : ∀ q, q ≠ n → M1.1 q = M.1 q := fun q hq => by rw [hM1]; exact mnew_ne _ (by rw [← hn']; exact hq)
  have w1 : M1.2 = (n + 1, M.2.2) := by rw [hM1, hn']; rfl
  have s0 := sq M1 _ 0 48 z1 (by omega)
  obtain ⟨A1, hA1⟩ : ∃ A1, A1 = mset M1 n (.inl (10, (5, .inr (.inr (.inr (.inr (va_up (fun _ => none) 0 (some 48)))))))) := ⟨_, rfl⟩
  rw [← hA1] at s0
  have s1 := sq A1 _ 1 49 (by rw [hA1, mset_at]) (by omega)
  obtain ⟨A2, hA2⟩ : ∃ A2, A2 = mset A1 n (.inl (10, (5, .inr (.inr (.inr (.inr (va_up (va_up (fun _ => none) 0 (some 48)) 1 (some 49)))))))) := ⟨_, rfl⟩
  rw [← hA2] at s1
  have s2 := sq A2 _ 2 50 (by rw [hA2, mset_at]) (by omega)
  obtain ⟨A3, hA3⟩ : ∃ A3, A3 = mset A2 n (.inl (10, (5, .inr (.inr (.inr (.inr (va_up (va_up (va_up (fun _ => none) 0 (some 48)) 1 (some 49)) 2 (some 50)))))))) := ⟨_, rfl⟩
  rw [← hA3] at s2
  have s3 := sq A3 _ 3 51 (by rw [hA3, mset_at]) (by omega)
  obtain ⟨A4, hA4⟩ : ∃ A4, A4 = mset A3 n (.inl (10, (5, .inr (.inr (.inr (.inr (va_up (va_up (va_up (va_up (fun _ => none) 0 (some 48)) 1 (some 49)) 2 (some 50)) 3 (some 51)))))))) := ⟨_, rfl⟩
  rw [← hA4] at s3
  have s4 := sq A4 _ 4 52 (by rw [hA4, mset_at]) (by omega)
  obtain ⟨A5, hA5⟩ : ∃ A5, A5 = mset A4 n (.inl (10, (5, .inr (.inr (.inr (.inr g)))))) := ⟨_, rfl⟩
  rw [← hg, ← hA5] at s4
  have z5 : A5.1 n = some (.inl (10, (5, .inr (.inr (.inr (.inr g)))))) := by rw [hA5, mset_at]
  have k5 : ∀ q, q ≠ n → A5.1 q = M.1 q := fun q hq => by rw [hA5, mset_ne _ _ hq, hA4, mset_ne _ _ hq, hA3, mset_ne _ _ hq, hA2, mset_ne _ _ hq, hA1, mset_ne _ _ hq]; exact k1 q hq
  have w5 : A5.2 = (n + 1, M.2.2) := by rw [hA5, hA4, hA3, hA2, hA1]; exact w1
  have e5 : A5.2.1 = n + 1 := by rw [w5]
  obtain ⟨M6, e6, h6, w6, k6⟩ := sb_new (M := A5) (by rw [e5]; omega)
  rw [e5] at e6 h6 w6 k6
  have al5 : alc A5 = some (n + 1) := by rw [alc_e (by rw [e5]; omega), e5]
  have z6 : M6.1 n = some (.inl (10, (5, .inr (.inr (.inr (.inr g)))))) := (k6 n (by omega)).trans z5
  have lo6 : lo0 M6 := fun q hq => by rw [k6 q (by omega), k5 q (by omega)]; exact hlo q hq
  have hgf : ∀ f, f < 5 → g f = some (48 + f) := by
    rw [hg]
    decide
  have hq6 : ∀ f, f < 5 → aQ M6 10 n (nI f) = some (some (48 + f)) := by
    intro f hf
    unfold aQ
    rw [z6]
    show (if (10 : Nat) = 10 ∧ inR (nI f) 5 = true then some (g (nI f).toNatClampNeg) else none) = _
    rw [if_pos ⟨rfl, inR_nx hf (by omega)⟩, nI_c (by omega), hgf f hf]
  obtain ⟨M7, a7, cap7, -, e7, h7, d7, -, k7⟩ := flags_loop (r1 := n) hst 5 0 6 M6 (n + 1 + 1) 16 (by omega) (by omega) h6 (.inl rfl) lo6 hq6 (by rw [w6]; show n < n + 1 + 2; omega) (by omega) ⟨_, z6⟩
  have hasc : asc (flS st 5) := fun x hx => by
    obtain ⟨d, hd, e⟩ := List.mem_map.mp (fl_asc st hst 5 (by omega) x hx)
    exact ⟨d, List.mem_range.mp hd, e.symm⟩
  obtain ⟨M8, v, e8, h8, zw, v8, n8, x8, k8⟩ := sb_toS h7 hasc
  obtain ⟨k71, k72, k73⟩ := k7
  rw [w6] at k71 k72 k73
  have k71 : n + 1 + 2 ≤ M7.2.1 := k71
  refine ⟨M8, M7.2.1, v, ?_, h8, zw, ⟨by omega, n8⟩, ⟨by omega, v8.2⟩, x8.trans (k72.trans (by rw [w5])), fun q hq => ?_⟩
  · have c48 : strc 48 = true := by decide
    have c49 : strc 49 = true := by decide
    have c50 : strc 50 = true := by decide
    have c51 : strc 51 = true := by decide
    have c52 : strc 52 = true := by decide
    have s0 : sQ M1 10 n 0 (some 48) = some A1 := s0
    have s1 : sQ A1 10 n 1 (some 49) = some A2 := s1
    have s2 : sQ A2 10 n 2 (some 50) = some A3 := s2
    have s3 : sQ A3 10 n 3 (some 51) = some A4 := s3
    have s4 : sQ A4 10 n 4 (some 52) = some A5 := s4
    have e7 : f_L_flags_40 6 (nI st) n (n + 1) 0 M6 = f_L_flags_73 (n + 1) M7 := e7
    simp only [f_L_flags, al, bso, ← hM1, c48, c49, c50, c51, c52, gd, cond_true, s0, s1, s2, s3, s4, al5, e6, e7, f_L_flags_73, e8]
  · rw [k8 q (by omega), k73 q (by show q < n + 1 + 2; omega) (by omega) (by omega), k6 q (by omega), k5 q (by omega)]
