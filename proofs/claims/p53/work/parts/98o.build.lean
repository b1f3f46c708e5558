/-! PURE, p53: StringBuilders and Strings -/
def fitB (x : Int32) : Prop := fits .byte (.int x) = true
def asc (l : List Int32) : Prop := ∀ x ∈ l, ∃ d, d < 128 ∧ x = nI d
theorem fitB_n : ∀ d, d < 128 → fits .byte (.int (nI d)) = true := by decide +kernel
theorem asc_fit {l : List Int32} (h : asc l) {j : Nat} (hj : j < l.length) : fitB (l.getD j 0) := by
  have hm : l.getD j 0 ∈ l := by rw [List.getD_eq_getElem?_getD, List.getElem?_eq_getElem hj]; exact List.getElem_mem hj
  obtain ⟨d, hd, e⟩ := h _ hm
  unfold fitB
  rw [e]; exact fitB_n d hd
theorem asc_app {a b : List Int32} (h : asc a) (k : asc b) : asc (a ++ b) := fun x hx => (List.mem_append.mp hx).elim (h x) (k x)
def byA (M : Mem) (a cap : Nat) (l : List Int32) : Prop := l.length ≤ cap ∧ cap ≤ 1024 ∧ ∃ f, M.1 a = some (.inl (2, (cap, .inl f))) ∧ (∀ j, j < l.length → f j = l.getD j 0) ∧ ∀ j, j < cap → fitB (f j)
def sbA (M : Mem) (r a cap : Nat) (l : List Int32) : Prop := (∃ z, M.1 r = some (.inr (12, [.ref a, .int 0, z, .int (nI l.length)]))) ∧ byA M a cap l ∧ (716 ≤ r ∧ r < M.2.1) ∧ (716 ≤ a ∧ a < M.2.1)
theorem byA.cg {M M' : Mem} {a cap : Nat} {l : List Int32} (h : byA M a cap l) (e : M'.1 a = M.1 a) : byA M' a cap l := by
  obtain ⟨h1, h2, f, h3, h4⟩ := h
  exact ⟨h1, h2, f, by rw [e]; exact h3, h4⟩
theorem sbA.ne {M : Mem} {r a cap : Nat} {l : List Int32} (h : sbA M r a cap l) : r ≠ a := by
  obtain ⟨⟨z, h1⟩, ⟨-, -, f, h2, -⟩, -⟩ := h
  intro e
  rw [e, h2] at h1
  simp at h1
theorem cB_hi {r : Nat} (h : 100 ≤ r) : cB r = none := by
  unfold cB
  rw [if_neg (by omega), if_neg (by omega), if_neg (by omega), if_neg (by omega)]
theorem strc_hi {r : Nat} (h : 100 ≤ r) : strc r = false := by
  unfold strc
  rw [decide_eq_false (by omega), decide_eq_false (by omega)]; rfl
/-- a String, constant or not, with its bytes -/
def strA (M : Mem) (s : Nat) (t : List Int32) : Prop := asc t ∧ t.length ≤ 1024 ∧ ((strc s = true ∧ cB (strb s) = some t) ∨ (100 ≤ s ∧ ∃ (a : Nat) (z w : Value), 100 ≤ a ∧ M.1 s = some (.inr (11, [.ref a, .int 0, z, w])) ∧ byA M a t.length t))
section
variable {M : Mem} {s : Nat} {t : List Int32}
theorem strA_obS {τ : Type} (h : strA M s t) (x : Option τ) : obS M s x = x := by
  unfold obS isS
  rcases h.2.2 with ⟨h1, -⟩ | ⟨h1, a, z, w, -, h2, -⟩
  · rw [h1]; rfl
  · have : isO M 11 s = true := by unfold isO; rw [h2]; rfl
    rw [this, Bool.or_true]; rfl
theorem strA.K (h : strA M s t) : sK M s = some 0 := by
  unfold sK
  rcases h.2.2 with ⟨h1, -⟩ | ⟨h1, a, z, w, -, h2, -⟩
  · rw [h1]; rfl
  · rw [strc_hi h1, cond_false, gI_h h2]; rfl
theorem strA.V (h : strA M s t) : ∃ v, sV M s = some v ∧ bL M v = some (nI t.length) ∧ (∀ j, j < t.length → bI M v (nI j) = some (t.getD j 0)) ∧ ∃ f n, srcB M v = some (n, f) ∧ n = t.length ∧ (∀ j, j < t.length → f j = t.getD j 0) ∧ (v < 100 ∨ ∃ z w, M.1 s = some (.inr (11, [.ref v, .int 0, z, w]))) := by
  unfold sV bL bI srcB
  have hl := h.2.1
  rcases h.2.2 with ⟨h1, h2⟩ | ⟨h1, a, z, w, ha, h2, -, -, f, h3, h4, h5⟩
  · refine ⟨strb s, by rw [h1]; rfl, by rw [h2]; rfl, fun j hj => ?_, _, _, by rw [h2], rfl, fun j _ => rfl, .inl ?_⟩
    · rw [h2]
      show (if inR (nI j) t.length = true then some (t.getD (nI j).toNatClampNeg 0) else none) = _
      rw [if_pos (inR_nx hj (by omega)), nI_c (by omega)]
    · rcases strc_of h1 with ⟨i, hi, rfl⟩ | ⟨i, hi, rfl⟩
      · unfold strb; split <;> omega
      · unfold strb; split <;> omega
  · refine ⟨a, by rw [strc_hi h1, cond_false, gR_h h2]; rfl, by rw [cB_hi ha]; exact aL_h h3, fun j hj => ?_, f, _, by rw [cB_hi ha, h3]; rfl, rfl, h4, .inr ⟨z, w, h2⟩⟩
    rw [cB_hi ha]
    show aI M 2 a (nI j) = _
    unfold aI
    rw [h3]
    show (if (2 : Nat) = 2 ∧ inR (nI j) t.length = true then some (f (nI j).toNatClampNeg) else none) = _
    rw [if_pos ⟨rfl, inR_nx hj (by omega)⟩, nI_c (by omega), h4 j hj]
theorem shr0 (x : Int32) : x >>> ((0 : Int32) &&& 31) = x := by rw [show (0 : Int32) &&& 31 = 0 from by decide, Int32.shiftRight_zero]
theorem shl0 (x : Int32) : x <<< ((0 : Int32) &&& 31) = x := by rw [show (0 : Int32) &&& 31 = 0 from by decide, Int32.shiftLeft_zero]
theorem str_coder (h : strA M s t) : f_J0_coder_7d493 s M = some 0 := by
  rw [f_J0_coder_7d493, strA_obS h]
  simp only [h.K, bso, gd]
  rfl
theorem str_len (h : strA M s t) : f_J0_length_8abf5 s M = some (nI t.length) := by
  obtain ⟨v, h1, h2, -⟩ := h.V
  rw [f_J0_length_8abf5, strA_obS h]
  simp only [h1, h2, str_coder h, bso, shr0]
theorem asc_c : ∀ d, d < 128 → isC ((((nI d) &&& 255).toUInt32 % 65536).toInt32) = true ∧ (((nI d) &&& 255).toUInt32 % 65536).toInt32 = nI d := by decide +kernel
theorem str_char (h : strA M s t) {j : Nat} (hj : j < t.length) : f_J0_charAt_5068e s (nI j) M = some (t.getD j 0) := by
  obtain ⟨v, h1, h2, h3, -⟩ := h.V
  have hl := h.2.1
  have hm : t.getD j 0 ∈ t := by rw [List.getD_eq_getElem?_getD, List.getElem?_eq_getElem hj]; exact List.getElem_mem hj
  obtain ⟨d, hd, e⟩ := h.1 _ hm
  obtain ⟨a1, a2⟩ := asc_c d hd
  have a3 : isC (nI d) = true := by rw [a2] at a1; exact a1
  have hlat : f_J0_isLatin1_aae02 s M = some true := by
    rw [f_J0_isLatin1_aae02, strA_obS h]
    simp only [h.K, bso, if_true]
  have hp : pChk (nI j) (nI t.length) = some (nI j) := by
    unfold pChk
    rw [if_neg (Int32.not_lt.mpr (nI_ge0 (by omega))), if_pos (by rw [nI_ltI (by omega) (by omega)]; exact hj)]
  have hc : f_J1_charAt_3b067 v (nI j) M = some (t.getD j 0) := by
    simp only [f_J1_charAt_3b067, h2, hp, h3 j hj, bso, gd, e, a2, a3, cond_true]
  rw [f_J0_charAt_5068e, strA_obS h]
  simp only [hlat, bso, cond_true, h1, hc, gd, e, a3]
end
theorem sub_le0 {a b : Nat} (ha : a < 2 ^ 30) (hb : b < 2 ^ 30) : (nI a - nI b ≤ 0) = (a ≤ b) := by
  refine propext ?_
  rw [Int32.le_iff_toInt_le, Int32.toInt_sub]
  unfold nI
  rw [Int32.toInt_ofNat_small (by omega), Int32.toInt_ofNat_small (by omega), Int.bmod_eq_of_le (by omega) (by omega)]
  have : (0 : Int32).toInt = 0 := rfl
  rw [this]
  omega
/-- all but two places, and what is new, is as it was -/
def keepB (M M' : Mem) (r a : Nat) : Prop := M.2.1 ≤ M'.2.1 ∧ M'.2.2 = M.2.2 ∧ ∀ q, q < M.2.1 → q ≠ r → q ≠ a → M'.1 q = M.1 q
theorem all_fit {n : Nat} {f : Nat → Int32} {sp : Nat} (h : ∀ j, j < n → fitB (f (sp + j))) : (List.range n).all (fun i => fits .byte (.int (f (sp + i)))) = true := List.all_eq_true.mpr (fun i hi => h i (List.mem_range.mp hi))
theorem cpOK_n {n0 n1 sp dp n : Nat} {f : Nat → Int32} (h0 : n0 < 2 ^ 31) (h1 : n1 < 2 ^ 31) (a : sp + n ≤ n0) (b : dp + n ≤ n1) (h : ∀ j, j < n → fitB (f (sp + j))) : cpOK n0 n1 f (nI sp) (nI dp) (nI n) = true := by
  unfold cpOK
  rw [nI_c (by omega), nI_c (by omega), nI_c (by omega), all_fit h, decide_eq_false (Int32.not_lt.mpr (nI_ge0 (by omega))), decide_eq_false (Int32.not_lt.mpr (nI_ge0 (by omega))), decide_eq_false (Int32.not_lt.mpr (nI_ge0 (by omega))), Nat.ble_eq_true_of_le a, Nat.ble_eq_true_of_le b]
  rfl
/-- room for more -/
theorem ens_e {M : Mem} {r a cap : Nat} {l : List Int32} (h : sbA M r a cap l) {mn : Nat} (h1 : mn ≤ cap ∨ (mn ≤ 2 * cap + 2 ∧ 2 * cap + 2 ≤ 1024)) :
    ∃ M' a' cap', f_J5_ensureCapacityInternal_d00df r (nI mn) M = some M' ∧ sbA M' r a' cap' l ∧ mn ≤ cap' ∧ ((cap' = cap ∧ mn ≤ cap) ∨ (cap' = 2 * cap + 2 ∧ cap < mn)) ∧ (a' = a ∨ M.2.1 ≤ a') ∧ keepB M M' r a := by
  have hra := h.ne
  obtain ⟨⟨z, p⟩, ⟨b1, b2, f, b3, b4, b5⟩, hr, ha⟩ := id h
  have g0 : gR M 12 0 r = some a := by rw [gR_h p]; rfl
  have g1 : gI M 12 1 r = some 0 := by rw [gI_h p]; rfl
  have gL : aL M a = some (nI cap) := aL_h b3
  by_cases e : mn ≤ cap
  · refine ⟨M, a, cap, ?_, h, e, .inl ⟨rfl, e⟩, .inl rfl, Nat.le_refl _, rfl, fun _ _ _ _ => rfl⟩
    rw [f_J5_ensureCapacityInternal_d00df, ob_h p]
    simp only [g0, gL, g1, bso, shr0]
    rw [if_pos (by rw [sub_le0 (by omega) (by omega)]; exact e)]
  · obtain ⟨c1, c2⟩ := h1.resolve_left e
    obtain ⟨n, hn⟩ : ∃ n, n = M.2.1 := ⟨_, rfl⟩
    have hal : alc M = some n := by rw [alc_e (by omega), hn]
    obtain ⟨M1, hM1⟩ : ∃ M1, M1 = mnew M (.inl (2, (2 * cap + 2, .inl (fun _ => 0)))) := ⟨_, rfl⟩
    have k1 : ∀ q, q ≠ n → M1.1 q = M.1 q := fun q hq => by rw [hM1]; exact mnew_ne _ (by rw [← hn]; exact hq)
    have z1 : M1.1 n = some (.inl (2, (2 * cap + 2, .inl (fun _ => 0)))) := by rw [hM1, hn]; exact if_pos rfl
    have w1 : M1.2 = (n + 1, M.2.2) := by rw [hM1, hn]; rfl
    have aL1 : aL M1 a = some (nI cap) := aL_h ((k1 a (by omega)).trans b3)
    obtain ⟨g, hg⟩ : ∃ g, g = va_cpy f (fun _ => (0 : Int32)) 0 0 cap := ⟨_, rfl⟩
    have hcp : bcp M1 a 0 n 0 (nI cap) = some (mset M1 n (.inl (2, (2 * cap + 2, .inl g)))) := by
      unfold bcp srcB
      rw [cB_hi (show 100 ≤ a by omega), k1 a (by omega), b3, z1]
      have hok : cpOK cap (2 * cap + 2) f 0 0 (nI cap) = true := cpOK_n (sp := 0) (dp := 0) (by omega) (by omega) (by omega) (by omega) (fun j hj => by rw [Nat.zero_add]; exact b5 j hj)
      have hne : Nat.beq a n = false := by
        cases hb : Nat.beq a n with
        | false => rfl
        | true => have := Nat.eq_of_beq_eq_true hb; omega
      show (bif cpOK cap (2 * cap + 2) f 0 0 (nI cap) && !(Nat.beq a n) then some (mset M1 n (.inl (2, 2 * cap + 2, .inl (va_cpy f (fun _ => 0) (0 : Int32).toNatClampNeg (0 : Int32).toNatClampNeg (nI cap).toNatClampNeg)))) else none) = _
      rw [hok, hne, nI_c (by omega), hg]; rfl
    obtain ⟨M2, hM2⟩ : ∃ M2, M2 = mset M1 n (.inl (2, (2 * cap + 2, .inl g))) := ⟨_, rfl⟩
    have p2 : M2.1 r = some (.inr (12, [.ref a, .int 0, z, .int (nI l.length)])) := by rw [hM2, mset_ne _ _ (by omega), k1 r (by omega)]; exact p
    obtain ⟨M3, hM3⟩ : ∃ M3, M3 = mset M2 r (.inr (12, [.ref n, .int 0, z, .int (nI l.length)])) := ⟨_, rfl⟩
    have hp3 : pV M2 12 0 r (.ref n) = some M3 := by rw [pV_h p2 (Nat.le_of_ble_eq_true rfl), hM3]; rfl
    have g' : ∀ j, j < cap → g j = f j := fun j hj => by
      rw [hg]
      show (if 0 ≤ j ∧ j < 0 + cap then f (0 + (j - 0)) else 0) = f j
      rw [if_pos ⟨Nat.zero_le _, by omega⟩, Nat.zero_add, Nat.sub_zero]
    have w3 : M3.2 = (n + 1, M.2.2) := by rw [hM3, hM2]; exact w1
    have z3 : M3.1 n = some (.inl (2, (2 * cap + 2, .inl g))) := by rw [hM3, mset_ne _ _ (by omega), hM2, mset_at]
    refine ⟨M3, n, 2 * cap + 2, ?_, ⟨⟨z, by rw [hM3, mset_at]⟩, ⟨by omega, by omega, g, z3, fun j hj => by rw [g' j (by omega)]; exact b4 j hj, fun j hj => ?_⟩, by rw [w3]; exact ⟨hr.1, by show r < n + 1; omega⟩, by rw [w3]; exact ⟨by omega, by show n < n + 1; omega⟩⟩, c1, .inr ⟨rfl, by omega⟩, .inr (by omega), by rw [w3]; show M.2.1 ≤ n + 1; omega, by rw [w3], fun q q1 q2 q3 => ?_⟩
    · have s1 : (nI mn <<< ((0 : Int32) &&& 31)) - nI cap = nI (mn - cap) := by rw [shl0, nI_sub (by omega)]
      have s2 : nI cap + ((2 : Int32) <<< ((0 : Int32) &&& 31)) = nI (cap + 2) := by rw [shl0]; exact nI_add cap 2
      have s3 : f_J9_max_7cf53 (nI (mn - cap)) (nI (cap + 2)) M = some (nI (cap + 2)) := by
        unfold f_J9_max_7cf53
        by_cases y : mn - cap < cap + 2
        · rw [if_pos (by rw [nI_ltI (by omega) (by omega)]; exact y)]
        · rw [if_neg (by rw [nI_ltI (by omega) (by omega)]; exact y)]
          rw [show mn - cap = cap + 2 by omega]
      have s4 : nI cap + nI (cap + 2) = nI (2 * cap + 2) := by rw [nI_add]; congr 1; omega
      have s5 : ¬ nI (2 * cap + 2) ≤ 0 := nI_nle (by omega) (by omega)
      have s6 : ¬ 2147483639 < nI (2 * cap + 2) := by
        have : ((2147483639 : Int32) < nI (2 * cap + 2)) = (2147483639 < 2 * cap + 2) := ltI (x := 2147483639) (a := 2147483639) rfl rfl (by omega) (by omega)
        rw [this]; omega
      have s7 : ¬ nI (2 * cap + 2) = 2147483647 := by
        have := nI_eq (a := 2 * cap + 2) (b := 2147483647) (by omega) (by omega)
        exact fun w => by have := this.mp w; omega
      have s8 : ¬ nI (2 * cap + 2) = nI cap := fun w => by have := (nI_eq (by omega) (by omega)).mp w; omega
      have s9 : ¬ nI (2 * cap + 2) < nI cap := by rw [nI_ltI (by omega) (by omega)]; omega
      have hnl : f_J8_newLength_cabcc (nI cap) (nI (mn - cap)) (nI (cap + 2)) M = some (nI (2 * cap + 2)) := by
        simp only [f_J8_newLength_cabcc, s3, bso, s4]
        rw [if_neg s5, if_neg s6]
      have hnc : f_J5_newCapacity_0f7a4 r (nI mn) M = some (nI (2 * cap + 2)) := by
        rw [f_J5_newCapacity_0f7a4, ob_h p]
        simp only [g0, gL, g1, bso, s1, s2, hnl]
        rw [if_neg s7, shr0]
      have hco : f_J7_copyOf_9075b a (nI (2 * cap + 2)) M = some (n, M2) := by
        simp only [f_J7_copyOf_9075b, gL, bso]
        rw [if_neg s8]
        simp only [okN_n (show 2 * cap + 2 ≤ 1024 by omega) (show 2 * cap + 2 < 2 ^ 31 by omega), gd, cond_true, hal, bso, nI_c (show 2 * cap + 2 < 2 ^ 31 by omega), ← hM1, aL1, f_J9_min_7cf53]
        rw [if_neg s9]
        simp only [bso, hcp, ← hM2]
      rw [f_J5_ensureCapacityInternal_d00df, ob_h p]
      simp only [g0, gL, g1, bso, shr0]
      rw [if_neg (by rw [sub_le0 (by omega) (by omega)]; omega)]
      simp only [hnc, bso, shl0, hco, hp3]
    · rw [hg]
      show fitB (if 0 ≤ j ∧ j < 0 + cap then f (0 + (j - 0)) else 0)
      split
      · exact b5 _ (by omega)
      · exact fitB_n 0 (by omega)
    · rw [hM3, mset_ne _ _ q2, hM2, mset_ne _ _ (by omega), k1 q (by omega)]
theorem app_getD (l t : List Int32) (j : Nat) : (l ++ t).getD j 0 = if j < l.length then l.getD j 0 else t.getD (j - l.length) 0 := by
  rw [List.getD_eq_getElem?_getD, List.getElem?_append]
  split <;> rw [List.getD_eq_getElem?_getD]
/-- a String put behind -/
theorem sb_str {M : Mem} {r a cap s : Nat} {l t : List Int32} (h : sbA M r a cap l) (hs : strA M s t) (hsr : s ≠ r) (hsa : ∀ (v : Nat) (z w : Value), M.1 s = some (.inr (11, [.ref v, .int 0, z, w])) → v ≠ a ∧ v < M.2.1 ∧ s < M.2.1) (h1 : l.length + t.length ≤ cap ∨ (l.length + t.length ≤ 2 * cap + 2 ∧ 2 * cap + 2 ≤ 1024)) :
    ∃ M' a' cap', f_J4_append_15ec4 r s M = some (r, M') ∧ sbA M' r a' cap' (l ++ t) ∧ ((cap' = cap ∧ l.length + t.length ≤ cap) ∨ (cap' = 2 * cap + 2 ∧ cap < l.length + t.length)) ∧ (a' = a ∨ M.2.1 ≤ a') ∧ keepB M M' r a := by
  obtain ⟨⟨z0, p0⟩, -, hr0, ha0⟩ := id h
  obtain ⟨M1, a1, cap1, e1, h1', c1, c2, c3, k1, k2, k3⟩ := ens_e h (mn := l.length + t.length) h1
  have hne1 := h1'.ne
  obtain ⟨⟨z, p⟩, ⟨b1, b2, f, b3, b4, b5⟩, hr, ha⟩ := id h1'
  -- the String is as it was
  have hs1 : strA M1 s t ∧ ∀ v, sV M1 s = some v → v ≠ a1 := by
    refine ⟨⟨hs.1, hs.2.1, ?_⟩, fun v hv => ?_⟩
    · rcases hs.2.2 with w | ⟨w1, v, z, w, w2, w3, w4⟩
      · exact .inl w
      · obtain ⟨v1, v2, v3⟩ := hsa v z w w3
        have hvr : v ≠ r := fun y => by
          obtain ⟨-, -, g, g1, -⟩ := w4
          rw [y, p0] at g1; simp at g1
        have hsa2 : s ≠ a := fun y => by
          obtain ⟨-, -, g, g1, -⟩ := h.2.1
          rw [y, g1] at w3; simp at w3
        exact .inr ⟨w1, v, z, w, w2, by rw [k3 s v3 hsr hsa2]; exact w3, w4.cg (k3 v v2 hvr v1)⟩
    · rcases hs.2.2 with ⟨w, -⟩ | ⟨w1, v', z', w', w2, w3, w4⟩
      · unfold sV at hv
        rw [w, cond_true] at hv
        have : strb s = v := Option.some.inj hv
        have hlt : strb s < 100 := by
          rcases strc_of w with ⟨i, hi, rfl⟩ | ⟨i, hi, rfl⟩
          · unfold strb; split <;> omega
          · unfold strb; split <;> omega
        omega
      · obtain ⟨v1, v2, v3⟩ := hsa v' z' w' w3
        have hsa2 : s ≠ a := fun y => by
          obtain ⟨-, -, g, g1, -⟩ := h.2.1
          rw [y, g1] at w3; simp at w3
        unfold sV at hv
        rw [strc_hi w1, cond_false, gR_h ((k3 s v3 hsr hsa2).trans w3)] at hv
        have : v' = v := Option.some.inj hv
        rcases c3 with c3 | c3 <;> omega
  obtain ⟨hs1, hv1⟩ := hs1
  obtain ⟨v, v1, v2, -, g, n, v3, rfl, v4, -⟩ := hs1.V
  have hva := hv1 v v1
  obtain ⟨f2, hf2⟩ : ∃ f2, f2 = va_cpy g f 0 l.length t.length := ⟨_, rfl⟩
  obtain ⟨M2, hM2⟩ : ∃ M2, M2 = mset M1 a1 (.inl (2, (cap1, .inl f2))) := ⟨_, rfl⟩
  have hbc : bcp M1 v 0 a1 (nI l.length) (nI t.length) = some M2 := by
    unfold bcp
    rw [v3, b3]
    have hok : cpOK t.length cap1 g 0 (nI l.length) (nI t.length) = true := cpOK_n (sp := 0) (by have := hs.2.1; omega) (by omega) (by omega) (by omega) (fun j hj => by rw [Nat.zero_add, v4 j hj]; exact asc_fit hs.1 hj)
    have hne : Nat.beq v a1 = false := by
      cases hb : Nat.beq v a1 with
      | false => rfl
      | true => exact absurd (Nat.eq_of_beq_eq_true hb) hva
    show (bif cpOK t.length cap1 g 0 (nI l.length) (nI t.length) && !(Nat.beq v a1) then some (mset M1 a1 (.inl (2, cap1, .inl (va_cpy g f (0 : Int32).toNatClampNeg (nI l.length).toNatClampNeg (nI t.length).toNatClampNeg)))) else none) = _
    rw [hok, hne, nI_c (by omega), nI_c (by omega), hM2, hf2]; rfl
  have g3 : gI M1 12 3 r = some (nI l.length) := by rw [gI_h p]; rfl
  have g0 : gR M1 12 0 r = some a1 := by rw [gR_h p]; rfl
  have g1 : gI M1 12 1 r = some 0 := by rw [gI_h p]; rfl
  have p2 : M2.1 r = some (.inr (12, [.ref a1, .int 0, z, .int (nI l.length)])) := by rw [hM2, mset_ne _ _ hne1]; exact p
  have g32 : gI M2 12 3 r = some (nI l.length) := by rw [gI_h p2]; rfl
  obtain ⟨M3, hM3⟩ : ∃ M3, M3 = mset M2 r (.inr (12, [.ref a1, .int 0, z, .int (nI (l ++ t).length)])) := ⟨_, rfl⟩
  have hp3 : pV M2 12 3 r (.int (nI l.length + nI t.length)) = some M3 := by
    rw [pV_h p2 (Nat.le_of_ble_eq_true rfl), hM3, nI_add, List.length_append]; rfl
  have w3 : M3.2 = M1.2 := by rw [hM3, hM2]; rfl
  have z3 : M3.1 a1 = some (.inl (2, (cap1, .inl f2))) := by rw [hM3, mset_ne _ _ (fun y => hne1 y.symm), hM2, mset_at]
  have hput : f_J5_putStringAt_47b60 r (nI l.length) s M1 = some M2 := by
    have hi : f_J5_inflateIfNeededFor_a7421 r s M1 = some M1 := by
      rw [f_J5_inflateIfNeededFor_a7421, ob_h p]
      simp only [g1, str_coder hs1, bso, if_true]
    have hg : f_J0_getBytes_840e7 s a1 (nI l.length) 0 M1 = some M2 := by
      rw [f_J0_getBytes_840e7, strA_obS hs1]
      simp only [str_coder hs1, v1, v2, bso, if_true, shl0, hbc]
    rw [f_J5_putStringAt_47b60, ob_h p]
    simp only [hi, g0, g1, hg, bso]
  have gL0 : gI M 12 3 r = some (nI l.length) := by rw [gI_h p0]; rfl
  refine ⟨M3, a1, cap1, ?_, ⟨⟨z, by rw [hM3, mset_at]⟩, ⟨by rw [List.length_append]; exact c1, b2, f2, z3, fun j hj => ?_, fun j hj => ?_⟩, by rw [w3]; exact hr, by rw [w3]; exact ha⟩, c2, c3, by rw [w3]; exact k1, by rw [w3]; exact k2, fun q q1 q2 q3 => ?_⟩
  · have e1' : f_J5_ensureCapacityInternal_d00df r (nI l.length + nI t.length) M = some M1 := by rw [nI_add]; exact e1
    rw [f_J4_append_15ec4, ob_h p0, f_J5_append_cf1ce, ob_h p0]
    simp only [str_len hs, gL0, e1', g3, hput, g32, hp3, bso]
  · rw [List.length_append] at hj
    rw [hf2, app_getD]
    show (if l.length ≤ j ∧ j < l.length + t.length then g (0 + (j - l.length)) else f j) = _
    by_cases y : j < l.length
    · rw [if_neg (by omega), if_pos y]; exact b4 j y
    · rw [if_pos ⟨by omega, by omega⟩, if_neg y, Nat.zero_add]; exact v4 _ (by omega)
  · rw [hf2]
    show fitB (if l.length ≤ j ∧ j < l.length + t.length then g (0 + (j - l.length)) else f j)
    split
    · rw [Nat.zero_add, v4 _ (by omega)]; exact asc_fit hs.1 (by omega)
    · exact b5 j hj
  · have : q ≠ a1 := by rcases c3 with c3 | c3 <;> omega
    rw [hM3, mset_ne _ _ q2, hM2, mset_ne _ _ this]
    exact k3 q q1 q2 q3
theorem asc_nar : ∀ d, d < 128 → vp_nar .byte ((Int32.toInt8 (nI d)).toInt32) = nI d ∧ ¬ 255 < nI d := by decide +kernel
/-- a byte set ahead of the end -/
theorem byA_set {M : Mem} {a cap : Nat} {f : Nat → Int32} (hcap : cap ≤ 1024) (h : M.1 a = some (.inl (2, (cap, .inl f)))) {j : Nat} (hj : j < cap) {x y : Int32} (hx : vp_nar .byte x = y) : sI M 2 a (nI j) (vp_nar .byte x) = some (mset M a (.inl (2, (cap, .inl (upd f j y))))) := by
  rw [sI_h h (inR_nx hj (by omega)), nI_c (by omega), hx]
/-- a char put behind -/
theorem sb_chr {M : Mem} {r a cap d : Nat} {l : List Int32} (h : sbA M r a cap l) (hd : d < 128) (h1 : l.length + 1 ≤ cap ∨ (l.length + 1 ≤ 2 * cap + 2 ∧ 2 * cap + 2 ≤ 1024)) :
    ∃ M' a' cap', f_J4_append_cf468 r (nI d) M = some (r, M') ∧ sbA M' r a' cap' (l ++ [nI d]) ∧ ((cap' = cap ∧ l.length + 1 ≤ cap) ∨ (cap' = 2 * cap + 2 ∧ cap < l.length + 1)) ∧ (a' = a ∨ M.2.1 ≤ a') ∧ keepB M M' r a := by
  obtain ⟨⟨z0, p0⟩, -, hr0, ha0⟩ := id h
  obtain ⟨M1, a1, cap1, e1, h1', c1, c2, c3, k1, k2, k3⟩ := ens_e h (mn := l.length + 1) h1
  have hne1 := h1'.ne
  obtain ⟨⟨z, p⟩, ⟨b1, b2, f, b3, b4, b5⟩, hr, ha⟩ := id h1'
  obtain ⟨n1, n2⟩ := asc_nar d hd
  have gL0 : gI M 12 3 r = some (nI l.length) := by rw [gI_h p0]; rfl
  have g3 : gI M1 12 3 r = some (nI l.length) := by rw [gI_h p]; rfl
  have g0 : gR M1 12 0 r = some a1 := by rw [gR_h p]; rfl
  have g1 : gI M1 12 1 r = some 0 := by rw [gI_h p]; rfl
  obtain ⟨M2, hM2⟩ : ∃ M2, M2 = mset M1 r (.inr (12, [.ref a1, .int 0, z, .int (nI (l ++ [nI d]).length)])) := ⟨_, rfl⟩
  have hp2 : pV M1 12 3 r (.int (nI l.length + 1)) = some M2 := by
    rw [pV_h p (Nat.le_of_ble_eq_true rfl), hM2, nI_1, List.length_append]; rfl
  have z2 : M2.1 a1 = some (.inl (2, (cap1, .inl f))) := by rw [hM2, mset_ne _ _ (fun y => hne1 y.symm)]; exact b3
  obtain ⟨M3, hM3⟩ : ∃ M3, M3 = mset M2 a1 (.inl (2, (cap1, .inl (upd f l.length (nI d))))) := ⟨_, rfl⟩
  have hs3 : sI M2 2 a1 (nI l.length) (vp_nar .byte ((Int32.toInt8 (nI d)).toInt32)) = some M3 := by rw [byA_set b2 z2 (by omega) n1, hM3]
  have w3 : M3.2 = M1.2 := by rw [hM3, hM2]; rfl
  refine ⟨M3, a1, cap1, ?_, ⟨⟨z, by rw [hM3, mset_ne _ _ hne1, hM2, mset_at]⟩, ⟨by rw [List.length_append]; exact c1, b2, upd f l.length (nI d), by rw [hM3, mset_at], fun j hj => ?_, fun j hj => ?_⟩, by rw [w3]; exact hr, by rw [w3]; exact ha⟩, c2, c3, by rw [w3]; exact k1, by rw [w3]; exact k2, fun q q1 q2 q3 => ?_⟩
  · have e1' : f_J5_ensureCapacityInternal_d00df r (nI l.length + 1) M = some M1 := by rw [nI_1]; exact e1
    have hlat : f_J5_isLatin1_aae02 r M1 = some true := by
      rw [f_J5_isLatin1_aae02, ob_h p]
      simp only [g1, bso, if_true]
    have hce : f_J1_canEncode_fc78d (nI d) M1 = some true := by unfold f_J1_canEncode_fc78d; rw [if_neg n2]
    rw [f_J4_append_cf468, ob_h p0, f_J5_append_3fe6f, ob_h p0]
    simp only [gL0, e1', hlat, hce, g0, g3, hp2, hs3, bso, cond_true]
  · rw [List.length_append, List.length_singleton] at hj
    rw [app_getD]
    by_cases y : j < l.length
    · rw [if_pos y, upd_n _ _ (by omega)]; exact b4 j y
    · rw [if_neg y, show j = l.length by omega, upd_s, Nat.sub_self]; rfl
  · by_cases y : j = l.length
    · rw [y, upd_s]; exact fitB_n d hd
    · rw [upd_n _ _ y]; exact b5 j hj
  · have : q ≠ a1 := by rcases c3 with c3 | c3 <;> omega
    rw [hM3, mset_ne _ _ this, hM2, mset_ne _ _ q2]
    exact k3 q q1 q2 q3
