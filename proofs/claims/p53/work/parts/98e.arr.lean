/-! PURE, p53: the law's arrays; without, longer -/
def iA (M : Mem) (r : Nat) (l : List Int32) : Prop := l.length ≤ 64 ∧ ∃ f, M.1 r = some (.inl (0, (l.length, .inl f))) ∧ ∀ j, j < l.length → f j = l.getD j 0
def oA (M : Mem) (r m : Nat) (g : Nat → Nat) : Prop := m ≤ 8 ∧ ∃ h : Nat → Option Nat, M.1 r = some (.inl (9, (m, .inr (.inr (.inr (.inr h)))))) ∧ ∀ s, s < m → h s = some (g s)
/-- the memory is as it was, but for one place -/
def on1 (M M' : Mem) (r : Nat) : Prop := M'.2 = M.2 ∧ ∀ q, q ≠ r → M'.1 q = M.1 q
theorem on1.trans {M M' M'' : Mem} {r : Nat} (h : on1 M M' r) (k : on1 M' M'' r) : on1 M M'' r := ⟨k.1.trans h.1, fun q hq => (k.2 q hq).trans (h.2 q hq)⟩
theorem nI_c {n : Nat} (h : n < 2 ^ 31) : (nI n).toNatClampNeg = n := Int32.toNatClampNeg_ofNat_of_lt h
theorem inR_nx {j n : Nat} (h : j < n) (hn : n < 2 ^ 31) : inR (nI j) n = true := by
  unfold inR
  rw [nI_c (by omega), decide_eq_true h, decide_eq_false (Int32.not_lt.mpr (nI_ge0 (by omega)))]; rfl
theorem iA.cg {M M' : Mem} {r : Nat} {l : List Int32} (h : iA M r l) (e : M'.1 r = M.1 r) : iA M' r l := by
  obtain ⟨h1, f, h2, h3⟩ := h
  exact ⟨h1, f, by rw [e]; exact h2, h3⟩
theorem oA.cg {M M' : Mem} {r m : Nat} {g : Nat → Nat} (h : oA M r m g) (e : M'.1 r = M.1 r) : oA M' r m g := by
  obtain ⟨h1, f, h2, h3⟩ := h
  exact ⟨h1, f, by rw [e]; exact h2, h3⟩
theorem iA.on {M M' : Mem} {r q : Nat} {l : List Int32} (h : iA M r l) (o : on1 M M' q) (hq : r ≠ q) : iA M' r l := h.cg (o.2 r hq)
theorem oA.on {M M' : Mem} {r q m : Nat} {g : Nat → Nat} (h : oA M r m g) (o : on1 M M' q) (hq : r ≠ q) : oA M' r m g := h.cg (o.2 r hq)
section
variable {M : Mem} {r m : Nat} {l : List Int32} {gg : Nat → Nat}
theorem iA.L (h : iA M r l) : aL M r = some (nI l.length) := by
  obtain ⟨-, f, h2, -⟩ := h
  unfold aL; rw [h2]; rfl
theorem oA.L (h : oA M r m gg) : aL M r = some (nI m) := by
  obtain ⟨-, f, h2, -⟩ := h
  unfold aL; rw [h2]; rfl
theorem iA.I (h : iA M r l) : isI M r = true := by
  obtain ⟨-, f, h2, -⟩ := h
  unfold isI; rw [h2]; rfl
theorem iA.g (h : iA M r l) {j : Nat} (hj : j < l.length) : aI M 0 r (nI j) = some (l.getD j 0) := by
  obtain ⟨h1, f, h2, h3⟩ := h
  unfold aI; rw [h2]
  show (if (0 : Nat) = 0 ∧ inR (nI j) l.length = true then some (f (nI j).toNatClampNeg) else none) = _
  rw [if_pos ⟨rfl, inR_nx hj (by omega)⟩, nI_c (by omega), h3 j hj]
theorem iA.s (h : iA M r l) {j : Nat} (hj : j < l.length) (x : Int32) : ∃ M', sI M 0 r (nI j) x = some M' ∧ iA M' r (l.set j x) ∧ on1 M M' r := by
  obtain ⟨h1, f, h2, h3⟩ := h
  refine ⟨mset M r (.inl (0, (l.length, .inl (upd f j x)))), ?_, ⟨by rw [List.length_set]; exact h1, upd f j x, ?_, fun i hi => ?_⟩, rfl, fun q hq => mset_ne M _ hq⟩
  · unfold sI; rw [h2]
    show (if (0 : Nat) = 0 ∧ inR (nI j) l.length = true then some (mset M r (.inl (0, l.length, .inl (upd f (nI j).toNatClampNeg x)))) else none) = _
    rw [if_pos ⟨rfl, inR_nx hj (by omega)⟩, nI_c (by omega)]
  · rw [mset_at, List.length_set]
  · rw [List.length_set] at hi
    by_cases e : i = j
    · subst e
      rw [upd_s, List.getD_eq_getElem?_getD, List.getElem?_set_self hi]; rfl
    · rw [upd_n _ _ e, h3 i hi, List.getD_eq_getElem?_getD, List.getD_eq_getElem?_getD, List.getElem?_set_ne (fun z => e z.symm)]
theorem oA.g (h : oA M r m gg) {s : Nat} (hs : s < m) : aQ M 9 r (nI s) = some (some (gg s)) := by
  obtain ⟨h1, f, h2, h3⟩ := h
  unfold aQ; rw [h2]
  show (if (9 : Nat) = 9 ∧ inR (nI s) m = true then some (f (nI s).toNatClampNeg) else none) = _
  rw [if_pos ⟨rfl, inR_nx hs (by omega)⟩, nI_c (by omega), h3 s hs]
theorem sQ_e {h : Nat → Option Nat} (h1 : m ≤ 8) (h2 : M.1 r = some (.inl (9, (m, .inr (.inr (.inr (.inr h))))))) {s : Nat} (hs : s < m) (p : Nat) : sQ M 9 r (nI s) (some p) = some (mset M r (.inl (9, (m, .inr (.inr (.inr (.inr (va_up h s (some p))))))))) := by
  unfold sQ; rw [h2]
  show (if (9 : Nat) = 9 ∧ inR (nI s) m = true then some (mset M r (.inl (9, m, .inr (.inr (.inr (.inr (va_up h (nI s).toNatClampNeg (some p)))))))) else none) = _
  rw [if_pos ⟨rfl, inR_nx hs (by omega)⟩, nI_c (by omega)]
theorem oA.s (h : oA M r m gg) {s : Nat} (hs : s < m) (p : Nat) : ∃ M', sQ M 9 r (nI s) (some p) = some M' ∧ oA M' r m (va_up gg s p) ∧ on1 M M' r := by
  obtain ⟨h1, f, h2, h3⟩ := h
  refine ⟨_, sQ_e h1 h2 hs p, ⟨h1, va_up f s (some p), mset_at _ _ _, fun t ht => ?_⟩, rfl, fun q hq => mset_ne M _ hq⟩
  by_cases e : t = s
  · rw [e, va_up_s, va_up_s]
  · rw [va_up_n _ _ e, va_up_n _ _ e]; exact h3 t ht
theorem alc_e (h : M.2.1 ≠ 0) : alc M = some M.2.1 := if_neg h
theorem iA_new {k : Nat} (hk : k ≤ 64) : iA (mnew M (.inl (0, (k, .inl (fun _ => 0))))) M.2.1 (List.replicate k 0) := by
  refine ⟨by rw [List.length_replicate]; exact hk, fun _ => 0, ?_, fun j hj => ?_⟩
  · rw [List.length_replicate]
    show (if M.2.1 = M.2.1 then _ else _) = _
    rw [if_pos rfl]
  · rw [List.length_replicate] at hj
    rw [List.getD_eq_getElem?_getD, List.getElem?_replicate, if_pos hj]; rfl
theorem mnew_ne (c : PC) {q : Nat} (h : q ≠ M.2.1) : (mnew M c).1 q = M.1 q := if_neg h
theorem okN_n {N n : Nat} (h : n ≤ N) (h2 : n < 2 ^ 31) : okN N (nI n) = true := by
  unfold okN
  rw [nI_c h2, decide_eq_false (Int32.not_lt.mpr (nI_ge0 h2)), Nat.ble_eq_true_of_le h]; rfl
end
theorem set_getDx (w : List Int32) (j i : Nat) (x : Int32) (hj : j < w.length) : (w.set j x).getD i 0 = if i = j then x else w.getD i 0 := by
  by_cases e : i = j
  · subst e
    rw [if_pos rfl, List.getD_eq_getElem?_getD, List.getElem?_set_self hj]; rfl
  · rw [if_neg e, List.getD_eq_getElem?_getD, List.getD_eq_getElem?_getD, List.getElem?_set_ne (fun z => e z.symm)]
theorem erase_getD (l : List Int32) (a j : Nat) : (l.eraseIdx a).getD j 0 = if j < a then l.getD j 0 else l.getD (j + 1) 0 := by
  rw [List.getD_eq_getElem?_getD, List.getElem?_eraseIdx]
  split <;> rw [List.getD_eq_getElem?_getD]
theorem without_loop {r n at' : Nat} {l : List Int32} (hr : r ≠ n) (hat : at' < l.length) : ∀ (d j fu : Nat) (M : Mem) (w : List Int32), d + j = l.length - 1 → d < fu → iA M r l → iA M n w → w.length = l.length - 1 → (∀ i, i < j → w.getD i 0 = (l.eraseIdx at').getD i 0) →
    ∃ M', f_L_without_9 fu r (nI at') n (nI j) M = some (n, M') ∧ iA M' n (l.eraseIdx at') ∧ on1 M M' n := by
  intro d
  induction d with
  | zero =>
    intro j fu M w hd hf h hw hl hi
    obtain ⟨fu, rfl⟩ : ∃ x, fu = x + 1 := ⟨fu - 1, by omega⟩
    have h64 := h.1
    have e : w = l.eraseIdx at' := ext_getD (by rw [hl, List.length_eraseIdx_of_lt hat]) (fun i hi' => hi i (by omega))
    refine ⟨M, ?_, by rw [← e]; exact hw, rfl, fun _ _ => rfl⟩
    simp only [f_L_without_9, hw.L, bso]
    rw [if_pos (by rw [leT rfl rfl (show w.length ≤ j by omega) (by omega)]; trivial)]
  | succ d ih =>
    intro j fu M w hd hf h hw hl hi
    obtain ⟨fu, rfl⟩ : ∃ x, fu = x + 1 := ⟨fu - 1, by omega⟩
    have h64 := h.1
    have hjw : j < w.length := by omega
    obtain ⟨x, hx⟩ : ∃ x, x = (l.eraseIdx at').getD j 0 := ⟨_, rfl⟩
    obtain ⟨M1, e1, w1, o1⟩ := hw.s hjw x
    obtain ⟨M', e', a', o'⟩ := ih (j + 1) fu M1 (w.set j x) (by omega) (by omega) (h.on o1 hr) w1 (by rw [List.length_set]; exact hl) (fun i hi' => by
      rw [set_getDx w j i x hjw]
      by_cases e : i = j
      · rw [if_pos e, hx, e]
      · rw [if_neg e]; exact hi i (by omega))
    refine ⟨M', ?_, a', o1.trans o'⟩
    simp only [f_L_without_9, hw.L, bso]
    rw [if_neg (by rw [leF rfl rfl hjw (by omega)]; exact id)]
    rw [erase_getD] at hx
    by_cases z : j < at'
    · rw [if_pos z] at hx
      rw [if_neg (by rw [leF rfl rfl z (by omega)]; exact id)]
      simp only [f_L_without_30, h.g (show j < l.length by omega), bso, ← hx, e1, nI_1]
      exact e'
    · rw [if_neg z] at hx
      rw [if_pos (by rw [leT rfl rfl (show at' ≤ j by omega) (by omega)]; trivial)]
      simp only [f_L_without_30, nI_1, h.g (show j + 1 < l.length by omega), bso, ← hx, e1]
      exact e'
theorem without_e {M : Mem} {r at' : Nat} {l : List Int32} (h : iA M r l) (hr : r ≠ M.2.1) (h0 : M.2.1 ≠ 0) (hat : at' < l.length) :
    ∃ M', f_L_without r (nI at') M = some (M.2.1, M') ∧ iA M' M.2.1 (l.eraseIdx at') ∧ M'.2 = (M.2.1 + 1, M.2.2) ∧ ∀ q, q ≠ M.2.1 → M'.1 q = M.1 q := by
  have h64 := h.1
  have hn := iA_new (M := M) (k := l.length - 1) (by omega)
  obtain ⟨M', e, a, o⟩ := without_loop (r := r) (n := M.2.1) hr hat (l.length - 1) 0 FU (mnew M (.inl (0, (l.length - 1, .inl (fun _ => 0))))) _ (by omega) (by rw [FU_eq]; omega) (h.cg (mnew_ne _ hr)) hn (by rw [List.length_replicate]) (fun i hi => absurd hi (Nat.not_lt_zero i))
  refine ⟨M', ?_, a, o.1, fun q hq => (o.2 q hq).trans (mnew_ne _ hq)⟩
  have s1 : nI l.length - 1 = nI (l.length - 1) := nI_sub1 (by omega)
  simp only [f_L_without, h.L, bso, s1, okN_n (show l.length - 1 ≤ 64 by omega) (show l.length - 1 < 2 ^ 31 by omega), gd, cond_true, alc_e h0, nI_c (show l.length - 1 < 2 ^ 31 by omega)]
  exact e
theorem longer_getD (l : List Int32) (k j : Nat) (h : j < l.length + k) : (l ++ List.replicate k (-1)).getD j 0 = if j < l.length then l.getD j 0 else -1 := by
  rw [List.getD_eq_getElem?_getD, List.getElem?_append]
  split
  · rw [List.getD_eq_getElem?_getD]
  · rw [List.getElem?_replicate, if_pos (by omega)]; rfl
theorem longer_loop {r n k : Nat} {l : List Int32} (hr : r ≠ n) (hk : l.length + k ≤ 64) : ∀ (d j fu : Nat) (M : Mem) (w : List Int32), d + j = l.length + k → d < fu → iA M r l → iA M n w → w.length = l.length + k → (∀ i, i < j → w.getD i 0 = (l ++ List.replicate k (-1)).getD i 0) →
    ∃ M', f_L_longer_6 fu r (nI (l.length + k)) n (nI j) M = some (n, M') ∧ iA M' n (l ++ List.replicate k (-1)) ∧ on1 M M' n := by
  intro d
  induction d with
  | zero =>
    intro j fu M w hd hf h hw hl hi
    obtain ⟨fu, rfl⟩ : ∃ x, fu = x + 1 := ⟨fu - 1, by omega⟩
    have e : w = l ++ List.replicate k (-1) := ext_getD (by rw [hl, List.length_append, List.length_replicate]) (fun i hi' => hi i (by omega))
    refine ⟨M, ?_, by rw [← e]; exact hw, rfl, fun _ _ => rfl⟩
    simp only [f_L_longer_6]
    rw [if_pos (by rw [leT rfl rfl (show l.length + k ≤ j by omega) (by omega)]; trivial)]
  | succ d ih =>
    intro j fu M w hd hf h hw hl hi
    obtain ⟨fu, rfl⟩ : ∃ x, fu = x + 1 := ⟨fu - 1, by omega⟩
    have hjw : j < w.length := by omega
    obtain ⟨x, hx⟩ : ∃ x, x = (l ++ List.replicate k (-1)).getD j 0 := ⟨_, rfl⟩
    obtain ⟨M1, e1, w1, o1⟩ := hw.s hjw x
    obtain ⟨M', e', a', o'⟩ := ih (j + 1) fu M1 (w.set j x) (by omega) (by omega) (h.on o1 hr) w1 (by rw [List.length_set]; exact hl) (fun i hi' => by
      rw [set_getDx w j i x hjw]
      by_cases e : i = j
      · rw [if_pos e, hx, e]
      · rw [if_neg e]; exact hi i (by omega))
    refine ⟨M', ?_, a', o1.trans o'⟩
    simp only [f_L_longer_6]
    rw [if_neg (by rw [leF rfl rfl (show j < l.length + k by omega) (by omega)]; exact id)]
    simp only [h.L, bso]
    rw [longer_getD l k j (by omega)] at hx
    by_cases z : j < l.length
    · rw [if_pos z] at hx
      rw [if_neg (by rw [leF rfl rfl z (by omega)]; exact id)]
      simp only [f_L_longer_26, h.g z, bso, ← hx, e1, nI_1]
      exact e'
    · rw [if_neg z] at hx
      rw [if_pos (by rw [leT rfl rfl (show l.length ≤ j by omega) (by omega)]; trivial)]
      simp only [f_L_longer_26, nI_1, bso, ← hx, e1]
      exact e'
theorem longer_e {M : Mem} {r k : Nat} {l : List Int32} (h : iA M r l) (hr : r ≠ M.2.1) (h0 : M.2.1 ≠ 0) (hk : l.length + k ≤ 64) :
    ∃ M', f_L_longer r (nI (l.length + k)) M = some (M.2.1, M') ∧ iA M' M.2.1 (l ++ List.replicate k (-1)) ∧ M'.2 = (M.2.1 + 1, M.2.2) ∧ ∀ q, q ≠ M.2.1 → M'.1 q = M.1 q := by
  have hn := iA_new (M := M) (k := l.length + k) hk
  obtain ⟨M', e, a, o⟩ := longer_loop (r := r) (n := M.2.1) hr hk (l.length + k) 0 FU (mnew M (.inl (0, (l.length + k, .inl (fun _ => 0))))) _ (by omega) (by rw [FU_eq]; omega) (h.cg (mnew_ne _ hr)) hn (by rw [List.length_replicate]) (fun i hi => absurd hi (Nat.not_lt_zero i))
  refine ⟨M', ?_, a, o.1, fun q hq => (o.2 q hq).trans (mnew_ne _ hq)⟩
  simp only [f_L_longer, okN_n hk (show l.length + k < 2 ^ 31 by omega), gd, cond_true, alc_e h0, bso, nI_c (show l.length + k < 2 ^ 31 by omega)]
  exact e
