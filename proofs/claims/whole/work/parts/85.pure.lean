/-! PURE: the reference reads bytes into a token -/
/-- the reference holds the text -/
def rTx (R : Rs) (l : List Int32) : Prop := R.1 9 = nI l.length ∧ l.length ≤ 700 ∧ ∀ k, k < l.length → R.2.2.2 5 k = l.getD k 0
/-- the reader's four fields -/
def scF (f : Nat → Int32) (a b c d : Int32) : Nat → Int32 := fun k => if k = 10 then a else if k = 11 then b else if k = 12 then c else if k = 13 then d else f k
def scR (R : Rs) (a b c d : Int32) : Rs := (scF R.1 a b c d, R.2)
theorem scF_g (f : Nat → Int32) (a b c d : Int32) : scF f a b c d 10 = a ∧ scF f a b c d 11 = b ∧ scF f a b c d 12 = c ∧ scF f a b c d 13 = d := ⟨rfl, rfl, rfl, rfl⟩
theorem scR_self (R : Rs) : scR R (R.1 10) (R.1 11) (R.1 12) (R.1 13) = R := by
  obtain ⟨f, r⟩ := R
  refine Prod.ext ?_ rfl
  funext k
  show scF f (f 10) (f 11) (f 12) (f 13) k = f k
  unfold scF
  split
  · next e => rw [e]
  · split
    · next e => rw [e]
    · split
      · next e => rw [e]
      · split
        · next e => rw [e]
        · rfl
theorem scR_10 (R : Rs) (a b c d v : Int32) : rsS (scR R a b c d) 10 v = scR R v b c d := by
  refine Prod.ext ?_ rfl
  funext k
  show va_up (scF R.1 a b c d) 10 v k = scF R.1 v b c d k
  by_cases e : k = 10
  · subst e; rw [va_up_s]; rfl
  · rw [va_up_n _ _ e]; unfold scF; rw [if_neg e, if_neg e]
theorem scR_11 (R : Rs) (a b c d v : Int32) : rsS (scR R a b c d) 11 v = scR R a v c d := by
  refine Prod.ext ?_ rfl
  funext k
  show va_up (scF R.1 a b c d) 11 v k = scF R.1 a v c d k
  by_cases e : k = 11
  · subst e; rw [va_up_s]; rfl
  · rw [va_up_n _ _ e]; unfold scF; rw [if_neg e, if_neg e]
theorem scR_12 (R : Rs) (a b c d v : Int32) : rsS (scR R a b c d) 12 v = scR R a b v d := by
  refine Prod.ext ?_ rfl
  funext k
  show va_up (scF R.1 a b c d) 12 v k = scF R.1 a b v d k
  by_cases e : k = 12
  · subst e; rw [va_up_s]; rfl
  · rw [va_up_n _ _ e]; unfold scF; rw [if_neg e, if_neg e]
theorem scR_13 (R : Rs) (a b c d v : Int32) : rsS (scR R a b c d) 13 v = scR R a b c v := by
  refine Prod.ext ?_ rfl
  funext k
  show va_up (scF R.1 a b c d) 13 v k = scF R.1 a b c v k
  by_cases e : k = 13
  · subst e; rw [va_up_s]; rfl
  · rw [va_up_n _ _ e]; unfold scF; rw [if_neg e, if_neg e]
theorem rTx.sc {R : Rs} {l : List Int32} (h : rTx R l) (a b c d : Int32) : rTx (scR R a b c d) l := h
theorem in_L (x : Int32) (M : Mem) : f_X12_in (Int32.toInt64 x) 97 122 M = some (isL x) := by
  rw [X12_in_e]; exact congrArg some (btw_c x 97 122)
theorem in_D (x : Int32) (M : Mem) : f_X12_in (Int32.toInt64 x) 48 57 M = some (isD x) := by
  rw [X12_in_e]; exact congrArg some (btw_c x 48 57)
theorem rn_eq {p : Int32 → Bool} {l : List Int32} {k : Nat} (hm : p (-1) = false) (h : rn p l k = k) : p (ch l k) = false := by
  cases e : p (ch l k) with
  | false => rfl
  | true =>
    have h1 := rn_y hm e
    have h2 := rn_ge p l (k + 1)
    omega
theorem rn_succ {p : Int32 → Bool} {l : List Int32} {k n : Nat} (hm : p (-1) = false) (h : rn p l k = k + (n + 1)) : p (ch l k) = true ∧ rn p l (k + 1) = (k + 1) + n := by
  cases e : p (ch l k) with
  | false => have := rn_n (l := l) (k := k) e; omega
  | true => exact ⟨rfl, by rw [← rn_y hm e]; omega⟩
section
variable {M : Mem} {m : Nat} {R : Rs} {l : List Int32}
theorem X12_byte_e (h : rTx R l) {k : Nat} (hk : k < 2 ^ 31) : f_X12_byteAt m (nI k) (ov M m R) = some (ch l k) := by
  have hl := h.2.1
  simp only [f_X12_byteAt, ov_ob, r_g9, h.1, bso]
  by_cases e : k < l.length
  · rw [if_neg (by rw [leF rfl rfl e (by omega)]; exact id), r_g7]
    simp only [bso, r_a5 M m R (show k < 700 by omega), h.2.2 k e]
    rw [ch, if_pos e]
  · rw [if_pos (by rw [leT rfl rfl (show l.length ≤ k by omega) hk]; trivial), ch_out (by omega)]
theorem scan_83_e (h : rTx R l) : ∀ (n k fu : Nat) (b c d : Int32), rn isL l k = k + n → k + n ≤ 700 → n < fu →
    f_X12_scan_83 fu m (ov M m (scR R (nI k) b c d)) = some (ov M m (scR R (nI (k + n)) b 1 d)) := by
  intro n
  induction n with
  | zero =>
    intro k fu b c d hr hk hf
    obtain ⟨fu, rfl⟩ : ∃ x, fu = x + 1 := ⟨fu - 1, by omega⟩
    have hb := X12_byte_e (M := M) (m := m) (h.sc (nI k) b c d) (k := k) (by omega)
    have g10 : gI (ov M m (scR R (nI k) b c d)) 11 10 m = some (nI k) := r_g10 M m _
    simp only [f_X12_scan_83, g10, hb, in_L, bso, rn_eq isL_m hr, cond_false, r_p12, scR_12]
    rfl
  | succ n ih =>
    intro k fu b c d hr hk hf
    obtain ⟨fu, rfl⟩ : ∃ x, fu = x + 1 := ⟨fu - 1, by omega⟩
    have hb := X12_byte_e (M := M) (m := m) (h.sc (nI k) b c d) (k := k) (by omega)
    have g10 : gI (ov M m (scR R (nI k) b c d)) 11 10 m = some (nI k) := r_g10 M m _
    obtain ⟨h1, h2⟩ := rn_succ isL_m hr
    simp only [f_X12_scan_83, g10, hb, in_L, bso, h1, cond_true, r_p10, scR_10, nI_1]
    rw [ih (k + 1) fu b c d h2 (by omega) (by omega), show k + 1 + n = k + (n + 1) by omega]
theorem imin_n (a b : Nat) (ha : a < 2 ^ 31) (hb : b < 2 ^ 31) : imin (nI a) (nI b) = nI (min a b) := by
  unfold imin
  by_cases e : b < a
  · rw [if_pos (by rw [ltT rfl rfl e ha]; trivial), Nat.min_eq_right (by omega)]
  · rw [if_neg (by rw [ltF rfl rfl (show a ≤ b by omega) hb]; exact id), Nat.min_eq_left (by omega)]
theorem scan_144_e (h : rTx R l) : ∀ (n k fu w v : Nat) (b c : Int32), rn isD l k = k + n → k + n ≤ 700 → n < fu → w ≤ 99999 → ((v ≤ 9999 ∧ w = v) ∨ (v = 10000 ∧ 10000 ≤ w)) →
    ∃ x, f_X12_scan_144 fu m (ov M m (scR R (nI k) b c (nI w))) = some (ov M m (scR R (nI (k + n)) b 2 x)) ∧ numR x (nvF l n k v) := by
  intro n
  induction n with
  | zero =>
    intro k fu w v b c hr hk hf hw hv
    obtain ⟨fu, rfl⟩ : ∃ x, fu = x + 1 := ⟨fu - 1, by omega⟩
    have hb := X12_byte_e (M := M) (m := m) (h.sc (nI k) b c (nI w)) (k := k) (by omega)
    have g10 : gI (ov M m (scR R (nI k) b c (nI w))) 11 10 m = some (nI k) := r_g10 M m _
    refine ⟨nI w, ?_, w, rfl, hw, ?_⟩
    · simp only [f_X12_scan_144, g10, hb, in_D, bso, rn_eq isD_m hr, cond_false, r_p12, scR_12]
      rfl
    · rcases hv with ⟨h1, h2⟩ | ⟨h1, h2⟩
      · exact .inl ⟨h1, h2⟩
      · exact .inr ⟨by show 10000 ≤ v; omega, h2⟩
  | succ n ih =>
    intro k fu w v b c hr hk hf hw hv
    obtain ⟨fu, rfl⟩ : ∃ x, fu = x + 1 := ⟨fu - 1, by omega⟩
    have hb := X12_byte_e (M := M) (m := m) (h.sc (nI k) b c (nI w)) (k := k) (by omega)
    have g10 : gI (ov M m (scR R (nI k) b c (nI w))) 11 10 m = some (nI k) := r_g10 M m _
    have g13 : gI (ov M m (scR R (nI k) b c (nI w))) 11 13 m = some (nI w) := r_g13 M m _
    obtain ⟨h1, h2⟩ := rn_succ isD_m hr
    have hkl : k < l.length := by
      by_cases e : k < l.length
      · exact e
      · rw [ch_out (by omega)] at h1; exact absurd h1 (by decide)
    obtain ⟨d, hd, hch⟩ := ch_in hkl
    have hdd := (isD_n hd).mp (by rw [← hch]; exact h1)
    have hval : imin 99999 (10 * nI w + ch l k - 48) = nI (min 99999 (10 * w + (d - 48))) := by
      rw [hch, show (10 : Int32) * nI w = nI (10 * w) from nI_mul 10 w, nI_add, show (48 : Int32) = nI 48 from rfl, nI_sub (by omega), show 10 * w + d - 48 = 10 * w + (d - 48) by omega]
      exact imin_n 99999 _ (by omega) (by omega)
    have g10' : gI (ov M m (scR R (nI k) b c (nI (min 99999 (10 * w + (d - 48)))))) 11 10 m = some (nI k) := r_g10 M m _
    simp only [f_X12_scan_144, g10, g13, hb, in_D, bso, h1, cond_true, hval, r_p13, scR_13, g10', r_p10, scR_10, nI_1]
    obtain ⟨x, hx, hr'⟩ := ih (k + 1) fu (min 99999 (10 * w + (d - 48))) (min 10000 (10 * v + (d - 48))) b c h2 (by omega) (by omega) (Nat.min_le_left _ _) (by omega)
    refine ⟨x, by rw [hx, show k + 1 + n = k + (n + 1) by omega], ?_⟩
    rw [nvF, hch, nI_clamp (by omega)]
    exact hr'
/-- after a scan -/
def scV (d' d : Int32) (t : Tk) : Prop := if tkK t = 3 then d' = nI (tkV t) else if tkK t = 2 then numR d' (tkV t) else d' = d
theorem scan_0_e (h : rTx R l) : ∀ (n k fu : Nat) (b c d : Int32), rn isG l k = k + n → k + n ≤ l.length → n < fu →
    ∃ x, f_X12_scan_0 fu m (ov M m (scR R (nI k) b c d)) = some (ov M m (scR R (nI (tkE (tkAt l k))) (nI (tkS (tkAt l k))) (nI (tkK (tkAt l k))) x)) ∧ scV x d (tkAt l k) := by
  have hl := h.2.1
  intro n
  induction n with
  | zero =>
    intro k fu b c d hr hk hf
    obtain ⟨fu, rfl⟩ : ∃ x, fu = x + 1 := ⟨fu - 1, by omega⟩
    have hb := X12_byte_e (M := M) (m := m) (h.sc (nI k) b c d) (k := k) (by omega)
    have hb2 := X12_byte_e (M := M) (m := m) (h.sc (nI k) (nI k) c d) (k := k) (by omega)
    have g10 : gI (ov M m (scR R (nI k) b c d)) 11 10 m = some (nI k) := r_g10 M m _
    have g102 : gI (ov M m (scR R (nI k) (nI k) c d)) 11 10 m = some (nI k) := r_g10 M m _
    have hg := rn_eq isG_m hr
    have hg' := hg
    simp only [isG, Bool.or_eq_false_iff, decide_eq_false_iff_not] at hg'
    simp only [f_X12_scan_0, g10, hb, bso, hg'.1, hg'.2, if_false, r_p11, scR_11, g102, hb2]
    by_cases e : l.length ≤ k
    · rw [ch_out e, if_pos rfl]
      have ht : tkAt l k = (0, l.length, l.length, 0) := tkAt_end e
      have hkl : k = l.length := by omega
      refine ⟨d, ?_, ?_⟩
      · rw [ht, hkl]
        simp only [r_p12, scR_12, bso]
        rfl
      · rw [ht]; rfl
    · obtain ⟨dd, hdd, hch⟩ := ch_in (show k < l.length by omega)
      have hne : ¬ (ch l k = -1) := by rw [hch, nI_m1 (by omega)]; exact id
      rw [if_neg hne]
      simp only [in_L, in_D, bso]
      have hE : rn isG l k = k := hr
      cases hL : isL (ch l k) with
      | true =>
        simp only [cond_true]
        have ht : tkAt l k = (1, k, rn isL l k, 0) := by
          unfold tkAt
          simp only [hE, show ¬ (l.length ≤ k) by omega, if_false, hL, if_true]
        have hle := rn_le (p := isL) (l := l) (k := k) (by omega)
        have hge := rn_ge isL l k
        have hl := h.2.1
        refine ⟨d, ?_, ?_⟩
        · rw [ht, scan_83_e h (rn isL l k - k) k FU (nI k) c d (by omega) (by omega) (by rw [FU_eq]; omega), show k + (rn isL l k - k) = rn isL l k by omega]
          rfl
        · rw [ht]; rfl
      | false =>
        simp only [cond_false]
        cases hD : isD (ch l k) with
        | true =>
          simp only [cond_true]
          have ht : tkAt l k = (2, k, rn isD l k, nv l k (rn isD l k)) := by
            unfold tkAt
            simp only [hE, show ¬ (l.length ≤ k) by omega, if_false, hL, hD, Bool.false_eq_true, if_true]
          have hle := rn_le (p := isD) (l := l) (k := k) (by omega)
          have hge := rn_ge isD l k
          have hl := h.2.1
          obtain ⟨x, hx, hr2⟩ := scan_144_e (M := M) (m := m) h (rn isD l k - k) k FU 0 0 (nI k) c (by omega) (by omega) (by rw [FU_eq]; omega) (by omega) (.inl ⟨by omega, rfl⟩)
          have hx : f_X12_scan_144 FU m (ov M m (scR R (nI k) (nI k) c 0)) = some (ov M m (scR R (nI (k + (rn isD l k - k))) (nI k) 2 x)) := hx
          refine ⟨x, ?_, ?_⟩
          · rw [ht]
            simp only [r_p13, scR_13, bso, hx]
            rw [show k + (rn isD l k - k) = rn isD l k by omega]
            rfl
          · rw [ht]; exact hr2
        | false =>
          simp only [cond_false]
          have ht : tkAt l k = (3, k, k + 1, (ch l k).toNatClampNeg) := by
            unfold tkAt
            simp only [hE, show ¬ (l.length ≤ k) by omega, if_false, hL, hD, Bool.false_eq_true]
          refine ⟨ch l k, ?_, ?_⟩
          · rw [ht]
            have g103 : gI (ov M m (scR R (nI k) (nI k) 3 (ch l k))) 11 10 m = some (nI k) := r_g10 M m _
            simp only [r_p12, scR_12, r_p13, scR_13, bso, g103, r_p10, scR_10, nI_1]
            rfl
          · rw [ht]
            show ch l k = nI (ch l k).toNatClampNeg
            rw [hch, nI_clamp (by omega)]
  | succ n ih =>
    intro k fu b c d hr hk hf
    obtain ⟨fu, rfl⟩ : ∃ x, fu = x + 1 := ⟨fu - 1, by omega⟩
    have hb := X12_byte_e (M := M) (m := m) (h.sc (nI k) b c d) (k := k) (by omega)
    have g10 : gI (ov M m (scR R (nI k) b c d)) 11 10 m = some (nI k) := r_g10 M m _
    obtain ⟨h1, h2⟩ := rn_succ isG_m hr
    obtain ⟨x, hx, hv⟩ := ih (k + 1) fu b c d h2 (by omega) (by omega)
    rw [← tkAt_gap h1] at hx hv
    refine ⟨x, ?_, hv⟩
    have h26 : f_X12_scan_26 (f_X12_scan_0 fu) m (ov M m (scR R (nI k) b c d)) = f_X12_scan_0 fu m (ov M m (scR R (nI (k + 1)) b c d)) := by
      simp only [f_X12_scan_26, g10, bso, r_p10, scR_10, nI_1]
    simp only [f_X12_scan_0, g10, hb, bso, h26]
    simp only [isG, Bool.or_eq_true, decide_eq_true_eq] at h1
    by_cases e1 : ch l k = 32
    · rw [if_pos e1]; exact hx
    · rw [if_neg e1, if_pos (by rcases h1 with h1 | h1; exact absurd h1 e1; exact h1)]; exact hx
end
