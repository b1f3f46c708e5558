/-! OWN ROWS: what room is left, ahead of the first step of a turn -/
section KB0
variable {KB NB cc ss fu k n o o2 c B : Nat}
theorem kb_c0 (hb : kb KB NB cc ss (fu + 1) k n) (h : c ≤ cc) (hB : KB ≤ B) : k + c ≤ B := by
  have := hb.1
  rw [Nat.succ_mul] at this
  omega
theorem kb_s0 (hb : kb KB NB cc ss (fu + 1) k n) (h : c ≤ ss) (hB : NB ≤ B) : n + c ≤ B := by
  have := hb.2
  rw [Nat.succ_mul] at this
  omega
theorem kb_ck0 (hb : kb KB NB cc ss (fu + 1) k n) (hB : KB ≤ B) : k ≤ B := kb_c0 (c := 0) hb (Nat.zero_le _) hB
theorem kb_sk0 (hb : kb KB NB cc ss (fu + 1) k n) (hB : NB ≤ B) : n ≤ B := kb_s0 (c := 0) hb (Nat.zero_le _) hB
variable {cc2 ss2 fu2 kk nn oE oS : Nat}
theorem kb2_ck0 (hb : kb KB NB cc ss (fu + 1) k n) (hb2 : kb (k + oE) (n + oS) cc2 ss2 (fu2 + 1) kk nn) (hE : oE ≤ cc) (hB : KB ≤ B) : kk ≤ B := Nat.le_trans (kb_ck0 hb2 (Nat.le_refl _)) (kb_ck hb hE hB)
theorem kb2_sk0 (hb : kb KB NB cc ss (fu + 1) k n) (hb2 : kb (k + oE) (n + oS) cc2 ss2 (fu2 + 1) kk nn) (hE : oS ≤ ss) (hB : NB ≤ B) : nn ≤ B := Nat.le_trans (kb_sk0 hb2 (Nat.le_refl _)) (kb_sk hb hE hB)
theorem kb2_c0 (hb : kb KB NB cc ss (fu + 1) k n) (hb2 : kb (k + oE) (n + oS) cc2 ss2 (fu2 + 1) kk nn) (h : c ≤ cc2) (hE : oE ≤ cc) (hB : KB ≤ B) : kk + c ≤ B := Nat.le_trans (kb_c0 hb2 h (Nat.le_refl _)) (kb_ck hb hE hB)
theorem kb2_s0 (hb : kb KB NB cc ss (fu + 1) k n) (hb2 : kb (k + oE) (n + oS) cc2 ss2 (fu2 + 1) kk nn) (h : c ≤ ss2) (hE : oS ≤ ss) (hB : NB ≤ B) : nn + c ≤ B := Nat.le_trans (kb_s0 hb2 h (Nat.le_refl _)) (kb_sk hb hE hB)
end KB0
theorem ts_14 {x : Int32} (h0 : ¬ x = 0) (h1 : ¬ x = 1) (h2 : ¬ x = 2) (h3 : ¬ x = 3) (h4 : ¬ x = 4) (h5 : ¬ x = 5) (h6 : ¬ x = 6) (h7 : ¬ x = 7) (h8 : ¬ x = 8) (h9 : ¬ x = 9) (h10 : ¬ x = 10) (h11 : ¬ x = 11) (h12 : ¬ x = 12) (h13 : ¬ x = 13) : x.toInt < 0 ∨ ((13 : Int)) < x.toInt := ts_of (n := 14) (by omega) (fun j hj => match j, hj with | 0, _ => h0 | 1, _ => h1 | 2, _ => h2 | 3, _ => h3 | 4, _ => h4 | 5, _ => h5 | 6, _ => h6 | 7, _ => h7 | 8, _ => h8 | 9, _ => h9 | 10, _ => h10 | 11, _ => h11 | 12, _ => h12 | 13, _ => h13 | j + 14, hj => absurd hj (by omega))
