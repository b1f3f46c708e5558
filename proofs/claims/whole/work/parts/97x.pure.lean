/-! PURE: writeView, writeNotices -/
def wVw (ms : Ms) (es : List En) (l : List Int32) (k : Nat) : List Int32 := wE ms l k (eg es k)
def wNt (l : List Int32) (x : Nt) : List Int32 := sepB l ++ numB (nN (n0 x)) ++ [if n1 x = 0 then 45 else if n1 x = 1 then 61 else 43] ++ numB (nN (n2 x)) ++ (if n1 x = 1 then [58] ++ flB (n3 x) else [])
theorem num1 : ∀ a, a < 4 → (numB a).length ≤ 1 := by decide +kernel
theorem num2 : ∀ a, a < 100 → (numB a).length ≤ 2 := by decide +kernel
theorem sym_b (x : Int32) : byt (if x = 0 then 45 else if x = 1 then 61 else 43) = (if x = 0 then 45 else if x = 1 then 61 else 43) ∧ (if x = 0 then (45 : Int32) else if x = 1 then 61 else 43) &&& 255 = (if x = 0 then 45 else if x = 1 then 61 else 43) := by
  split
  · exact ⟨byt_c.2.2.2.1, by decide⟩
  · split
    · exact ⟨byt_c.2.2.2.2.1, by decide⟩
    · exact ⟨byt_c.2.2.2.2.2.1, by decide⟩
theorem wNt_len (l : List Int32) {x : Nt} (h0 : ∃ a : Nat, a < 4 ∧ n0 x = nI a) (h2 : ∃ b : Nat, b < 100 ∧ n2 x = nI b) : (wNt l x).length ≤ l.length + 11 := by
  obtain ⟨a, ha, e0⟩ := h0
  obtain ⟨b, hb, e2⟩ := h2
  have s1 := sep_len l
  have s2 := num1 a ha
  have s3 := num2 b hb
  have s4 := flB_len (n3 x)
  simp only [wNt, List.length_append, List.length_singleton, e0, e2, nN_n (show a < 2 ^ 31 by omega), nN_n (show b < 2 ^ 31 by omega)]
  split
  · simp only [List.length_append, List.length_singleton]; omega
  · simp only [List.length_nil]; omega
theorem wNt_oB {l : List Int32} (h : oB l) (x : Nt) : oB (wNt l x) := by
  refine ((((h.sep).app (oB_num _)).app (oB_1 (sym_b _).2)).app (oB_num _)).app ?_
  split
  · exact (oB_1 (by decide)).app (oB_fl _)
  · exact oB_nil
section
variable {M : Mem} {m : Nat} {R : Rs} {I O : List Int32} {S : St} {K : Nat → St} {B : Nat → Bool} {C : Nat} {H : Nat → St} {N : List Nt} {E : Er} {c : Nat}
theorem cls_wv_loop {s : Nat} (hs : s < stM S) (hv : okV S (stS S s)) (hp : ∀ j, j < (sxE (stS S s)).length → 0 ≤ eU (eg (sxE (stS S s)) j)) {rb : Nat} (hrb : ∀ M O, Cls M I O S K B C H N E → ∃ Jb nx, bA M rb Jb nx (bof S (sxB (stS S s)))) : ∀ (n k fu : Nat) (M : Mem) (O : List Int32), k + n = (sxE (stS S s)).length → n < fu → Cls M I O S K B C H N E → O.length + 28 * n ≤ 4000 →
    ∃ M', f_X11_writeView_26 fu 100 (sesR 105 s) rb (nI (k + 1)) M = some (.inl (nI ((List.range' k n).foldl (wVw (bof S (sxB (stS S s))) (sxE (stS S s))) O).length), M') ∧ Cls M' I ((List.range' k n).foldl (wVw (bof S (sxB (stS S s))) (sxE (stS S s))) O) S K B C H N E ∧ off M M' 100 616 := by
  intro n
  induction n with
  | zero =>
    intro k fu M O hk hf h hl
    obtain ⟨fu, rfl⟩ : ∃ x, fu = x + 1 := ⟨fu - 1, by omega⟩
    have hsx := h.sx hs
    have l60 : (sxE (stS S s)).length ≤ 60 := sA.len hsx
    have sz : f_X1_size 103 M = some (nI O.length) := X1_size_e h.o
    refine ⟨M, ?_, h, off.rf _ _ _⟩
    have hz : f_X7_size (sesR 105 s) M = some (nI (sxE (stS S s)).length) := X7_size_e hsx
    simp only [f_X11_writeView_26, hz, bso]
    rw [if_pos (by rw [nI_ltI (by omega) (by omega)]; omega)]
    simp only [h.g1, sz, bso]
    rfl
  | succ n ih =>
    intro k fu M O hk hf h hl
    obtain ⟨fu, rfl⟩ : ∃ x, fu = x + 1 := ⟨fu - 1, by omega⟩
    have hsx := h.sx hs
    have l60 : (sxE (stS S s)).length ≤ 60 := sA.len hsx
    have hkl : k < (sxE (stS S s)).length := by omega
    have hz : f_X7_size (sesR 105 s) M = some (nI (sxE (stS S s)).length) := X7_size_e hsx
    obtain ⟨x, hx⟩ : ∃ x, x = eg (sxE (stS S s)) k := ⟨_, rfl⟩
    have hpk := hp k hkl
    rw [← hx] at hpk
    have s1 := sep_len O
    have s2 := numB_len (k + 1)
    have s3 := numB_len (nN (eU x))
    have s4 := flB_len (eT x)
    obtain ⟨M1, e1, c1, o1⟩ := cls_sep h (by omega)
    obtain ⟨M2, e2, c2, o2⟩ := cls_num c1 (by omega) (v := nI (k + 1)) (nI_ge0 (by omega))
    rw [nN_n (show k + 1 < 2 ^ 31 by omega)] at c2
    obtain ⟨M3, e3, c3, o3⟩ := cls_byte c2 (by rw [List.length_append]; omega) byt_c.2.1
    have u : f_X7_uidOf (sesR 105 s) (nI (k + 1)) M3 = some (eU x) := by rw [hx]; exact X7_uid_e (c3.sx hs) (show k < 2 ^ 31 by omega)
    obtain ⟨M4, e4, c4, o4⟩ := cls_num c3 (by simp only [List.length_append, List.length_singleton]; omega) hpk
    have t : f_X7_toldOf (sesR 105 s) (nI (k + 1)) M4 = some (eT x) := by rw [hx]; exact X7_told_e (c4.sx hs) (show k < 2 ^ 31 by omega)
    obtain ⟨M5, e5, c5, o5⟩ := cls_flg c4 (by simp only [List.length_append, List.length_singleton]; omega) (eT x)
    obtain ⟨Jb, nx, hb⟩ := hrb M5 _ c5
    have g : f_X7_isGone (sesR 105 s) rb (nI (k + 1)) M5 = some (gone (bof S (sxB (stS S s))) x) := by rw [hx]; exact X7_isGone_e (c5.sx hs) hb (show k < 2 ^ 31 by omega)
    have last : ∃ M6, (bif gone (bof S (sxB (stS S s))) x then ((gR M5 10 1 100).bind fun x29 => (f_X1_addByte x29 33 M5).bind fun M31 => f_X11_writeView_105 (f_X11_writeView_26 fu) 100 (sesR 105 s) rb (nI (k + 1)) M31) else f_X11_writeView_105 (f_X11_writeView_26 fu) 100 (sesR 105 s) rb (nI (k + 1)) M5) = f_X11_writeView_26 fu 100 (sesR 105 s) rb (nI (k + 1 + 1)) M6 ∧ Cls M6 I (wE (bof S (sxB (stS S s))) O k x) S K B C H N E ∧ off M5 M6 100 616 := by
      unfold wE
      cases gone (bof S (sxB (stS S s))) x with
      | true =>
        obtain ⟨M6, e6, c6, o6⟩ := cls_byte c5 (by simp only [List.length_append, List.length_singleton]; omega) byt_c.2.2.1
        refine ⟨M6, ?_, c6, o6⟩
        simp only [cond_true, c5.g1, e6, bso, f_X11_writeView_105, nI_1]
      | false =>
        refine ⟨M5, ?_, ?_, off.rf _ _ _⟩
        · simp only [cond_false, f_X11_writeView_105, nI_1]
        · rw [cond_false, List.append_nil]; exact c5
    obtain ⟨M6, e6, c6, o6⟩ := last
    have s6 := wE_len (bof S (sxB (stS S s))) O k x
    obtain ⟨M7, e7, c7, o7⟩ := ih (k + 1) fu M6 _ (by omega) (by omega) c6 (by omega)
    have hw : wVw (bof S (sxB (stS S s))) (sxE (stS S s)) O k = wE (bof S (sxB (stS S s))) O k x := by rw [hx]; rfl
    rw [List.range'_succ, List.foldl_cons, hw]
    refine ⟨M7, ?_, c7, (((((o1.trans o2).trans o3).trans o4).trans o5).trans o6).trans o7⟩
    simp only [f_X11_writeView_26, hz, bso]
    rw [if_neg (by rw [nI_ltI (by omega) (by omega)]; omega)]
    simp only [h.g1, e1, c1.g1, e2, c2.g1, e3, c3.g1, u, e4, c4.g1, t, e5, g, bso]
    rw [e6, e7]
theorem ref_wv_loop {s : Nat} (hs : s < stM S) (hv : okV S (stS S s)) (hp : ∀ j, j < (sxE (stS S s)).length → 0 ≤ eU (eg (sxE (stS S s)) j)) : ∀ (n k fu : Nat) (R : Rs) (O : List Int32), k + n = (sxE (stS S s)).length → n < fu → rep (rowf R) S → R.2.1 = false → outR R O → O.length + 28 * n ≤ 4000 →
    ∃ R', f_X12_writeView_21 fu m (nI s) (nI (k + 1)) (ov M m R) = some (nI ((List.range' k n).foldl (wVw (bof S (sxB (stS S s))) (sxE (stS S s))) O).length, ov M m R') ∧ outR R' ((List.range' k n).foldl (wVw (bof S (sxB (stS S s))) (sxE (stS S s))) O) ∧ kp [27] [] [11] R R' := by
  intro n
  induction n with
  | zero =>
    intro k fu R O hk hf h hw ho hl
    obtain ⟨fu, rfl⟩ : ∃ x, fu = x + 1 := ⟨fu - 1, by omega⟩
    have l60 := h.ls hs
    refine ⟨R, ?_, ho, kp.rf _ _ _ _⟩
    simp only [f_X12_writeView_21, X12_ents_e h hs, bso]
    rw [if_pos (by rw [nI_ltI (by omega) (by omega)]; omega)]
    simp only [r_g27, ho.1, bso]
    rfl
  | succ n ih =>
    intro k fu R O hk hf h hw ho hl
    obtain ⟨fu, rfl⟩ : ∃ x, fu = x + 1 := ⟨fu - 1, by omega⟩
    have l60 := h.ls hs
    have hkl : k < (sxE (stS S s)).length := by omega
    obtain ⟨x, hx⟩ : ∃ x, x = eg (sxE (stS S s)) k := ⟨_, rfl⟩
    have hpk := hp k hkl
    rw [← hx] at hpk
    have s1 := sep_len O
    have s2 := numB_len (k + 1)
    have s3 := numB_len (nN (eU x))
    have s4 := flB_len (eT x)
    obtain ⟨hu1, hu2⟩ := nN_e hpk
    have rp : ∀ {R1 : Rs}, kp [27] [] [11] R R1 → rep (rowf R1) S := fun kk => by rw [kk.row hw (by decide)]; exact h
    obtain ⟨R1, e1, o1, k1⟩ := X12_gap_e (M := M) (m := m) ho (by omega)
    obtain ⟨R2, e2, o2, k2⟩ := X12_num_e (M := M) (m := m) o1 (v := k + 1) (by omega) (by omega)
    have k2 := k1.trans k2
    obtain ⟨R3, e3, o3, k3⟩ := X12_wr_e (M := M) (m := m) o2 (by rw [List.length_append]; omega) 58
    rw [byt_c.2.1] at o3
    have k3 := k2.trans k3
    have u := (X12_ofE_e (M := M) (m := m) (rp k3) hs hkl).1
    rw [← hx] at u
    obtain ⟨R4, e4, o4, k4⟩ := X12_num_e (M := M) (m := m) o3 hu2 (by simp only [List.length_append, List.length_singleton]; omega)
    rw [← hu1] at e4
    have k4 := k3.trans k4
    have t := (X12_ofE_e (M := M) (m := m) (rp k4) hs hkl).2
    rw [← hx] at t
    obtain ⟨R5, e5, o5, k5⟩ := X12_flags_e (M := M) (m := m) o4 (by simp only [List.length_append, List.length_singleton]; omega) (eT x)
    have k5 := k4.trans k5
    have g := X12_isGone_e (M := M) (m := m) (rp k5) hs hv hkl
    rw [← hx] at g
    have last : ∃ R6, (bif gone (bof S (sxB (stS S s))) x then ((f_X12_write m 33 (ov M m R5)).bind fun M21 => f_X12_writeView_82 (f_X12_writeView_21 fu) m (nI s) (nI (k + 1)) M21) else f_X12_writeView_82 (f_X12_writeView_21 fu) m (nI s) (nI (k + 1)) (ov M m R5)) = f_X12_writeView_21 fu m (nI s) (nI (k + 1 + 1)) (ov M m R6) ∧ outR R6 (wE (bof S (sxB (stS S s))) O k x) ∧ kp [27] [] [11] R R6 := by
      unfold wE
      cases gone (bof S (sxB (stS S s))) x with
      | true =>
        obtain ⟨R6, e6, o6, k6⟩ := X12_wr_e (M := M) (m := m) o5 (by simp only [List.length_append, List.length_singleton]; omega) 33
        rw [byt_c.2.2.1] at o6
        refine ⟨R6, ?_, o6, k5.trans k6⟩
        simp only [cond_true, e6, bso, f_X12_writeView_82, nI_1]
      | false =>
        refine ⟨R5, ?_, ?_, k5⟩
        · simp only [cond_false, f_X12_writeView_82, nI_1]
        · rw [cond_false, List.append_nil]; exact o5
    obtain ⟨R6, e6, o6, k6⟩ := last
    have s6 := wE_len (bof S (sxB (stS S s))) O k x
    obtain ⟨R7, e7, o7, k7⟩ := ih (k + 1) fu R6 _ (by omega) (by omega) (rp k6) (k6.1.trans hw) o6 (by omega)
    have hwE : wVw (bof S (sxB (stS S s))) (sxE (stS S s)) O k = wE (bof S (sxB (stS S s))) O k x := by rw [hx]; rfl
    rw [List.range'_succ, List.foldl_cons, hwE]
    refine ⟨R7, ?_, o7, k6.trans k7⟩
    simp only [f_X12_writeView_21, X12_ents_e h hs, bso]
    rw [if_neg (by rw [nI_ltI (by omega) (by omega)]; omega)]
    simp only [e1, e2, e3, u, e4, t, e5, g, bso]
    rw [e6, e7]
theorem cs_writeView (h : Cls M I O S K B C H N E) (hr : Ref R I O S K B C H N E) (w : okW c I O S K B C H N) (a : Int32) : Both (f_X11_writeView 100 a M) (f_X12_writeView 716 a) M R [("java/lang/IndexOutOfBoundsException", 1)] (c + 1) E := by
  by_cases hx : ∃ k, k < stM S ∧ a = nI k
  · obtain ⟨s, hs, rfl⟩ := hx
    have l60 := hr.2.1.ls hs
    have oke := w.2.2.1.2.2.2 s hs
    have hv : okV S (stS S s) := oke.1
    have hp : ∀ j, j < (sxE (stS S s)).length → 0 ≤ eU (eg (sxE (stS S s)) j) := fun j hj => by
      have hg : eg (sxE (stS S s)) j ∈ sxE (stS S s) := by rw [eg, List.getD_eq_getElem?_getD, List.getElem?_eq_getElem hj]; exact List.getElem_mem hj
      exact Int32.le_of_lt (oke.2.2.2.1.2.1 _ hg).1
    have hrbx : ∃ rb, f_X8_boxOf 105 (sesR 105 s) M = some rb ∧ ∀ M O, Cls M I O S K B C H N E → ∃ Jb nx, bA M rb Jb nx (bof S (sxB (stS S s))) := by
      have h3 := h.s.n3
      rcases hv.1 with hw0 | ⟨b, hb, hw0⟩
      · refine ⟨105 + 52, X8_boxOf_no h.s (h.sx hs) hw0, fun M2 O2 h2 => ?_⟩
        obtain ⟨J, nx, h0⟩ := h2.s.2.2.2.2.2.2.2
        rw [hw0, bof_no]; exact ⟨J, nx, h0⟩
      · refine ⟨boxR 105 b, X8_boxOf_in h.s (h.sx hs) hb hw0, fun M2 O2 h2 => ?_⟩
        rw [hw0, bof_in (by omega)]
        exact ⟨_, _, h2.bx hb⟩
    obtain ⟨rb, e0, hrb⟩ := hrbx
    obtain ⟨M1, e1, c1, o1⟩ := cls_clr h
    obtain ⟨M2, e2, c2, o2⟩ := cls_wv_loop (I := I) hs hv hp hrb (sxE (stS S s)).length 0 FU M1 [] (Nat.zero_add _) (by rw [FU_eq]; omega) c1 (by simp; omega)
    have e2 : f_X11_writeView_26 FU 100 (sesR 105 s) rb 1 M1 = _ := e2
    obtain ⟨O', hO'⟩ : ∃ O', O' = (List.range' 0 (sxE (stS S s)).length).foldl (wVw (bof S (sxB (stS S s))) (sxE (stS S s))) [] := ⟨_, rfl⟩
    have hlen := fold_len (wVw (bof S (sxB (stS S s))) (sxE (stS S s))) 28 (fun l k => wE_len _ l k _) (List.range' 0 (sxE (stS S s)).length) []
    have hoB := fold_oB (wVw (bof S (sxB (stS S s))) (sxE (stS S s))) (fun l k hl => wE_oB _ hl k _) (List.range' 0 (sxE (stS S s)).length) [] oB_nil
    rw [← hO', List.length_range'] at hlen
    rw [← hO'] at e2 c2 hoB
    have w' := w.up (Nat.le_succ c)
    refine Both.gn (v := nI O'.length) (O' := O') (by rw [f_X11_writeView, h.ob, bX_l (reqSes_in h hs)]; simp only [h.g2, e0, h.g1, e1, e2, bso]) (o1.trans o2) c2 ⟨w'.1, ⟨by simp at hlen; omega, hoB⟩, w'.2.2⟩ (fun Mx => ?_)
    have hq : rep (rowf (rsS (rsS R 0 0) 27 0)) S := hr.2.1
    obtain ⟨R2, f2, q2, k2⟩ := ref_wv_loop (M := Mx) (m := 716) hs hv hp (sxE (stS S s)).length 0 FU (rsS (rsS R 0 0) 27 0) [] (Nat.zero_add _) (by rw [FU_eq]; omega) hq hr.1 ⟨rfl, fun k hk => absurd hk (Nat.not_lt_zero k)⟩ (by simp; omega)
    have f2 : f_X12_writeView_21 FU 716 (nI s) 1 (ov Mx 716 (rsS (rsS R 0 0) 27 0)) = _ := f2
    rw [← hO'] at f2 q2
    have kk : kp [0, 27] [] [11] R R2 := (((kp_S R 0 0).up (by simp) (by simp) (by simp) : kp [0, 27] [] [11] R (rsS R 0 0)).trans ((kp_S _ 27 0).up (by simp) (by simp) (by simp))).trans (k2.up (by simp) (by simp) (by simp))
    refine ⟨R2, ?_, (k2.2.1 0 (by simp)).trans rfl, hr.upO kk q2⟩
    simp only [f_X12_writeView, ov_ob, X12_isSes_in hr.2.1 hs, bso, p1_1, cond_true, r_p27, f2]
  · refine Both.no h hr w (by rw [f_X11_writeView, h.ob, bX_r (reqSes_no h hx)]) (hf1 _ _ _) (by decide) (fun M2 => ?_)
    simp only [f_X12_writeView, ov_ob, X12_isSes_no hr.2.1 hx, bso, p1_0, cond_false]
theorem cls_nt (h : Cls M I O S K B C H N E) {k : Nat} (hk : k < N.length) : f_X4_size 699 M = some (nI N.length) ∧ (gR M 3 0 699 = some 700 ∧ f_X5_get 700 (nI k) M = some (n0 (ng N k))) ∧ (gR M 3 1 699 = some 702 ∧ f_X5_get 702 (nI k) M = some (n1 (ng N k))) ∧ (gR M 3 2 699 = some 704 ∧ f_X5_get 704 (nI k) M = some (n2 (ng N k))) ∧ (gR M 3 3 699 = some 706 ∧ f_X5_get 706 (nI k) M = some (n3 (ng N k))) := by
  have hN := h.n
  have l244 : N.length ≤ 244 := ntA.len hN
  have sz : f_X4_size 699 M = some (nI N.length) := X4_size_e hN
  obtain ⟨h0, a0, a1, a2, a3⟩ := id hN
  have ge : ∀ (r : Nat) (f : Nt → Int32), nA M r 244 (N.map f) → f_X5_get r (nI k) M = some (f (ng N k)) := fun r f hA => by
    have : f_X5_get r (nI k) M = some (lgt (N.map f) (nI k)) := X5_get_e hA _
    rw [this, lgt_n _ (by omega), ng_map f hk]
  exact ⟨sz, ⟨by rw [gR_h h0]; rfl, ge _ n0 a0⟩, ⟨by rw [gR_h h0]; rfl, ge _ n1 a1⟩, ⟨by rw [gR_h h0]; rfl, ge _ n2 a2⟩, ⟨by rw [gR_h h0]; rfl, ge _ n3 a3⟩⟩
end
