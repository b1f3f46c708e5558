/-! PURE: writeBox, writeView -/
def nN (x : Int32) : Nat := x.toNatClampNeg
theorem nN_n {a : Nat} (h : a < 2 ^ 31) : nN (nI a) = a := nI_clamp h
theorem nN_e {x : Int32} (h : 0 ≤ x) : x = nI (nN x) ∧ nN x < 2 ^ 31 := by
  rcases i_cases x with hx | ⟨j, hj, rfl⟩
  · exact absurd hx (Int32.not_lt.mpr h)
  · rw [nN_n hj]; exact ⟨rfl, hj⟩
def oB (l : List Int32) : Prop := ∀ x ∈ l, x &&& 255 = x
theorem oB.app {l r : List Int32} (h : oB l) (g : oB r) : oB (l ++ r) := fun x hx => by
  rcases List.mem_append.mp hx with z | z
  · exact h x z
  · exact g x z
theorem oB_nil : oB [] := fun _ hx => nomatch hx
theorem oB_1 {c : Int32} (h : c &&& 255 = c) : oB [c] := fun x hx => by rw [List.mem_singleton.mp hx]; exact h
theorem oB_dl (v : Nat) : ∀ n, oB (dl v n) := by
  intro n
  induction n with
  | zero => exact oB_nil
  | succ n ih =>
    intro x hx
    rw [dl] at hx
    rcases List.mem_cons.mp hx with rfl | hx
    · have : ∀ d, d < 10 → nI (48 + d) &&& 255 = nI (48 + d) := by decide +kernel
      exact this _ (Nat.mod_lt _ (by decide))
    · exact ih x hx
theorem oB_num (v : Nat) : oB (numB v) := oB_dl v _
theorem oB_if (p : Prop) [Decidable p] {c : Int32} (h : c &&& 255 = c) : oB (if p then [] else [c]) := by
  split
  · exact oB_nil
  · exact oB_1 h
theorem oB_fl (f : Int32) : oB (flB f) := ((oB_if _ (by decide)).app ((oB_if _ (by decide)).app ((oB_if _ (by decide)).app ((oB_if _ (by decide)).app (oB_if _ (by decide))))))
theorem oB.sep {l : List Int32} (h : oB l) : oB (sepB l) := by
  unfold sepB
  split
  · exact h
  · exact h.app (oB_1 (by decide))
theorem sep_len (l : List Int32) : (sepB l).length ≤ l.length + 1 := by
  unfold sepB
  split
  · omega
  · rw [List.length_append]; exact Nat.le_refl _
def wM (l : List Int32) (x : Msg) : List Int32 := sepB l ++ numB (nN (mU x)) ++ [58] ++ numB (nN (mS x)) ++ flB (mF x)
theorem wM_len (l : List Int32) (x : Msg) : (wM l x).length ≤ l.length + 27 := by
  have h1 := sep_len l
  have h2 := numB_len (nN (mU x))
  have h3 := numB_len (nN (mS x))
  have h4 := flB_len (mF x)
  simp only [wM, List.length_append, List.length_singleton]
  omega
theorem wM_oB {l : List Int32} (h : oB l) (x : Msg) : oB (wM l x) := ((((h.sep).app (oB_num _)).app (oB_1 (by decide))).app (oB_num _)).app (oB_fl _)
def wE (ms : Ms) (l : List Int32) (k : Nat) (e : En) : List Int32 := sepB l ++ numB (k + 1) ++ [58] ++ numB (nN (eU e)) ++ flB (eT e) ++ (bif gone ms e then [33] else [])
theorem wE_len (ms : Ms) (l : List Int32) (k : Nat) (e : En) : (wE ms l k e).length ≤ l.length + 28 := by
  have h1 := sep_len l
  have h2 := numB_len (k + 1)
  have h3 := numB_len (nN (eU e))
  have h4 := flB_len (eT e)
  have h5 : (bif gone ms e then ([33] : List Int32) else []).length ≤ 1 := by cases gone ms e <;> simp
  simp only [wE, List.length_append, List.length_singleton]
  omega
theorem wE_oB (ms : Ms) {l : List Int32} (h : oB l) (k : Nat) (e : En) : oB (wE ms l k e) := by
  refine (((((h.sep).app (oB_num _)).app (oB_1 (by decide))).app (oB_num _)).app (oB_fl _)).app ?_
  cases gone ms e
  · exact oB_nil
  · exact oB_1 (by decide)
section
variable {M : Mem} {m : Nat} {R : Rs} {I O : List Int32} {S : St} {K : Nat → St} {B : Nat → Bool} {C : Nat} {H : Nat → St} {N : List Nt} {E : Er} {c : Nat}
theorem cls_sep (h : Cls M I O S K B C H N E) (hl : O.length < 4096) : ∃ M', f_X1_addSeparator 103 M = some M' ∧ Cls M' I (sepB O) S K B C H N E ∧ off M M' 100 616 := by
  obtain ⟨M', e, y, o⟩ := X1_sep_e h.o hl
  exact ⟨M', e, h.mO y o, o.wide (by omega) (by omega)⟩
theorem cls_num (h : Cls M I O S K B C H N E) (hl : O.length + 10 ≤ 4096) {v : Int32} (hv : 0 ≤ v) : ∃ M', f_X1_addNumber 103 v M = some M' ∧ Cls M' I (O ++ numB (nN v)) S K B C H N E ∧ off M M' 100 616 := by
  obtain ⟨hv1, hv2⟩ := nN_e hv
  obtain ⟨M', e, y, o⟩ := X1_num_e h.o hv2 hl
  rw [← hv1] at e
  exact ⟨M', e, h.mO y o, o.wide (by omega) (by omega)⟩
theorem cls_byte (h : Cls M I O S K B C H N E) (hl : O.length < 4096) {v : Int32} (hv : byt v = v) : ∃ M', f_X1_addByte 103 v M = some M' ∧ Cls M' I (O ++ [v]) S K B C H N E ∧ off M M' 100 616 := by
  obtain ⟨M', e, y, o⟩ := X1_add_e h.o v hl
  rw [hv] at y
  exact ⟨M', e, h.mO y o, o.wide (by omega) (by omega)⟩
theorem cls_flg (h : Cls M I O S K B C H N E) (hl : O.length + 5 ≤ 4096) (v : Int32) : ∃ M', f_X1_addFlags 103 v M = some M' ∧ Cls M' I (O ++ flB v) S K B C H N E ∧ off M M' 100 616 := by
  obtain ⟨M', e, y, o⟩ := X1_flags_e h.o v hl
  exact ⟨M', e, h.mO y o, o.wide (by omega) (by omega)⟩
theorem cls_msg (h : Cls M I O S K B C H N E) {b j : Nat} (hb : b < stN S) (hj : j < (stB S b).2.2.length) :
    (gR M 0 2 (boxR 105 b) = some (boxR 105 b + 1) ∧ f_X5_get (boxR 105 b + 1) (nI j) M = some (mU (mg (stB S b).2.2 j))) ∧ (gR M 0 3 (boxR 105 b) = some (boxR 105 b + 3) ∧ f_X5_get (boxR 105 b + 3) (nI j) M = some (mS (mg (stB S b).2.2 j))) ∧ (gR M 0 4 (boxR 105 b) = some (boxR 105 b + 5) ∧ f_X5_get (boxR 105 b + 5) (nI j) M = some (mF (mg (stB S b).2.2 j))) := by
  have hbx := h.bx hb
  have l30 : (stB S b).2.2.length ≤ 30 := bA.len hbx
  refine ⟨⟨bA.gU hbx, ?_⟩, ⟨bA.gS hbx, ?_⟩, bA.gF hbx, ?_⟩
  · have : f_X5_get (boxR 105 b + 1) (nI j) M = some (lgt ((stB S b).2.2.map mU) (nI j)) := X5_get_e hbx.2.1 _
    rw [this, lgt_n _ (by omega), mapD _ hj]
  · have : f_X5_get (boxR 105 b + 3) (nI j) M = some (lgt ((stB S b).2.2.map mS) (nI j)) := X5_get_e hbx.2.2.1 _
    rw [this, lgt_n _ (by omega), mapD _ hj]
  · have : f_X5_get (boxR 105 b + 5) (nI j) M = some (lgt ((stB S b).2.2.map mF) (nI j)) := X5_get_e hbx.2.2.2 _
    rw [this, lgt_n _ (by omega), mapD _ hj]
theorem cls_wb_loop {b : Nat} (hb : b < stN S) (hp : ∀ j, j < (stB S b).2.2.length → 0 ≤ mU (mg (stB S b).2.2 j) ∧ 0 ≤ mS (mg (stB S b).2.2 j)) : ∀ (n k fu : Nat) (M : Mem) (O : List Int32), k + n = (stB S b).2.2.length → n < fu → Cls M I O S K B C H N E → O.length + 27 * n ≤ 4000 →
    ∃ M', f_X11_writeBox_16 fu 100 (boxR 105 b) (nI k) M = some (.inl (nI (((stB S b).2.2.drop k).foldl wM O).length), M') ∧ Cls M' I (((stB S b).2.2.drop k).foldl wM O) S K B C H N E ∧ off M M' 100 616 := by
  intro n
  induction n with
  | zero =>
    intro k fu M O hk hf h hl
    obtain ⟨fu, rfl⟩ : ∃ x, fu = x + 1 := ⟨fu - 1, by omega⟩
    have hbx := h.bx hb
    have l30 : (stB S b).2.2.length ≤ 30 := bA.len hbx
    have hsz : f_X0_size (boxR 105 b) M = some (nI (stB S b).2.2.length) := X0_size_e hbx
    have sz : f_X1_size 103 M = some (nI O.length) := X1_size_e h.o
    have hd : (stB S b).2.2.drop k = [] := List.drop_eq_nil_of_le (by omega)
    rw [hd]
    refine ⟨M, ?_, h, off.rf _ _ _⟩
    simp only [f_X11_writeBox_16, hsz, bso]
    rw [if_pos (by rw [nI_leI (by omega) (by omega)]; omega)]
    simp only [h.g1, sz, bso, List.foldl_nil]
  | succ n ih =>
    intro k fu M O hk hf h hl
    obtain ⟨fu, rfl⟩ : ∃ x, fu = x + 1 := ⟨fu - 1, by omega⟩
    have hbx := h.bx hb
    have l30 : (stB S b).2.2.length ≤ 30 := bA.len hbx
    have hsz : f_X0_size (boxR 105 b) M = some (nI (stB S b).2.2.length) := X0_size_e hbx
    have hkl : k < (stB S b).2.2.length := by omega
    have hd : (stB S b).2.2.drop k = mg (stB S b).2.2 k :: (stB S b).2.2.drop (k + 1) := by
      rw [List.drop_eq_getElem_cons hkl, mg, List.getD_eq_getElem?_getD, List.getElem?_eq_getElem hkl]; rfl
    obtain ⟨x, hx⟩ : ∃ x, x = mg (stB S b).2.2 k := ⟨_, rfl⟩
    have hpk := hp k hkl
    rw [← hx] at hd hpk
    have s1 := sep_len O
    have s2 := numB_len (nN (mU x))
    have s3 := numB_len (nN (mS x))
    obtain ⟨M1, e1, c1, o1⟩ := cls_sep h (by omega)
    obtain ⟨⟨u1, u2⟩, -, -⟩ := cls_msg c1 hb hkl
    rw [← hx] at u2
    obtain ⟨M2, e2, c2, o2⟩ := cls_num c1 (by omega) hpk.1
    obtain ⟨M3, e3, c3, o3⟩ := cls_byte c2 (by rw [List.length_append]; omega) byt_c.2.1
    obtain ⟨-, ⟨v1, v2⟩, -⟩ := cls_msg c3 hb hkl
    rw [← hx] at v2
    obtain ⟨M4, e4, c4, o4⟩ := cls_num c3 (by simp only [List.length_append, List.length_singleton]; omega) hpk.2
    obtain ⟨-, -, ⟨w1, w2⟩⟩ := cls_msg c4 hb hkl
    rw [← hx] at w2
    obtain ⟨M5, e5, c5, o5⟩ := cls_flg c4 (by simp only [List.length_append, List.length_singleton]; omega) (mF x)
    have c5 : Cls M5 I (wM O x) S K B C H N E := c5
    have s6 := wM_len O x
    obtain ⟨M6, e6, c6, o6⟩ := ih (k + 1) fu M5 (wM O x) (by omega) (by omega) c5 (by omega)
    rw [hd, List.foldl_cons]
    refine ⟨M6, ?_, c6, ((((o1.trans o2).trans o3).trans o4).trans o5).trans o6⟩
    simp only [f_X11_writeBox_16, hsz, bso]
    rw [if_neg (by rw [nI_leI (by omega) (by omega)]; omega)]
    simp only [h.g1, e1, c1.g1, u1, u2, e2, c2.g1, e3, c3.g1, v1, v2, e4, c4.g1, w1, w2, e5, bso, nI_1, e6]
theorem ref_wb_loop {b : Nat} (hb : b < stN S) (hp : ∀ j, j < (stB S b).2.2.length → 0 ≤ mU (mg (stB S b).2.2 j) ∧ 0 ≤ mS (mg (stB S b).2.2 j)) : ∀ (n k fu : Nat) (R : Rs) (O : List Int32), k + n = (stB S b).2.2.length → n < fu → rep (rowf R) S → R.2.1 = false → outR R O → O.length + 27 * n ≤ 4000 →
    ∃ R', f_X12_writeBox_21 fu m (nI b) (nI k) (ov M m R) = some (nI (((stB S b).2.2.drop k).foldl wM O).length, ov M m R') ∧ outR R' (((stB S b).2.2.drop k).foldl wM O) ∧ kp [27] [] [11] R R' := by
  intro n
  induction n with
  | zero =>
    intro k fu R O hk hf h hw ho hl
    obtain ⟨fu, rfl⟩ : ∃ x, fu = x + 1 := ⟨fu - 1, by omega⟩
    have l30 := h.lb hb
    have hd : (stB S b).2.2.drop k = [] := List.drop_eq_nil_of_le (by omega)
    rw [hd]
    refine ⟨R, ?_, ho, kp.rf _ _ _ _⟩
    simp only [f_X12_writeBox_21, X12_many_e h hb, bso]
    rw [if_pos (by rw [nI_leI (by omega) (by omega)]; omega)]
    simp only [r_g27, ho.1, bso, List.foldl_nil]
  | succ n ih =>
    intro k fu R O hk hf h hw ho hl
    obtain ⟨fu, rfl⟩ : ∃ x, fu = x + 1 := ⟨fu - 1, by omega⟩
    have l30 := h.lb hb
    have hkl : k < (stB S b).2.2.length := by omega
    have hd : (stB S b).2.2.drop k = mg (stB S b).2.2 k :: (stB S b).2.2.drop (k + 1) := by
      rw [List.drop_eq_getElem_cons hkl, mg, List.getD_eq_getElem?_getD, List.getElem?_eq_getElem hkl]; rfl
    obtain ⟨x, hx⟩ : ∃ x, x = mg (stB S b).2.2 k := ⟨_, rfl⟩
    have hpk := hp k hkl
    rw [← hx] at hd hpk
    have s1 := sep_len O
    have s2 := numB_len (nN (mU x))
    have s3 := numB_len (nN (mS x))
    obtain ⟨hu1, hu2⟩ := nN_e hpk.1
    obtain ⟨hs1, hs2⟩ := nN_e hpk.2
    have rp : ∀ {R1 : Rs}, kp [27] [] [11] R R1 → rep (rowf R1) S := fun kk => by rw [kk.row hw (by decide)]; exact h
    obtain ⟨R1, e1, o1, k1⟩ := X12_gap_e (M := M) (m := m) ho (by omega)
    have u := (X12_ofM_e (M := M) (m := m) (rp k1) hb hkl).1
    rw [← hx] at u
    obtain ⟨R2, e2, o2, k2⟩ := X12_num_e (M := M) (m := m) o1 hu2 (by omega)
    rw [← hu1] at e2
    have k2 := k1.trans k2
    obtain ⟨R3, e3, o3, k3⟩ := X12_wr_e (M := M) (m := m) o2 (by rw [List.length_append]; omega) 58
    rw [byt_c.2.1] at o3
    have k3 := k2.trans k3
    have v := (X12_ofM_e (M := M) (m := m) (rp k3) hb hkl).2.1
    rw [← hx] at v
    obtain ⟨R4, e4, o4, k4⟩ := X12_num_e (M := M) (m := m) o3 hs2 (by simp only [List.length_append, List.length_singleton]; omega)
    rw [← hs1] at e4
    have k4 := k3.trans k4
    have w := (X12_ofM_e (M := M) (m := m) (rp k4) hb hkl).2.2
    rw [← hx] at w
    obtain ⟨R5, e5, o5, k5⟩ := X12_flags_e (M := M) (m := m) o4 (by simp only [List.length_append, List.length_singleton]; omega) (mF x)
    have k5 := k4.trans k5
    have o5 : outR R5 (wM O x) := o5
    have s6 := wM_len O x
    obtain ⟨R6, e6, o6, k6⟩ := ih (k + 1) fu R5 (wM O x) (by omega) (by omega) (rp k5) (k5.1.trans hw) o5 (by omega)
    rw [hd, List.foldl_cons]
    refine ⟨R6, ?_, o6, k5.trans k6⟩
    simp only [f_X12_writeBox_21, X12_many_e h hb, bso]
    rw [if_neg (by rw [nI_leI (by omega) (by omega)]; omega)]
    simp only [e1, u, e2, e3, v, e4, w, e5, bso, nI_1, e6]
theorem Ref.upO {R' : Rs} {O' : List Int32} (h : Ref R I O S K B C H N E) (k : kp [0, 27] [] [11] R R') (ho : outR R' O') : Ref R' I O' S K B C H N E := by
  obtain ⟨a1, a2, a3, a4, ⟨a5, a6⟩, ⟨a7, a8⟩, ⟨a9, b1⟩, b2⟩ := h
  have hrow := k.row a1 (by decide)
  obtain ⟨k1, k2, k3, k4⟩ := k
  have i9 := k4 9 (by simp)
  have i5 := k4 5 (by simp)
  have i3 := k4 3 (by simp)
  have j8 := k3 8 (by simp)
  exact ⟨k1.trans a1, by rw [hrow]; exact a2, a3.cg (k2 25 (by simp)) (k3 10 (by simp)), ⟨(k2 5 (by simp)).trans a4.1, by rw [i3]; exact a4.2⟩, ⟨(k2 8 (by simp)).trans a5, by rw [i5]; exact a6⟩, ho, ⟨(k2 14 (by simp)).trans a9, (k2 15 (by simp)).trans b1⟩, fun j hj => by rw [i9, j8]; exact b2 j hj⟩
theorem cls_clr (h : Cls M I O S K B C H N E) : ∃ M', f_X1_cutTo 103 0 M = some M' ∧ Cls M' I [] S K B C H N E ∧ off M M' 100 616 := by
  obtain ⟨M', e, y, o⟩ := X1_clear_e h.o
  exact ⟨M', e, h.mO y o, o.wide (by omega) (by omega)⟩
theorem fold_len {α : Type} (f : List Int32 → α → List Int32) (d : Nat) (hf : ∀ l x, (f l x).length ≤ l.length + d) : ∀ (xs : List α) (l : List Int32), (xs.foldl f l).length ≤ l.length + d * xs.length := by
  intro xs
  induction xs with
  | nil => intro l; exact Nat.le_refl _
  | cons x t ih =>
    intro l
    have h1 := hf l x
    have h2 := ih (f l x)
    rw [List.foldl_cons, List.length_cons, Nat.mul_succ]
    omega
theorem fold_oB {α : Type} (f : List Int32 → α → List Int32) (hf : ∀ l x, oB l → oB (f l x)) : ∀ (xs : List α) (l : List Int32), oB l → oB (xs.foldl f l) := by
  intro xs
  induction xs with
  | nil => intro l h; exact h
  | cons x t ih => intro l h; exact ih _ (hf l x h)
theorem cs_writeBox (h : Cls M I O S K B C H N E) (hr : Ref R I O S K B C H N E) (w : okW c I O S K B C H N) (a : Int32) : Both (f_X11_writeBox 100 a M) (f_X12_writeBox 716 a) M R [("java/lang/IndexOutOfBoundsException", 1)] (c + 1) E := by
  by_cases hx : ∃ k, k < stN S ∧ a = nI k
  · obtain ⟨b, hb, rfl⟩ := hx
    have l30 := hr.2.1.lb hb
    have okb := w.2.2.1.2.2.1 b hb
    have hp : ∀ j, j < (stB S b).2.2.length → 0 ≤ mU (mg (stB S b).2.2 j) ∧ 0 ≤ mS (mg (stB S b).2.2 j) := fun j hj => by
      have hg : mg (stB S b).2.2 j ∈ (stB S b).2.2 := by rw [mg, List.getD_eq_getElem?_getD, List.getElem?_eq_getElem hj]; exact List.getElem_mem hj
      exact ⟨Int32.le_of_lt (((okM_iff _ _).mp okb.2.1).1.1 _ (List.mem_map_of_mem hg)), (okb.2.1.2 _ hg).2⟩
    obtain ⟨M1, e1, c1, o1⟩ := cls_clr h
    obtain ⟨M2, e2, c2, o2⟩ := cls_wb_loop (I := I) hb hp (stB S b).2.2.length 0 FU M1 [] (Nat.zero_add _) (by rw [FU_eq]; omega) c1 (by simp; omega)
    have e2 : f_X11_writeBox_16 FU 100 (boxR 105 b) 0 M1 = _ := e2
    rw [List.drop_zero] at e2 c2
    obtain ⟨O', hO'⟩ : ∃ O', O' = (stB S b).2.2.foldl wM [] := ⟨_, rfl⟩
    have hlen := fold_len wM 27 wM_len (stB S b).2.2 []
    have hoB := fold_oB wM (fun l x hl => wM_oB hl x) (stB S b).2.2 [] oB_nil
    rw [← hO'] at e2 c2 hlen hoB
    have w' := w.up (Nat.le_succ c)
    refine Both.gn (v := nI O'.length) (O' := O') (by rw [f_X11_writeBox, h.ob, bX_l (reqBox_in h hb)]; simp only [h.g1, e1, e2, bso]) (o1.trans o2) c2 ⟨w'.1, ⟨by simp at hlen; omega, hoB⟩, w'.2.2⟩ (fun Mx => ?_)
    have hq : rep (rowf (rsS (rsS R 0 0) 27 0)) S := hr.2.1
    obtain ⟨R2, f2, q2, k2⟩ := ref_wb_loop (M := Mx) (m := 716) hb hp (stB S b).2.2.length 0 FU (rsS (rsS R 0 0) 27 0) [] (Nat.zero_add _) (by rw [FU_eq]; omega) hq hr.1 ⟨rfl, fun k hk => absurd hk (Nat.not_lt_zero k)⟩ (by simp; omega)
    have f2 : f_X12_writeBox_21 FU 716 (nI b) 0 (ov Mx 716 (rsS (rsS R 0 0) 27 0)) = _ := f2
    rw [List.drop_zero, ← hO'] at f2 q2
    have kk : kp [0, 27] [] [11] R R2 := (((kp_S R 0 0).up (by simp) (by simp) (by simp) : kp [0, 27] [] [11] R (rsS R 0 0)).trans ((kp_S _ 27 0).up (by simp) (by simp) (by simp))).trans (k2.up (by simp) (by simp) (by simp))
    refine ⟨R2, ?_, (k2.2.1 0 (by simp)).trans rfl, hr.upO kk q2⟩
    simp only [f_X12_writeBox, ov_ob, X12_isBox_in hr.2.1 hb, bso, p1_1, cond_true, r_p27, f2]
  · refine Both.no h hr w (by rw [f_X11_writeBox, h.ob, bX_r (reqBox_no h hx)]) (hf1 _ _ _) (by decide) (fun M2 => ?_)
    simp only [f_X12_writeBox, ov_ob, X12_isBox_no hr.2.1 hx, bso, p1_0, cond_false]
end
