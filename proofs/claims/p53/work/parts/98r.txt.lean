/-! PURE, p53: the law's text, built and fed -/
theorem toNat_nI {a : Nat} (h : a < 2 ^ 32) : (nI a).toBitVec.toNat = a := by
  unfold nI
  rw [Int32.toBitVec_ofNat', BitVec.toNat_ofNat]
  exact Nat.mod_eq_of_lt h
theorem eq_nI {x : Int32} {a : Nat} (h : x.toBitVec.toNat = a) : x = nI a := by
  apply Int32.toBitVec_inj.mp
  apply BitVec.eq_of_toNat_eq
  rw [h, toNat_nI]
  rw [← h]
  exact x.toBitVec.isLt
theorem shl8 {a : Nat} (h : a < 2 ^ 23) : nI a <<< ((8 : Int32) &&& 31) = nI (a * 256) := by
  rw [show (8 : Int32) &&& 31 = 8 from by decide]
  apply eq_nI
  have : (nI a <<< (8 : Int32)).toBitVec = (nI a).toBitVec <<< 8 := rfl
  rw [this, BitVec.toNat_shiftLeft, toNat_nI (by omega), Nat.shiftLeft_eq]
  omega
theorem or8 {a c : Nat} (h : a < 2 ^ 23) (hc : c < 256) : nI (a * 256) ||| nI c = nI (a * 256 + c) := by
  apply eq_nI
  rw [Int32.toBitVec_or, BitVec.toNat_or, toNat_nI (by omega), toNat_nI (by omega)]
  have := Nat.two_pow_add_eq_or_of_lt (i := 8) (b := c) hc a
  rw [Nat.mul_comm] at this
  exact this.symm
theorem shr_n {v : Nat} (h : v < 2 ^ 31) (k : Nat) (hk : k < 32) : nI v >>> (nI k &&& 31) = nI (v / 2 ^ k) := by
  have hs : ∀ k, k < 32 → nI k &&& 31 = nI k := by decide
  rw [hs k hk]
  apply eq_nI
  have e : (nI v >>> nI k).toBitVec = BitVec.sshiftRight' (nI v).toBitVec ((nI k).toBitVec.smod 32) := rfl
  have h9 : ∀ k, k < 32 → ((nI k).toBitVec.smod 32).toNat = k := by decide
  rw [e]
  show (BitVec.sshiftRight (nI v).toBitVec ((nI k).toBitVec.smod 32).toNat).toNat = _
  rw [h9 k hk]
  have hm : (nI v).toBitVec.msb = false := by
    rw [BitVec.msb_eq_false_iff_two_mul_lt, toNat_nI (by omega)]
    omega
  rw [BitVec.toNat_sshiftRight_of_msb_false hm, toNat_nI (by omega), Nat.shiftRight_eq_div_pow]
theorem byt_low : ∀ c, c < 128 → byt (nI c) = nI c := by decide +kernel
theorem byt_n {a c : Nat} (h : a < 2 ^ 23) (hc : c < 128) : byt (nI (a * 256 + c)) = nI c := by
  have : (nI (a * 256 + c)).toInt8 = (nI c).toInt8 := by
    apply Int8.toBitVec_inj.mp
    apply BitVec.eq_of_toNat_eq
    have e1 : ∀ x : Int32, x.toInt8.toBitVec = x.toBitVec.signExtend 8 := fun x => rfl
    rw [e1, e1, BitVec.signExtend_eq_setWidth_of_le _ (by omega), BitVec.signExtend_eq_setWidth_of_le _ (by omega), BitVec.toNat_setWidth, BitVec.toNat_setWidth, toNat_nI (by omega), toNat_nI (by omega)]
    omega
  unfold byt
  rw [this]
  exact byt_low c hc
def capM (cap : Nat) : Prop := cap = 22 ∨ cap = 46 ∨ cap = 94 ∨ cap = 190 ∨ cap = 382 ∨ cap = 766
def Bd (M : Mem) (r : Nat) (l : List Int32) : Prop := ∃ a cap, sbA M r a cap l ∧ capM cap ∧ asc l
def kpM (M M' : Mem) : Prop := M.2.1 ≤ M'.2.1 ∧ M'.2.2 = M.2.2 ∧ (∀ q, q < 716 → M'.1 q = M.1 q) ∧ ∀ q l, q < M.2.1 → iA M q l → iA M' q l
def kp0 (M M' : Mem) : Prop := M.2.1 ≤ M'.2.1 ∧ M'.2.2 = M.2.2 ∧ ∀ q, q < 716 → M'.1 q = M.1 q
theorem kp0.trans {M M1 M2 : Mem} (h : kp0 M M1) (k : kp0 M1 M2) : kp0 M M2 := ⟨Nat.le_trans h.1 k.1, k.2.1.trans h.2.1, fun q hq => (k.2.2 q hq).trans (h.2.2 q hq)⟩
theorem kpM.z {M M' : Mem} (h : kpM M M') : kp0 M M' := ⟨h.1, h.2.1, h.2.2.1⟩
theorem kpM.rf (M : Mem) : kpM M M := ⟨Nat.le_refl _, rfl, fun _ _ => rfl, fun _ _ _ h => h⟩
theorem kpM.trans {M M1 M2 : Mem} (h : kpM M M1) (k : kpM M1 M2) : kpM M M2 := ⟨Nat.le_trans h.1 k.1, k.2.1.trans h.2.1, fun q hq => (k.2.2.1 q hq).trans (h.2.2.1 q hq), fun q l hq hl => k.2.2.2 q l (Nat.lt_of_lt_of_le hq h.1) (h.2.2.2 q l hq hl)⟩
theorem kpM.lo {M M' : Mem} (h : kpM M M') (k : lo0 M) : lo0 M' := fun q hq => (h.2.2.1 q (by omega)).trans (k q hq)
theorem kpM.of {M M' : Mem} {r a cap : Nat} {l : List Int32} (h : sbA M r a cap l) (k : keepB M M' r a) : kpM M M' := by
  obtain ⟨⟨z, p⟩, ⟨-, -, f, b, -⟩, hr, ha⟩ := h
  refine ⟨k.1, k.2.1, fun q hq => k.2.2 q (by omega) (by omega) (by omega), fun q l' hq hl => hl.cg (k.2.2 q hq ?_ ?_)⟩
  · rintro rfl
    obtain ⟨-, g, g1, -⟩ := hl
    rw [g1] at p; simp at p
  · rintro rfl
    obtain ⟨-, g, g1, -⟩ := hl
    rw [g1] at b; simp at b
theorem Bd.lt {M : Mem} {r : Nat} {l : List Int32} (h : Bd M r l) : 716 ≤ r ∧ r < M.2.1 := by
  obtain ⟨a, cap, h1, -⟩ := h
  exact h1.2.2.1
theorem bd_const {M : Mem} {r j : Nat} {l : List Int32} (h : Bd M r l) (hlo : lo0 M) (hj : j < 14) (hl : l.length + (lsBy j).length ≤ 700) : ∃ M', f_J4_append_15ec4 r (43 + j) M = some (r, M') ∧ Bd M' r (l ++ lsBy j) ∧ kpM M M' := by
  obtain ⟨a, cap, h1, hc, ha⟩ := h
  have l9 := (ls_str M hj).2.2
  have lc := h1.2.1.1
  obtain ⟨M1, a1, cap1, e1, h2, c1, -, k1⟩ := sb_const h1 hlo hj (by rcases hc with rfl | rfl | rfl | rfl | rfl | rfl <;> omega)
  refine ⟨M1, e1, ⟨a1, cap1, h2, ?_, asc_app ha (ls_str M hj).1.1⟩, kpM.of h1 k1⟩
  unfold capM
  rcases hc with rfl | rfl | rfl | rfl | rfl | rfl <;> rcases c1 with ⟨c, -⟩ | ⟨c, c2⟩ <;> omega
theorem bd_chr {M : Mem} {r d : Nat} {l : List Int32} (h : Bd M r l) (hd : d < 128) (hl : l.length + 1 ≤ 700) : ∃ M', f_J4_append_cf468 r (nI d) M = some (r, M') ∧ Bd M' r (l ++ [nI d]) ∧ kpM M M' := by
  obtain ⟨a, cap, h1, hc, ha⟩ := h
  have lc := h1.2.1.1
  obtain ⟨M1, a1, cap1, e1, h2, c1, -, k1⟩ := sb_chr h1 hd (by rcases hc with rfl | rfl | rfl | rfl | rfl | rfl <;> omega)
  refine ⟨M1, e1, ⟨a1, cap1, h2, ?_, asc_app ha (fun x hx => ⟨d, hd, List.mem_singleton.mp hx⟩)⟩, kpM.of h1 k1⟩
  unfold capM
  rcases hc with rfl | rfl | rfl | rfl | rfl | rfl <;> rcases c1 with ⟨c, -⟩ | ⟨c, c2⟩ <;> omega
theorem bd_int {M : Mem} {r n : Nat} {l : List Int32} (h : Bd M r l) (hn : n < 1000) (hl : l.length + (dgs n).length ≤ 700) : ∃ M', f_J4_append_bf812 r (nI n) M = some (r, M') ∧ Bd M' r (l ++ dgs n) ∧ kpM M M' := by
  obtain ⟨a, cap, h1, hc, ha⟩ := h
  have l3 := dgs_3 n
  have lc := h1.2.1.1
  obtain ⟨M1, a1, cap1, e1, h2, c1, -, k1⟩ := sb_int h1 hn (by rcases hc with rfl | rfl | rfl | rfl | rfl | rfl <;> omega)
  refine ⟨M1, e1, ⟨a1, cap1, h2, ?_, asc_app ha (dgs_asc hn)⟩, kpM.of h1 k1⟩
  unfold capM
  rcases hc with rfl | rfl | rfl | rfl | rfl | rfl <;> rcases c1 with ⟨c, -⟩ | ⟨c, c2⟩ <;> omega
theorem bd_flg {M : Mem} {r st : Nat} {l : List Int32} (h : Bd M r l) (hlo : lo0 M) (hst : st < 32) (h23 : 23 ≤ l.length) (hl : l.length + (flS st 5).length ≤ 700) :
    ∃ M1 s M2, f_L_flags (nI st) M = some (s, M1) ∧ f_J4_append_15ec4 r s M1 = some (r, M2) ∧ Bd M2 r (l ++ flS st 5) ∧ kpM M M1 ∧ kpM M1 M2 := by
  obtain ⟨a, cap, h1, hc, ha⟩ := h
  have lc := h1.2.1.1
  have l36 := fl_len st hst 5 (by omega)
  have hr := h1.2.2.1
  have haa := h1.2.2.2
  obtain ⟨M1, s, v, e1, s1, ⟨z, w, s2⟩, s3, s4, w1, k1⟩ := flags_e hst (by omega) hlo
  have h1' : sbA M1 r a cap l := by
    obtain ⟨⟨z, p⟩, b, hr, ha⟩ := h1
    exact ⟨⟨z, by rw [k1 r hr.2]; exact p⟩, b.cg (k1 a ha.2), ⟨hr.1, by omega⟩, ⟨ha.1, by omega⟩⟩
  have hk1 : kpM M M1 := ⟨by omega, w1, fun q hq => k1 q (by omega), fun q l' hq hl' => hl'.cg (k1 q hq)⟩
  obtain ⟨M2, a2, cap2, e2, h2, c2, -, k2⟩ := sb_str h1' s1 (by omega) (fun v' z' w' y => by
    rw [s2] at y
    have y := Option.some.inj y
    simp at y
    obtain rfl := y.1
    exact ⟨by have := s4.1; omega, s4.2, s3.2⟩) (by rcases hc with rfl | rfl | rfl | rfl | rfl | rfl <;> omega)
  refine ⟨M1, s, M2, e1, e2, ⟨a2, cap2, h2, ?_, asc_app ha s1.1⟩, hk1, kpM.of h1' k2⟩
  unfold capM
  rcases hc with rfl | rfl | rfl | rfl | rfl | rfl <;> rcases c2 with ⟨c, -⟩ | ⟨c, c2⟩ <;> omega
/-! the text -/
def bxX (k : Nat) : List Int32 := lsBy 2 ++ ([nI (97 + k)] ++ lsBy 1)
def bxT : Nat → Nat → List Int32
  | 0, _ => []
  | d + 1, k => bxX k ++ bxT d (k + 1)
def mX (m : Nat × Nat × Nat) : List Int32 := lsBy 3 ++ ([nI (97 + m.1)] ++ (lsBy 4 ++ (dgs m.2.1 ++ (flS m.2.2 5 ++ lsBy 1))))
def mLs (Lx : Nat × (Nat → Int32)) (nb lim : Nat) : Nat → Nat → (Nat → Nat) → List (Nat × Nat × Nat)
  | 0, _, _ => []
  | d + 1, k, cnt => if cnt (dr Lx (10 + k) nb) = lim then mLs Lx nb lim d (k + 1) cnt
      else (dr Lx (10 + k) nb, 1 + dr Lx (20 + k) 500, dr Lx (30 + k) 32) :: mLs Lx nb lim d (k + 1) (va_up cnt (dr Lx (10 + k) nb) (cnt (dr Lx (10 + k) nb) + 1))
def mT : List (Nat × Nat × Nat) → List Int32
  | [] => []
  | m :: t => mX m ++ mT t
def cnM : List (Nat × Nat × Nat) → (Nat → Nat) → (Nat → Nat)
  | [], cnt => cnt
  | m :: t, cnt => cnM t (va_up cnt m.1 (cnt m.1 + 1))
def sLs (Lx : Nat × (Nat → Int32)) (nb : Nat) : Nat → Nat → List (Nat × Nat × Nat)
  | 0, _ => []
  | d + 1, k => (k, dr Lx (4 + k) 6, dr Lx (40 + k) nb) :: sLs Lx nb d (k + 1)
def sX (s : Nat × Nat × Nat) : List Int32 := lsBy 11 ++ ([nI (97 + s.1)] ++ ((if s.2.1 = 0 then [] else lsBy (if s.2.1 = 1 then 12 else 13) ++ [nI (97 + s.2.2)]) ++ lsBy 1))
def sT : List (Nat × Nat × Nat) → List Int32
  | [] => []
  | m :: t => sX m ++ sT t
theorem lsX_len : (lsBy 0).length = 6 ∧ (lsBy 1).length = 1 ∧ (lsBy 2).length = 5 ∧ (lsBy 3).length = 9 ∧ (lsBy 4).length = 6 ∧ (lsBy 11).length = 9 ∧ (lsBy 12).length = 8 ∧ (lsBy 13).length = 2 := by decide +kernel
theorem bxX_len (k : Nat) : (bxX k).length = 7 := by
  obtain ⟨-, h1, h2, -⟩ := lsX_len
  unfold bxX
  rw [List.length_append, List.length_append, h1, h2]; rfl
theorem mX_len {m : Nat × Nat × Nat} (h : m.2.2 < 32) : (mX m).length ≤ 56 := by
  obtain ⟨-, h1, -, h3, h4, -⟩ := lsX_len
  have := dgs_3 m.2.1
  have := fl_len m.2.2 h 5 (by omega)
  unfold mX
  rw [List.length_append, List.length_append, List.length_append, List.length_append, List.length_append, h1, h3, h4]
  show 9 + (1 + _) ≤ 56
  omega
theorem sX_len (s : Nat × Nat × Nat) : (sX s).length ≤ 20 := by
  obtain ⟨-, h1, -, -, -, h11, h12, h13⟩ := lsX_len
  unfold sX
  rw [List.length_append, List.length_append, List.length_append, h1, h11]
  by_cases e : s.2.1 = 0
  · rw [if_pos e]
    show 9 + (1 + (0 + 1)) ≤ 20
    omega
  · rw [if_neg e, List.length_append]
    by_cases e1 : s.2.1 = 1
    · rw [if_pos e1, h12]; show 9 + (1 + (8 + 1 + 1)) ≤ 20; omega
    · rw [if_neg e1, h13]; show 9 + (1 + (2 + 1 + 1)) ≤ 20; omega
theorem c97 : ∀ k, k < 4 → (((97 + nI k).toUInt32 % 65536).toInt32) = nI (97 + k) := by decide +kernel
section
variable {Lx : Nat × (Nat → Int32)} {r nb sN mN lim : Nat}
theorem box_loop (hb : nb ≤ 3) : ∀ (d k fu : Nat) (M : Mem) (l : List Int32), d + k = nb → d < fu → Bd M r l → lo0 M → l.length + 7 * d ≤ 600 →
    ∃ M', f_L_load_63 fu 100 42 (nI nb) (nI sN) (nI mN) (nI lim) r (nI k) M = f_L_load_97 100 42 (nI nb) (nI sN) (nI mN) (nI lim) r M' ∧ Bd M' r (l ++ bxT d k) ∧ kpM M M' := by
  intro d
  induction d with
  | zero =>
    intro k fu M l hd hf h hlo hl
    obtain ⟨fu, rfl⟩ : ∃ x, fu = x + 1 := ⟨fu - 1, by omega⟩
    refine ⟨M, ?_, by rw [bxT, List.append_nil]; exact h, kpM.rf M⟩
    simp only [f_L_load_63]
    rw [if_pos (by rw [leT rfl rfl (show nb ≤ k by omega) (by omega)]; trivial)]
  | succ d ih =>
    intro k fu M l hd hf h hlo hl
    obtain ⟨fu, rfl⟩ : ∃ x, fu = x + 1 := ⟨fu - 1, by omega⟩
    obtain ⟨-, h1, h2, -⟩ := lsX_len
    obtain ⟨M1, e1, b1, k1⟩ := bd_const (j := 2) h hlo (by omega) (by omega)
    obtain ⟨M2, e2, b2, k2⟩ := bd_chr (d := 97 + k) b1 (by omega) (by rw [List.length_append]; omega)
    obtain ⟨M3, e3, b3, k3⟩ := bd_const (j := 1) b2 ((k1.trans k2).lo hlo) (by omega) (by rw [List.length_append, List.length_append, h1, h2]; show l.length + 5 + 1 + 1 ≤ 700; omega)
    have eq : l ++ lsBy 2 ++ [nI (97 + k)] ++ lsBy 1 = l ++ bxX k := by unfold bxX; simp only [List.append_assoc]
    rw [eq] at b3
    obtain ⟨M', e', b', k'⟩ := ih (k + 1) fu M3 _ (by omega) (by omega) b3 (((k1.trans k2).trans k3).lo hlo) (by rw [List.length_append, bxX_len]; omega)
    refine ⟨M', ?_, by rw [bxT, ← List.append_assoc]; exact b', ((k1.trans k2).trans k3).trans k'⟩
    simp only [f_L_load_63]
    rw [if_neg (by rw [leF rfl rfl (show k < nb by omega) (by omega)]; exact id)]
    have e1 : f_J4_append_15ec4 r 45 M = some (r, M1) := e1
    have e3 : f_J4_append_15ec4 r 44 M2 = some (r, M3) := e3
    simp only [e1, c97 k (by omega), e2, e3, bso, nI_1]
    exact e'
def cl3 (cnt : Nat → Nat) : List Int32 := [nI (cnt 0), nI (cnt 1), nI (cnt 2)]
theorem cl3_get (cnt : Nat → Nat) {j : Nat} (hj : j < 3) : (cl3 cnt).getD j 0 = nI (cnt j) := by
  match j, hj with
  | 0, _ => rfl
  | 1, _ => rfl
  | 2, _ => rfl
theorem cl3_set (cnt : Nat → Nat) {j : Nat} (hj : j < 3) (v : Nat) : (cl3 cnt).set j (nI v) = cl3 (va_up cnt j v) := by
  match j, hj with
  | 0, _ => rfl
  | 1, _ => rfl
  | 2, _ => rfl
theorem msg_loop {p : Nat} (hL : Lx.1 < 2 ^ 31) (hb0 : 0 < nb) (hb : nb ≤ 3) (hlim : lim ≤ 30) : ∀ (d k fu : Nat) (M : Mem) (l : List Int32) (cnt : Nat → Nat) (told : Nat), d + k = mN → mN ≤ 8 → d < fu → Bd M r l → lo0 M → M.2.2 = Lx → iA M p (cl3 cnt) → 716 ≤ p ∧ p < M.2.1 → (∀ j, cnt j ≤ lim) → 15 ≤ l.length → l.length + 56 * d ≤ 600 →
    ∃ M', f_L_load_108 fu 100 42 (nI nb) (nI sN) (nI mN) (nI lim) r p (nI told) (nI k) M = f_L_load_219 100 42 (nI nb) (nI sN) (nI lim) r p (nI (told + (mLs Lx nb lim d k cnt).length)) M' ∧ Bd M' r (l ++ mT (mLs Lx nb lim d k cnt)) ∧ kp0 M M' ∧ iA M' p (cl3 (cnM (mLs Lx nb lim d k cnt) cnt)) := by
  intro d
  induction d with
  | zero =>
    intro k fu M l cnt told hd h8 hf h hlo hx ha hp hcn h16 hl
    obtain ⟨fu, rfl⟩ : ∃ x, fu = x + 1 := ⟨fu - 1, by omega⟩
    refine ⟨M, ?_, by rw [mLs, mT, List.append_nil]; exact h, (kpM.rf M).z, ha⟩
    simp only [f_L_load_108]
    rw [if_pos (by rw [leT rfl rfl (show mN ≤ k by omega) (by omega)]; trivial)]
    rfl
  | succ d ih =>
    intro k fu M l cnt told hd h8 hf h hlo hx ha hp hcn h16 hl
    obtain ⟨fu, rfl⟩ : ∃ x, fu = x + 1 := ⟨fu - 1, by omega⟩
    have hto := dr_lt Lx (10 + k) hb0
    have hsz := dr_lt Lx (20 + k) (k := 500) (by omega)
    have hst := dr_lt Lx (30 + k) (k := 32) (by omega)
    obtain ⟨to, eto⟩ : ∃ to, to = dr Lx (10 + k) nb := ⟨_, rfl⟩
    obtain ⟨sz, esz'⟩ : ∃ sz, sz = dr Lx (20 + k) 500 := ⟨_, rfl⟩
    obtain ⟨st, est⟩ : ∃ st, st = dr Lx (30 + k) 32 := ⟨_, rfl⟩
    have d1 : ∀ M : Mem, M.2.2 = Lx → f_L_draw 42 (10 + nI k) (nI nb) M = some (nI to) := fun M hx => by
      have e : 10 + nI k = nI (10 + k) := nI_add 10 k
      rw [e, eto]; exact draw_e hx hL (by omega) hb0 (by omega)
    have d2 : ∀ M : Mem, M.2.2 = Lx → f_L_draw 42 (20 + nI k) 500 M = some (nI sz) := fun M hx => by
      have e : 20 + nI k = nI (20 + k) := nI_add 20 k
      rw [e, esz']; exact draw_e hx hL (k := 500) (by omega) (by omega) (by omega)
    have d3 : ∀ M : Mem, M.2.2 = Lx → f_L_draw 42 (30 + nI k) 32 M = some (nI st) := fun M hx => by
      have e : 30 + nI k = nI (30 + k) := nI_add 30 k
      rw [e, est]; exact draw_e hx hL (k := 32) (by omega) (by omega) (by omega)
    have hmls : mLs Lx nb lim (d + 1) k cnt = if cnt to = lim then mLs Lx nb lim d (k + 1) cnt else (to, 1 + sz, st) :: mLs Lx nb lim d (k + 1) (va_up cnt to (cnt to + 1)) := by rw [mLs, eto, esz', est]
    rw [hmls]
    rw [← eto] at hto
    rw [← esz'] at hsz
    rw [← est] at hst
    have g1 : aI M 0 p (nI to) = some (nI (cnt to)) := by rw [ha.g (by show to < 3; omega), cl3_get cnt (by omega)]
    have hc30 := hcn to
    have hstart : f_L_load_108 (fu + 1) 100 42 (nI nb) (nI sN) (nI mN) (nI lim) r p (nI told) (nI k) M = if nI (cnt to) = nI lim then f_L_load_213 (f_L_load_108 fu) 100 42 (nI nb) (nI sN) (nI mN) (nI lim) r p (nI told) (nI k) M else
        (sI M 0 p (nI to) (nI (cnt to) + 1)).bind fun M63 => (f_J4_append_15ec4 r 46 M63).bind fun (x64, M65) => (f_J4_append_cf468 x64 (((97 + nI to).toUInt32 % 65536).toInt32) M65).bind fun (x66, M67) => (f_J4_append_15ec4 x66 47 M67).bind fun (x68, M69) => (f_L_draw 42 (20 + nI k) 500 M69).bind fun x70 => (f_J4_append_bf812 x68 (1 + x70) M69).bind fun (x71, M72) => (f_L_draw 42 (30 + nI k) 32 M72).bind fun x73 => (f_L_flags x73 M72).bind fun (x74, M75) => (f_J4_append_15ec4 x71 x74 M75).bind fun (x76, M77) => (f_J4_append_15ec4 x76 44 M77).bind fun (x78, M79) => f_L_load_213 (f_L_load_108 fu) 100 42 (nI nb) (nI sN) (nI mN) (nI lim) r p (nI told + 1) (nI k) M79 := by
      simp only [f_L_load_108]
      rw [if_neg (by rw [leF rfl rfl (show k < mN by omega) (by omega)]; exact id)]
      simp only [d1 M hx, g1, bso]
    rw [hstart]
    by_cases z : cnt to = lim
    · rw [if_pos (by rw [z]), if_pos z]
      simp only [f_L_load_213, nI_1]
      exact ih (k + 1) fu M l cnt told (by omega) h8 (by omega) h hlo hx ha hp hcn h16 (by omega)
    · rw [if_neg (fun w => z ((nI_eq (by omega) (by omega)).mp w)), if_neg z]
      obtain ⟨M1, e1, a1, o1⟩ := ha.s (j := to) (by show to < 3; omega) (nI (cnt to + 1))
      rw [cl3_set cnt (by omega)] at a1
      have hr := h.lt
      have hpr : p ≠ r := by
        obtain ⟨a, cap, ⟨⟨z, w⟩, -⟩, -⟩ := h
        obtain ⟨-, f, h2, -⟩ := ha
        rintro rfl
        rw [h2] at w; simp at w
      have hB1 : Bd M1 r l := by
        obtain ⟨a, cap, ⟨⟨z, w⟩, ⟨b1, b2, f, b3, b4⟩, hr, haa⟩, hc, hasc⟩ := h
        have hpa : a ≠ p := by
          obtain ⟨-, f, h2, -⟩ := ha
          rintro rfl
          rw [h2] at b3; simp at b3
        exact ⟨a, cap, ⟨⟨z, by rw [o1.2 r (fun y => hpr y.symm)]; exact w⟩, ⟨b1, b2, f, by rw [o1.2 a hpa]; exact b3, b4⟩, by rw [o1.1]; exact hr, by rw [o1.1]; exact haa⟩, hc, hasc⟩
      have lo1 : lo0 M1 := fun q hq => (o1.2 q (by omega)).trans (hlo q hq)
      have hx1 : M1.2.2 = Lx := by rw [o1.1]; exact hx
      have hp1 : p < M1.2.1 := by rw [o1.1]; exact hp.2
      obtain ⟨-, h1, -, h3, h4, -⟩ := lsX_len
      have l3 := dgs_3 (1 + sz)
      have l36 := fl_len st hst 5 (by omega)
      obtain ⟨M2, e2, b2, k2⟩ := bd_const (j := 3) hB1 lo1 (by omega) (by omega)
      obtain ⟨M3, e3, b3, k3⟩ := bd_chr (d := 97 + to) b2 (by omega) (by rw [List.length_append]; omega)
      obtain ⟨M4, e4, b4, k4⟩ := bd_const (j := 4) b3 ((k2.trans k3).lo lo1) (by omega) (by rw [List.length_append, List.length_append, h3, h4]; show l.length + 9 + 1 + 6 ≤ 700; omega)
      obtain ⟨M5, e5, b5, k5⟩ := bd_int (n := 1 + sz) b4 (by omega) (by rw [List.length_append, List.length_append, List.length_append, h3, h4]; show l.length + 9 + 1 + 6 + _ ≤ 700; omega)
      have k15 := ((k2.trans k3).trans k4).trans k5
      obtain ⟨M6, s, M7, e6, e7, b7, k6, k7⟩ := bd_flg (st := st) b5 (k15.lo lo1) hst (by rw [List.length_append, List.length_append, List.length_append, List.length_append, h3, h4]; show 23 ≤ l.length + 9 + 1 + 6 + _; omega) (by rw [List.length_append, List.length_append, List.length_append, List.length_append, h3, h4]; show l.length + 9 + 1 + 6 + _ + _ ≤ 700; omega)
      have k17 := (k15.trans k6).trans k7
      obtain ⟨M8, e8, b8, k8⟩ := bd_const (j := 1) b7 (k17.lo lo1) (by omega) (by rw [List.length_append, List.length_append, List.length_append, List.length_append, List.length_append, h1, h3, h4]; show l.length + 9 + 1 + 6 + _ + _ + 1 ≤ 700; omega)
      have k18 := k17.trans k8
      have eq : l ++ lsBy 3 ++ [nI (97 + to)] ++ lsBy 4 ++ dgs (1 + sz) ++ flS st 5 ++ lsBy 1 = l ++ mX (to, 1 + sz, st) := by unfold mX; simp only [List.append_assoc]
      rw [eq] at b8
      have hmx := mX_len (m := (to, 1 + sz, st)) hst
      have a8 := k18.2.2.2 p _ hp1 a1
      obtain ⟨M', e', b', k', a'⟩ := ih (k + 1) fu M8 _ (va_up cnt to (cnt to + 1)) (told + 1) (by omega) h8 (by omega) b8 (k18.lo lo1) (k18.2.1.trans hx1) a8 ⟨hp.1, Nat.lt_of_lt_of_le hp1 k18.1⟩ (fun j => by
        rw [va_up_if]
        split
        · omega
        · exact hcn j) (by rw [List.length_append]; omega) (by rw [List.length_append]; omega)
      refine ⟨M', ?_, by rw [mT, ← List.append_assoc]; exact b', ?_, a'⟩
      · have e2 : f_J4_append_15ec4 r 46 M1 = some (r, M2) := e2
        have e4 : f_J4_append_15ec4 r 47 M3 = some (r, M4) := e4
        have e8 : f_J4_append_15ec4 r 44 M7 = some (r, M8) := e8
        have e5 : f_J4_append_bf812 r (1 + nI sz) M4 = some (r, M5) := by rw [nI_1add]; exact e5
        simp only [e1, e2, c97 to (by omega), e3, e4, d2 M4 (((k2.trans k3).trans k4).2.1.trans hx1), e5, d3 M5 (k15.2.1.trans hx1), e6, e7, e8, bso, f_L_load_213, nI_1]
        rw [e', List.length_cons]
        congr 2
        omega
      · have hk1 : kp0 M M1 := ⟨by rw [o1.1]; exact Nat.le_refl _, by rw [o1.1], fun q hq => o1.2 q (by omega)⟩
        exact (hk1.trans k18.z).trans k'
theorem ses_lp {p : Nat} {told : Int32} (hL : Lx.1 < 2 ^ 31) (hb0 : 0 < nb) (hb : nb ≤ 3) : ∀ (d k fu : Nat) (M : Mem) (l : List Int32), d + k = sN → sN ≤ 4 → d < fu → Bd M r l → lo0 M → M.2.2 = Lx → l.length + 20 * d ≤ 600 →
    ∃ M', f_L_load_222 fu 100 42 (nI nb) (nI sN) (nI lim) r p told (nI k) M = f_L_load_312 100 42 (nI nb) (nI sN) (nI lim) r p told M' ∧ Bd M' r (l ++ sT (sLs Lx nb d k)) ∧ kpM M M' := by
  intro d
  induction d with
  | zero =>
    intro k fu M l hd h4 hf h hlo hx hl
    obtain ⟨fu, rfl⟩ : ∃ x, fu = x + 1 := ⟨fu - 1, by omega⟩
    refine ⟨M, ?_, by rw [sLs, sT, List.append_nil]; exact h, kpM.rf M⟩
    simp only [f_L_load_222]
    rw [if_pos (by rw [leT rfl rfl (show sN ≤ k by omega) (by omega)]; trivial)]
  | succ d ih =>
    intro k fu M l hd h4 hf h hlo hx hl
    obtain ⟨fu, rfl⟩ : ∃ x, fu = x + 1 := ⟨fu - 1, by omega⟩
    have hho := dr_lt Lx (4 + k) (k := 6) (by omega)
    have hbb := dr_lt Lx (40 + k) hb0
    obtain ⟨ho, eho⟩ : ∃ ho, ho = dr Lx (4 + k) 6 := ⟨_, rfl⟩
    obtain ⟨b, eb⟩ : ∃ b, b = dr Lx (40 + k) nb := ⟨_, rfl⟩
    have d1 : ∀ M : Mem, M.2.2 = Lx → f_L_draw 42 (4 + nI k) 6 M = some (nI ho) := fun M hx => by
      have e : 4 + nI k = nI (4 + k) := nI_add 4 k
      rw [e, eho]; exact draw_e hx hL (k := 6) (by omega) (by omega) (by omega)
    have d2 : ∀ M : Mem, M.2.2 = Lx → f_L_draw 42 (40 + nI k) (nI nb) M = some (nI b) := fun M hx => by
      have e : 40 + nI k = nI (40 + k) := nI_add 40 k
      rw [e, eb]; exact draw_e hx hL (by omega) hb0 (by omega)
    have hsl : sLs Lx nb (d + 1) k = (k, ho, b) :: sLs Lx nb d (k + 1) := by rw [sLs, eho, eb]
    rw [hsl]
    rw [← eho] at hho
    rw [← eb] at hbb
    obtain ⟨-, h1, -, -, -, h11, h12, h13⟩ := lsX_len
    have hsx := sX_len (k, ho, b)
    obtain ⟨M1, e1, b1, k1⟩ := bd_const (j := 11) h hlo (by omega) (by omega)
    obtain ⟨M2, e2, b2, k2⟩ := bd_chr (d := 97 + k) b1 (by omega) (by rw [List.length_append]; omega)
    have k12 := k1.trans k2
    have hx2 : M2.2.2 = Lx := k12.2.1.trans hx
    have fin : ∀ (M3 : Mem) (t : List Int32), kpM M2 M3 → Bd M3 r (l ++ lsBy 11 ++ [nI (97 + k)] ++ t) → t.length ≤ 9 → l ++ lsBy 11 ++ [nI (97 + k)] ++ t ++ lsBy 1 = l ++ sX (k, ho, b) →
        ∃ M', f_L_load_298 (f_L_load_222 fu) 100 42 (nI nb) (nI sN) (nI lim) r p told (nI k) M3 = f_L_load_312 100 42 (nI nb) (nI sN) (nI lim) r p told M' ∧ Bd M' r (l ++ sT ((k, ho, b) :: sLs Lx nb d (k + 1))) ∧ kpM M M' := by
      intro M3 t k3 b3 ht eq
      obtain ⟨M4, e4, b4, k4⟩ := bd_const (j := 1) b3 ((k12.trans k3).lo hlo) (by omega) (by rw [List.length_append, List.length_append, List.length_append, h1, h11]; show l.length + 9 + 1 + _ + 1 ≤ 700; omega)
      rw [eq] at b4
      obtain ⟨M', e', b', k'⟩ := ih (k + 1) fu M4 _ (by omega) h4 (by omega) b4 (((k12.trans k3).trans k4).lo hlo) (((k12.trans k3).trans k4).2.1.trans hx) (by rw [List.length_append]; omega)
      refine ⟨M', ?_, by rw [sT, ← List.append_assoc]; exact b', ((k12.trans k3).trans k4).trans k'⟩
      have e4 : f_J4_append_15ec4 r 44 M3 = some (r, M4) := e4
      simp only [f_L_load_298, e4, bso, nI_1]
      exact e'
    have e1 : f_J4_append_15ec4 r 54 M = some (r, M1) := e1
    simp only [f_L_load_222]
    rw [if_neg (by rw [leF rfl rfl (show k < sN by omega) (by omega)]; exact id)]
    simp only [e1, c97 k (by omega), e2, d1 M2 hx2, bso]
    have l0 : (nI ho ≤ 0) = (ho ≤ 0) := leI (y := 0) (b := 0) rfl rfl (by omega) (by omega)
    by_cases z : ho ≤ 0
    · rw [if_pos (by rw [l0]; exact z)]
      refine fin M2 [] (kpM.rf M2) (by rw [List.append_nil]; exact b2) (Nat.zero_le _) ?_
      unfold sX
      rw [if_pos (show ho = 0 by omega)]
      simp only [List.append_assoc, List.nil_append]
    · rw [if_neg (by rw [l0]; exact z)]
      have key : ∀ j, (j = 12 ∨ j = 13) → (if ho = 1 then 12 else 13) = j → ∃ M', f_L_load_277 (f_L_load_222 fu) 100 42 (nI nb) (nI sN) (nI lim) r p told (nI k) r (43 + j) M2 = f_L_load_312 100 42 (nI nb) (nI sN) (nI lim) r p told M' ∧ Bd M' r (l ++ sT ((k, ho, b) :: sLs Lx nb d (k + 1))) ∧ kpM M M' := by
        intro j hj ej
        have lj : (lsBy j).length ≤ 8 := by rcases hj with rfl | rfl <;> omega
        obtain ⟨M3, e3, b3, k3⟩ := bd_const (j := j) b2 (k12.lo hlo) (by omega) (by rw [List.length_append, List.length_append, h11]; show l.length + 9 + 1 + _ ≤ 700; omega)
        obtain ⟨M4, e4, b4, k4⟩ := bd_chr (d := 97 + b) b3 (by omega) (by rw [List.length_append, List.length_append, List.length_append, h11]; show l.length + 9 + 1 + _ + 1 ≤ 700; omega)
        have e9 := fin M4 (lsBy j ++ [nI (97 + b)]) (k3.trans k4) (by rw [← List.append_assoc]; exact b4) (by rw [List.length_append]; show _ + 1 ≤ 9; omega) (by
          unfold sX
          show _ = l ++ (lsBy 11 ++ ([nI (97 + k)] ++ ((if ho = 0 then [] else lsBy (if ho = 1 then 12 else 13) ++ [nI (97 + b)]) ++ lsBy 1)))
          rw [if_neg (show ¬ ho = 0 by omega), ej]
          simp only [List.append_assoc])
        simp only [f_L_load_277, e3, d2 M3 (k3.2.1.trans hx2), c97 b (by omega), e4, bso]
        exact e9
      have l1 : (nI ho = 1) ↔ (ho = 1) := nI_eq (b := 1) (by omega) (by omega)
      by_cases y : ho = 1
      · rw [if_pos (l1.mpr y)]
        exact key 12 (.inl rfl) (if_pos y)
      · rw [if_neg (fun w => y (l1.mp w))]
        exact key 13 (.inr rfl) (if_neg y)
end
/-! the text, fed -/
def at4 (l : List Int32) (k : Nat) : List Int32 := [l.getD k 0, l.getD (k + 1) 0, l.getD (k + 2) 0, l.getD (k + 3) 0]
theorem asc_at {l : List Int32} (h : asc l) (k : Nat) : ∃ d, d < 128 ∧ l.getD k 0 = nI d := by
  by_cases z : k < l.length
  · exact h _ (by rw [List.getD_eq_getElem?_getD, List.getElem?_eq_getElem z]; exact List.getElem_mem z)
  · exact ⟨0, by omega, getD_hi (by omega)⟩
theorem four_e {M : Mem} {s : Nat} {l : List Int32} (h : strA M s l) {k : Nat} (hk : k < 2 ^ 20) : ∃ v, f_L_four s (nI k) M = some v ∧ four v = at4 l k := by
  have hl := h.2.1
  obtain ⟨c0, h0, g0⟩ := asc_at h.1 k
  obtain ⟨c1, h1, g1⟩ := asc_at h.1 (k + 1)
  obtain ⟨c2, h2, g2⟩ := asc_at h.1 (k + 2)
  obtain ⟨c3, h3, g3⟩ := asc_at h.1 (k + 3)
  have st : ∀ (fu v j c : Nat), v < 2 ^ 23 → j < 4 → c < 128 → l.getD (k + j) 0 = nI c → f_L_four_4 (fu + 1) s (nI k) (nI v) (nI j) M = f_L_four_4 fu s (nI k) (nI (v * 256 + c)) (nI (j + 1)) M := by
    intro fu v j c hv hj hc hg
    have n4 : ¬ (4 : Int32) ≤ nI j := by
      have : ((4 : Int32) ≤ nI j) = (4 ≤ j) := leI (x := 4) (a := 4) rfl rfl (by omega) (by omega)
      rw [this]; omega
    simp only [f_L_four_4, str_len h, bso, nI_add]
    rw [if_neg n4]
    by_cases z : l.length ≤ k + j
    · have hc0 : nI c = nI 0 := by rw [← hg, getD_hi z]; rfl
      have hc1 : c = 0 := (nI_eq (by omega) (by omega)).mp hc0
      rw [if_pos (by rw [leT rfl rfl z (by omega)]; trivial)]
      simp only [f_L_four_34, shl8 hv, nI_1]
      have : nI (v * 256) ||| 0 = nI (v * 256 + c) := by
        rw [hc1]; exact or8 (c := 0) hv (by omega)
      rw [this]
    · rw [if_neg (by rw [leF rfl rfl (show k + j < l.length by omega) (by omega)]; exact id)]
      simp only [str_char h (show k + j < l.length by omega), bso, f_L_four_34, shl8 hv, hg, or8 hv (show c < 256 by omega), nI_1]
  obtain ⟨fu, hfu⟩ : ∃ fu, FU = fu + 1 + 1 + 1 + 1 + 1 := ⟨5995, FU_eq⟩
  obtain ⟨v, hv⟩ : ∃ v, v = ((c0 * 256 + c1) * 256 + c2) * 256 + c3 := ⟨_, rfl⟩
  have hv31 : v < 2 ^ 31 := by omega
  refine ⟨nI v, ?_, ?_⟩
  · have e0 := st (fu + 1 + 1 + 1 + 1) 0 0 c0 (by omega) (by omega) h0 g0
    have e1 := st (fu + 1 + 1 + 1) (0 * 256 + c0) 1 c1 (by omega) (by omega) h1 g1
    have e2 := st (fu + 1 + 1) ((0 * 256 + c0) * 256 + c1) 2 c2 (by omega) (by omega) h2 g2
    have e3 := st (fu + 1) (((0 * 256 + c0) * 256 + c1) * 256 + c2) 3 c3 (by omega) (by omega) h3 g3
    have hr : f_L_four s (nI k) M = f_L_four_4 (fu + 1 + 1 + 1 + 1 + 1) s (nI k) (nI 0) (nI 0) M := by unfold f_L_four; rw [hfu]; rfl
    have ev : (((0 * 256 + c0) * 256 + c1) * 256 + c2) * 256 + c3 = v := by rw [hv]; omega
    rw [hr, e0, e1, e2, e3, ev]
    simp only [f_L_four_4]
    rw [if_pos (by decide)]
  · have b24 : byt (nI v >>> ((24 : Int32) &&& 31)) = nI c0 := by
      have : nI v >>> ((24 : Int32) &&& 31) = nI (v / 2 ^ 24) := shr_n hv31 24 (by omega)
      rw [this, show v / 2 ^ 24 = c0 by omega]; exact byt_low c0 h0
    have b16 : byt (nI v >>> ((16 : Int32) &&& 31)) = nI c1 := by
      have : nI v >>> ((16 : Int32) &&& 31) = nI (v / 2 ^ 16) := shr_n hv31 16 (by omega)
      rw [this, show v / 2 ^ 16 = c0 * 256 + c1 by omega]; exact byt_n (by omega) h1
    have b8 : byt (nI v >>> ((8 : Int32) &&& 31)) = nI c2 := by
      have : nI v >>> ((8 : Int32) &&& 31) = nI (v / 2 ^ 8) := shr_n hv31 8 (by omega)
      rw [this, show v / 2 ^ 8 = (c0 * 256 + c1) * 256 + c2 by omega]; exact byt_n (by omega) h2
    have b0 : byt (nI v) = nI c3 := by rw [hv]; exact byt_n (by omega) h3
    unfold four at4
    rw [b24, b16, b8, b0, g0, g1, g2, g3]
/-- bytes out of a text, zeroes behind it -/
def padT (l : List Int32) : Nat → Nat → List Int32
  | 0, _ => []
  | d + 1, k => l.getD k 0 :: padT l d (k + 1)
theorem padT_len (l : List Int32) : ∀ d k, (padT l d k).length = d := by
  intro d
  induction d with
  | zero => intro k; rfl
  | succ d ih => intro k; rw [padT, List.length_cons, ih]
theorem padT_app (l : List Int32) : ∀ d e k, padT l (d + e) k = padT l d k ++ padT l e (k + d) := by
  intro d
  induction d with
  | zero => intro e k; rw [Nat.zero_add]; rfl
  | succ d ih =>
    intro e k
    rw [Nat.succ_add, padT, padT, ih e (k + 1), List.cons_append, show k + 1 + d = k + (d + 1) by omega]
theorem padT_20 (l : List Int32) (k : Nat) : padT l 20 k = at4 l k ++ (at4 l (k + 4) ++ (at4 l (k + 8) ++ (at4 l (k + 12) ++ at4 l (k + 16)))) := rfl
theorem padT_get (l : List Int32) : ∀ d k j, j < d → (padT l d k).getD j 0 = l.getD (k + j) 0 := by
  intro d
  induction d with
  | zero => intro k j h; exact absurd h (Nat.not_lt_zero j)
  | succ d ih =>
    intro k j h
    cases j with
    | zero => rfl
    | succ j =>
      show (padT l d (k + 1)).getD j 0 = _
      rw [ih (k + 1) j (by omega), show k + 1 + j = k + (j + 1) by omega]
theorem padT_take (l : List Int32) {d : Nat} (h : l.length ≤ d) : (padT l d 0).take l.length = l := by
  refine ext_getD (by rw [List.length_take, padT_len]; omega) (fun j hj => ?_)
  rw [List.length_take, padT_len] at hj
  rw [List.getD_eq_getElem?_getD, List.getElem?_take_of_lt (by omega), ← List.getD_eq_getElem?_getD, padT_get l d 0 j (by omega), Nat.zero_add]
section
variable {O : List Int32} {S : St} {K : Nat → St} {B : Nat → Bool} {C : Nat} {H : Nat → St} {N : List Nt} {E : Er}
theorem strA_off {M M' : Mem} {s v : Nat} {l : List Int32} (h : strA M s l) (hs : 716 ≤ s) (hv : ∃ z w, M.1 s = some (.inr (11, [.ref v, .int 0, z, w]))) (hv7 : 716 ≤ v) (o : off M M' 100 616) : strA M' s l := by
  obtain ⟨z, w, hv⟩ := hv
  refine ⟨h.1, h.2.1, ?_⟩
  rcases h.2.2 with y | ⟨y1, a, z', w', y2, y3, y4⟩
  · exact .inl y
  · have : a = v := by
      rw [y3] at hv
      have hv := Option.some.inj hv
      simp at hv
      exact hv.1
    subst this
    exact .inr ⟨y1, a, z', w', y2, by rw [o.2 s (by omega)]; exact y3, y4.cg (o.2 a (by omega))⟩
theorem feed_loop {s v : Nat} {l : List Int32} (hs : 716 ≤ s) (hv7 : 716 ≤ v) (hl0 : 0 < l.length) (hl : l.length ≤ 580) : ∀ (d k fu : Nat) (M : Mem) (last : Nat), 20 * d + k ≥ l.length → d < fu → k ≤ 580 → (∃ i, k = 20 * i) → (k = 0 ∨ last = k) → Cls M (padT l k 0) O S K B C H N E → strA M s l → (∃ z w, M.1 s = some (.inr (11, [.ref v, .int 0, z, w]))) →
    ∃ M', f_L_feed_9 fu 100 s (nI last) (nI k) M = some (.inl (), M') ∧ Cls M' l O S K B C H N E ∧ off M M' 100 616 := by
  intro d
  have fin : ∀ (k : Nat) (M : Mem), l.length ≤ k → k ≤ 600 → Cls M (padT l k 0) O S K B C H N E → strA M s l → ∃ M', f_L_feed_68 100 s (nI k) M = some (.inl (), M') ∧ Cls M' l O S K B C H N E ∧ off M M' 100 616 := by
    intro k M hk hk6 h ha
    obtain ⟨M', e, c, o⟩ := c_trunc h (by rw [padT_len]; omega) (n := l.length) (by rw [padT_len]; exact hk)
    rw [padT_take l hk] at c
    refine ⟨M', ?_, c, o⟩
    have hm : f_J9_min_7cf53 (nI k) (nI l.length) M = some (nI l.length) := by
      unfold f_J9_min_7cf53
      by_cases y : l.length < k
      · rw [if_pos (by rw [nI_ltI (by omega) (by omega)]; exact y)]
      · rw [if_neg (by rw [nI_ltI (by omega) (by omega)]; exact y), show k = l.length by omega]
    simp only [f_L_feed_68, str_len ha, hm, bso, e, bX]
  induction d with
  | zero =>
    intro k fu M last hd hf hk hi hla h ha hv
    obtain ⟨fu, rfl⟩ : ∃ x, fu = x + 1 := ⟨fu - 1, by omega⟩
    have hk0 : ¬ k = 0 := by omega
    have hlk : last = k := hla.resolve_left hk0
    subst hlk
    simp only [f_L_feed_9, str_len ha, bso]
    rw [if_neg (by rw [nI_ltI (by omega) (by omega)]; omega), if_neg (show ¬ nI last = (0 : Int32) from fun w => hk0 ((nI_eq (b := 0) (by omega) (by omega)).mp w))]
    exact fin last M (by omega) (by omega) h ha
  | succ d ih =>
    intro k fu M last hd hf hk ⟨i, hi⟩ hla h ha hv
    obtain ⟨fu, rfl⟩ : ∃ x, fu = x + 1 := ⟨fu - 1, by omega⟩
    simp only [f_L_feed_9, str_len ha, bso]
    by_cases z : k < l.length
    · rw [if_pos (by rw [nI_ltI (by omega) (by omega)]; exact z)]
      obtain ⟨v0, a0, b0⟩ := four_e ha (k := k) (by omega)
      obtain ⟨v1, a1, b1⟩ := four_e ha (k := k + 4) (by omega)
      obtain ⟨v2, a2, b2⟩ := four_e ha (k := k + 8) (by omega)
      obtain ⟨v3, a3, b3⟩ := four_e ha (k := k + 12) (by omega)
      obtain ⟨v4, a4, b4⟩ := four_e ha (k := k + 16) (by omega)
      obtain ⟨M1, e1, c1, o1⟩ := c_append h (by rw [padT_len]; omega) v0 v1 v2 v3 v4
      rw [padT_len] at e1
      rw [b0, b1, b2, b3, b4, ← padT_20] at c1
      have ep : padT l k 0 ++ padT l 20 k = padT l (k + 20) 0 := by rw [padT_app, Nat.zero_add]
      rw [ep] at c1
      have ha1 := strA_off ha hs hv hv7 o1
      have hv1 : ∃ z w, M1.1 s = some (.inr (11, [.ref v, .int 0, z, w])) := by
        obtain ⟨z, w, hv⟩ := hv
        exact ⟨z, w, by rw [o1.2 s (by omega)]; exact hv⟩
      obtain ⟨M', e', c', o'⟩ := ih (k + 20) fu M1 (k + 20) (by omega) (by omega) (by omega) ⟨i + 1, by omega⟩ (.inr rfl) c1 ha1 hv1
      refine ⟨M', ?_, c', o1.trans o'⟩
      have q4 : nI k + 4 = nI (k + 4) := nI_add k 4
      have q8 : nI k + 8 = nI (k + 8) := nI_add k 8
      have q12 : nI k + 12 = nI (k + 12) := nI_add k 12
      have q16 : nI k + 16 = nI (k + 16) := nI_add k 16
      have q20 : nI k + 20 = nI (k + 20) := nI_add k 20
      simp only [f_L_feed_21, q4, q8, q12, q16, q20, a0, a1, a2, a3, a4, bso, e1, bX]
      exact e'
    · have hk0 : ¬ k = 0 := by omega
      have hlk : last = k := hla.resolve_left hk0
      subst hlk
      rw [if_neg (by rw [nI_ltI (by omega) (by omega)]; omega), if_neg (show ¬ nI last = (0 : Int32) from fun w => hk0 ((nI_eq (b := 0) (by omega) (by omega)).mp w))]
      exact fin last M (by omega) (by omega) h ha
theorem feed_e {I : List Int32} {M : Mem} {s v : Nat} {l : List Int32} (h : Cls M I O S K B C H N E) (hI : I.length ≤ 700) (ha : strA M s l) (hs : 716 ≤ s) (hv : ∃ z w, M.1 s = some (.inr (11, [.ref v, .int 0, z, w]))) (hv7 : 716 ≤ v) (hl0 : 0 < l.length) (hl : l.length ≤ 560) :
    ∃ M', f_L_feed 100 s M = some (.inl (), M') ∧ Cls M' l O S K B C H N E ∧ off M M' 100 616 := by
  obtain ⟨M1, e1, c1, o1⟩ := c_trunc h hI (n := 0) (Nat.zero_le _)
  have hv1 : ∃ z w, M1.1 s = some (.inr (11, [.ref v, .int 0, z, w])) := by
    obtain ⟨z, w, hv⟩ := hv
    exact ⟨z, w, by rw [o1.2 s (by omega)]; exact hv⟩
  obtain ⟨M', e', c', o'⟩ := feed_loop hs hv7 hl0 (by omega) 28 0 30 M1 0 (by omega) (by omega) (by omega) ⟨0, rfl⟩ (.inl rfl) c1 (strA_off ha hs hv hv7 o1) hv1
  refine ⟨M', ?_, c', o1.trans o'⟩
  have e1 : f_X11_truncate 100 0 M = some (.inl (), M1) := e1
  simp only [f_L_feed, e1, bX, bso]
  exact e'
end
