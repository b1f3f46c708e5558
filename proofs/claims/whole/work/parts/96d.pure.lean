/-! PURE: questions on both sides -/
theorem hf1 (E : String) (c : Int32) (r : List (String × Int32)) : hFind E ((E, c) :: r) = some c := if_pos rfl
theorem hf2 {E E1 : String} (h : E ≠ E1) (c c1 : Int32) (r : List (String × Int32)) : hFind E ((E1, c1) :: (E, c) :: r) = some c := by rw [hFind, if_neg h, hFind, if_pos rfl]
theorem hf3 {E E1 E2 : String} (h : E ≠ E1) (h2 : E ≠ E2) (c c1 c2 : Int32) (r : List (String × Int32)) : hFind E ((E1, c1) :: (E2, c2) :: (E, c) :: r) = some c := by rw [hFind, if_neg h, hFind, if_neg h2, hFind, if_pos rfl]
theorem neA : "java/lang/IllegalArgumentException" ≠ "java/lang/IndexOutOfBoundsException" := by decide
theorem neS : "java/lang/IllegalStateException" ≠ "java/lang/IndexOutOfBoundsException" := by decide
theorem neSA : "java/lang/IllegalStateException" ≠ "java/lang/IllegalArgumentException" := by decide
theorem neNA : "java/util/NoSuchElementException" ≠ "java/lang/IllegalArgumentException" := by decide
section
variable {M : Mem} {R : Rs} {I O : List Int32} {S : St} {K : Nat → St} {B : Nat → Bool} {C : Nat} {H : Nat → St} {N : List Nt} {E : Er} {c : Nat} {t v : Int32} {hs : List (String × Int32)} {f : Option ((Int32 ⊕ String) × Mem)} {P : Mem → Prop} {Q : Rs → Prop}
theorem ClsO.rd {x : Int32} (e : f = some (.inl x, M)) (p : P M) : ClsO f M hs 0 x P := ⟨_, M, e, off.rf _ _ _, p, .inl ⟨x, rfl, rfl, rfl⟩⟩
theorem ClsO.th {Ex : String} (e : f = some (.inr Ex, mskip M)) (he : hFind Ex hs = some t) (ht : t ≠ 0) (p : P (mskip M)) : ClsO f M hs t v P := ⟨_, mskip M, e, off_skip _ _ _, p, .inr ⟨Ex, rfl, he, ht⟩⟩
theorem RefO.rd {g : Option (Int32 × Mem)} {b : Int32} (e : g = some (b, ov M 716 (rsS R 0 t))) (hb : t = 0 → b = v) (p : Q (rsS R 0 t)) : RefO g M t v Q := ⟨b, _, e, rsS_at _ _ _, hb, p⟩
theorem btw5 (a : Int32) : btw (Int32.toInt64 a) 0 4 = true ↔ ∃ k, k < 5 ∧ a = nI k := btw_0 a (n := 5) (by omega)
theorem btw6 (a : Int32) : btw (Int32.toInt64 a) 0 5 = true ↔ ∃ k, k < 6 ∧ a = nI k := btw_0 a (n := 6) (by omega)
theorem btw7 (a : Int32) : btw (Int32.toInt64 a) 0 6 = true ↔ ∃ k, k < 7 ∧ a = nI k := btw_0 a (n := 7) (by omega)
theorem btw3 (a : Int32) : btw (Int32.toInt64 a) 0 2 = true ↔ ∃ k, k < 3 ∧ a = nI k := btw_0 a (n := 3) (by omega)
theorem btw4 (a : Int32) : btw (Int32.toInt64 a) 0 3 = true ↔ ∃ k, k < 4 ∧ a = nI k := btw_0 a (n := 4) (by omega)
theorem btw2 (a : Int32) : btw (Int32.toInt64 a) 0 1 = true ↔ ∃ k, k < 2 ∧ a = nI k := btw_0 a (n := 2) (by omega)
theorem bF {p : Prop} {b : Bool} (h : b = true ↔ p) (n : ¬ p) : b = false := by
  cases b with
  | false => rfl
  | true => exact absurd (h.mp rfl) n
theorem cs_property (h : Cls M I O S K B C H N E) (hr : Ref R I O S K B C H N E) (a : Int32) : ∃ t v, ClsO (f_X11_property 100 a M) M [("java/lang/IllegalArgumentException", 1)] t v (fun M1 => Cls M1 I O S K B C H N E) ∧ ∀ M2, RefO (f_X12_property 716 a (ov M2 716 R)) M2 t v (fun R' => Ref R' I O S K B C H N E) := by
  have hrep : ∀ t, rep (rowf (rsS R 0 t)) S := fun _ => hr.2.1
  by_cases hx : ∃ k, k < 5 ∧ a = nI k
  · have hb := (btw5 a).mpr hx
    have g0 : ∀ M2, f_X12_get 716 0 (ov M2 716 (rsS R 0 0)) = some (stL S) := fun M2 => by
      have := X12_get_e (M := M2) (m := 716) (R := rsS R 0 0) (k := 0) (by omega)
      rw [(hrep 0).1] at this
      exact this
    have g5 : ∀ M2, gI (ov M2 716 (rsS R 0 0)) 11 5 716 = some (nI N.length) := fun M2 => by rw [r_g5]; exact congrArg some hr.2.2.2.1.1
    have ps : ∀ M2, f_X12_passes 716 true (ov M2 716 R) = some (true, ov M2 716 (rsS R 0 0)) := fun M2 => X12_pass1_e true
    by_cases a0 : a = 0
    · refine ⟨0, nI (stN S), ClsO.rd (by rw [f_X11_property, h.ob, if_pos a0]; simp only [h.g2, h.s.gN, bso]) h, fun M2 => RefO.rd (b := nI (stN S)) ?_ (fun _ => rfl) (hr.t 0)⟩
      simp only [f_X12_property, ov_ob, X12_in_e, hb, bso, ps, cond_true]
      rw [if_pos a0]; simp only [X12_boxes_e (hrep 0), bso]
    · by_cases a1 : a = 1
      · refine ⟨0, nI (stM S), ClsO.rd (by rw [f_X11_property, h.ob, if_neg a0, if_pos a1]; simp only [h.g2, h.s.gM, bso]) h, fun M2 => RefO.rd (b := nI (stM S)) ?_ (fun _ => rfl) (hr.t 0)⟩
        simp only [f_X12_property, ov_ob, X12_in_e, hb, bso, ps, cond_true]
        rw [if_neg a0, if_pos a1]; simp only [X12_sess_e (hrep 0), bso]
      · by_cases a2 : a = 2
        · refine ⟨0, stL S, ClsO.rd (by rw [f_X11_property, h.ob, if_neg a0, if_neg a1, if_pos a2]; simp only [h.g2, h.s.gL, bso]) h, fun M2 => RefO.rd (b := stL S) ?_ (fun _ => rfl) (hr.t 0)⟩
          simp only [f_X12_property, ov_ob, X12_in_e, hb, bso, ps, cond_true]
          rw [if_neg a0, if_neg a1, if_pos a2]; simp only [g0, bso]
        · by_cases a3 : a = 3
          · refine ⟨0, cntM S, ClsO.rd (by rw [f_X11_property, h.ob, if_neg a0, if_neg a1, if_neg a2, if_pos a3]; simp only [h.g2, X8_count_e h.s, bso]) h, fun M2 => RefO.rd (b := cntM S) ?_ (fun _ => rfl) (hr.t 0)⟩
            simp only [f_X12_property, ov_ob, X12_in_e, hb, bso, ps, cond_true]
            rw [if_neg a0, if_neg a1, if_neg a2, if_pos a3]; simp only [X12_allM_e (hrep 0), bso]
          · have a4 : a = 4 := by
              obtain ⟨k, hk, e⟩ := hx
              have h5 : k = 0 ∨ k = 1 ∨ k = 2 ∨ k = 3 ∨ k = 4 := by omega
              rcases h5 with rfl | rfl | rfl | rfl | rfl
              · exact absurd e a0
              · exact absurd e a1
              · exact absurd e a2
              · exact absurd e a3
              · exact e
            refine ⟨0, nI N.length, ClsO.rd (by rw [f_X11_property, h.ob, if_neg a0, if_neg a1, if_neg a2, if_neg a3, if_pos a4]; simp only [h.g7, X4_size_e h.n, bso]) h, fun M2 => RefO.rd (b := nI N.length) ?_ (fun _ => rfl) (hr.t 0)⟩
            simp only [f_X12_property, ov_ob, X12_in_e, hb, bso, ps, cond_true]
            rw [if_neg a0, if_neg a1, if_neg a2, if_neg a3]; simp only [g5, bso]
  · have hb := bF (btw5 a) hx
    have ps : ∀ M2, f_X12_passes 716 false (ov M2 716 R) = some (false, ov M2 716 (rsS R 0 1)) := fun M2 => X12_pass1_e false
    have n0 : ¬ a = 0 := fun e => hx ⟨0, by omega, e⟩
    have n1 : ¬ a = 1 := fun e => hx ⟨1, by omega, e⟩
    have n2 : ¬ a = 2 := fun e => hx ⟨2, by omega, e⟩
    have n3 : ¬ a = 3 := fun e => hx ⟨3, by omega, e⟩
    have n4 : ¬ a = 4 := fun e => hx ⟨4, by omega, e⟩
    refine ⟨1, 0, ClsO.th (by rw [f_X11_property, h.ob, if_neg n0, if_neg n1, if_neg n2, if_neg n3, if_neg n4]) (hf1 _ _ _) (by decide) h.skip, fun M2 => RefO.rd (b := 0) ?_ (fun z => rfl) (hr.t 1)⟩
    simp only [f_X12_property, ov_ob, X12_in_e, hb, bso, ps, cond_false]
theorem cs_indexOf (h : Cls M I O S K B C H N E) (hr : Ref R I O S K B C H N E) (a u : Int32) : ∃ t v, ClsO (f_X11_indexOf 100 a u M) M [("java/lang/IndexOutOfBoundsException", 1)] t v (fun M1 => Cls M1 I O S K B C H N E) ∧ ∀ M2, RefO (f_X12_indexOf 716 a u (ov M2 716 R)) M2 t v (fun R' => Ref R' I O S K B C H N E) := by
  have hrep : ∀ t, rep (rowf (rsS R 0 t)) S := fun _ => hr.2.1
  by_cases hx : ∃ k, k < stN S ∧ a = nI k
  · obtain ⟨b, hb, rfl⟩ := hx
    have ps : ∀ M2, f_X12_passes 716 true (ov M2 716 R) = some (true, ov M2 716 (rsS R 0 0)) := fun M2 => X12_pass1_e true
    refine ⟨0, oI (mix (stB S b).2.2 u), ClsO.rd (by rw [f_X11_indexOf, h.ob, bX_l (reqBox_in h hb)]; simp only [X0_ix (h.bx hb), bso]) h, fun M2 => RefO.rd (b := oI (mix (stB S b).2.2 u)) ?_ (fun _ => rfl) (hr.t 0)⟩
    simp only [f_X12_indexOf, ov_ob, X12_isBox_in hr.2.1 hb, bso, ps, cond_true, X12_withUid_e (hrep 0) hb]
  · have ps : ∀ M2, f_X12_passes 716 false (ov M2 716 R) = some (false, ov M2 716 (rsS R 0 1)) := fun M2 => X12_pass1_e false
    refine ⟨1, 0, ClsO.th (by rw [f_X11_indexOf, h.ob, bX_r (reqBox_no h hx)]) (hf1 _ _ _) (by decide) h.skip, fun M2 => RefO.rd (b := 0) ?_ (fun z => rfl) (hr.t 1)⟩
    simp only [f_X12_indexOf, ov_ob, X12_isBox_no hr.2.1 hx, bso, ps, cond_false]
theorem cs_numberOf (h : Cls M I O S K B C H N E) (hr : Ref R I O S K B C H N E) (a u : Int32) : ∃ t v, ClsO (f_X11_numberOf 100 a u M) M [("java/lang/IndexOutOfBoundsException", 1)] t v (fun M1 => Cls M1 I O S K B C H N E) ∧ ∀ M2, RefO (f_X12_numberOf 716 a u (ov M2 716 R)) M2 t v (fun R' => Ref R' I O S K B C H N E) := by
  have hrep : ∀ t, rep (rowf (rsS R 0 t)) S := fun _ => hr.2.1
  by_cases hx : ∃ k, k < stM S ∧ a = nI k
  · obtain ⟨s, hs, rfl⟩ := hx
    have ps : ∀ M2, f_X12_passes 716 true (ov M2 716 R) = some (true, ov M2 716 (rsS R 0 0)) := fun M2 => X12_pass1_e true
    have hq : f_X7_numberOfUid (sesR 105 s) u M = some (nu1 (eix (sxE (stS S s)) u)) := X7_number_e (h.sx hs) u
    refine ⟨0, nu1 (eix (sxE (stS S s)) u), ClsO.rd (by rw [f_X11_numberOf, h.ob, bX_l (reqSes_in h hs)]; simp only [hq, bso]) h, fun M2 => RefO.rd (b := nu1 (eix (sxE (stS S s)) u)) ?_ (fun _ => rfl) (hr.t 0)⟩
    simp only [f_X12_numberOf, ov_ob, X12_isSes_in hr.2.1 hs, bso, ps, cond_true, X12_entW_e (hrep 0) hs]
  · have ps : ∀ M2, f_X12_passes 716 false (ov M2 716 R) = some (false, ov M2 716 (rsS R 0 1)) := fun M2 => X12_pass1_e false
    refine ⟨1, 0, ClsO.th (by rw [f_X11_numberOf, h.ob, bX_r (reqSes_no h hx)]) (hf1 _ _ _) (by decide) h.skip, fun M2 => RefO.rd (b := 0) ?_ (fun z => rfl) (hr.t 1)⟩
    simp only [f_X12_numberOf, ov_ob, X12_isSes_no hr.2.1 hx, bso, ps, cond_false]
/-- the session's box as the class finds it -/
theorem Cls.bof (h : Cls M I O S K B C H N E) {s : Nat} (hs : s < stM S) (hw : okB S (sxB (stS S s))) : ∃ rb Jb nx, f_X8_boxOf 105 (sesR 105 s) M = some rb ∧ bA M rb Jb nx (bof S (sxB (stS S s))) := by
  obtain ⟨rb, Jb, nx, e, hb, -⟩ := X8_boxOf_e h.s (h.sx hs) hw
  exact ⟨rb, Jb, nx, e, hb⟩
theorem cs_pending (h : Cls M I O S K B C H N E) (hr : Ref R I O S K B C H N E) (ok : ∀ k, k < stM S → okV S (stS S k)) (a : Int32) : ∃ t v, ClsO (f_X11_pending 100 a M) M [("java/lang/IndexOutOfBoundsException", 1)] t v (fun M1 => Cls M1 I O S K B C H N E) ∧ ∀ M2, RefO (f_X12_pending 716 a (ov M2 716 R)) M2 t v (fun R' => Ref R' I O S K B C H N E) := by
  have hrep : ∀ t, rep (rowf (rsS R 0 t)) S := fun _ => hr.2.1
  by_cases hx : ∃ k, k < stM S ∧ a = nI k
  · obtain ⟨s, hs, rfl⟩ := hx
    have ps : ∀ M2, f_X12_passes 716 true (ov M2 716 R) = some (true, ov M2 716 (rsS R 0 0)) := fun M2 => X12_pass1_e true
    obtain ⟨rb, Jb, nx, e, hb⟩ := h.bof hs (ok s hs).1
    have hq := X8_pend_e h.s (h.sx hs) (ok s hs).1 e
    refine ⟨0, nI (pndS S (stS S s)), ClsO.rd (by rw [f_X11_pending, h.ob, bX_l (reqSes_in h hs)]; simp only [h.g2, e, hq, bso]) h, fun M2 => RefO.rd (b := nI (pndS S (stS S s))) ?_ (fun _ => rfl) (hr.t 0)⟩
    simp only [f_X12_pending, ov_ob, X12_isSes_in hr.2.1 hs, bso, ps, cond_true, X12_pend_e (hrep 0) hs (ok s hs)]
  · have ps : ∀ M2, f_X12_passes 716 false (ov M2 716 R) = some (false, ov M2 716 (rsS R 0 1)) := fun M2 => X12_pass1_e false
    refine ⟨1, 0, ClsO.th (by rw [f_X11_pending, h.ob, bX_r (reqSes_no h hx)]) (hf1 _ _ _) (by decide) h.skip, fun M2 => RefO.rd (b := 0) ?_ (fun z => rfl) (hr.t 1)⟩
    simp only [f_X12_pending, ov_ob, X12_isSes_no hr.2.1 hx, bso, ps, cond_false]
theorem cs_firstUnseen (h : Cls M I O S K B C H N E) (hr : Ref R I O S K B C H N E) (a : Int32) : ∃ t v, ClsO (f_X11_firstUnseen 100 a M) M [("java/lang/IndexOutOfBoundsException", 1)] t v (fun M1 => Cls M1 I O S K B C H N E) ∧ ∀ M2, RefO (f_X12_firstUnseen 716 a (ov M2 716 R)) M2 t v (fun R' => Ref R' I O S K B C H N E) := by
  have hrep : ∀ t, rep (rowf (rsS R 0 t)) S := fun _ => hr.2.1
  by_cases hx : ∃ k, k < stM S ∧ a = nI k
  · obtain ⟨s, hs, rfl⟩ := hx
    have ps : ∀ M2, f_X12_passes 716 true (ov M2 716 R) = some (true, ov M2 716 (rsS R 0 0)) := fun M2 => X12_pass1_e true
    have hq : f_X7_firstNotToldSeen (sesR 105 s) M = some (fns (sxE (stS S s))) := X7_fns_e (h.sx hs)
    refine ⟨0, fns (sxE (stS S s)), ClsO.rd (by rw [f_X11_firstUnseen, h.ob, bX_l (reqSes_in h hs)]; simp only [hq, bso]) h, fun M2 => RefO.rd (b := fns (sxE (stS S s))) ?_ (fun _ => rfl) (hr.t 0)⟩
    simp only [f_X12_firstUnseen, ov_ob, X12_isSes_in hr.2.1 hs, bso, ps, cond_true, X12_fUns_e (hrep 0) hs]
  · have ps : ∀ M2, f_X12_passes 716 false (ov M2 716 R) = some (false, ov M2 716 (rsS R 0 1)) := fun M2 => X12_pass1_e false
    refine ⟨1, 0, ClsO.th (by rw [f_X11_firstUnseen, h.ob, bX_r (reqSes_no h hx)]) (hf1 _ _ _) (by decide) h.skip, fun M2 => RefO.rd (b := 0) ?_ (fun z => rfl) (hr.t 1)⟩
    simp only [f_X12_firstUnseen, ov_ob, X12_isSes_no hr.2.1 hx, bso, ps, cond_false]
theorem cs_largest (h : Cls M I O S K B C H N E) (hr : Ref R I O S K B C H N E) (ok : ∀ k, k < stM S → okV S (stS S k)) (a : Int32) : ∃ t v, ClsO (f_X11_largest 100 a M) M [("java/lang/IndexOutOfBoundsException", 1)] t v (fun M1 => Cls M1 I O S K B C H N E) ∧ ∀ M2, RefO (f_X12_largest 716 a (ov M2 716 R)) M2 t v (fun R' => Ref R' I O S K B C H N E) := by
  have hrep : ∀ t, rep (rowf (rsS R 0 t)) S := fun _ => hr.2.1
  by_cases hx : ∃ k, k < stM S ∧ a = nI k
  · obtain ⟨s, hs, rfl⟩ := hx
    have ps : ∀ M2, f_X12_passes 716 true (ov M2 716 R) = some (true, ov M2 716 (rsS R 0 0)) := fun M2 => X12_pass1_e true
    obtain ⟨rb, Jb, nx, e, hb⟩ := h.bof hs (ok s hs).1
    have hq : f_X7_largestIn (sesR 105 s) rb M = some (lrg (sxE (stS S s)) (bof S (sxB (stS S s)))).1 := X7_largest_e (h.sx hs) hb
    refine ⟨0, (lrg (sxE (stS S s)) (bof S (sxB (stS S s)))).1, ClsO.rd (by rw [f_X11_largest, h.ob, bX_l (reqSes_in h hs)]; simp only [h.g2, e, hq, bso]) h, fun M2 => RefO.rd (b := (lrg (sxE (stS S s)) (bof S (sxB (stS S s)))).1) ?_ (fun _ => rfl) (hr.t 0)⟩
    simp only [f_X12_largest, ov_ob, X12_isSes_in hr.2.1 hs, bso, ps, cond_true, X12_largest_e (hrep 0) hs (ok s hs)]
  · have ps : ∀ M2, f_X12_passes 716 false (ov M2 716 R) = some (false, ov M2 716 (rsS R 0 1)) := fun M2 => X12_pass1_e false
    refine ⟨1, 0, ClsO.th (by rw [f_X11_largest, h.ob, bX_r (reqSes_no h hx)]) (hf1 _ _ _) (by decide) h.skip, fun M2 => RefO.rd (b := 0) ?_ (fun z => rfl) (hr.t 1)⟩
    simp only [f_X12_largest, ov_ob, X12_isSes_no hr.2.1 hx, bso, ps, cond_false]
theorem cs_holders (h : Cls M I O S K B C H N E) (hr : Ref R I O S K B C H N E) (a u : Int32) : ∃ t v, ClsO (f_X11_holders 100 a u M) M [("java/lang/IndexOutOfBoundsException", 1)] t v (fun M1 => Cls M1 I O S K B C H N E) ∧ ∀ M2, RefO (f_X12_holders 716 a u (ov M2 716 R)) M2 t v (fun R' => Ref R' I O S K B C H N E) := by
  have hrep : ∀ t, rep (rowf (rsS R 0 t)) S := fun _ => hr.2.1
  by_cases hx : ∃ k, k < stN S ∧ a = nI k
  · obtain ⟨b, hb, rfl⟩ := hx
    have ps : ∀ M2, f_X12_passes 716 true (ov M2 716 R) = some (true, ov M2 716 (rsS R 0 0)) := fun M2 => X12_pass1_e true
    refine ⟨0, hldS S (nI b) u, ClsO.rd (by rw [f_X11_holders, h.ob, bX_l (reqBox_in h hb)]; simp only [h.g2, X8_hold_e h.s, bso]) h, fun M2 => RefO.rd (b := hldS S (nI b) u) ?_ (fun _ => rfl) (hr.t 0)⟩
    simp only [f_X12_holders, ov_ob, X12_isBox_in hr.2.1 hb, bso, ps, cond_true, X12_hold_e (hrep 0)]
  · have ps : ∀ M2, f_X12_passes 716 false (ov M2 716 R) = some (false, ov M2 716 (rsS R 0 1)) := fun M2 => X12_pass1_e false
    refine ⟨1, 0, ClsO.th (by rw [f_X11_holders, h.ob, bX_r (reqBox_no h hx)]) (hf1 _ _ _) (by decide) h.skip, fun M2 => RefO.rd (b := 0) ?_ (fun z => rfl) (hr.t 1)⟩
    simp only [f_X12_holders, ov_ob, X12_isBox_no hr.2.1 hx, bso, ps, cond_false]
theorem cs_common (h : Cls M I O S K B C H N E) (hr : Ref R I O S K B C H N E) (a u : Int32) : ∃ t v, ClsO (f_X11_common 100 a u M) M [("java/lang/IndexOutOfBoundsException", 1)] t v (fun M1 => Cls M1 I O S K B C H N E) ∧ ∀ M2, RefO (f_X12_common 716 a u (ov M2 716 R)) M2 t v (fun R' => Ref R' I O S K B C H N E) := by
  have hrep : ∀ t, rep (rowf (rsS R 0 t)) S := fun _ => hr.2.1
  have pf : ∀ M2, f_X12_passes 716 false (ov M2 716 R) = some (false, ov M2 716 (rsS R 0 1)) := fun M2 => X12_pass1_e false
  have ps : ∀ M2, f_X12_passes 716 true (ov M2 716 R) = some (true, ov M2 716 (rsS R 0 0)) := fun M2 => X12_pass1_e true
  by_cases hx : ∃ k, k < stM S ∧ a = nI k
  · obtain ⟨s, hs, rfl⟩ := hx
    by_cases hy : ∃ k, k < stM S ∧ u = nI k
    · obtain ⟨o, ho, rfl⟩ := hy
      have q1 : f_X7_hasBox (sesR 105 s) M = some (!decide (sxB (stS S s) = -1)) := X7_hasBox_e (h.sx hs)
      have q2 : gI M 6 1 (sesR 105 s) = some (sxB (stS S s)) := (h.sx hs).gB
      have q3 : gI M 6 1 (sesR 105 o) = some (sxB (stS S o)) := (h.sx ho).gB
      have q4 : f_X7_countShared (sesR 105 s) (sesR 105 o) M = some (nI ((sxE (stS S s)).countP (fun e => (eix (sxE (stS S o)) (eU e)).isSome))) := X7_shared_e (h.sx hs) (h.sx ho)
      have hR : ∀ M2, f_X12_common 716 (nI s) (nI o) (ov M2 716 R) = if sxB (stS S s) = -1 then some (0, ov M2 716 (rsS R 0 0)) else if sxB (stS S s) = sxB (stS S o) then some (nI ((sxE (stS S s)).countP (fun e => (eix (sxE (stS S o)) (eU e)).isSome)), ov M2 716 (rsS R 0 0)) else some (0, ov M2 716 (rsS R 0 0)) := by
        intro M2
        simp only [f_X12_common, ov_ob, X12_isSes_in hr.2.1 hs, X12_isSes_in hr.2.1 ho, bso, cond_true, f_X12_common_22, ps, X12_hasBox_e (hrep 0) hs, X12_boxOf_e (hrep 0) hs, X12_boxOf_e (hrep 0) ho, X12_common_e (hrep 0) hs ho]
        by_cases e : sxB (stS S s) = -1
        · rw [decide_eq_true e, if_pos e]; rfl
        · rw [decide_eq_false e, if_neg e]; rfl
      by_cases e : sxB (stS S s) = -1
      · refine ⟨0, 0, ClsO.rd ?_ h, fun M2 => RefO.rd (b := 0) (by rw [hR, if_pos e]) (fun _ => rfl) (hr.t 0)⟩
        rw [f_X11_common, h.ob, bX_l (reqSes_in h hs), bX_l (reqSes_in h ho), q1, bso, show (!decide (sxB (stS S s) = -1)) = false by rw [decide_eq_true e]; rfl]
        rfl
      · by_cases e2 : sxB (stS S s) = sxB (stS S o)
        · refine ⟨0, nI ((sxE (stS S s)).countP (fun e => (eix (sxE (stS S o)) (eU e)).isSome)), ClsO.rd ?_ h, fun M2 => RefO.rd (by rw [hR, if_neg e, if_pos e2]) (fun _ => rfl) (hr.t 0)⟩
          rw [f_X11_common, h.ob, bX_l (reqSes_in h hs), bX_l (reqSes_in h ho), q1, bso, show (!decide (sxB (stS S s) = -1)) = true by rw [decide_eq_false e]; rfl]
          simp only [cond_true, q2, q3, bso]
          rw [if_pos e2]
          simp only [f_X11_common_37, cond_true, q4, bso]
        · refine ⟨0, 0, ClsO.rd ?_ h, fun M2 => RefO.rd (b := 0) (by rw [hR, if_neg e, if_neg e2]) (fun _ => rfl) (hr.t 0)⟩
          rw [f_X11_common, h.ob, bX_l (reqSes_in h hs), bX_l (reqSes_in h ho), q1, bso, show (!decide (sxB (stS S s) = -1)) = true by rw [decide_eq_false e]; rfl]
          simp only [cond_true, q2, q3, bso]
          rw [if_neg e2]
          simp only [f_X11_common_36, f_X11_common_37, cond_false]
    · refine ⟨1, 0, ClsO.th (by rw [f_X11_common, h.ob, bX_l (reqSes_in h hs), bX_r (reqSes_no h hy)]) (hf1 _ _ _) (by decide) h.skip, fun M2 => RefO.rd (b := 0) ?_ (fun z => rfl) (hr.t 1)⟩
      simp only [f_X12_common, ov_ob, X12_isSes_in hr.2.1 hs, X12_isSes_no hr.2.1 hy, bso, cond_true, cond_false, f_X12_common_21, f_X12_common_22, pf]
  · refine ⟨1, 0, ClsO.th (by rw [f_X11_common, h.ob, bX_r (reqSes_no h hx)]) (hf1 _ _ _) (by decide) h.skip, fun M2 => RefO.rd (b := 0) ?_ (fun z => rfl) (hr.t 1)⟩
    simp only [f_X12_common, ov_ob, X12_isSes_no hr.2.1 hx, bso, cond_false, f_X12_common_21, f_X12_common_22, pf]
theorem cs_stale (h : Cls M I O S K B C H N E) (hr : Ref R I O S K B C H N E) (ok : ∀ k, k < stM S → okV S (stS S k)) : f_X11_stale 100 M = some (stl S) ∧ ∀ M2, f_X12_stale 716 (ov M2 716 R) = some (stl S, ov M2 716 (rsS R 0 0)) := by
  refine ⟨?_, fun M2 => ?_⟩
  · simp only [f_X11_stale, h.ob, h.g2, X8_stale_e h.s (fun k hk => (ok k hk).1), bso]
  · simp only [f_X12_stale, ov_ob, r_p0, bso]
    exact X12_stale_e (R := rsS R 0 0) hr.2.1 ok
end
