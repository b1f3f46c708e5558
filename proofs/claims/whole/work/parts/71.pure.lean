/-! PURE: the reference, what changes boxes and sessions -/
def lvS (s : Sx) : Sx := (s.1, -1, false, sxI s, 0, [], sxC s)
theorem setBx_setBx (S : St) (b : Nat) (x y : Bx) : setBx (setBx S b x) b y = setBx S b y := by
  unfold setBx
  refine Prod.ext rfl (Prod.ext rfl (Prod.ext rfl (Prod.ext (funext fun j => ?_) rfl)))
  show va_up (va_up (stB S) b x) b y j = va_up (stB S) b y j
  by_cases e : j = b
  · rw [e, va_up_s, va_up_s]
  · rw [va_up_n _ _ e, va_up_n _ _ e, va_up_n _ _ e]
theorem stB_set (S : St) (b : Nat) (x : Bx) : stB (setBx S b x) b = x := va_up_s _ _ _
theorem setBx_id (S : St) (b : Nat) : setBx S b (stB S b) = S := by
  unfold setBx
  refine Prod.ext rfl (Prod.ext rfl (Prod.ext rfl (Prod.ext (funext fun j => ?_) rfl)))
  show va_up (stB S) b (stB S b) j = stB S j
  by_cases e : j = b
  · rw [e, va_up_s]
  · rw [va_up_n _ _ e]
section
variable {M : Mem} {m : Nat} {R : Rs} {S : St}
theorem X12_leave_e (h : rep (rowf R) S) {s : Nat} (hs : s < stM S) : ∃ f', f_X12_leaveBox m (nI s) (ov M m R) = some (ov M m (rsR R f')) ∧ rep f' (setSx S s (lvS (stS S s))) := by
  have h4 := h.2.2.2.2.1
  have ks : ∀ i, i < 11 → sAt s + i < 806 := fun i hi => by unfold sAt; omega
  have s1 := r_srow M m R (ks 1 (by omega)) (-1)
  have s2 := r_srow M m (rsR R (vp_updL (rowf R) (sAt s + 1) (-1))) (ks 2 (by omega)) 0
  rw [rowf_R, rsR_R] at s2
  have s3 := r_srow M m (rsR R (vp_updL (vp_updL (rowf R) (sAt s + 1) (-1)) (sAt s + 2) 0)) (ks 4 (by omega)) 0
  rw [rowf_R, rsR_R] at s3
  have s4 := r_srow M m (rsR R (vp_updL (vp_updL (vp_updL (rowf R) (sAt s + 1) (-1)) (sAt s + 2) 0) (sAt s + 4) 0)) (ks 5 (by omega)) 0
  rw [rowf_R, rsR_R] at s4
  simp only [rowN_R] at s2 s3 s4
  refine ⟨vp_updL (vp_updL (vp_updL (vp_updL (rowf R) (sAt s + 1) (-1)) (sAt s + 2) 0) (sAt s + 4) 0) (sAt s + 5) 0, ?_, ?_⟩
  · simp only [f_X12_leaveBox, ov_ob, X12_sesAt_e, r_g3, rowN_R, bso, nI_1, nI2, nI4, nI5, s1, s2, s3, s4]
  · obtain ⟨h1, h2, h3, h4', h5, h6, h7, h8⟩ := h.sx hs
    refine h.setS hs (fun q hq => by rw [pk_uLn (by omega), pk_uLn (by omega), pk_uLn (by omega), pk_uLn (by omega)]) ⟨?_, ?_, ?_, ?_, ?_, ?_, fun j hj => ?_, fun k hk => absurd hk (Nat.not_lt_zero _)⟩ (Nat.zero_le _)
    · rw [pk_uLn (by omega), pk_uLn (by omega), pk_uLn (by omega), pk_uLn (by omega)]; exact h1
    · rw [rg_n _ _ (by omega), rg_n _ _ (by omega), rg_n _ _ (by omega), rg_s]; rfl
    · rw [rg_n _ _ (by omega), rg_n _ _ (by omega), rg_s]; rfl
    · rw [rg_n _ _ (by omega), rg_n _ _ (by omega), rg_n _ _ (by omega), rg_n _ _ (by omega)]; exact h4'
    · rw [rg_n _ _ (by omega), rg_s]; rfl
    · rw [rg_s]; rfl
    · rw [rg_n _ _ (by omega), rg_n _ _ (by omega), rg_n _ _ (by omega), rg_n _ _ (by omega)]; exact h7 j hj
def enB (s : Sx) (bx : Int32) (rd : Bool) : Sx := (s.1, bx, rd, sxI s, sxH s, sxE s, sxC s)
theorem X12_take_loop {s b : Nat} {ms : Ms} : ∀ (post pre : Ms) (fu : Nat) (R : Rs) (S : St), pre ++ post = ms → post.length < fu → rep (rowf R) S → s < stM S → b < stN S → sxB (stS S s) = nI b → (stB S b).2.2 = ms → (sxE (stS S s)).length + post.length ≤ 60 →
    ∃ f', f_X12_takeBox_41 fu m (nI s) (nI b) (nI pre.length) (ov M m R) = some (ov M m (rsR R f')) ∧ rep f' (setSx S s (post.foldl putE (stS S s))) := by
  intro post
  induction post with
  | nil =>
    intro pre fu R S hp hf h hs hb hbx hms hl
    obtain ⟨fu, rfl⟩ : ∃ m, fu = m + 1 := ⟨fu - 1, by simp at hf; omega⟩
    have hlb := h.lb hb
    rw [List.append_nil] at hp
    subst hp
    rw [hms] at hlb
    refine ⟨rowf R, ?_, by rw [List.foldl_nil, setSx_id]; exact h⟩
    rw [rsR_id]
    simp only [f_X12_takeBox_41, X12_many_e h hb, hms, bso, leT rfl rfl (Nat.le_refl pre.length) (show pre.length < 2 ^ 31 by omega), if_true]
  | cons x t ih =>
    intro pre fu R S hp hf h hs hb hbx hms hl
    obtain ⟨fu, rfl⟩ : ∃ m, fu = m + 1 := ⟨fu - 1, by simp at hf; omega⟩
    simp only [List.length_cons] at hf hl
    have hlb := h.lb hb
    rw [hms] at hlb
    have hlt : pre.length < (stB S b).2.2.length := by rw [hms, ← hp]; simp
    have hlt2 : pre.length < ms.length := by rw [← hms]; exact hlt
    have hm : mg (stB S b).2.2 pre.length = x := by rw [hms, ← hp]; exact mid_get _ _ _ _
    have hp' : (pre ++ [x]) ++ t = ms := by rw [← hp]; simp
    have hln : (pre ++ [x]).length = pre.length + 1 := by simp
    obtain ⟨f1, e1, h1⟩ := X12_put_e (M := M) (m := m) h hs hb hbx hlt (by omega)
    rw [hm] at h1
    obtain ⟨f', e', h'⟩ := ih (pre ++ [x]) fu (rsR R f1) (setSx S s (putE (stS S s) x)) hp' (by omega) (by rw [rowf_R]; exact h1) hs hb (by rw [stS_set]; exact hbx) hms (by rw [stS_set]; show (_ ++ [_]).length + _ ≤ 60; rw [List.length_append, List.length_singleton]; omega)
    rw [hln, rsR_R] at e'
    rw [setSx_setSx, stS_set] at h'
    refine ⟨f', ?_, h'⟩
    simp only [f_X12_takeBox_41, X12_many_e h hb, hms, bso, leF rfl rfl hlt2 (show ms.length < 2 ^ 31 by omega), if_false, e1, nI_1, e']
/-- all its messages: as the class enters it, where the uids ascend from 1 on -/
def ascU : Int32 → Ms → Prop
  | _, [] => True
  | hi, x :: t => hi < mU x ∧ ascU (mU x) t
theorem put_nw : ∀ (ms : Ms) (s : Sx), ascU (sxH s) ms → (sxE s).length + ms.length ≤ 60 → ms.foldl putE s = setNw s (nw (sxH s) (sxE s) ms) := by
  intro ms
  induction ms with
  | nil => intro s _ _; rfl
  | cons x t ih =>
    intro s ha hl
    rw [List.length_cons] at hl
    rw [List.foldl_cons, ih (putE s x) ha.2 (by show (sxE s ++ [_]).length + _ ≤ 60; rw [List.length_append, List.length_singleton]; omega)]
    have hn : newer (sxH s) x = true := by
      unfold newer
      rw [decide_eq_false (Int32.not_le.mpr ha.1)]; rfl
    rw [show nw (sxH s) (sxE s) (x :: t) = nw (mU x) (sxE s ++ [(mU x, mF x)]) t by rw [nw, if_pos (by omega), if_pos hn]]
    rfl
theorem X12_takeBox_e (h : rep (rowf R) S) {s b : Nat} (hs : s < stM S) (hb : b < stN S) (ha : ascU 0 (stB S b).2.2) (rd : Bool) : ∃ f', f_X12_takeBox m (nI s) (nI b) rd (ov M m R) = some (ov M m (rsR R f')) ∧ rep f' (setSx S s ((stS S s).1, nI b, rd, sxI (stS S s), (nw 0 [] (stB S b).2.2).1, (nw 0 [] (stB S b).2.2).2, sxC (stS S s))) := by
  have h4 := h.2.2.2.2.1
  have hlb := h.lb hb
  have ks : ∀ i, i < 11 → sAt s + i < 806 := fun i hi => by unfold sAt; omega
  obtain ⟨f1, e1, h1⟩ := X12_leave_e (M := M) (m := m) h hs
  have s2 := r_srow M m (rsR R f1) (ks 1 (by omega)) (Int32.toInt64 (nI b))
  rw [rowf_R, rsR_R] at s2
  obtain ⟨f2, hf2⟩ : ∃ f2, f2 = vp_updL f1 (sAt s + 1) (Int32.toInt64 (nI b)) := ⟨_, rfl⟩
  rw [← hf2] at s2
  have tail : ∀ v : Int64, Int64.toInt32 v = b2i rd → ∃ f', f_X12_takeBox_37 m (nI s) (nI b) (m + rowN R) (nI (sAt s + 2)) v (ov M m (rsR R f2)) = some (ov M m (rsR R f')) ∧ rep f' (setSx S s ((stS S s).1, nI b, rd, sxI (stS S s), (nw 0 [] (stB S b).2.2).1, (nw 0 [] (stB S b).2.2).2, sxC (stS S s))) := by
    intro v hv
    have s3 := r_srow M m (rsR R f2) (ks 2 (by omega)) v
    rw [rowf_R, rsR_R] at s3
    obtain ⟨f3, hf3⟩ : ∃ f3, f3 = vp_updL f2 (sAt s + 2) v := ⟨_, rfl⟩
    rw [← hf3] at s3
    simp only [rowN_R] at s3
    have hr3 : rep f3 (setSx S s (enB (lvS (stS S s)) (nI b) rd)) := by
      have hx1 : sRep f1 (sAt s) (lvS (stS S s)) := by
        have := (h1.2.2.2.2.2.2 s hs).2
        rwa [stS_set] at this
      obtain ⟨g1, g2, g3, g4, g5, g6, g7, g8⟩ := hx1
      have := h1.setS (s := s) (f' := f3) (x := enB (lvS (stS S s)) (nI b) rd) hs (fun q hq => by rw [hf3, pk_uLn (by omega), hf2, pk_uLn (by omega)]) ⟨by rw [hf3, pk_uLn (by omega), hf2, pk_uLn (by omega)]; exact g1, by rw [hf3, rg_n _ _ (by omega), hf2, rg_s, Int32.toInt32_toInt64]; rfl, by rw [hf3, rg_s, hv]; rfl, by rw [hf3, rg_n _ _ (by omega), hf2, rg_n _ _ (by omega)]; exact g4, by rw [hf3, rg_n _ _ (by omega), hf2, rg_n _ _ (by omega)]; exact g5, by rw [hf3, rg_n _ _ (by omega), hf2, rg_n _ _ (by omega)]; exact g6, fun j hj => by rw [hf3, rg_n _ _ (by omega), hf2, rg_n _ _ (by omega)]; exact g7 j hj, fun k hk => absurd hk (Nat.not_lt_zero _)⟩ (Nat.zero_le _)
      rwa [setSx_setSx] at this
    obtain ⟨f', e', h'⟩ := X12_take_loop (M := M) (m := m) (s := s) (b := b) (ms := (stB S b).2.2) (stB S b).2.2 [] FU (rsR R f3) (setSx S s (enB (lvS (stS S s)) (nI b) rd)) rfl (by rw [FU_eq]; omega) (by rw [rowf_R]; exact hr3) hs hb (by rw [stS_set]; rfl) rfl (by rw [stS_set]; show 0 + _ ≤ 60; omega)
    have e' : f_X12_takeBox_41 FU m (nI s) (nI b) 0 (ov M m (rsR R f3)) = some (ov M m (rsR (rsR R f3) f')) := e'
    rw [rsR_R] at e'
    have hpn := put_nw (stB S b).2.2 (enB (lvS (stS S s)) (nI b) rd) ha (by show 0 + (stB S b).2.2.length ≤ 60; omega)
    rw [setSx_setSx, stS_set, hpn] at h'
    exact ⟨f', by simp only [f_X12_takeBox_37, s3, bso, e'], h'⟩
  simp only [rowN_R] at s2
  cases rd with
  | true =>
    obtain ⟨f', e', h'⟩ := tail 1 rfl
    refine ⟨f', ?_, h'⟩
    simp only [f_X12_takeBox, ov_ob, e1, r_g3, rowN_R, X12_sesAt_e, bso, nI_1, nI2, s2, cond_true, e']
  | false =>
    obtain ⟨f', e', h'⟩ := tail 0 rfl
    refine ⟨f', ?_, h'⟩
    simp only [f_X12_takeBox, ov_ob, e1, r_g3, rowN_R, X12_sesAt_e, bso, nI_1, nI2, s2, cond_false, e']
/-- a box's messages become others -/
def setMs (b : Bx) (ms : Ms) : Bx := (b.1, b.2.1, ms)
theorem mg_set {ms : Ms} {j k : Nat} (hj : j < ms.length) (f : Int32) : mg (setF ms j f) k = if k = j then mP (mg ms j) f else mg ms k := by
  simp only [mg, setF, List.getD_eq_getElem?_getD]
  by_cases e : k = j
  · subst e
    rw [if_pos rfl]
    simp [hj]
  · rw [if_neg e, List.getElem?_set_ne (Ne.symm e)]
theorem X12_putF_e (h : rep (rowf R) S) (hw : R.2.1 = false) {b j : Nat} (hb : b < stN S) (hj : j < (stB S b).2.2.length) (v : Int32) : ∃ f', f_X12_putFlags m (nI b) (nI j) v (ov M m R) = some (ov M m (rsR R f')) ∧ rep f' (setBx S b (setMs (stB S b) (setF (stB S b).2.2 j v))) := by
  have h3 := h.2.2.2.1
  have hl := h.lb hb
  have hk : bAt b + 3 + 3 * j + 2 < 806 := by unfold bAt; omega
  refine ⟨vp_updL (rowf R) (bAt b + 3 + 3 * j + 2) (Int32.toInt64 v), by simp only [f_X12_putFlags, ov_ob, r_g1, X12_msgAt_e, bso, nI2, r_s1' hw hk], h.setB hb (upd_off _ _ (by omega) (by omega)) ?_ (by show (setF _ _ _).length ≤ 30; rw [setF_len]; exact hl)⟩
  obtain ⟨g1, g2, g3, g4⟩ := h.bx hb
  refine ⟨by rw [pk_uLn (by omega)]; exact g1, ?_, by rw [rg_n _ _ (by omega)]; exact g3, fun i hi => ?_⟩
  · show _ = nI (setF (stB S b).2.2 j v).length
    rw [rg_n _ _ (by omega), setF_len]; exact g2
  · have hi : i < (setF (stB S b).2.2 j v).length := hi
    rw [setF_len] at hi
    obtain ⟨q1, q2, q3⟩ := g4 i hi
    show rg _ _ = mU (mg (setF (stB S b).2.2 j v) i) ∧ rg _ _ = mS (mg (setF (stB S b).2.2 j v) i) ∧ rg _ _ = mF (mg (setF (stB S b).2.2 j v) i)
    rw [mg_set hj]
    by_cases e : i = j
    · subst e
      rw [if_pos rfl, rg_n _ _ (by omega), rg_n _ _ (by omega), rg_s, Int32.toInt32_toInt64]
      exact ⟨q1, q2, rfl⟩
    · rw [if_neg e, rg_n _ _ (by omega), rg_n _ _ (by omega), rg_n _ _ (by omega)]
      exact ⟨q1, q2, q3⟩
theorem X12_sets_e (h : rep (rowf R) S) (hw : R.2.1 = false) {b j : Nat} (hb : b < stN S) (hj : j < (stB S b).2.2.length) (mode fl : Int32) : ∃ f', f_X12_sets m (nI b) (nI j) mode fl (ov M m R) = some (!(decide (fby mode (mF (mg (stB S b).2.2 j)) fl = mF (mg (stB S b).2.2 j))), ov M m (rsR R f')) ∧ rep f' (setBx S b (setMs (stB S b) (setF (stB S b).2.2 j (fby mode (mF (mg (stB S b).2.2 j)) fl)))) := by
  obtain ⟨f', e', h'⟩ := X12_putF_e (M := M) (m := m) h hw hb hj (fby mode (mF (mg (stB S b).2.2 j)) fl)
  have hby : f_X12_flagsBy (mF (mg (stB S b).2.2 j)) mode fl (ov M m R) = some (fby mode (mF (mg (stB S b).2.2 j)) fl) := by
    unfold f_X12_flagsBy fby
    split
    · rfl
    · split <;> rfl
  have hR : rep (rowf (rsR R f')) (setBx S b (setMs (stB S b) (setF (stB S b).2.2 j (fby mode (mF (mg (stB S b).2.2 j)) fl)))) := by rw [rowf_R]; exact h'
  have hj' : j < (stB (setBx S b (setMs (stB S b) (setF (stB S b).2.2 j (fby mode (mF (mg (stB S b).2.2 j)) fl)))) b).2.2.length := by rw [stB_set]; show j < (setF _ _ _).length; rw [setF_len]; exact hj
  have g := (X12_ofM_e (M := M) (m := m) hR (b := b) hb hj').2.2
  rw [stB_set] at g
  have g : f_X12_ofMessage m (nI b) (nI j) 2 (ov M m (rsR R f')) = some (mF (mg (setF (stB S b).2.2 j (fby mode (mF (mg (stB S b).2.2 j)) fl)) j)) := g
  rw [mg_set hj, if_pos rfl] at g
  have g : f_X12_ofMessage m (nI b) (nI j) 2 (ov M m (rsR R f')) = some (fby mode (mF (mg (stB S b).2.2 j)) fl) := g
  refine ⟨f', ?_, h'⟩
  simp only [f_X12_sets, ov_ob, (X12_ofM_e h hb hj).2.2, hby, e', g, bso]
  by_cases e : fby mode (mF (mg (stB S b).2.2 j)) fl = mF (mg (stB S b).2.2 j) <;> simp [e]
/-! messages that go -/
theorem mg_era {ms : Ms} {i j : Nat} : mg (ms.eraseIdx i) j = if j < i then mg ms j else mg ms (j + 1) := by
  simp only [mg, List.getD_eq_getElem?_getD, List.getElem?_eraseIdx]
  split <;> rfl
theorem X12_rmv_loop {b n : Nat} (hb : b < 3) (hn : n ≤ 29) : ∀ (d k fu : Nat) (R : Rs), k + d = bAt b + 3 + 3 * n → bAt b + 3 ≤ k → d < fu → R.2.1 = false → rg (rowf R) (bAt b + 1) = nI n →
    ∃ f', f_X12_removeMessage_21 fu m (nI b) (nI k) (ov M m R) = some (ov M m (rsR R f')) ∧ ∀ q, f' q = if k ≤ q ∧ q < bAt b + 3 + 3 * n then rowf R (q + 3) else rowf R q := by
  intro d
  induction d with
  | zero =>
    intro k fu R hk h11 hf hw hc
    obtain ⟨fu, rfl⟩ : ∃ m, fu = m + 1 := ⟨fu - 1, by omega⟩
    have hk806 : bAt b + 1 < 806 := by unfold bAt; omega
    have hx : bAt b + 3 + 3 * n < 2 ^ 31 := by unfold bAt; omega
    refine ⟨rowf R, ?_, fun q => by rw [if_neg (by omega)]⟩
    rw [rsR_id]
    have en : f_X12_manyIn m (nI b) (ov M m R) = some (nI n) := by
      simp only [f_X12_manyIn, ov_ob, X12_boxAt_e, bso, nI_1, X12_get_e (M := M) (m := m) (R := R) hk806, hc]
    simp only [f_X12_removeMessage_21, en, bso, X12_msgAt_e]
    rw [if_pos (show nI (bAt b + 3 + 3 * n) ≤ nI k from nI_le (by omega) (by omega))]
  | succ d ih =>
    intro k fu R hk h11 hf hw hc
    obtain ⟨fu, rfl⟩ : ∃ m, fu = m + 1 := ⟨fu - 1, by omega⟩
    have hk806 : bAt b + 1 < 806 := by unfold bAt; omega
    have hx : bAt b + 3 + 3 * n < 2 ^ 31 := by unfold bAt; omega
    have hk2 : k + 3 < 806 := by unfold bAt at *; omega
    have en : f_X12_manyIn m (nI b) (ov M m R) = some (nI n) := by
      simp only [f_X12_manyIn, ov_ob, X12_boxAt_e, bso, nI_1, X12_get_e (M := M) (m := m) (R := R) hk806, hc]
    obtain ⟨f', e', h'⟩ := ih (k + 1) fu (rsR R (vp_updL (rowf R) k (rowf R (k + 3)))) (by omega) (by omega) (by omega) hw (by rw [rowf_R, rg_n _ _ (by omega)]; exact hc)
    rw [rsR_R] at e'
    refine ⟨f', ?_, fun q => ?_⟩
    · simp only [f_X12_removeMessage_21, en, bso, nI_1, X12_msgAt_e, r_g1, nI3]
      rw [if_neg (show ¬ (nI (bAt b + 3 + 3 * n) ≤ nI k) from nI_ge (by omega) (by omega)), r_a1' hw hk2]
      simp only [bso]
      rw [r_s1' hw (by omega)]
      exact e'
    · rw [h' q, rowf_R]
      by_cases e1 : k + 1 ≤ q ∧ q < bAt b + 3 + 3 * n
      · rw [if_pos e1, if_pos ⟨by omega, e1.2⟩, pk_uLn (by omega)]
      · rw [if_neg e1]
        by_cases e2 : q = k
        · subst e2; rw [pk_uLs, if_pos ⟨by omega, by omega⟩]
        · rw [pk_uLn e2, if_neg (by omega)]
theorem X12_rmv_e (h : rep (rowf R) S) (hw : R.2.1 = false) {b i : Nat} (hb : b < stN S) (hi : i < (stB S b).2.2.length) : ∃ f', f_X12_removeMessage m (nI b) (nI i) (ov M m R) = some (ov M m (rsR R f')) ∧ rep f' (setBx S b (setMs (stB S b) ((stB S b).2.2.eraseIdx i))) := by
  have h3 := h.2.2.2.1
  have hl := h.lb hb
  obtain ⟨n, hn⟩ : ∃ n, (stB S b).2.2.length = n + 1 := ⟨(stB S b).2.2.length - 1, by omega⟩
  have hk806 : bAt b + 1 < 806 := by unfold bAt; omega
  obtain ⟨g1, g2, g3, g4⟩ := h.bx hb
  obtain ⟨f1, hf1⟩ : ∃ f1, f1 = vp_updL (rowf R) (bAt b + 1) (rowf R (bAt b + 1) - 1) := ⟨_, rfl⟩
  have c1 : rg f1 (bAt b + 1) = nI n := by
    rw [hf1, rg_s, Int64.toInt32_sub, show Int64.toInt32 (rowf R (bAt b + 1)) = rg (rowf R) (bAt b + 1) from rfl, g2, hn]
    exact nI_pred _
  obtain ⟨f', e', h'⟩ := X12_rmv_loop (M := M) (m := m) (b := b) (n := n) (by omega) (by omega) (3 * (n - i)) (bAt b + 3 + 3 * i) FU (rsR R f1) (by omega) (by omega) (by rw [FU_eq]; omega) hw (by rw [rowf_R]; exact c1)
  rw [rsR_R] at e'
  simp only [rowf_R] at h'
  have hlen : ((stB S b).2.2.eraseIdx i).length = n := by rw [List.length_eraseIdx_of_lt hi]; omega
  refine ⟨f', ?_, h.setB hb (fun q hq => ?_) ⟨?_, ?_, ?_, fun j hj => ?_⟩ (by show ((stB S b).2.2.eraseIdx i).length ≤ 30; omega)⟩
  · have a4 := r_a1' (M := M) (m := m) hw hk806
    have s4 := r_s1' (M := M) (m := m) hw hk806 (rowf R (bAt b + 1) - 1)
    rw [← hf1] at s4
    simp only [f_X12_removeMessage, ov_ob, r_g1, X12_boxAt_e, bso, nI_1, a4, s4, X12_msgAt_e]
    exact e'
  · rw [h' q, if_neg (by omega), hf1, pk_uLn (by omega)]
  · rw [h' _, if_neg (by omega), hf1, pk_uLn (by omega)]; exact g1
  · show rg f' (bAt b + 1) = nI ((stB S b).2.2.eraseIdx i).length
    rw [hlen, rg, h' _, if_neg (by omega)]; exact c1
  · rw [rg, h' _, if_neg (by omega), hf1, pk_uLn (by omega)]; exact g3
  · have hj : j < ((stB S b).2.2.eraseIdx i).length := hj
    rw [hlen] at hj
    show rg f' (bAt b + 3 + 3 * j) = mU (mg ((stB S b).2.2.eraseIdx i) j) ∧ rg f' (bAt b + 3 + 3 * j + 1) = mS (mg ((stB S b).2.2.eraseIdx i) j) ∧ rg f' (bAt b + 3 + 3 * j + 2) = mF (mg ((stB S b).2.2.eraseIdx i) j)
    rw [mg_era]
    by_cases e : j < i
    · obtain ⟨q1, q2, q3⟩ := g4 j (by omega)
      rw [if_pos e]
      refine ⟨?_, ?_, ?_⟩
      · rw [rg, h' _, if_neg (by omega), hf1, pk_uLn (by omega)]; exact q1
      · rw [rg, h' _, if_neg (by omega), hf1, pk_uLn (by omega)]; exact q2
      · rw [rg, h' _, if_neg (by omega), hf1, pk_uLn (by omega)]; exact q3
    · obtain ⟨q1, q2, q3⟩ := g4 (j + 1) (by omega)
      rw [if_neg e]
      refine ⟨?_, ?_, ?_⟩
      · rw [rg, h' _, if_pos ⟨by omega, by omega⟩, hf1, pk_uLn (by omega), show bAt b + 3 + 3 * j + 3 = bAt b + 3 + 3 * (j + 1) by omega]; exact q1
      · rw [rg, h' _, if_pos ⟨by omega, by omega⟩, hf1, pk_uLn (by omega), show bAt b + 3 + 3 * j + 1 + 3 = bAt b + 3 + 3 * (j + 1) + 1 by omega]; exact q2
      · rw [rg, h' _, if_pos ⟨by omega, by omega⟩, hf1, pk_uLn (by omega), show bAt b + 3 + 3 * j + 2 + 3 = bAt b + 3 + 3 * (j + 1) + 2 by omega]; exact q3
theorem X12_del_loop {b : Nat} {first last : Int32} : ∀ (post pre : Ms) (fu : Nat) (R : Rs) (S : St) (n : Nat), post.length < fu → rep (rowf R) S → R.2.1 = false → b < stN S → (stB S b).2.2 = pre ++ post →
    ∃ f', f_X12_removeDeleted_6 fu m (nI b) first last (nI n) (nI pre.length) (ov M m R) = some (nI (n + (post.length - (keepD first last post).length)), ov M m (rsR R f')) ∧ rep f' (setBx S b (setMs (stB S b) (pre ++ keepD first last post))) := by
  intro post
  induction post with
  | nil =>
    intro pre fu R S n hf h hw hb hms
    obtain ⟨fu, rfl⟩ : ∃ m, fu = m + 1 := ⟨fu - 1, by simp at hf; omega⟩
    have hl := h.lb hb
    rw [List.append_nil] at hms
    rw [hms] at hl
    refine ⟨rowf R, ?_, ?_⟩
    · rw [rsR_id]
      simp only [f_X12_removeDeleted_6, X12_many_e h hb, hms, bso, leT rfl rfl (Nat.le_refl pre.length) (show pre.length < 2 ^ 31 by omega), if_true]
      simp [keepD]
    · have : setMs (stB S b) (pre ++ keepD first last []) = stB S b := by
        rw [show keepD first last [] = [] from rfl, List.append_nil, ← hms]; rfl
      rw [this, setBx_id]; exact h
  | cons x t ih =>
    intro pre fu R S n hf h hw hb hms
    obtain ⟨fu, rfl⟩ : ∃ m, fu = m + 1 := ⟨fu - 1, by simp at hf; omega⟩
    simp only [List.length_cons] at hf
    have hl := h.lb hb
    have hlt : pre.length < (stB S b).2.2.length := by rw [hms]; simp
    have hm : mg (stB S b).2.2 pre.length = x := by rw [hms]; exact mid_get _ _ _ _
    obtain ⟨o1, -, o3⟩ := X12_ofM_e (M := M) (m := m) h hb hlt
    rw [hm] at o1 o3
    have hkl : (keepD first last t).length ≤ t.length := List.length_filter_le _ _
    simp only [f_X12_removeDeleted_6, X12_many_e h hb, bso, leF rfl rfl hlt (show (stB S b).2.2.length < 2 ^ 31 by omega), if_false, o1, o3, X12_in_e, btw_c]
    cases hd : delq first last x with
    | true =>
      have hd' := hd
      simp only [delq, Bool.and_eq_true, Bool.not_eq_true', decide_eq_false_iff_not] at hd'
      obtain ⟨d1, d2, d3⟩ := hd'
      obtain ⟨f1, e1, h1⟩ := X12_rmv_e (M := M) (m := m) h hw hb hlt
      rw [hms, mid_era] at h1
      obtain ⟨f', e', h'⟩ := ih pre fu (rsR R f1) (setBx S b (setMs (stB S b) (pre ++ t))) (n + 1) (by omega) (by rw [rowf_R]; exact h1) hw hb (by rw [stB_set]; rfl)
      rw [rsR_R] at e'
      rw [setBx_setBx, stB_set] at h'
      refine ⟨f', ?_, ?_⟩
      · rw [if_neg d1, decide_eq_false d2, decide_eq_false d3]
        simp only [Bool.not_false, Bool.and_true, cond_true, f_X12_removeDeleted_54, e1, bso, f_X12_removeDeleted_74, f_X12_removeDeleted_86, b2i_t, nI_1, e']
        rw [show keepD first last (x :: t) = keepD first last t by simp [keepD, hd], List.length_cons, show n + 1 + (t.length - (keepD first last t).length) = n + (t.length + 1 - (keepD first last t).length) by omega]
      · rw [show keepD first last (x :: t) = keepD first last t by simp [keepD, hd]]; exact h'
    | false =>
      obtain ⟨f', e', h'⟩ := ih (pre ++ [x]) fu R S n (by omega) h hw hb (by rw [hms]; simp)
      rw [List.length_append, List.length_singleton] at e'
      refine ⟨f', ?_, ?_⟩
      · have hk : keepD first last (x :: t) = x :: keepD first last t := by simp [keepD, hd]
        have out : f_X12_removeDeleted_53 (f_X12_removeDeleted_6 fu) m (nI b) first last (nI n) (nI pre.length) (ov M m R) = some (nI (n + ((x :: t).length - (keepD first last (x :: t)).length)), ov M m (rsR R f')) := by
          simp only [f_X12_removeDeleted_53, f_X12_removeDeleted_54, f_X12_removeDeleted_74, f_X12_removeDeleted_86, cond_false, b2i_f, Int32.add_zero, nI_1, e']
          rw [hk, List.length_cons, List.length_cons, show t.length + 1 - ((keepD first last t).length + 1) = t.length - (keepD first last t).length by omega]
        by_cases d1 : mF x &&& 8 = 0
        · rw [if_pos d1]; exact out
        · rw [if_neg d1]
          have hbf : (!decide (mU x < first) && !decide (last < mU x)) = false := by
            simp only [delq, d1, decide_false, Bool.not_false, Bool.true_and] at hd
            exact hd
          rw [hbf]
          simp only [cond_false]
          exact out
      · have hk : pre ++ [x] ++ keepD first last t = pre ++ keepD first last (x :: t) := by simp [keepD, hd]
        rw [hk] at h'; exact h'
theorem X12_del_e (h : rep (rowf R) S) (hw : R.2.1 = false) {b : Nat} (hb : b < stN S) (first last : Int32) : ∃ f', f_X12_removeDeleted m (nI b) first last (ov M m R) = some (nI ((stB S b).2.2.length - (keepD first last (stB S b).2.2).length), ov M m (rsR R f')) ∧ rep f' (setBx S b (setMs (stB S b) (keepD first last (stB S b).2.2))) := by
  have hl := h.lb hb
  obtain ⟨f', e', h'⟩ := X12_del_loop (M := M) (m := m) (b := b) (first := first) (last := last) (stB S b).2.2 [] FU R S 0 (by rw [FU_eq]; omega) h hw hb rfl
  rw [Nat.zero_add] at e'
  exact ⟨f', by rw [f_X12_removeDeleted, ov_ob]; exact e', h'⟩
end
