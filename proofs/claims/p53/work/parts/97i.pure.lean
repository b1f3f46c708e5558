/-! PURE: store -/
def sto (mode fl : Int32) (si : Bool) : List En → Ms × Int32 → List En × (Ms × Int32)
  | [], a => ([], a)
  | e :: t, a => match mix a.1 (eU e) with
    | none => (e :: (sto mode fl si t a).1, (sto mode fl si t a).2)
    | some j => ((bif si then (eU e, fby mode (mF (mg a.1 j)) fl) else e) :: (sto mode fl si t (setF a.1 j (fby mode (mF (mg a.1 j)) fl), a.2 + b2i (!decide (fby mode (mF (mg a.1 j)) fl = mF (mg a.1 j))))).1, (sto mode fl si t (setF a.1 j (fby mode (mF (mg a.1 j)) fl), a.2 + b2i (!decide (fby mode (mF (mg a.1 j)) fl = mF (mg a.1 j))))).2)
theorem sto_none {mode fl : Int32} {si : Bool} {e : En} {t : List En} {a : Ms × Int32} (h : mix a.1 (eU e) = none) : sto mode fl si (e :: t) a = (e :: (sto mode fl si t a).1, (sto mode fl si t a).2) := by
  rw [sto, h]
theorem sto_some {mode fl : Int32} {si : Bool} {e : En} {t : List En} {a : Ms × Int32} {j : Nat} (h : mix a.1 (eU e) = some j) : sto mode fl si (e :: t) a = ((bif si then (eU e, fby mode (mF (mg a.1 j)) fl) else e) :: (sto mode fl si t (setF a.1 j (fby mode (mF (mg a.1 j)) fl), a.2 + b2i (!decide (fby mode (mF (mg a.1 j)) fl = mF (mg a.1 j))))).1, (sto mode fl si t (setF a.1 j (fby mode (mF (mg a.1 j)) fl), a.2 + b2i (!decide (fby mode (mF (mg a.1 j)) fl = mF (mg a.1 j))))).2) := by
  rw [sto, h]
theorem sto_map (mode fl : Int32) (si : Bool) : ∀ (l : List En) (a : Ms × Int32), (sto mode fl si l a).1.map eU = l.map eU ∧ (sto mode fl si l a).2.1.map mU = a.1.map mU ∧ (sto mode fl si l a).2.1.map mS = a.1.map mS := by
  intro l
  induction l with
  | nil => intro a; exact ⟨rfl, rfl, rfl⟩
  | cons e t ih =>
    intro a
    cases hm : mix a.1 (eU e) with
    | none =>
      rw [sto_none hm]
      obtain ⟨h1, h2, h3⟩ := ih a
      exact ⟨by rw [List.map_cons, List.map_cons, h1], h2, h3⟩
    | some j =>
      rw [sto_some hm]
      obtain ⟨h1, h2, h3⟩ := ih (setF a.1 j (fby mode (mF (mg a.1 j)) fl), a.2 + b2i (!decide (fby mode (mF (mg a.1 j)) fl = mF (mg a.1 j))))
      refine ⟨?_, h2.trans (setF_U _ _ _), h3.trans (setF_S _ _ _)⟩
      rw [List.map_cons, List.map_cons, h1]
      cases si <;> rfl
theorem okEs_map {hi : Int32} {es es' : List En} (h : okEs hi es) (e : es'.map eU = es.map eU) : okEs hi es' := by
  refine ⟨(ascE_iff _).mpr (by rw [e]; exact (ascE_iff _).mp h.1), fun x hx => ?_, h.2.2⟩
  have : eU x ∈ es.map eU := by rw [← e]; exact List.mem_map.mpr ⟨x, hx, rfl⟩
  obtain ⟨y, hy, hxy⟩ := List.mem_map.mp this
  rw [← hxy]; exact h.2.1 y hy
/-- another view of a session, another box -/
def stW (S : St) (k b : Nat) (es : List En) (ms : Ms) : St := setSx (setBx S b (setMs (stB S b) ms)) k (setEs (stS S k) es (sxC (stS S k)))
theorem va_up_id {α : Type} (f : Nat → α) (k : Nat) : va_up f k (f k) = f := by
  funext j
  by_cases e : j = k
  · rw [e, va_up_s]
  · rw [va_up_n _ _ e]
theorem va_up_2 {α : Type} (f : Nat → α) (k : Nat) (x y : α) : va_up (va_up f k x) k y = va_up f k y := by
  funext j
  by_cases e : j = k
  · rw [e, va_up_s, va_up_s]
  · rw [va_up_n _ _ e, va_up_n _ _ e, va_up_n _ _ e]
theorem stW_id (S : St) (k b : Nat) : stW S k b (sxE (stS S k)) (stB S b).2.2 = S := by
  unfold stW
  rw [setM_id]
  exact setSx_id S k
theorem stW_b (S : St) (k b : Nat) (ms : Ms) : setBx S b (setMs (stB S b) ms) = stW S k b (sxE (stS S k)) ms := (setSx_id (setBx S b (setMs (stB S b) ms)) k).symm
theorem stW_ms (S : St) (k b : Nat) (es : List En) (ms : Ms) : (stB (stW S k b es ms) b).2.2 = ms := by
  show (va_up (stB S) b (setMs (stB S b) ms) b).2.2 = ms
  rw [va_up_s]; rfl
theorem stW_s (S : St) (k b : Nat) (es : List En) (ms : Ms) : stS (stW S k b es ms) k = setEs (stS S k) es (sxC (stS S k)) := va_up_s _ _ _
theorem stW_2 (S : St) (k b : Nat) (es es' : List En) (ms ms' : Ms) : stW (stW S k b es ms) k b es' ms' = stW S k b es' ms' := by
  have e1 : stS (stW S k b es ms) k = setEs (stS S k) es (sxC (stS S k)) := stW_s S k b es ms
  have e2 : stB (stW S k b es ms) b = setMs (stB S b) ms := va_up_s _ _ _
  have : stW (stW S k b es ms) k b es' ms' = (stL S, stN S, stM S, va_up (va_up (stB S) b (setMs (stB S b) ms)) b (setMs (stB (stW S k b es ms) b) ms'), va_up (va_up (stS S) k (setEs (stS S k) es (sxC (stS S k)))) k (setEs (stS (stW S k b es ms) k) es' (sxC (stS (stW S k b es ms) k)))) := rfl
  rw [this, va_up_2, va_up_2, e1, e2]
  rfl
theorem okS.st {c : Nat} {S : St} (h : okS c S) {k b : Nat} (hk : k < stM S) (hb : b < stN S) {es : List En} {ms : Ms} (e1 : ms.map mU = (stB S b).2.2.map mU) (e2 : ms.map mS = (stB S b).2.2.map mS) (e3 : es.map eU = (sxE (stS S k)).map eU) : okS c (stW S k b es ms) := by
  have h1 := h.mp hb e1 e2
  refine h1.setS (k := k) ?_
  obtain ⟨⟨a1, a2⟩, a3, a4, a5, a6⟩ := h1.2.2.2 k hk
  have hlen : es.length = (sxE (stS S k)).length := by
    have := congrArg List.length e3
    rwa [List.length_map, List.length_map] at this
  refine ⟨⟨a1, fun z => ?_⟩, a3, by show es.length ≤ 60; rw [hlen]; exact a4, okEs_map a5 e3, a6⟩
  have z : sxB (stS S k) = -1 := z
  have : sxE (stS S k) = [] := a2 z
  rw [this] at hlen
  exact List.eq_nil_of_length_eq_zero hlen
section
variable {M : Mem} {m : Nat} {R : Rs} {I O : List Int32} {S : St} {K : Nat → St} {B : Nat → Bool} {C : Nat} {H : Nat → St} {N : List Nt} {E : Er} {c : Nat}
theorem cls_store_loop {k b : Nat} (mode fl : Int32) (si : Bool) : ∀ (post pre rest : List En) (fu : Nat) (M : Mem) (S : St) (n : Int32), post.length < fu → Cls M I O S K B C H N E → k < stM S → b < stN S → sxE (stS S k) = pre ++ (post ++ rest) →
    ∃ M', f_X11_store_51 fu 100 (nI k) (nI (pre.length + post.length)) mode fl si (sesR 105 k) (boxR 105 b) n (nI (pre.length + 1)) M = f_X11_store_134 100 (nI k) (sto mode fl si post ((stB S b).2.2, n)).2.2 M' ∧
      Cls M' I O (stW S k b (pre ++ ((sto mode fl si post ((stB S b).2.2, n)).1 ++ rest)) (sto mode fl si post ((stB S b).2.2, n)).2.1) K B C H N E ∧ off M M' 100 616 := by
  intro post
  induction post with
  | nil =>
    intro pre rest fu M S n hf h hk hb hE
    obtain ⟨fu, rfl⟩ : ∃ x, fu = x + 1 := ⟨fu - 1, by omega⟩
    have hl : (sxE (stS S k)).length ≤ 60 := sA.len (h.sx hk)
    have hpl : pre.length ≤ 60 := by rw [hE, List.length_append] at hl; omega
    refine ⟨M, ?_, ?_, off.rf _ _ _⟩
    · simp only [f_X11_store_51]
      rw [if_pos (by rw [ltT rfl rfl (show pre.length + ([] : List En).length < pre.length + 1 from Nat.lt_succ_self _) (by omega)]; trivial)]
      rfl
    · show Cls M I O (stW S k b (pre ++ ([] ++ rest)) (stB S b).2.2) K B C H N E
      rw [← hE, stW_id]; exact h
  | cons e t ih =>
    intro pre rest fu M S n hf h hk hb hE
    obtain ⟨fu, rfl⟩ : ∃ x, fu = x + 1 := ⟨fu - 1, by omega⟩
    rw [List.length_cons] at hf
    have hl : (sxE (stS S k)).length ≤ 60 := sA.len (h.sx hk)
    have hpl : pre.length + (t.length + 1) ≤ 60 := by
      rw [hE, List.length_append, List.length_append, List.length_cons] at hl; omega
    have heg : eg (sxE (stS S k)) pre.length = e := by
      rw [hE]; exact mid_get pre (t ++ rest) e (0, 0)
    have gu : f_X7_uidOf (sesR 105 k) (nI (pre.length + 1)) M = some (eU e) := by
      have : f_X7_uidOf (sesR 105 k) (nI (pre.length + 1)) M = some (eU (eg (sxE (stS S k)) pre.length)) := X7_uid_e (h.sx hk) (by omega)
      rw [this, heg]
    have gx := X0_ix (h.bx hb) (eU e)
    have hln : pre.length + (e :: t).length = (pre ++ [e]).length + t.length := by simp; omega
    have hl1 : (pre ++ [e]).length + 1 = pre.length + 1 + 1 := by simp
    have n1 : ¬ (nI (pre.length + (e :: t).length) < nI (pre.length + 1)) := by
      rw [ltF rfl rfl (show pre.length + 1 ≤ pre.length + (e :: t).length by rw [List.length_cons]; omega) (by rw [List.length_cons]; omega)]; exact id
    have n2 : ¬ ((60 : Int32) < nI (pre.length + 1)) := by
      rw [ltF (x := 60) (a := 60) rfl rfl (show pre.length + 1 ≤ 60 by omega) (by omega)]; exact id
    have step : ∀ (M1 : Mem) (e1 : En) (ms1 : Ms) (n1 : Int32), sto mode fl si (e :: t) ((stB S b).2.2, n) = (e1 :: (sto mode fl si t (ms1, n1)).1, (sto mode fl si t (ms1, n1)).2) → eU e1 = eU e →
        Cls M1 I O (stW S k b (pre ++ (e1 :: (t ++ rest))) ms1) K B C H N E → off M M1 100 616 →
        ∃ M', f_X11_store_128 (f_X11_store_51 fu) 100 (nI k) (nI (pre.length + (e :: t).length)) mode fl si (sesR 105 k) (boxR 105 b) n1 (nI (pre.length + 1)) M1 = f_X11_store_134 100 (nI k) (sto mode fl si (e :: t) ((stB S b).2.2, n)).2.2 M' ∧
          Cls M' I O (stW S k b (pre ++ ((sto mode fl si (e :: t) ((stB S b).2.2, n)).1 ++ rest)) (sto mode fl si (e :: t) ((stB S b).2.2, n)).2.1) K B C H N E ∧ off M M' 100 616 := by
      intro M1 e1 ms1 n1 hm he1 c1 o1
      have hl2 : (pre ++ [e1]).length = (pre ++ [e]).length := by simp
      obtain ⟨M', e', c', o'⟩ := ih (pre ++ [e1]) rest fu M1 (stW S k b (pre ++ (e1 :: (t ++ rest))) ms1) n1 (by omega) c1 hk hb (by rw [stW_s]; show pre ++ (e1 :: (t ++ rest)) = _; simp)
      rw [stW_2, stW_ms] at c'
      rw [stW_ms, hl2, ← hln, hl1] at e'
      rw [hm]
      refine ⟨M', by simp only [f_X11_store_128, nI_1]; exact e', ?_, o1.trans o'⟩
      have ha : pre ++ ((e1 :: (sto mode fl si t (ms1, n1)).1) ++ rest) = (pre ++ [e1]) ++ ((sto mode fl si t (ms1, n1)).1 ++ rest) := by simp
      rw [ha]; exact c'
    simp only [f_X11_store_51, gu, gx, bso]
    rw [if_neg n1, if_neg n2]
    cases hm : mix (stB S b).2.2 (eU e) with
    | none =>
      have hno : f_X0_changeFlags (boxR 105 b) (-1) mode fl M = some (false, M) := X0_change_no (h.bx hb) mode fl
      have st := step M e (stB S b).2.2 n (sto_none hm) rfl (by
        have : pre ++ (e :: (t ++ rest)) = sxE (stS S k) := by rw [hE]; simp
        rw [this, stW_id]; exact h) (off.rf _ _ _)
      simp only [oI_n, hno, bso, cond_false, f_X11_store_95, if_true]
      cases si with
      | true => exact st
      | false => exact st
    | some j =>
      have hj := mix_lt hm
      have hbl : (stB S b).2.2.length ≤ 30 := bA.len (h.bx hb)
      obtain ⟨M1, e1, x1, o1⟩ := X0_change_e (h.bx hb) hj mode fl
      obtain ⟨c1, o1'⟩ := h.box hb (X := setMs (stB S b) (setF (stB S b).2.2 j (fby mode (mF (mg (stB S b).2.2 j)) fl))) x1 o1
      obtain ⟨f, hf2⟩ : ∃ f, f = fby mode (mF (mg (stB S b).2.2 j)) fl := ⟨_, rfl⟩
      rw [← hf2] at e1 c1
      have hjn : ¬ (nI j = -1) := by rw [nI_m1 (by omega)]; exact id
      simp only [oI_s, e1, bso]
      have hsto := sto_some (mode := mode) (fl := fl) (si := si) (e := e) (t := t) (a := ((stB S b).2.2, n)) hm
      -- with the count
      have key : ∃ M', f_X11_store_95 (f_X11_store_51 fu) 100 (nI k) (nI (pre.length + (e :: t).length)) mode fl si (sesR 105 k) (boxR 105 b) (n + b2i (!decide (f = mF (mg (stB S b).2.2 j)))) (nI (pre.length + 1)) (nI j) M1 = f_X11_store_134 100 (nI k) (sto mode fl si (e :: t) ((stB S b).2.2, n)).2.2 M' ∧
          Cls M' I O (stW S k b (pre ++ ((sto mode fl si (e :: t) ((stB S b).2.2, n)).1 ++ rest)) (sto mode fl si (e :: t) ((stB S b).2.2, n)).2.1) K B C H N E ∧ off M M' 100 616 := by
        cases hsi : si with
        | false =>
          rw [hsi] at step hsto
          simp only [f_X11_store_95, cond_false]
          refine step M1 e _ _ (by rw [hsto, ← hf2]; rfl) rfl ?_ o1'
          have : pre ++ (e :: (t ++ rest)) = sxE (stS S k) := by rw [hE]; simp
          rw [this, ← stW_b]; exact c1
        | true =>
          rw [hsi] at step hsto
          simp only [f_X11_store_95, cond_true]
          rw [if_neg hjn]
          have gT : gR M1 6 6 (sesR 105 k) = some (sesR 105 k + 3) := sA.gT (c1.sx hk)
          have gF : gR M1 0 4 (boxR 105 b) = some (boxR 105 b + 5) := bA.gF (c1.bx hb)
          have hbx1 := c1.bx (b := b) hb
          have hms1 : (stB (setBx S b (setMs (stB S b) (setF (stB S b).2.2 j f))) b).2.2 = setF (stB S b).2.2 j f := setM_ms S b _
          have gf : f_X5_get (boxR 105 b + 5) (nI j) M1 = some f := by
            have : f_X5_get (boxR 105 b + 5) (nI j) M1 = some (lgt (((stB (setBx S b (setMs (stB S b) (setF (stB S b).2.2 j f))) b).2.2).map mF) (nI j)) := X5_get_e hbx1.2.2.2 (nI j)
            rw [this, hms1, lgt_n _ (by omega), mapD _ (by rw [setF_len]; exact hj), mg_set hj, if_pos rfl]
            rfl
          obtain ⟨M2, e2, x2, o2⟩ := X7_told_set (c1.sx hk) (k := pre.length) (by omega) f
          obtain ⟨c2, o2'⟩ := c1.ses hk (X := setEs (stS S k) ((sxE (stS S k)).set pre.length (eU (eg (sxE (stS S k)) pre.length), f)) (sxC (stS S k))) x2 o2
          simp only [gT, gF, gf, bso, nI_pred, e2]
          refine step M2 (eU e, f) _ _ (by rw [hsto, ← hf2]; rfl) rfl ?_ (o1'.trans o2')
          rw [heg] at c2
          have hset : (sxE (stS S k)).set pre.length (eU e, f) = pre ++ ((eU e, f) :: (t ++ rest)) := by
            rw [hE]; exact mid_set pre (t ++ rest) e (eU e, f)
          rw [hset] at c2
          exact c2
      cases hch : decide (f = mF (mg (stB S b).2.2 j)) with
      | true =>
        rw [hch] at key
        simp only [Bool.not_true, b2i_f, Int32.add_zero] at key
        simp only [Bool.not_true, cond_false]
        exact key
      | false =>
        rw [hch] at key
        simp only [Bool.not_false, b2i_t] at key
        simp only [Bool.not_false, cond_true]
        exact key
end
