/-! PURE, p53: notices put on views give the views behind; who is told all has nothing left to be told -/
abbrev Vw : Type := List (Int32 × Int32)
/-- what a view says of an entry: a uid that isn't −1 is its own; so are told flags, where they count -/
def vwM (si : Bool) (x : Int32 × Int32) (e : En) : Prop := (0 ≤ x.1 → x.1 = eU e) ∧ (si = false → 0 ≤ x.2 → x.2 = eT e)
def F2 {α β : Type} (R : α → β → Prop) : List α → List β → Prop
  | [], [] => True
  | a :: x, b :: y => R a b ∧ F2 R x y
  | [], _ :: _ => False
  | _ :: _, [] => False
theorem F2.nil {α β : Type} {R : α → β → Prop} : F2 R [] [] := trivial
theorem F2.cons {α β : Type} {R : α → β → Prop} {a : α} {b : β} {x : List α} {y : List β} (h : R a b) (k : F2 R x y) : F2 R (a :: x) (b :: y) := ⟨h, k⟩
theorem f2_nr {α β : Type} {R : α → β → Prop} : ∀ {x : List α}, F2 R x [] → x = [] := fun {x} h => match x, h with
  | [], _ => rfl
  | _ :: _, h => h.elim
theorem f2_cr {α β : Type} {R : α → β → Prop} {b : β} {y : List β} : ∀ {x : List α}, F2 R x (b :: y) → ∃ a t, x = a :: t ∧ R a b ∧ F2 R t y := fun {x} h => match x, h with
  | [], h => h.elim
  | a :: t, h => ⟨a, t, rfl, h.1, h.2⟩
theorem f2_len {α β : Type} {R : α → β → Prop} : ∀ {y : List β} {x : List α}, F2 R x y → x.length = y.length := by
  intro y
  induction y with
  | nil => intro x h; rw [f2_nr h]; rfl
  | cons b y ih =>
    intro x h
    obtain ⟨a, t, rfl, -, h2⟩ := f2_cr h
    rw [List.length_cons, List.length_cons, ih h2]
def nn (x : Nt) : Nat := (n2 x).toNatClampNeg
def apV (V : Vw) (x : Nt) : Vw :=
  if n1 x = 0 then V.eraseIdx (nn x - 1) else if n1 x = 1 then V.set (nn x - 1) ((V.getD (nn x - 1) (0, 0)).1, n3 x) else V ++ List.replicate (nn x - V.length) (-1, -1)
def okAp (V : Vw) (x : Nt) : Prop := n2 x = nI (nn x) ∧ (((n1 x = 0 ∨ n1 x = 1) ∧ 1 ≤ nn x ∧ nn x ≤ V.length ∧ V.length ≤ 60) ∨ (¬ n1 x = 0 ∧ ¬ n1 x = 1 ∧ V.length < nn x ∧ nn x ≤ 60))
def apL (ns : List Nt) (V : Vw) : Vw := ns.foldl apV V
def okAs : List Nt → Vw → Prop
  | [], _ => True
  | x :: t, V => okAp V x ∧ okAs t (apV V x)
theorem okAs_app : ∀ (a b : List Nt) (V : Vw), okAs a V → okAs b (apL a V) → okAs (a ++ b) V := by
  intro a
  induction a with
  | nil => intro b V _ h; exact h
  | cons x t ih => intro b V h1 h2; exact ⟨h1.1, ih b _ h1.2 h2⟩
theorem apL_app (a b : List Nt) (V : Vw) : apL (a ++ b) V = apL b (apL a V) := List.foldl_append
theorem nn_id {x : Nt} (_h : n2 x = nI (nn x)) : nn x = nn x := rfl
theorem nn_nI {a b c : Int32} {n : Nat} (h : n < 2 ^ 31) : nn (a, b, nI n, c) = n := by
  show (nI n).toNatClampNeg = n
  unfold nI
  exact Int32.toNatClampNeg_ofNat_of_lt h
theorem set_mid {α : Type} (P Q : List α) (q y : α) : (P ++ q :: Q).set P.length y = P ++ y :: Q := by
  rw [List.set_append_right _ _ (Nat.le_refl _), Nat.sub_self]; rfl
theorem erase_mid {α : Type} (P Q : List α) (q : α) : (P ++ q :: Q).eraseIdx P.length = P ++ Q := by
  rw [List.eraseIdx_append_of_length_le (Nat.le_refl _), Nat.sub_self]; rfl
theorem getD_mid {α : Type} (P Q : List α) (q d : α) : (P ++ q :: Q).getD P.length d = q := by
  simp
theorem vw_gone {si : Bool} {q : Int32 × Int32} {e : En} (h : vwM si q e) (v : Int32) : vwM si (q.1, v) (eU e, v) := ⟨h.1, fun _ _ => rfl⟩
theorem ap_gN {si : Bool} (ms : Ms) (me : Int32) : ∀ (es : List En) (n : Nat) (P Q : Vw), n = P.length + 1 → P.length + es.length ≤ 60 → F2 (vwM si) Q es →
    okAs (gN ms me n es) (P ++ Q) ∧ ∃ Q', apL (gN ms me n es) (P ++ Q) = P ++ Q' ∧ F2 (vwM si) Q' (kept ms es) := by
  intro es
  induction es with
  | nil => intro n P Q hn hl h; rw [f2_nr h]; exact ⟨trivial, [], rfl, F2.nil⟩
  | cons e t ih =>
    intro n P Q hn hl h
    rw [List.length_cons] at hl
    obtain ⟨q, Q1, rfl, h1, h2⟩ := f2_cr h
    rw [gN]
    by_cases hg : gone ms e = true
    · rw [if_pos hg]
      obtain ⟨a1, Q', a2, a3⟩ := ih n P Q1 hn (by omega) h2
      have hnn : nn (me, 0, nI n, 0) = P.length + 1 := by rw [nn_nI (by omega)]; exact hn
      have hap : apV (P ++ q :: Q1) (me, 0, nI n, 0) = P ++ Q1 := by
        unfold apV
        rw [if_pos (show n1 (me, 0, nI n, 0) = 0 from rfl), hnn, Nat.add_sub_cancel, erase_mid]
      refine ⟨⟨⟨by rw [hnn, ← hn]; rfl, .inl ⟨.inl rfl, by omega, by rw [hnn, List.length_append, List.length_cons]; omega, ?_⟩⟩, by rw [hap]; exact a1⟩, Q', ?_, ?_⟩
      · have := f2_len h2
        rw [List.length_append, List.length_cons]; omega
      · show apL (gN ms me n t) (apV (P ++ q :: Q1) (me, 0, nI n, 0)) = _
        rw [hap]; exact a2
      · have : kept ms (e :: t) = kept ms t := by unfold kept; rw [List.filter_cons, hg]; rfl
        rw [this]; exact a3
    · rw [if_neg hg]
      obtain ⟨a1, Q', a2, a3⟩ := ih (n + 1) (P ++ [q]) Q1 (by rw [List.length_append, List.length_singleton, hn]) (by rw [List.length_append, List.length_singleton]; omega) h2
      have hpq : (P ++ [q]) ++ Q1 = P ++ q :: Q1 := by simp
      rw [hpq] at a1 a2
      refine ⟨a1, q :: Q', by rw [a2]; simp, ?_⟩
      have hf : gone ms e = false := by cases hx : gone ms e with | true => exact absurd hx hg | false => rfl
      have : kept ms (e :: t) = e :: kept ms t := by unfold kept; rw [List.filter_cons, hf]; rfl
      rw [this]; exact F2.cons h1 a3
theorem ap_cN {si : Bool} (ms : Ms) (me : Int32) : ∀ (es : List En) (n : Nat) (P Q : Vw), n = P.length + 1 → P.length + es.length ≤ 60 → F2 (vwM si) Q es →
    okAs (cN ms me n es) (P ++ Q) ∧ ∃ Q', apL (cN ms me n es) (P ++ Q) = P ++ Q' ∧ F2 (vwM si) Q' (cE ms es) := by
  intro es
  induction es with
  | nil => intro n P Q hn hl h; rw [f2_nr h]; exact ⟨trivial, [], rfl, F2.nil⟩
  | cons e t ih =>
    intro n P Q hn hl h
    rw [List.length_cons] at hl
    obtain ⟨q, Q1, rfl, h1, h2⟩ := f2_cr h
    have hce : cE ms (e :: t) = (if chg ms e = true then (eU e, flg ms e) else e) :: cE ms t := rfl
    rw [cN, hce]
    by_cases hg : chg ms e = true
    · rw [if_pos hg, if_pos hg]
      obtain ⟨a1, Q', a2, a3⟩ := ih (n + 1) (P ++ [(q.1, flg ms e)]) Q1 (by rw [List.length_append, List.length_singleton, hn]) (by rw [List.length_append, List.length_singleton]; omega) h2
      have hpq : (P ++ [(q.1, flg ms e)]) ++ Q1 = P ++ (q.1, flg ms e) :: Q1 := by simp
      rw [hpq] at a1 a2
      have hnn : nn (me, 1, nI n, flg ms e) = P.length + 1 := by rw [nn_nI (by omega)]; exact hn
      have hap : apV (P ++ q :: Q1) (me, 1, nI n, flg ms e) = P ++ (q.1, flg ms e) :: Q1 := by
        unfold apV
        rw [if_neg (show ¬ n1 (me, 1, nI n, flg ms e) = 0 by show ¬ (1 : Int32) = 0; decide), if_pos (show n1 (me, 1, nI n, flg ms e) = 1 from rfl), hnn, Nat.add_sub_cancel, getD_mid, set_mid]
        rfl
      refine ⟨⟨⟨by rw [hnn, ← hn]; rfl, .inl ⟨.inr rfl, by omega, by rw [hnn, List.length_append, List.length_cons]; omega, ?_⟩⟩, by rw [hap]; exact a1⟩, (q.1, flg ms e) :: Q', ?_, F2.cons (vw_gone h1 _) a3⟩
      · have := f2_len h2
        rw [List.length_append, List.length_cons]; omega
      · show apL (cN ms me (n + 1) t) (apV (P ++ q :: Q1) (me, 1, nI n, flg ms e)) = _
        rw [hap, a2]; simp
    · rw [if_neg hg, if_neg hg]
      obtain ⟨a1, Q', a2, a3⟩ := ih (n + 1) (P ++ [q]) Q1 (by rw [List.length_append, List.length_singleton, hn]) (by rw [List.length_append, List.length_singleton]; omega) h2
      have hpq : (P ++ [q]) ++ Q1 = P ++ q :: Q1 := by simp
      rw [hpq] at a1 a2
      exact ⟨a1, q :: Q', by rw [a2]; simp, F2.cons h1 a3⟩
theorem nw_pre : ∀ (ms : Ms) (hi : Int32) (es : List En), ∃ l, (nw hi es ms).2 = es ++ l := by
  intro ms
  induction ms with
  | nil => intro hi es; exact ⟨[], (List.append_nil es).symm⟩
  | cons x t ih =>
    intro hi es
    rw [nw]
    split
    · split
      · obtain ⟨l, hl⟩ := ih (mU x) (es ++ [(mU x, mF x)])
        exact ⟨(mU x, mF x) :: l, by rw [hl]; simp⟩
      · exact ih hi es
    · exact ⟨[], (List.append_nil es).symm⟩
theorem vw_new {si : Bool} : ∀ (l : List En), F2 (vwM si) (List.replicate l.length (-1, -1)) l := by
  intro l
  induction l with
  | nil => exact F2.nil
  | cons e t ih =>
    refine F2.cons ⟨fun h => absurd h (by decide), fun _ h => absurd h (by decide)⟩ ih
theorem f2_app {α β : Type} {R : α → β → Prop} {c : List α} {d : List β} (h2 : F2 R c d) : ∀ {b : List β} {a : List α}, F2 R a b → F2 R (a ++ c) (b ++ d) := by
  intro b
  induction b with
  | nil => intro a h; rw [f2_nr h]; exact h2
  | cons y b ih =>
    intro a h
    obtain ⟨x, t, rfl, h1, h3⟩ := f2_cr h
    exact F2.cons h1 (ih h3)
theorem ap_wN {si : Bool} (me : Int32) (ms : Ms) (hi : Int32) {es : List En} {V : Vw} (h : F2 (vwM si) V es) (hl : es.length ≤ 60) :
    okAs (wN me es (nw hi es ms).2) V ∧ F2 (vwM si) (apL (wN me es (nw hi es ms).2) V) (nw hi es ms).2 := by
  obtain ⟨l, e⟩ := nw_pre ms hi es
  have h6 := nw_60 ms hi es hl
  rw [e] at h6 ⊢
  have hV := f2_len h
  unfold wN
  by_cases z : (es ++ l).length = es.length
  · rw [if_pos z]
    have : l = [] := by
      rw [List.length_append] at z
      exact List.length_eq_zero_iff.mp (by omega)
    subst this
    refine ⟨trivial, ?_⟩
    rw [List.append_nil]; exact h
  · rw [if_neg z]
    rw [List.length_append] at h6 z
    have hnn : nn (me, 2, nI (es ++ l).length, 0) = es.length + l.length := by
      rw [List.length_append]
      exact nn_nI (by omega)
    have hap : apV V (me, 2, nI (es ++ l).length, 0) = V ++ List.replicate l.length (-1, -1) := by
      unfold apV
      rw [if_neg (show ¬ n1 (me, 2, nI (es ++ l).length, 0) = 0 by show ¬ (2 : Int32) = 0; decide), if_neg (show ¬ n1 (me, 2, nI (es ++ l).length, 0) = 1 by show ¬ (2 : Int32) = 1; decide), hnn, hV, Nat.add_sub_cancel_left]
    refine ⟨⟨⟨by rw [hnn, ← List.length_append]; rfl, .inr ⟨by show ¬ (2 : Int32) = 0; decide, by show ¬ (2 : Int32) = 1; decide, by omega, by omega⟩⟩, trivial⟩, ?_⟩
    show F2 (vwM si) (apV V (me, 2, nI (es ++ l).length, 0)) (es ++ l)
    rw [hap]
    exact f2_app (vw_new l) h
theorem ap_tl {si : Bool} (al : Bool) (me : Int32) (ms : Ms) (s : Sx) {V : Vw} (h : F2 (vwM si) V (sxE s)) (hl : (sxE s).length ≤ 60) :
    okAs (tlS al me ms s).2 V ∧ F2 (vwM si) (apL (tlS al me ms s).2 V) (sxE (tlS al me ms s).1) := by
  obtain ⟨V1, g1, g2, g3⟩ : ∃ V1, okAs (tlG al me ms (sxE s) (sxC s)).2.2 V ∧ apL (tlG al me ms (sxE s) (sxC s)).2.2 V = V1 ∧ F2 (vwM si) V1 (tlG al me ms (sxE s) (sxC s)).1 := by
    cases al with
    | false => exact ⟨V, trivial, rfl, h⟩
    | true =>
      obtain ⟨a1, Q', a2, a3⟩ := ap_gN ms me (sxE s) 1 [] V rfl (by simpa using hl) h
      exact ⟨Q', a1, a2, a3⟩
  have hg := tlG_len al me ms (sxE s) (sxC s)
  obtain ⟨es1, he1⟩ : ∃ es1, es1 = (tlG al me ms (sxE s) (sxC s)).1 := ⟨_, rfl⟩
  rw [← he1] at g3 hg
  obtain ⟨b1, V2, b2, b3⟩ := ap_cN ms me es1 1 [] V1 rfl (by simp only [List.length_nil]; omega) g3
  rw [List.nil_append] at b1 b2
  obtain ⟨w1, w2⟩ := ap_wN me ms (sxH s) b3 (by rw [cE_len]; omega)
  rw [tlS_n2, ← he1]
  have hE : sxE (tlS al me ms s).1 = (nw (sxH s) (cE ms es1) ms).2 := by rw [he1]; rfl
  have b2 : apL (cN ms me 1 es1) V1 = V2 := b2
  rw [hE]
  refine ⟨okAs_app _ _ _ g1 (okAs_app _ _ _ (by rw [g2]; exact b1) (by rw [g2, b2]; exact w1)), ?_⟩
  rw [apL_app, apL_app, g2, b2]
  exact w2
/-- notices on the views of all sessions -/
def apW (W : Nat → Vw) (x : Nt) : Nat → Vw := fun s => if n0 x = nI s then apV (W s) x else W s
def apWs (ns : List Nt) (W : Nat → Vw) : Nat → Vw := ns.foldl apW W
def okWs (m : Nat) : List Nt → (Nat → Vw) → Prop
  | [], _ => True
  | x :: t, W => (∃ s, s < m ∧ n0 x = nI s ∧ okAp (W s) x) ∧ okWs m t (apW W x)
theorem okWs_app (m : Nat) : ∀ (a b : List Nt) (W : Nat → Vw), okWs m a W → okWs m b (apWs a W) → okWs m (a ++ b) W := by
  intro a
  induction a with
  | nil => intro b V _ h; exact h
  | cons x t ih => intro b V h1 h2; exact ⟨h1.1, ih b _ h1.2 h2⟩
theorem apWs_app (a b : List Nt) (W : Nat → Vw) : apWs (a ++ b) W = apWs b (apWs a W) := List.foldl_append
theorem apW_one (m : Nat) (h4 : m ≤ 4) {k : Nat} (hk : k < m) : ∀ (ns : List Nt) (W : Nat → Vw), (∀ x ∈ ns, n0 x = nI k) → okAs ns (W k) → okWs m ns W ∧ apWs ns W k = apL ns (W k) ∧ ∀ s, s < m → s ≠ k → apWs ns W s = W s := by
  intro ns
  induction ns with
  | nil => intro W _ _; exact ⟨trivial, rfl, fun _ _ _ => rfl⟩
  | cons x t ih =>
    intro W h0 h
    have hx := h0 x List.mem_cons_self
    have e1 : apW W x k = apV (W k) x := by unfold apW; rw [if_pos hx]
    have e2 : ∀ s, s < m → s ≠ k → apW W x s = W s := fun s hs hn => by
      unfold apW
      rw [if_neg (fun z => hn ((nI_eq (by omega) (by omega)).mp (z.symm.trans hx)))]
    obtain ⟨a1, a2, a3⟩ := ih (apW W x) (fun y hy => h0 y (List.mem_cons_of_mem _ hy)) (by rw [e1]; exact h.2)
    refine ⟨⟨⟨k, hk, hx, h.1⟩, a1⟩, ?_, fun s hs hn => ?_⟩
    · show apWs t (apW W x) k = apL t (apV (W k) x)
      rw [a2, e1]
    · show apWs t (apW W x) s = W s
      rw [a3 s hs hn, e2 s hs hn]
theorem gN_me (ms : Ms) (me : Int32) : ∀ (es : List En) (n : Nat), ∀ x ∈ gN ms me n es, n0 x = me := by
  intro es
  induction es with
  | nil => intro n x hx; exact nomatch hx
  | cons e t ih =>
    intro n x hx
    rw [gN] at hx
    split at hx
    · rcases List.mem_cons.mp hx with rfl | hx
      · rfl
      · exact ih n x hx
    · exact ih _ x hx
theorem cN_me (ms : Ms) (me : Int32) : ∀ (es : List En) (n : Nat), ∀ x ∈ cN ms me n es, n0 x = me := by
  intro es
  induction es with
  | nil => intro n x hx; exact nomatch hx
  | cons e t ih =>
    intro n x hx
    rw [cN] at hx
    split at hx
    · rcases List.mem_cons.mp hx with rfl | hx
      · rfl
      · exact ih _ x hx
    · exact ih _ x hx
theorem tlS_me (al : Bool) (me : Int32) (ms : Ms) (s : Sx) : ∀ x ∈ (tlS al me ms s).2, n0 x = me := by
  intro x hx
  rw [tlS_n2] at hx
  rcases List.mem_append.mp hx with hx | hx
  · cases al with
    | false => exact nomatch hx
    | true => exact gN_me ms me _ 1 x hx
  · rcases List.mem_append.mp hx with hx | hx
    · exact cN_me ms me _ 1 x hx
    · unfold wN at hx
      split at hx
      · exact nomatch hx
      · rw [List.mem_singleton.mp hx]; rfl
/-- the views are as the state says, but for one session -/
def RV (si : Bool) (bt : Nat) (W : Nat → Vw) (S : St) : Prop := ∀ s, s < stM S → s ≠ bt → F2 (vwM si) (W s) (sxE (stS S s))
section
variable {si : Bool} {bt c : Nat} {W : Nat → Vw} {S : St}
theorem RV.tell (h : RV si bt W S) (ok : okS c S) {k : Nat} (hk : k < stM S) (hb : k ≠ bt) (al : Bool) : okWs (stM S) (tlK al S k).2 W ∧ RV si bt (apWs (tlK al S k).2 W) (setSx S k (tlK al S k).1) := by
  obtain ⟨a1, a2⟩ := ap_tl al (nI k) (bof S (sxB (stS S k))) (stS S k) (h k hk hb) (ok.2.2.2 k hk).2.2.1
  obtain ⟨b1, b2, b3⟩ := apW_one (stM S) ok.2.1.2 hk (tlK al S k).2 W (tlS_me al (nI k) _ _) a1
  refine ⟨b1, fun s hs hn => ?_⟩
  have hs : s < stM S := hs
  by_cases e : s = k
  · rw [e, b2, stS_set]; exact a2
  · rw [b3 s hs e]
    have : stS (setSx S k (tlK al S k).1) s = stS S s := va_up_n _ _ e
    rw [this]; exact h s hs hn
end
theorem RV.idle {si : Bool} {bt c : Nat} {W0 : Nat → Vw} : ∀ (n k : Nat) (S : St) (ns : List Nt), okS c S → k + n ≤ stM S → (bt < stM S → sxI (stS S bt) = false) → okWs (stM S) ns W0 → RV si bt (apWs ns W0) S →
    okWs (stM S) (tlI n k (S, ns)).2 W0 ∧ RV si bt (apWs (tlI n k (S, ns)).2 W0) (tlI n k (S, ns)).1 := by
  intro n
  induction n with
  | zero => intro k S ns _ _ _ h1 h2; exact ⟨h1, h2⟩
  | succ n ih =>
    intro k S ns ok hk hbi h1 h2
    have hs : tlI (n + 1) k (S, ns) = tlI n (k + 1) (if sxI (stS S k) = true then (setSx S k (tlK true S k).1, ns ++ (tlK true S k).2) else (S, ns)) := rfl
    rw [hs]
    by_cases e : sxI (stS S k) = true
    · rw [if_pos e]
      have hkb : k ≠ bt := fun z => by
        have := hbi (by omega)
        rw [← z, e] at this; cases this
      obtain ⟨a1, a2⟩ := h2.tell ok (show k < stM S by omega) hkb true
      refine ih (k + 1) (setSx S k (tlK true S k).1) _ (ok.tell (by omega) true) (by show k + 1 + n ≤ stM S; omega) (fun hb => ?_) (okWs_app _ _ _ _ h1 a1) (by rw [apWs_app]; exact a2)
      have : stS (setSx S k (tlK true S k).1) bt = stS S bt := va_up_n _ _ (fun z => hkb z.symm)
      rw [this]; exact hbi hb
    · rw [if_neg e]
      exact ih (k + 1) S ns ok (by omega) hbi h1 h2
theorem RV.idl {si : Bool} {bt c : Nat} {W : Nat → Vw} {S : St} (h : RV si bt W S) (ok : okS c S) (hbi : bt < stM S → sxI (stS S bt) = false) : okWs (stM S) (idl S).2 W ∧ RV si bt (apWs (idl S).2 W) (idl S).1 :=
  RV.idle (stM S) 0 S [] ok (by omega) hbi trivial h
theorem RV.endS {si : Bool} {bt c : Nat} {W : Nat → Vw} {S : St} (h : RV si bt W S) (ok : okS c S) {k : Nat} (hk : k < stM S) (hb : stM S ≤ bt) (al : Bool) : okWs (stM S) (endS al S k []).2 W ∧ RV si bt (apWs (endS al S k []).2 W) (endS al S k []).1 := by
  obtain ⟨a1, a2⟩ := h.tell ok hk (by omega) al
  exact RV.idle (stM S) 0 (setSx S k (tlK al S k).1) ([] ++ (tlK al S k).2) (ok.tell hk al) (by show 0 + stM S ≤ stM S; omega) (fun z => absurd z (by show ¬ bt < stM S; omega)) (by rw [List.nil_append]; exact a1) (by rw [List.nil_append]; exact a2)
/-- nothing left to be told -/
def quiet (ms : Ms) (s : Sx) : Prop := (∀ e ∈ sxE s, gone ms e = false ∧ chg ms e = false) ∧ (60 ≤ (sxE s).length ∨ ∀ x ∈ ms, newer (sxH s) x = false)
theorem tl_quiet {ms : Ms} (ha : ascU 0 ms) (me : Int32) (s : Sx) : quiet ms (tlS true me ms s).1 := by
  obtain ⟨s1, hs1⟩ : ∃ s1, s1 = (tlS true me ms s).1 := ⟨_, rfl⟩
  rw [← hs1]
  have hE : sxE s1 = (nw (sxH s) (cE ms (kept ms (sxE s))) ms).2 := by rw [hs1]; rfl
  have hH : sxH s1 = (nw (sxH s) (cE ms (kept ms (sxE s))) ms).1 := by rw [hs1]; rfl
  refine ⟨fun e he => ?_, by rw [hE, hH]; exact nw_done _ _ _⟩
  rw [hE] at he
  rcases nw_mem _ _ _ e he with h | ⟨x, hx, rfl⟩
  · obtain ⟨e0, h0, rfl⟩ := List.mem_map.mp h
    refine ⟨?_, chg_told e0⟩
    have := (List.mem_filter.mp h0).2
    unfold gone at this ⊢
    rw [cE_el]
    simpa using this
  · obtain ⟨j, hj, hjx⟩ := mix_of ha hx
    refine ⟨?_, ?_⟩
    · show (mix ms (mU x)).isNone = false
      rw [hj]; rfl
    · unfold chg
      show (match mix ms (mU x) with | none => false | some k => _) = false
      rw [hj]
      simp [eT, hjx]
/-- a session that was told of changes has none left -/
theorem tlF_chg {ms : Ms} (ha : ascU 0 ms) (me : Int32) (s : Sx) : ∀ e ∈ sxE (tlS false me ms s).1, chg ms e = false := by
  intro e he
  have hE : sxE (tlS false me ms s).1 = (nw (sxH s) (cE ms (sxE s)) ms).2 := rfl
  rw [hE] at he
  rcases nw_mem _ _ _ e he with h | ⟨x, hx, rfl⟩
  · obtain ⟨e0, h0, rfl⟩ := List.mem_map.mp h
    exact chg_told e0
  · obtain ⟨j, hj, hjx⟩ := mix_of ha hx
    unfold chg
    show (match mix ms (mU x) with | none => false | some k => _) = false
    rw [hj]
    simp [eT, hjx]
theorem cnt0 {α : Type} (p : α → Bool) : ∀ l : List α, (∀ x ∈ l, p x = false) → l.countP p = 0 := by
  intro l h
  exact List.countP_eq_zero.mpr (fun x hx => by rw [h x hx]; decide)
theorem quiet_pend {ms : Ms} {s : Sx} (h : quiet ms s) : pend (sxH s) (sxE s) ms = 0 := by
  have g0 := cnt0 (gone ms) (sxE s) (fun e he => (h.1 e he).1)
  have c0 := cnt0 (chg ms) (sxE s) (fun e he => (h.1 e he).2)
  unfold pend
  rw [g0, c0]
  rcases h.2 with h2 | h2
  · rw [if_neg (by omega)]
  · rw [cnt0 _ ms h2, if_neg (by omega)]
theorem okS_asc {c : Nat} {S : St} (h : okS c S) {k : Nat} (hk : k < stM S) : ascU 0 (bof S (sxB (stS S k))) := by
  rcases (h.2.2.2 k hk).1.1 with e | ⟨b, hb, e⟩
  · rw [e, bof_no]; trivial
  · rw [e, bof_in (by have := h.2.1.1; omega)]
    exact (h.2.2.1 b hb).2.1.1
/-- what telling the idle makes of each session, and of the rest -/
theorem tlI_get : ∀ (n k : Nat) (S : St) (ns : List Nt), ((stB (tlI n k (S, ns)).1 = stB S ∧ stM (tlI n k (S, ns)).1 = stM S) ∧ stN (tlI n k (S, ns)).1 = stN S ∧ stL (tlI n k (S, ns)).1 = stL S) ∧ ∀ s, stS (tlI n k (S, ns)).1 s = if k ≤ s ∧ s < k + n ∧ sxI (stS S s) = true then (tlK true S s).1 else stS S s := by
  intro n
  induction n with
  | zero =>
    intro k S ns
    refine ⟨⟨⟨rfl, rfl⟩, rfl, rfl⟩, fun s => ?_⟩
    rw [if_neg (by omega)]; rfl
  | succ n ih =>
    intro k S ns
    have hs : tlI (n + 1) k (S, ns) = tlI n (k + 1) (if sxI (stS S k) = true then (setSx S k (tlK true S k).1, ns ++ (tlK true S k).2) else (S, ns)) := rfl
    rw [hs]
    by_cases e : sxI (stS S k) = true
    · rw [if_pos e]
      obtain ⟨⟨⟨a1, a2⟩, a3, a4⟩, a5⟩ := ih (k + 1) (setSx S k (tlK true S k).1) (ns ++ (tlK true S k).2)
      refine ⟨⟨⟨a1, a2⟩, a3, a4⟩, fun s => ?_⟩
      rw [a5]
      by_cases z : s = k
      · subst z
        rw [if_neg (by omega), if_pos ⟨Nat.le_refl _, by omega, e⟩, stS_set]
      · have h1 : stS (setSx S k (tlK true S k).1) s = stS S s := va_up_n _ _ z
        have h2 : tlK true (setSx S k (tlK true S k).1) s = tlK true S s := by
          show tlS true (nI s) (bof (setSx S k (tlK true S k).1) (sxB (stS (setSx S k (tlK true S k).1) s))) (stS (setSx S k (tlK true S k).1) s) = _
          rw [h1]; rfl
        rw [h1, h2]
        by_cases y : k + 1 ≤ s ∧ s < k + 1 + n ∧ sxI (stS S s) = true
        · rw [if_pos y, if_pos ⟨by omega, by omega, y.2.2⟩]
        · rw [if_neg y, if_neg (fun w => y ⟨by omega, by omega, w.2.2⟩)]
    · rw [if_neg e]
      obtain ⟨a0, a5⟩ := ih (k + 1) S ns
      refine ⟨a0, fun s => ?_⟩
      rw [a5]
      by_cases y : k + 1 ≤ s ∧ s < k + 1 + n ∧ sxI (stS S s) = true
      · rw [if_pos y, if_pos ⟨by omega, by omega, y.2.2⟩]
      · rw [if_neg y, if_neg (fun w => y ⟨by
          rcases Nat.lt_or_ge k s with q | q
          · exact q
          · have : s = k := by omega
            rw [this] at w; exact absurd w.2.2 e, by omega, w.2.2⟩)]
/-- behind an act: boxes, numbers and the idle as they were; the idle are quiet -/
def idQ (S : St) : Prop := ∀ s, s < stM S → sxI (stS S s) = true → sxB (stS S s) ≠ -1 ∧ quiet (bof S (sxB (stS S s))) (stS S s)
def idB (S : St) : Prop := ∀ s, s < stM S → sxI (stS S s) = true → sxB (stS S s) ≠ -1
theorem tlI_idQ {c : Nat} {S : St} (ok : okS c S) (h : idB S) (ns : List Nt) : idQ (tlI (stM S) 0 (S, ns)).1 := by
  obtain ⟨⟨⟨a1, a2⟩, a3, a4⟩, a5⟩ := tlI_get (stM S) 0 S ns
  intro s hs hi
  rw [a2] at hs
  have ha := okS_asc ok hs
  have hbf : ∀ bx, bof (tlI (stM S) 0 (S, ns)).1 bx = bof S bx := fun bx => by unfold bof; rw [a1]
  rw [a5] at hi ⊢
  by_cases y : 0 ≤ s ∧ s < 0 + stM S ∧ sxI (stS S s) = true
  · rw [if_pos y]
    refine ⟨h s hs y.2.2, ?_⟩
    rw [hbf]
    exact tl_quiet ha (nI s) (stS S s)
  · rw [if_neg y] at hi
    exact absurd ⟨Nat.zero_le _, by omega, hi⟩ y
theorem idB.tell {S : St} (h : idB S) {k : Nat} {al : Bool} : idB (setSx S k (tlK al S k).1) := by
  intro s hs hi
  by_cases e : s = k
  · subst e
    rw [stS_set] at hi ⊢
    exact h s hs hi
  · have h1 : stS (setSx S k (tlK al S k).1) s = stS S s := va_up_n _ _ e
    rw [h1] at hi ⊢
    exact h s hs hi
theorem endS_idQ {c : Nat} {S : St} (ok : okS c S) (h : idB S) {k : Nat} (hk : k < stM S) (al : Bool) : idQ (endS al S k []).1 := tlI_idQ (S := setSx S k (tlK al S k).1) (ok.tell hk al) h.tell _
theorem idl_idQ {c : Nat} {S : St} (ok : okS c S) (h : idB S) : idQ (idl S).1 := tlI_idQ ok h []
/-- the session that acts, behind its act -/
theorem endS_k {c : Nat} {S : St} (ok : okS c S) {k : Nat} (hk : k < stM S) (al : Bool) : sxB (stS (endS al S k []).1 k) = sxB (stS S k) ∧ (∀ bx, bof (endS al S k []).1 bx = bof S bx) ∧
    (al = true → quiet (bof S (sxB (stS S k))) (stS (endS al S k []).1 k)) ∧ ∀ e ∈ sxE (stS (endS al S k []).1 k), chg (bof S (sxB (stS S k))) e = false := by
  obtain ⟨⟨⟨a1, a2⟩, a3, a4⟩, a5⟩ := tlI_get (stM S) 0 (setSx S k (tlK al S k).1) ([] ++ (tlK al S k).2)
  have ha := okS_asc ok hk
  have e5 : stS (endS al S k []).1 k = if 0 ≤ k ∧ k < 0 + stM S ∧ sxI (stS (setSx S k (tlK al S k).1) k) = true then (tlK true (setSx S k (tlK al S k).1) k).1 else stS (setSx S k (tlK al S k).1) k := a5 k
  have e6 : tlK true (setSx S k (tlK al S k).1) k = tlS true (nI k) (bof S (sxB (stS S k))) (tlK al S k).1 := by
    unfold tlK
    rw [stS_set]; rfl
  refine ⟨?_, fun bx => ?_, fun z => ?_, ?_⟩
  · rw [e5, e6, stS_set]
    split <;> rfl
  · have : stB (endS al S k []).1 = stB S := a1
    unfold bof; rw [this]
  · subst z
    rw [e5, e6, stS_set]
    split
    · exact tl_quiet ha (nI k) _
    · exact tl_quiet ha (nI k) _
  · rw [e5, e6, stS_set]
    split
    · exact fun e he => ((tl_quiet ha (nI k) _).1 e he).2
    · cases al with
      | true => exact fun e he => ((tl_quiet ha (nI k) _).1 e he).2
      | false => exact tlF_chg ha (nI k) _
/-- how many notices are the acting session's -/
theorem tlI_cnt {k : Nat} : ∀ (n j : Nat) (S : St) (ns : List Nt), j + n ≤ 4 → k < 4 → (j ≤ k → k < j + n → sxI (stS S k) = true → (tlK true S k).2 = []) → (tlI n j (S, ns)).2.countP (fun x => decide (n0 x = nI k)) = ns.countP (fun x => decide (n0 x = nI k)) := by
  intro n
  induction n with
  | zero => intro j S ns _ _ _; rfl
  | succ n ih =>
    intro j S ns h4 hk h
    have hs : tlI (n + 1) j (S, ns) = tlI n (j + 1) (if sxI (stS S j) = true then (setSx S j (tlK true S j).1, ns ++ (tlK true S j).2) else (S, ns)) := rfl
    rw [hs]
    by_cases e : sxI (stS S j) = true
    · rw [if_pos e]
      have z0 : (tlK true S j).2.countP (fun x => decide (n0 x = nI k)) = 0 := by
        by_cases z : j = k
        · subst z
          rw [h (Nat.le_refl _) (by omega) e]; rfl
        · refine cnt0 _ _ (fun x hx => ?_)
          rw [tlS_me true (nI j) _ _ x hx]
          exact decide_eq_false (fun w => z ((nI_eq (by omega) (by omega)).mp w))
      rw [ih (j + 1) _ _ (by omega) hk (fun j1 j2 hi => ?_), List.countP_append, z0, Nat.add_zero]
      have hne : k ≠ j := by omega
      have h1 : stS (setSx S j (tlK true S j).1) k = stS S k := va_up_n _ _ hne
      have h2 : tlK true (setSx S j (tlK true S j).1) k = tlK true S k := by
        show tlS true (nI k) (bof (setSx S j (tlK true S j).1) (sxB (stS (setSx S j (tlK true S j).1) k))) (stS (setSx S j (tlK true S j).1) k) = _
        rw [h1]; rfl
      rw [h2]
      rw [h1] at hi
      exact h (by omega) (by omega) hi
    · rw [if_neg e]
      exact ih (j + 1) S ns (by omega) hk (fun j1 j2 hi => h (by omega) (by omega) hi)
theorem endS_cnt {c : Nat} {S : St} (ok : okS c S) {k : Nat} (hk : k < stM S) : (endS true S k []).2.countP (fun x => decide (n0 x = nI k)) = (tlK true S k).2.length := by
  have h4 := ok.2.1.2
  have h := tlI_cnt (k := k) (stM S) 0 (setSx S k (tlK true S k).1) ([] ++ (tlK true S k).2) (by omega) (by omega) (fun _ _ hi => by
    have := trm_twice ok hk
    unfold trm at this
    rw [if_pos hi] at this
    exact List.length_eq_zero_iff.mp this)
  have h : (endS true S k []).2.countP (fun x => decide (n0 x = nI k)) = _ := h
  rw [h, List.nil_append]
  exact List.countP_eq_length.mpr (fun x hx => by rw [tlS_me true (nI k) _ _ x hx]; exact decide_eq_true rfl)
