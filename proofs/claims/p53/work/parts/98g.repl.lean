/-! PURE, p53: the law puts the notices on the views, and looks whether the views are then as they are -/
def vwA (M : Mem) (r1 r2 m : Nat) (W : Nat → Vw) : Prop := ∃ g1 g2 : Nat → Nat, (oA M r1 m g1 ∧ oA M r2 m g2) ∧ (∀ s, s < m → iA M (g1 s) ((W s).map Prod.fst) ∧ iA M (g2 s) ((W s).map Prod.snd)) ∧ (∀ s t, s < m → t < m → g1 s ≠ g2 t) ∧ (∀ s t, s < m → t < m → g2 s = g2 t → s = t) ∧ r1 ≠ r2 ∧
  ((716 ≤ r1 ∧ r1 < M.2.1) ∧ (716 ≤ r2 ∧ r2 < M.2.1)) ∧ (∀ s, s < m → (716 ≤ g1 s ∧ g1 s < M.2.1) ∧ (716 ≤ g2 s ∧ g2 s < M.2.1))
theorem vwA.cg {M : Mem} {r1 r2 m : Nat} {W W' : Nat → Vw} (h : vwA M r1 r2 m W) (e : ∀ s, s < m → W' s = W s) : vwA M r1 r2 m W' := by
  obtain ⟨g1, g2, a, b, c⟩ := h
  exact ⟨g1, g2, a, fun s hs => by rw [e s hs]; exact b s hs, c⟩
theorem oi_ne {M : Mem} {r m q : Nat} {g : Nat → Nat} {l : List Int32} (h : oA M r m g) (k : iA M q l) : q ≠ r := by
  obtain ⟨-, f, h2, -⟩ := h
  obtain ⟨-, f', k2, -⟩ := k
  intro e
  rw [e, h2] at k2
  simp at k2
theorem va_up_if {α : Type} (f : Nat → α) (k : Nat) (v : α) (j : Nat) : va_up f k v j = if j = k then v else f j := by
  by_cases e : j = k
  · rw [if_pos e, e, va_up_s]
  · rw [if_neg e, va_up_n _ _ e]
theorem map_erase {α β : Type} (f : α → β) : ∀ (l : List α) (i : Nat), (l.eraseIdx i).map f = (l.map f).eraseIdx i := by
  intro l
  induction l with
  | nil => intro i; rfl
  | cons x t ih =>
    intro i
    cases i with
    | zero => rfl
    | succ i => show f x :: (t.eraseIdx i).map f = f x :: (t.map f).eraseIdx i; rw [ih]
/-- two rows are new -/
theorem vwA_put {M M' : Mem} {r1 r2 m s : Nat} {W : Nat → Vw} {V' : Vw} {g1 g2 : Nat → Nat} (hs : s < m) (ho : oA M r1 m g1 ∧ oA M r2 m g2) (hi : ∀ s, s < m → iA M (g1 s) ((W s).map Prod.fst) ∧ iA M (g2 s) ((W s).map Prod.snd)) (h12 : ∀ s t, s < m → t < m → g1 s ≠ g2 t) (h22 : ∀ s t, s < m → t < m → g2 s = g2 t → s = t) (hr : r1 ≠ r2)
    (hb : (716 ≤ r1 ∧ r1 < M.2.1) ∧ (716 ≤ r2 ∧ r2 < M.2.1)) (hg : ∀ s, s < m → (716 ≤ g1 s ∧ g1 s < M.2.1) ∧ (716 ≤ g2 s ∧ g2 s < M.2.1))
    (o1 : oA M' r1 m (va_up g1 s M.2.1)) (o2 : oA M' r2 m (va_up g2 s (M.2.1 + 1))) (a1 : iA M' M.2.1 (V'.map Prod.fst)) (a2 : iA M' (M.2.1 + 1) (V'.map Prod.snd)) (hn : M'.2.1 = M.2.1 + 2) (hk : ∀ q, q ≠ M.2.1 → q ≠ M.2.1 + 1 → q ≠ r1 → q ≠ r2 → M'.1 q = M.1 q) :
    vwA M' r1 r2 m (fun t => if t = s then V' else W t) := by
  refine ⟨_, _, ⟨o1, o2⟩, fun t ht => ?_, fun t u ht hu => ?_, fun t u ht hu => ?_, hr, ⟨⟨hb.1.1, by rw [hn]; omega⟩, ⟨hb.2.1, by rw [hn]; omega⟩⟩, fun t ht => ?_⟩
  · rw [va_up_if, va_up_if]
    by_cases e : t = s
    · rw [if_pos e, if_pos e]
      show iA M' M.2.1 (List.map Prod.fst (if t = s then V' else W t)) ∧ iA M' (M.2.1 + 1) (List.map Prod.snd (if t = s then V' else W t))
      rw [if_pos e]
      exact ⟨a1, a2⟩
    · rw [if_neg e, if_neg e]
      show iA M' (g1 t) (List.map Prod.fst (if t = s then V' else W t)) ∧ iA M' (g2 t) (List.map Prod.snd (if t = s then V' else W t))
      rw [if_neg e]
      have b := hg t ht
      have i := hi t ht
      exact ⟨i.1.cg (hk _ (by omega) (by omega) (oi_ne ho.1 i.1) (oi_ne ho.2 i.1)), i.2.cg (hk _ (by omega) (by omega) (oi_ne ho.1 i.2) (oi_ne ho.2 i.2))⟩
  · have b := hg t ht
    have b' := hg u hu
    have := h12 t u ht hu
    rw [va_up_if, va_up_if]
    split <;> split <;> omega
  · have b := hg t ht
    have b' := hg u hu
    rw [va_up_if, va_up_if]
    intro z
    split at z <;> split at z
    · omega
    · omega
    · omega
    · exact h22 t u ht hu z
  · have b := hg t ht
    rw [va_up_if, va_up_if, hn]
    split <;> omega
theorem apW_if {m s : Nat} (h4 : m ≤ 4) (hs : s < m) {W : Nat → Vw} {x : Nt} (hx : n0 x = nI s) : ∀ t, t < m → apW W x t = if t = s then apV (W s) x else W t := by
  intro t ht
  unfold apW
  by_cases e : t = s
  · rw [if_pos e, e, if_pos hx]
  · rw [if_neg e, if_neg (fun z => e ((nI_eq (by omega) (by omega)).mp (z.symm.trans hx)))]
theorem set_self {α : Type} (d : α) : ∀ (l : List α) (i : Nat), l.set i (l.getD i d) = l := by
  intro l
  induction l with
  | nil => intro i; rfl
  | cons x t ih =>
    intro i
    cases i with
    | zero => rfl
    | succ i =>
      show x :: t.set i ((x :: t).getD (i + 1) d) = x :: t
      have : (x :: t).getD (i + 1) d = t.getD i d := rfl
      rw [this, ih]
theorem map_set' {α β : Type} (f : α → β) : ∀ (l : List α) (i : Nat) (v : α), (l.set i v).map f = (l.map f).set i (f v) := by
  intro l
  induction l with
  | nil => intro i v; rfl
  | cons x t ih =>
    intro i v
    cases i with
    | zero => rfl
    | succ i => show f x :: (t.set i v).map f = f x :: (t.map f).set i (f v); rw [ih]
theorem getD_map' {α β : Type} (f : α → β) (d : α) : ∀ (l : List α) (i : Nat), f (l.getD i d) = (l.map f).getD i (f d) := by
  intro l
  induction l with
  | nil => intro i; rfl
  | cons x t ih =>
    intro i
    cases i with
    | zero => rfl
    | succ i => exact ih i
section
variable {I O : List Int32} {S : St} {K : Nat → St} {B : Nat → Bool} {C : Nat} {H : Nat → St} {N : List Nt} {E : Er}
theorem repl_step {M : Mem} {r1 r2 m s k fu : Nat} {W : Nat → Vw} (but : Int32) (si : Bool) (h4 : m ≤ 4) (h : Cls M I O S K B C H N E) (hk : k < N.length) (hW : vwA M r1 r2 m W) (hs : s < m) (hx : n0 (ng N k) = nI s) (ha : okAp (W s) (ng N k)) :
    ∃ M', f_L_replays_3 (fu + 1) 100 r1 r2 but si (nI k) M = f_L_replays_3 fu 100 r1 r2 but si (nI (k + 1)) M' ∧ Cls M' I O S K B C H N E ∧ vwA M' r1 r2 m (apW W (ng N k)) ∧ M'.2.2 = M.2.2 := by
  have l244 : N.length ≤ 244 := ntA.len h.n
  obtain ⟨g1, g2, ho, hi, h12, h22, hr, hb, hg⟩ := hW
  obtain ⟨q0, q1, q2, q3⟩ := q_note h hk
  have q4 := q_prop4 h
  obtain ⟨x, hxx⟩ : ∃ x, x = ng N k := ⟨_, rfl⟩
  rw [← hxx] at q0 q1 q2 q3 hx ha ⊢
  have hm0 : M.2.1 ≠ 0 := by omega
  have gs := hg s hs
  have is := hi s hs
  have hnk : ¬ nI N.length ≤ nI k := by rw [leF rfl rfl hk (by omega)]; exact id
  have hstart : ∀ R : Option ((Bool ⊕ String) × Mem), (if n1 x = 0 then
        (aQ M 9 r1 (nI s)).bind fun x35 => x35.bind fun r36 => (f_L_without r36 (n2 x - 1) M).bind fun (x37, M38) => gd (isI M38 x37) ((sQ M38 9 r1 (nI s) (some x37)).bind fun M39 => (aQ M39 9 r2 (nI s)).bind fun x40 => x40.bind fun r41 => (f_L_without r41 (n2 x - 1) M39).bind fun (x42, M43) => gd (isI M43 x42) ((sQ M43 9 r2 (nI s) (some x42)).bind fun M44 => f_L_replays_154 (f_L_replays_3 fu) 100 r1 r2 but si (nI k) M44))
      else if n1 x = 1 then
        (aQ M 9 r2 (nI s)).bind fun x45 => x45.bind fun r49 => (sI M 0 r49 (n2 x - 1) (n3 x)).bind fun M48 => f_L_replays_154 (f_L_replays_3 fu) 100 r1 r2 but si (nI k) M48
      else
        (aQ M 9 r1 (nI s)).bind fun x50 => x50.bind fun r52 => (aL M r52).bind fun x51 => if x51 < n2 x then (aQ M 9 r1 (nI s)).bind fun x53 => x53.bind fun r54 => (f_L_longer r54 (n2 x) M).bind fun (x55, M56) => gd (isI M56 x55) ((sQ M56 9 r1 (nI s) (some x55)).bind fun M57 => (aQ M57 9 r2 (nI s)).bind fun x58 => x58.bind fun r59 => (f_L_longer r59 (n2 x) M57).bind fun (x60, M61) => gd (isI M61 x60) ((sQ M61 9 r2 (nI s) (some x60)).bind fun M62 => f_L_replays_154 (f_L_replays_3 fu) 100 r1 r2 but si (nI k) M62)) else some (.inl false, M)) = R → f_L_replays_3 (fu + 1) 100 r1 r2 but si (nI k) M = R := by
    intro R e
    rw [← e]
    simp only [f_L_replays_3, q4, bX, bso]
    rw [if_neg hnk]
    simp only [q0, q1, q2, q3, hx, bX, bso]
  obtain ⟨hn2, hc⟩ := ha
  have hap := apW_if h4 hs (W := W) hx
  obtain ⟨len, hlen⟩ : ∃ len, len = (W s).length := ⟨_, rfl⟩
  have l1 : ((W s).map Prod.fst).length = len := by rw [List.length_map, hlen]
  have l2 : ((W s).map Prod.snd).length = len := by rw [List.length_map, hlen]
  rcases hc with ⟨hz, c1, c2, c3⟩ | ⟨z0, z1, c2, c3⟩
  · have hm1 : n2 x - 1 = nI (nn x - 1) := by rw [hn2, nI_sub1 (by rw [nn_id hn2]; exact c1), nn_id hn2]
    by_cases z0 : n1 x = 0
    · obtain ⟨M1, e1, a1, b1, k1⟩ := without_e (at' := nn x - 1) is.1 (by omega) hm0 (by rw [l1]; omega)
      have o1 : oA M1 r1 m g1 := ho.1.cg (k1 _ (by omega))
      obtain ⟨M2, e2, o2, n2'⟩ := o1.s hs M.2.1
      have a1' := a1.on n2' (by omega)
      have hM2 : M2.2.1 = M.2.1 + 1 := by rw [n2'.1, b1]
      have k2 : ∀ q, q ≠ M.2.1 → q ≠ r1 → M2.1 q = M.1 q := fun q q1 q2 => (n2'.2 q q2).trans (k1 q q1)
      have o2b : oA M2 r2 m g2 := ho.2.cg (k2 _ (by omega) (fun z => hr z.symm))
      have i2 : iA M2 (g2 s) ((W s).map Prod.snd) := is.2.cg (k2 _ (by omega) (oi_ne ho.1 is.2))
      obtain ⟨M3, e3, a3, b3, k3⟩ := without_e (at' := nn x - 1) i2 (by omega) (by omega) (by rw [l2]; omega)
      rw [hM2] at e3 a3 b3 k3
      obtain ⟨M4, e4, o4, n4⟩ := (o2b.cg (M' := M3) (k3 _ (by omega))).s hs (M.2.1 + 1)
      have o1f : oA M4 r1 m (va_up g1 s M.2.1) := (o2.cg (M' := M3) (k3 _ (by omega))).on n4 (fun z => hr z)
      have a1f : iA M4 M.2.1 (((W s).map Prod.fst).eraseIdx (nn x - 1)) := (a1'.cg (M' := M3) (k3 _ (by omega))).on n4 (by omega)
      have a3f := a3.on n4 (by omega)
      have hkk : ∀ q, q ≠ M.2.1 → q ≠ M.2.1 + 1 → q ≠ r1 → q ≠ r2 → M4.1 q = M.1 q := fun q w1 w2 w3 w4 => (n4.2 q w4).trans ((k3 q w2).trans (k2 q w1 w3))
      rw [← map_erase] at a1f a3f
      have hp := vwA_put hs ho hi h12 h22 hr hb hg o1f o4 a1f a3f (by rw [n4.1, b3]) hkk
      refine ⟨M4, hstart _ ?_, h.sm (fun q w1 w2 => hkk q (by omega) (by omega) (by omega) (by omega)), hp.cg (fun t ht => ?_), ?_⟩
      · rw [if_pos z0]
        have e1' : f_L_without (g1 s) (n2 x - 1) M = some (M.2.1, M1) := by rw [hm1]; exact e1
        have e3' : f_L_without (g2 s) (n2 x - 1) M2 = some (M.2.1 + 1, M3) := by rw [hm1]; exact e3
        simp only [ho.1.g hs, bso, e1', a1.I, gd, cond_true, e2, o2b.g hs, e3', a3.I, e4, f_L_replays_154, nI_1]
      · rw [hap t ht]
        show _ = if t = s then _ else _
        unfold apV
        rw [if_pos z0]
      · rw [n4.1, b3, n2'.1, b1]
    · have z1 : n1 x = 1 := hz.resolve_left z0
      obtain ⟨M1, e1, a1, o1⟩ := is.2.s (j := nn x - 1) (by rw [l2]; omega) (n3 x)
      have ne2 : ∀ t, t < m → t ≠ s → g2 t ≠ g2 s := fun t ht e z => e (h22 t s ht hs z)
      refine ⟨M1, hstart _ ?_, cls_on h o1 (by omega), ?_, by rw [o1.1]⟩
      · rw [if_neg z0, if_pos z1]
        have e1' : sI M 0 (g2 s) (n2 x - 1) (n3 x) = some M1 := by rw [hm1]; exact e1
        simp only [ho.2.g hs, bso, e1', f_L_replays_154, nI_1]
      · refine vwA.cg (W := fun t => if t = s then (W s).set (nn x - 1) (((W s).getD (nn x - 1) (0, 0)).1, n3 x) else W t) ⟨g1, g2, ⟨ho.1.on o1 (fun z => oi_ne ho.1 is.2 z.symm), ho.2.on o1 (fun z => oi_ne ho.2 is.2 z.symm)⟩, fun t ht => ?_, h12, h22, hr, by rw [o1.1]; exact hb, by rw [o1.1]; exact hg⟩ (fun t ht => ?_)
        · have it := hi t ht
          by_cases e : t = s
          · subst e
            show iA M1 (g1 t) (List.map Prod.fst (if t = t then _ else _)) ∧ iA M1 (g2 t) (List.map Prod.snd (if t = t then _ else _))
            rw [if_pos rfl, map_set', map_set']
            refine ⟨?_, a1⟩
            have : ((W t).map Prod.fst).set (nn x - 1) ((W t).getD (nn x - 1) (0, 0)).1 = (W t).map Prod.fst := by
              have e9 := getD_map' Prod.fst (0, 0) (W t) (nn x - 1)
              rw [e9]
              exact set_self _ _ _
            rw [this]
            exact it.1.on o1 (h12 t t ht ht)
          · show iA M1 (g1 t) (List.map Prod.fst (if t = s then _ else _)) ∧ iA M1 (g2 t) (List.map Prod.snd (if t = s then _ else _))
            rw [if_neg e]
            exact ⟨it.1.on o1 (h12 t s ht hs), it.2.on o1 (ne2 t ht e)⟩
        · rw [hap t ht]
          unfold apV
          rw [if_neg z0, if_pos z1]
  · obtain ⟨d, hd⟩ : ∃ d, nn x = len + d := ⟨nn x - len, by omega⟩
    have hn2' : n2 x = nI (len + d) := by rw [hn2, nn_id hn2, hd]
    obtain ⟨M1, e1, a1, b1, k1⟩ := longer_e (k := d) is.1 (by omega) hm0 (by rw [l1]; omega)
    have o1 : oA M1 r1 m g1 := ho.1.cg (k1 _ (by omega))
    obtain ⟨M2, e2, o2, n2'⟩ := o1.s hs M.2.1
    have a1' := a1.on n2' (by omega)
    have hM2 : M2.2.1 = M.2.1 + 1 := by rw [n2'.1, b1]
    have k2 : ∀ q, q ≠ M.2.1 → q ≠ r1 → M2.1 q = M.1 q := fun q q1 q2 => (n2'.2 q q2).trans (k1 q q1)
    have o2b : oA M2 r2 m g2 := ho.2.cg (k2 _ (by omega) (fun z => hr z.symm))
    have i2 : iA M2 (g2 s) ((W s).map Prod.snd) := is.2.cg (k2 _ (by omega) (oi_ne ho.1 is.2))
    obtain ⟨M3, e3, a3, b3, k3⟩ := longer_e (k := d) i2 (by omega) (by omega) (by rw [l2]; omega)
    rw [hM2] at e3 a3 b3 k3
    obtain ⟨M4, e4, o4, n4⟩ := (o2b.cg (M' := M3) (k3 _ (by omega))).s hs (M.2.1 + 1)
    have o1f : oA M4 r1 m (va_up g1 s M.2.1) := (o2.cg (M' := M3) (k3 _ (by omega))).on n4 (fun z => hr z)
    have a1f : iA M4 M.2.1 ((W s).map Prod.fst ++ List.replicate d (-1)) := (a1'.cg (M' := M3) (k3 _ (by omega))).on n4 (by omega)
    have a3f := a3.on n4 (by omega)
    have hkk : ∀ q, q ≠ M.2.1 → q ≠ M.2.1 + 1 → q ≠ r1 → q ≠ r2 → M4.1 q = M.1 q := fun q w1 w2 w3 w4 => (n4.2 q w4).trans ((k3 q w2).trans (k2 q w1 w3))
    have r1e : (W s ++ List.replicate d (-1, -1)).map Prod.fst = (W s).map Prod.fst ++ List.replicate d (-1) := by rw [List.map_append, List.map_replicate]
    have r2e : (W s ++ List.replicate d (-1, -1)).map Prod.snd = (W s).map Prod.snd ++ List.replicate d (-1) := by rw [List.map_append, List.map_replicate]
    rw [← r1e] at a1f
    rw [← r2e] at a3f
    have hp := vwA_put hs ho hi h12 h22 hr hb hg o1f o4 a1f a3f (by rw [n4.1, b3]) hkk
    refine ⟨M4, hstart _ ?_, h.sm (fun q w1 w2 => hkk q (by omega) (by omega) (by omega) (by omega)), hp.cg (fun t ht => ?_), ?_⟩
    · rw [if_neg z0, if_neg z1]
      rw [l1] at e1
      rw [l2] at e3
      have e1' : f_L_longer (g1 s) (n2 x) M = some (M.2.1, M1) := by rw [hn2']; exact e1
      have e3' : f_L_longer (g2 s) (n2 x) M2 = some (M.2.1 + 1, M3) := by rw [hn2']; exact e3
      have lt : nI ((W s).map Prod.fst).length < n2 x := by rw [hn2', l1, nI_ltI (by omega) (by omega)]; omega
      simp only [ho.1.g hs, bso, is.1.L]
      rw [if_pos lt]
      simp only [e1', bso, a1.I, gd, cond_true, e2, o2b.g hs, e3', a3.I, e4, f_L_replays_154, nI_1]
    · rw [hap t ht]
      unfold apV
      rw [if_neg z0, if_neg z1, ← hlen, show nn x - len = d by omega]
    · rw [n4.1, b3, n2'.1, b1]
theorem repl_loop {r1 r2 m : Nat} (but : Int32) (si : Bool) (h4 : m ≤ 4) : ∀ (d k fu : Nat) (M : Mem) (W : Nat → Vw), d + k = N.length → d < fu → Cls M I O S K B C H N E → vwA M r1 r2 m W → okWs m (N.drop k) W →
    ∃ M', f_L_replays_3 fu 100 r1 r2 but si (nI k) M = f_L_replays_160 100 r1 r2 but si M' ∧ Cls M' I O S K B C H N E ∧ vwA M' r1 r2 m (apWs (N.drop k) W) ∧ M'.2.2 = M.2.2 := by
  intro d
  induction d with
  | zero =>
    intro k fu M W hd hf h hW hk
    obtain ⟨fu, rfl⟩ : ∃ x, fu = x + 1 := ⟨fu - 1, by omega⟩
    have l244 : N.length ≤ 244 := ntA.len h.n
    refine ⟨M, ?_, h, ?_, rfl⟩
    · simp only [f_L_replays_3, q_prop4 h, bX, bso]
      rw [if_pos (by rw [leT rfl rfl (show N.length ≤ k by omega) (by omega)]; trivial)]
    · rw [List.drop_of_length_le (by omega)]; exact hW
  | succ d ih =>
    intro k fu M W hd hf h hW hk
    obtain ⟨fu, rfl⟩ : ∃ x, fu = x + 1 := ⟨fu - 1, by omega⟩
    have hkl : k < N.length := by omega
    have hdrop : N.drop k = ng N k :: N.drop (k + 1) := by
      rw [List.drop_eq_getElem_cons hkl]
      congr 1
      unfold ng
      rw [List.getD_eq_getElem?_getD, List.getElem?_eq_getElem hkl]; rfl
    rw [hdrop] at hk ⊢
    obtain ⟨⟨s, hs, hx, ha⟩, hk2⟩ := hk
    obtain ⟨M1, e1, h1, w1, z1⟩ := repl_step (fu := fu) but si h4 h hkl hW hs hx ha
    obtain ⟨M', e', h', w', z'⟩ := ih (k + 1) fu M1 _ (by omega) (by omega) h1 w1 hk2
    exact ⟨M', e1.trans e', h', w', z'.trans z1⟩
end
theorem f2_at {α β : Type} {R : α → β → Prop} {da : α} {db : β} : ∀ {y : List β} {x : List α}, F2 R x y → ∀ j, j < y.length → R (x.getD j da) (y.getD j db) := by
  intro y
  induction y with
  | nil => intro x _ j hj; exact absurd hj (Nat.not_lt_zero j)
  | cons b y ih =>
    intro x h j hj
    obtain ⟨a, t, rfl, h1, h2⟩ := f2_cr h
    cases j with
    | zero => exact h1
    | succ j => exact ih h2 j (by rw [List.length_cons] at hj; omega)
section
variable {I O : List Int32} {S : St} {K : Nat → St} {B : Nat → Bool} {C : Nat} {H : Nat → St} {N : List Nt} {E : Er} {c : Nat} {M : Mem} {r1 r2 : Nat} {W : Nat → Vw} {si : Bool}
theorem repl_row (rc : Nat → Nat → Nat → Int32 → Bool → Int32 → Mem → Option ((Bool ⊕ String) × Mem)) (but : Int32) (h : Cls M I O S K B C H N E) (ok : okS c S) (hW : vwA M r1 r2 (stM S) W) {s : Nat} (hs : s < stM S) (hf2 : F2 (vwM si) (W s) (sxE (stS S s))) :
    ∀ (d k fu : Nat), d + k = (sxE (stS S s)).length → d < fu → f_L_replays_202 rc fu 100 r1 r2 but si (nI s) (nI k) M = rc 100 r1 r2 but si (nI (s + 1)) M := by
  obtain ⟨g1, g2, ho, hi, h12, h22, hr, hb, hg⟩ := hW
  have is := hi s hs
  have hlen := f2_len hf2
  have hl : (sxE (stS S s)).length ≤ 60 := (ok.2.2.2 s hs).2.2.1
  have l1 : ((W s).map Prod.fst).length = (sxE (stS S s)).length := by rw [List.length_map, hlen]
  have l2 : ((W s).map Prod.snd).length = (sxE (stS S s)).length := by rw [List.length_map, hlen]
  intro d
  induction d with
  | zero =>
    intro k fu hd hf
    obtain ⟨fu, rfl⟩ : ∃ x, fu = x + 1 := ⟨fu - 1, by omega⟩
    simp only [f_L_replays_202, ho.1.g hs, bso, is.1.L, l1, f_L_replays_289, nI_1]
    rw [if_pos (by rw [leT rfl rfl (show (sxE (stS S s)).length ≤ k by omega) (by omega)]; trivial)]
  | succ d ih =>
    intro k fu hd hf
    obtain ⟨fu, rfl⟩ : ∃ x, fu = x + 1 := ⟨fu - 1, by omega⟩
    have hk : k < (sxE (stS S s)).length := by omega
    have hx := f2_at (da := (0, 0)) (db := (0, 0)) hf2 k hk
    have hx : vwM si ((W s).getD k (0, 0)) (eg (sxE (stS S s)) k) := hx
    have f1 : ((W s).map Prod.fst).getD k 0 = ((W s).getD k (0, 0)).1 := (getD_map' Prod.fst (0, 0) (W s) k).symm
    have f2 : ((W s).map Prod.snd).getD k 0 = ((W s).getD k (0, 0)).2 := (getD_map' Prod.snd (0, 0) (W s) k).symm
    have a1 : aI M 0 (g1 s) (nI k) = some ((W s).getD k (0, 0)).1 := by rw [is.1.g (by rw [l1]; exact hk), f1]
    have a2 : aI M 0 (g2 s) (nI k) = some ((W s).getD k (0, 0)).2 := by rw [is.2.g (by rw [l2]; exact hk), f2]
    obtain ⟨v, hv⟩ : ∃ v, v = (W s).getD k (0, 0) := ⟨_, rfl⟩
    rw [← hv] at hx a1 a2
    have q := q_ent h ok hs hk
    have hih := ih (k + 1) fu (by omega) (by omega)
    have fin : f_L_replays_245 rc (f_L_replays_202 rc fu) 100 r1 r2 but si (nI s) (nI k) M = rc 100 r1 r2 but si (nI (s + 1)) M := by
      cases si with
      | true =>
        simp only [f_L_replays_245, cond_true, f_L_replays_283, nI_1]
        exact hih
      | false =>
        simp only [f_L_replays_245, cond_false, ho.2.g hs, bso, a2, f_L_replays_283, nI_1]
        by_cases z : v.2 < 0
        · rw [if_pos z]; exact hih
        · rw [if_neg z]
          simp only [q.2.1, bX, bso, ho.2.g hs, a2]
          rw [if_pos (hx.2 rfl (Int32.not_lt.mp z)).symm]
          exact hih
    simp only [f_L_replays_202, ho.1.g hs, bso, is.1.L, l1]
    rw [if_neg (by rw [leF rfl rfl hk (by omega)]; exact id)]
    simp only [a1, bso]
    by_cases z : v.1 < 0
    · rw [if_pos z]; exact fin
    · rw [if_neg z]
      simp only [nI_1, q.1, bX, bso, ho.1.g hs, a1]
      rw [if_pos (hx.1 (Int32.not_lt.mp z)).symm]
      exact fin
theorem repl_chk {but : Int32} {bt : Nat} (h : Cls M I O S K B C H N E) (ok : okS c S) (hW : vwA M r1 r2 (stM S) W) (hR : RV si bt W S) (hbt : ∀ s, s < stM S → (nI s = but ↔ s = bt)) :
    ∀ (d s fu : Nat), d + s = stM S → d < fu → f_L_replays_163 fu 100 r1 r2 but si (nI s) M = some (.inl true, M) := by
  have h4 := ok.2.1.2
  intro d
  induction d with
  | zero =>
    intro s fu hd hf
    obtain ⟨fu, rfl⟩ : ∃ x, fu = x + 1 := ⟨fu - 1, by omega⟩
    simp only [f_L_replays_163, q_prop1 h, bX, bso]
    rw [if_pos (by rw [leT rfl rfl (show stM S ≤ s by omega) (by omega)]; trivial)]
  | succ d ih =>
    intro s fu hd hf
    obtain ⟨fu, rfl⟩ : ∃ x, fu = x + 1 := ⟨fu - 1, by omega⟩
    have hs : s < stM S := by omega
    have hih := ih (s + 1) fu (by omega) (by omega)
    simp only [f_L_replays_163, q_prop1 h, bX, bso]
    rw [if_neg (by rw [leF rfl rfl hs (by omega)]; exact id)]
    by_cases z : s = bt
    · rw [if_pos ((hbt s hs).mpr z)]
      simp only [f_L_replays_289, nI_1]
      exact hih
    · rw [if_neg (fun w => z ((hbt s hs).mp w))]
      have hf2 := hR s hs z
      have hrow := repl_row (f_L_replays_163 fu) but h ok hW hs hf2 (sxE (stS S s)).length 0 61 (by omega) (by have := (ok.2.2.2 s hs).2.2.1; omega)
      obtain ⟨g1, g2, ho, hi, -⟩ := hW
      have is := hi s hs
      have l1 : ((W s).map Prod.fst).length = (sxE (stS S s)).length := by rw [List.length_map, f2_len hf2]
      simp only [(q_ses h ok hs).2.2.2.1, bX, bso, ho.1.g hs, is.1.L, l1]
      rw [if_pos trivial]
      exact hrow.trans hih
end
theorem replays_e {I O : List Int32} {S : St} {K : Nat → St} {B : Nat → Bool} {C : Nat} {H : Nat → St} {N : List Nt} {E : Er} {c : Nat} {M : Mem} {r1 r2 : Nat} {W : Nat → Vw} {si : Bool} {but : Int32} {bt : Nat} (h : Cls M I O S K B C H N E) (ok : okS c S)
    (hW : vwA M r1 r2 (stM S) W) (hk : okWs (stM S) N W) (hR : RV si bt (apWs N W) S) (hbt : ∀ s, s < stM S → (nI s = but ↔ s = bt)) :
    ∃ M', f_L_replays 100 r1 r2 but si M = some (.inl true, M') ∧ Cls M' I O S K B C H N E ∧ M'.2.2 = M.2.2 := by
  have h4 := ok.2.1.2
  have l244 : N.length ≤ 244 := ntA.len h.n
  obtain ⟨M', e', h', w', z'⟩ := repl_loop but si h4 N.length 0 246 M W (by omega) (by omega) h hW hk
  refine ⟨M', ?_, h', z'⟩
  have := repl_chk h' ok w' hR hbt (stM S) 0 5 (by omega) (by omega)
  simp only [f_L_replays]
  exact e'.trans this
