/-! PURE, p53: the law takes the views of all sessions -/
def viA (M : Mem) (lo r m : Nat) (L : Nat → List Int32) : Prop := ∃ g : Nat → Nat, oA M r m g ∧ (∀ s, s < m → iA M (g s) (L s)) ∧ (∀ s t, s < m → t < m → g s = g t → s = t) ∧ (lo ≤ r ∧ r < M.2.1) ∧ ∀ s, s < m → lo ≤ g s ∧ g s < M.2.1
/-- the outer array, filled up to a session -/
def oP (M : Mem) (r m s : Nat) (g : Nat → Nat) : Prop := m ≤ 8 ∧ ∃ h : Nat → Option Nat, M.1 r = some (.inl (9, (m, .inr (.inr (.inr (.inr h)))))) ∧ ∀ t, t < s → h t = some (g t)
theorem oP.cg {M M' : Mem} {r m s : Nat} {g : Nat → Nat} (h : oP M r m s g) (e : M'.1 r = M.1 r) : oP M' r m s g := by
  obtain ⟨h1, f, h2, h3⟩ := h
  exact ⟨h1, f, by rw [e]; exact h2, h3⟩
theorem oP.L {M : Mem} {r m s : Nat} {g : Nat → Nat} (h : oP M r m s g) : aL M r = some (nI m) := by
  obtain ⟨-, f, h2, -⟩ := h
  unfold aL; rw [h2]; rfl
theorem oP.s {M : Mem} {r m s : Nat} {g : Nat → Nat} (h : oP M r m s g) (hs : s < m) (p : Nat) : ∃ M', sQ M 9 r (nI s) (some p) = some M' ∧ oP M' r m (s + 1) (va_up g s p) ∧ on1 M M' r := by
  obtain ⟨h1, f, h2, h3⟩ := h
  refine ⟨_, sQ_e h1 h2 hs p, ⟨h1, va_up f s (some p), mset_at _ _ _, fun t ht => ?_⟩, rfl, fun q hq => mset_ne M _ hq⟩
  by_cases e : t = s
  · rw [e, va_up_s, va_up_s]
  · rw [va_up_n _ _ e, va_up_n _ _ e]; exact h3 t (by omega)
theorem oP.g {M : Mem} {r m s : Nat} {g : Nat → Nat} (h : oP M r m s g) {t : Nat} (ht : t < s) (hm : t < m) : aQ M 9 r (nI t) = some (some (g t)) := by
  obtain ⟨h1, f, h2, h3⟩ := h
  unfold aQ; rw [h2]
  show (if (9 : Nat) = 9 ∧ inR (nI t) m = true then some (f (nI t).toNatClampNeg) else none) = _
  rw [if_pos ⟨rfl, inR_nx hm (by omega)⟩, nI_c (by omega), h3 t ht]
theorem eg_mapX (f : En → Int32) {es : List En} {k : Nat} (hk : k < es.length) : (es.map f).getD k 0 = f (eg es k) := by
  unfold eg
  rw [List.getD_eq_getElem?_getD, List.getD_eq_getElem?_getD, List.getElem?_map, List.getElem?_eq_getElem hk]
  rfl
def wht (w : Bool) (e : En) : Int32 := bif w then eT e else eU e
theorem q_wht {M : Mem} {I O : List Int32} {S : St} {K : Nat → St} {B : Nat → Bool} {C : Nat} {H : Nat → St} {N : List Nt} {E : Er} {c : Nat} (h : Cls M I O S K B C H N E) (ok : okS c S) {k : Nat} (hk : k < stM S) {n : Nat} (hn : n < (sxE (stS S k)).length) (w : Bool) :
    f_X11_entry 100 (nI k) (nI (n + 1)) (b2i w) M = some (.inl (wht w (eg (sxE (stS S k)) n)), M) := by
  have h5 := q_ent h ok hk hn
  cases w with
  | false => exact h5.1
  | true => exact h5.2.1
theorem cls_on {M M' : Mem} {I O : List Int32} {S : St} {K : Nat → St} {B : Nat → Bool} {C : Nat} {H : Nat → St} {N : List Nt} {E : Er} {p : Nat} (h : Cls M I O S K B C H N E) (o : on1 M M' p) (hp : 716 ≤ p) : Cls M' I O S K B C H N E :=
  h.sm (fun q q1 q2 => o.2 q (by omega))
section
variable {I O : List Int32} {S : St} {K : Nat → St} {B : Nat → Bool} {C : Nat} {H : Nat → St} {N : List Nt} {E : Er} {c : Nat}
theorem views_in (rc : Nat → Int32 → Nat → Int32 → Mem → Option ((Nat ⊕ String) × Mem)) (ok : okS c S) (w : Bool) {s r m p : Nat} {g : Nat → Nat} (hs : s < stM S) (hm : s < m) (hp : 716 ≤ p) (hg : g s = p) (hrp : r ≠ p) :
    ∀ (d k fu : Nat) (M : Mem) (l : List Int32), d + k = (sxE (stS S s)).length → d < fu → Cls M I O S K B C H N E → oP M r m (s + 1) g → iA M p l → l.length = (sxE (stS S s)).length → (∀ i, i < k → l.getD i 0 = ((sxE (stS S s)).map (wht w)).getD i 0) →
    ∃ M', f_L_views_31 rc fu 100 (b2i w) r (nI s) (nI k) M = rc 100 (b2i w) r (nI (s + 1)) M' ∧ iA M' p ((sxE (stS S s)).map (wht w)) ∧ on1 M M' p := by
  intro d
  induction d with
  | zero =>
    intro k fu M l hd hf h ho ha hl hi
    obtain ⟨fu, rfl⟩ : ∃ x, fu = x + 1 := ⟨fu - 1, by omega⟩
    have h64 := ha.1
    have e : l = (sxE (stS S s)).map (wht w) := ext_getD (by rw [hl, List.length_map]) (fun i hi' => hi i (by omega))
    refine ⟨M, ?_, by rw [← e]; exact ha, rfl, fun _ _ => rfl⟩
    simp only [f_L_views_31, ho.g (show s < s + 1 by omega) hm, hg, ha.L, bso, f_L_views_62, nI_1]
    rw [if_pos (by rw [leT rfl rfl (show l.length ≤ k by omega) (by omega)]; trivial)]
  | succ d ih =>
    intro k fu M l hd hf h ho ha hl hi
    obtain ⟨fu, rfl⟩ : ∃ x, fu = x + 1 := ⟨fu - 1, by omega⟩
    have h64 := ha.1
    have hk : k < l.length := by omega
    have hke : k < (sxE (stS S s)).length := by omega
    obtain ⟨M1, e1, a1, o1⟩ := ha.s hk (wht w (eg (sxE (stS S s)) k))
    obtain ⟨M', e', a', o'⟩ := ih (k + 1) fu M1 (l.set k (wht w (eg (sxE (stS S s)) k))) (by omega) (by omega) (cls_on h o1 hp) (ho.cg (o1.2 r hrp)) a1 (by rw [List.length_set]; exact hl) (fun i hi' => by
      rw [set_getDx l k i _ hk]
      by_cases e : i = k
      · rw [if_pos e, e, eg_mapX _ hke]
      · rw [if_neg e]; exact hi i (by omega))
    refine ⟨M', ?_, a', o1.trans o'⟩
    simp only [f_L_views_31, ho.g (show s < s + 1 by omega) hm, hg, ha.L, bso]
    rw [if_neg (by rw [leF rfl rfl hk (by omega)]; exact id)]
    simp only [nI_1, q_wht h ok hs hke w, bX, bso, e1]
    exact e'
theorem views_out (ok : okS c S) (w : Bool) {r : Nat} (hr : 716 ≤ r) :
    ∀ (d s fu : Nat) (M : Mem) (g : Nat → Nat), d + s = stM S → d < fu → Cls M I O S K B C H N E → oP M r (stM S) s g → M.2.1 ≠ 0 → r < M.2.1 → (∀ t, t < s → (iA M (g t) ((sxE (stS S t)).map (wht w)) ∧ r < g t ∧ g t < M.2.1) ∧ ∀ t', t' < t → g t' < g t) →
    ∃ M' g', f_L_views_11 fu 100 (b2i w) r (nI s) M = some (.inl r, M') ∧ oP M' r (stM S) (stM S) g' ∧ M'.2.2 = M.2.2 ∧ M.2.1 ≤ M'.2.1 ∧ (∀ q, q < M.2.1 → q ≠ r → M'.1 q = M.1 q) ∧ ∀ t, t < stM S → (iA M' (g' t) ((sxE (stS S t)).map (wht w)) ∧ r < g' t ∧ g' t < M'.2.1) ∧ ∀ t', t' < t → g' t' < g' t := by
  intro d
  induction d with
  | zero =>
    intro s fu M g hd hf h ho h0 hrn hg
    obtain ⟨fu, rfl⟩ : ∃ x, fu = x + 1 := ⟨fu - 1, by omega⟩
    have h4 := ok.2.1.2
    obtain rfl : s = stM S := by omega
    refine ⟨M, g, ?_, ho, rfl, Nat.le_refl _, fun _ _ _ => rfl, hg⟩
    simp only [f_L_views_11, ho.L, bso]
    rw [if_pos (by rw [leT rfl rfl (Nat.le_refl (stM S)) (by omega)]; trivial)]
  | succ d ih =>
    intro s fu M g hd hf h ho h0 hrn hg
    obtain ⟨fu, rfl⟩ : ∃ x, fu = x + 1 := ⟨fu - 1, by omega⟩
    have h4 := ok.2.1.2
    have hs : s < stM S := by omega
    have hl : (sxE (stS S s)).length ≤ 60 := (ok.2.2.2 s hs).2.2.1
    have q3 := (q_ses h ok hs).2.2.2.1
    obtain ⟨n, hn⟩ : ∃ n, n = M.2.1 := ⟨_, rfl⟩
    obtain ⟨M1, hM1⟩ : ∃ M1, M1 = mnew M (.inl (0, ((sxE (stS S s)).length, .inl (fun _ => 0)))) := ⟨_, rfl⟩
    have a1 : iA M1 n (List.replicate (sxE (stS S s)).length 0) := by rw [hM1, hn]; exact iA_new (by omega)
    have n1 : ∀ q, q ≠ n → M1.1 q = M.1 q := fun q hq => by rw [hM1]; exact mnew_ne _ (by rw [← hn]; exact hq)
    have c1 : Cls M1 I O S K B C H N E := h.sm (fun q q1 q2 => n1 q (by omega))
    obtain ⟨M2, e2, o2, n2⟩ := (ho.cg (M' := M1) (n1 r (by omega))).s hs n
    have c2 : Cls M2 I O S K B C H N E := cls_on c1 n2 hr
    have a2 : iA M2 n (List.replicate (sxE (stS S s)).length 0) := a1.on n2 (by omega)
    obtain ⟨M3, e3, a3, n3⟩ := views_in (f_L_views_11 fu) ok w (r := r) (m := stM S) (p := n) (g := va_up g s n) hs hs (by omega) (va_up_s _ _ _) (by omega) (sxE (stS S s)).length 0 61 M2 _ (by omega) (by omega) c2 o2 a2 (by rw [List.length_replicate]) (fun i hi => absurd hi (Nat.not_lt_zero i))
    have hM3 : M3.2.1 = n + 1 := by rw [n3.1, n2.1, hM1, hn]; rfl
    have hk3 : ∀ q, q ≠ n → q ≠ r → M3.1 q = M.1 q := fun q q1 q2 => (n3.2 q q1).trans ((n2.2 q q2).trans (n1 q q1))
    obtain ⟨M', g', e', o', w', l', k', z'⟩ := ih (s + 1) fu M3 (va_up g s n) (by omega) (by omega) (cls_on c2 n3 (by omega)) (o2.cg (n3.2 r (by omega))) (by rw [hM3]; omega) (by rw [hM3]; omega) (fun t ht => by
      by_cases e : t = s
      · subst e
        rw [va_up_s]
        refine ⟨⟨a3, by omega, by rw [hM3]; omega⟩, fun t' ht' => ?_⟩
        rw [va_up_n _ _ (show t' ≠ t by omega), hn]
        exact (hg t' ht').1.2.2
      · rw [va_up_n _ _ e]
        obtain ⟨⟨b1, b2, b3⟩, b4⟩ := hg t (by omega)
        refine ⟨⟨b1.cg (hk3 _ (by omega) (by omega)), b2, by rw [hM3]; omega⟩, fun t' ht' => ?_⟩
        rw [va_up_n _ _ (show t' ≠ s by omega)]
        exact b4 t' ht')
    refine ⟨M', g', ?_, o', w'.trans (by rw [n3.1, n2.1, hM1]; rfl), by omega, fun q q1 q2 => (k' q (by omega) q2).trans (hk3 q (by omega) q2), z'⟩
    have e2' : sQ M1 9 r (nI s) (some n) = some M2 := e2
    have hal : alc M = some n := by rw [alc_e h0, hn]
    simp only [f_L_views_11, ho.L, bso]
    rw [if_neg (by rw [leF rfl rfl hs (by omega)]; exact id)]
    simp only [q3, bX, bso, okN_n (show (sxE (stS S s)).length ≤ 64 by omega) (show (sxE (stS S s)).length < 2 ^ 31 by omega), gd, cond_true, hal, nI_c (show (sxE (stS S s)).length < 2 ^ 31 by omega), ← hM1, a1.I, e2']
    rw [← e']
    exact e3
theorem views_e {M : Mem} (h : Cls M I O S K B C H N E) (ok : okS c S) (w : Bool) (hn : 716 ≤ M.2.1) :
    ∃ M', f_L_views 100 (b2i w) M = some (.inl M.2.1, M') ∧ viA M' M.2.1 M.2.1 (stM S) (fun s => (sxE (stS S s)).map (wht w)) ∧ M'.2.2 = M.2.2 ∧ M.2.1 ≤ M'.2.1 ∧ (∀ q, q < M.2.1 → M'.1 q = M.1 q) := by
  have h4 := ok.2.1.2
  obtain ⟨n, hn'⟩ : ∃ n, n = M.2.1 := ⟨_, rfl⟩
  obtain ⟨M1, hM1⟩ : ∃ M1, M1 = mnew M (.inl (9, (stM S, .inr (.inr (.inr (.inr (fun _ => none))))))) := ⟨_, rfl⟩
  have n1 : ∀ q, q ≠ n → M1.1 q = M.1 q := fun q hq => by rw [hM1]; exact mnew_ne _ (by rw [← hn']; exact hq)
  have z1 : M1.1 n = some (.inl (9, (stM S, .inr (.inr (.inr (.inr (fun _ => none))))))) := by rw [hM1, hn']; exact if_pos rfl
  have hM12 : M1.2 = (n + 1, M.2.2) := by rw [hM1, hn']; rfl
  obtain ⟨M', g', e', o', w', l', k', z'⟩ := views_out (I := I) (O := O) (K := K) (B := B) (C := C) (H := H) (N := N) (E := E) ok w (r := n) (by omega) (stM S) 0 5 M1 (fun _ => 0) (by omega) (by omega) (h.sm (fun q q1 q2 => n1 q (by omega))) ⟨by omega, _, z1, fun t ht => absurd ht (Nat.not_lt_zero t)⟩ (by rw [hM12]; show n + 1 ≠ 0; omega) (by rw [hM12]; show n < n + 1; omega) (fun t ht => absurd ht (Nat.not_lt_zero t))
  rw [hM12] at w' l' k'
  have l' : n + 1 ≤ M'.2.1 := l'
  have q1 := q_prop1 h
  rw [← hn']
  refine ⟨M', ?_, ⟨g', ⟨by omega, o'.2⟩, fun s hs => (z' s hs).1.1, fun s t hs ht e => ?_, ⟨Nat.le_refl _, by omega⟩, fun s hs => ⟨Nat.le_of_lt (z' s hs).1.2.1, (z' s hs).1.2.2⟩⟩, w', by omega, fun q hq => (k' q (show q < n + 1 by omega) (by omega)).trans (n1 q (by omega))⟩
  · have hal : alc M = some n := by rw [alc_e (by omega), hn']
    simp only [f_L_views, q1, bX, bso, okN_n (show stM S ≤ 8 by omega) (show stM S < 2 ^ 31 by omega), gd, cond_true, hal, nI_c (show stM S < 2 ^ 31 by omega), ← hM1]
    exact e'
  · rcases Nat.lt_trichotomy s t with z | z | z
    · have := (z' t ht).2 s z; omega
    · exact z
    · have := (z' s hs).2 t z; omega
end
