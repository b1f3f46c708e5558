/-! THE END: from turn to turn, from the entry, to the claim -/
/-- of the end only the script is kept -/
def EM (Lx : Nat × (Nat → Int32)) : Mem := (fun _ => none, 0, Lx)
theorem V_fgt {Y : MI} {pc : Nat} {L : List (Nat × Value)} {st : List Value} {M M1 : Mem} {k n : Nat} {b : Bool} {Lx : Nat × (Nat → Int32)} (hx : M1.2.2 = Lx) (h : V Y pc L st M k n (some (b, M1)) wZ) : V Y pc L st M k n (some (b, EM Lx)) wZ := by
  intro a ha G hG p e s m args below meth c H locs ls F hW hS hl T hT X
  obtain ⟨t, a1, o, b1, b2, b3⟩ := h _ rfl G hG p e s m args below meth c H locs ls F hW hS hl T hT X
  cases ha
  refine ⟨t, a1, o, b1, b2, ?_⟩
  rcases b3 with ⟨⟨⟨v, hv, ho⟩, hW1, hF⟩, hrest⟩ | ⟨q, hq, E, ce, locs1, ⟨g1, g2⟩, g3⟩
  · refine .inl ⟨⟨⟨v, hv, ho⟩, ⟨⟨hW1.1.1, hW1.1.2.1, ?_⟩, fun z => absurd rfl z, fun r c hc => nomatch hc⟩, hF⟩, hrest⟩
    subst hx
    exact hW1.1.2.2
  · cases g1
/-- what a turn comes to -/
noncomputable def rcF (Lx : Nat × (Nat → Int32)) (t : Nat) : Nat → Nat → Int32 → Mem → Option (Bool × Mem) := fun l0 l1 k M => @ite _ (l0 = 42 ∧ l1 = 100 ∧ k = nI (50 + 6 * t) ∧ InvL t Lx M) (Classical.propDecidable _) (some (true, EM Lx)) none
theorem rcF_t {Lx : Nat × (Nat → Int32)} {t : Nat} {l0 l1 : Nat} {k : Int32} {M : Mem} (h : l0 = 42 ∧ l1 = 100 ∧ k = nI (50 + 6 * t) ∧ InvL t Lx M) : rcF Lx t l0 l1 k M = some (true, EM Lx) := if_pos h
theorem rcF_f {Lx : Nat × (Nat → Int32)} {t : Nat} {l0 l1 : Nat} {k : Int32} {M : Mem} (h : ¬ (l0 = 42 ∧ l1 = 100 ∧ k = nI (50 + 6 * t) ∧ InvL t Lx M)) : rcF Lx t l0 l1 k M = none := if_neg h
theorem law_out (rc : Nat → Nat → Int32 → Mem → Option (Bool × Mem)) (l0 l1 : Nat) (M : Mem) : f_L_law_21 rc l0 l1 (nI 182) M = some (true, M) := if_pos (by decide)
theorem V_rc {Lx : Nat × (Nat → Int32)} (hL : Lx.1 < 2 ^ 31) : ∀ (d t : Nat), t + d = 22 → ∀ (l0 l1 : Nat) (l2 : Int32) (M : Mem) (k n : Nat) (_ : kb 479432 3735806 20793 153878 (d + 1) k n), V mi_L_law 21 [(0, .ref l0), (1, .ref l1), (2, .int l2)] [] M k n (rcF Lx t l0 l1 l2 M) wZ := by
  intro d
  induction d with
  | zero =>
    intro t ht l0 l1 l2 M k n hb
    by_cases hc : l0 = 42 ∧ l1 = 100 ∧ l2 = nI (50 + 6 * t) ∧ InvL t Lx M
    · rw [rcF_t hc]
      obtain ⟨rfl, rfl, rfl, hI⟩ := hc
      obtain rfl : t = 22 := by omega
      have h := v_L_law_21 0 (fun _ _ _ _ => none) (fun _ _ _ _ _ _ _ => V_none) 42 100 (nI (50 + 6 * 22)) M k n hb
      rw [law_out] at h
      exact V_fgt hI.1 h
    · rw [rcF_f hc]
      exact V_none
  | succ d ih =>
    intro t ht l0 l1 l2 M k n hb
    by_cases hc : l0 = 42 ∧ l1 = 100 ∧ l2 = nI (50 + 6 * t) ∧ InvL t Lx M
    · rw [rcF_t hc]
      obtain ⟨rfl, rfl, rfl, hx, I, O, S, K, B, C, H, N, E, h, hr⟩ := hc
      refine V_any (B := 715) ⟨_, h.2.2.2.2.2.2.2.2.2.2.2.2.2⟩ (fun j hj => ?_)
      have hI' : InvL t Lx (M.1, j, M.2.2) := ⟨hx, I, O, S, K, B, C, H, N, E, h.sm (fun _ _ _ => rfl), hr⟩
      have e := law_turn (rc := rcF Lx (t + 1)) (X := (true, EM Lx)) (q := 50 + 6 * t) hL (fun M' h' => rcF_t ⟨rfl, rfl, by rw [show 50 + 6 * t + 6 = 50 + 6 * (t + 1) by omega], h'⟩) hI' (by show 716 ≤ j; omega) (by omega) (by omega)
      have hv := v_L_law_21 (d + 1) (rcF Lx (t + 1)) (ih (t + 1) (by omega)) 42 100 (nI (50 + 6 * t)) (M.1, j, M.2.2) k n hb
      rw [e] at hv
      exact hv
    · rw [rcF_f hc]
      exact V_none
theorem law_pure {L : Nat} {xs : Nat → Int32} (hL : L ≤ 260) : f_L_law (rcF (L, xs) 0) 42 (M0 L xs) = some (true, EM (L, xs)) := by
  have al : alc (M0 L xs) = some 100 := alc_e (M := M0 L xs) (show (100 : Nat) ≠ 0 by decide)
  obtain ⟨M3, e3, c3, o3, n3⟩ := X11_i (M := M0 L xs) (r := 100) rfl (by decide) rfl (fun _ => S00)
  obtain ⟨M5, e5, h5⟩ := load_e (Lx := (L, xs)) o3.1 (by show L < 2 ^ 31; omega) c3 (by show (0 : Nat) ≤ 700; omega) (fun q hq => by rw [o3.2 q (by omega)]; rfl) (by omega)
  simp only [f_L_law, al, bso, e3, bN, e5, cond_true]
  exact rcF_t ⟨rfl, rfl, by decide, h5⟩
/-! FROM THE LAW'S WALK TO THE CLAIM -/
theorem law_fin {p : Program} {e : Env} {s : State} {m : MethodId} {below : List Frame} {meth : Method} {c : Code} {G : Gx} {b : Nat} {ls : Array Slot} {H : Heap} {x : Bool × Mem} (hGs : G.s = s) (hx : x.1 = true)
    (h : W p G.l e room_1 s m #[Value.ref b] below meth c H [] 0 0 (vx_MQ below (QcV G (wZ x)) (XcV G (wZ x)) #[Value.ref b] s 600074 7301550 G.A) (F0 m 0 ls [])) : W p G.l e room_1 s m #[Value.ref b] below meth c H [] 0 0 (lw_Z below #[Value.ref b] s) (F0 m 0 ls []) := by
  intro T hT X
  obtain ⟨t, a1, o, b1, b2, b3⟩ := h T hT X
  refine ⟨t, a1, o, b1, b2, ?_⟩
  rcases b3 with ⟨⟨⟨v, hv, ho⟩, hW, hF⟩, locs, ⟨f1, f2, f3⟩, f4⟩ | ⟨q, hq, E, ce, locs, ⟨g1, g2⟩, g3⟩
  · have hv1 : v = some (.int 1) := by
      have : (Sum.inl (some (.int (b2i x.1))) : Option Value ⊕ String) = .inl v := hv
      rw [hx] at this
      exact (Sum.inl.inj this).symm
    subst hv1
    refine ⟨ho, ⟨_, ho⟩, f2, f3.weaken (fun y hy hlt => ?_) (Nat.le_refl _) (Nat.le_refl _)⟩
    exact absurd (f4 y hy) (Nat.not_le.mpr (by
      show y.base < G.s.heap.size
      rw [hGs]
      exact hlt))
  · cases g1
/-- from the entry, for every script of at most 260 ints, the law comes to its end with true -/
theorem whole_start {p : Program} {e : Env} {s : State} {m : MethodId} {below : List Frame} {meth : Method} {c : Code} (l : Launch) (hflags : l.flags = flags0) {b L : Nat} {xs : Nat → Int32} (hL : L ≤ 260) (C0 : lw_At p s m meth c b L xs) : W p l e room_1 s m #[Value.ref b] below meth c s.heap [] 0 0 (lw_Z below #[Value.ref b] s) (entryFrame m ([Value.ref b] : List Value).toArray 14) := by
  obtain ⟨hx, hb, hr, hml, hown, hts, hX, hbl, hlocks, hgv⟩ := id C0
  obtain ⟨D, hD⟩ := st_D hts
  obtain ⟨ad, a42, ainj, aZ, aX⟩ := st_ad (P := fun q => s.heap.size ≤ q) (b := b) hts hgv (fun a h z => Nat.not_le.mpr h z)
  obtain ⟨G, hGe⟩ : ∃ G : Gx, G = (l, s, #[Value.ref b], D, ad) := ⟨_, rfl⟩
  have hGs : G.s = s := by rw [hGe]; rfl
  have hG : g_ok G := by rw [hGe]; exact ⟨hflags, hts, hD, hgv, trivial, ainj, aZ, aX⟩
  have F : frm G mi_L_law p s m #[Value.ref b] meth c := by
    rw [hGe]
    refine ⟨hx, hb, hml, hown, fun w hw => ?_, hr, hlocks, fun z => absurd rfl z, fun z => absurd rfl z, State.WarmedH.refl s, Nat.le_refl _, fun _ _ => rfl⟩
    rcases List.mem_cons.mp hw with rfl | hw
    · exact hts _ (cr_Ut ini_L).1
    · exact hts w (cr_Ut hw).1
  have hW : WR G s.heap (M0 L xs) := by
    rw [hGe]
    refine ⟨⟨Nat.le_refl _, fun _ _ => rfl, ?_⟩, fun _ => rfl, fun r c h => nomatch h⟩
    obtain ⟨scr, h1, h2, h3, h4, h5⟩ := hX
    subst h4
    refine ⟨scr, ?_, h2, h3, Nat.le_refl _, rfl, h5, fun z => ?_⟩
    · show s.heap[ad 42]? = some scr
      rw [a42]
      exact h1
    · have z : s.heap.size ≤ ad 42 := z
      rw [a42] at z
      omega
  have hl := lv_entry ([Value.ref b]) (n := 14) (Nat.le_of_ble_eq_true rfl)
  rw [lg_entry_eq]
  generalize (lg_sl ([Value.ref b]) ++ List.replicate (14 - (lg_sl ([Value.ref b])).length) Slot.unset).toArray = ls at hl ⊢
  have hl : lv_has ls 14 [(0, .ref b)] := hl
  have hl2 : lv_has ls mi_L_law.nL (([(0, .ref 42)] : List (Nat × Value)).map (cr_2 G.r)) := by
    have e : ([(0, .ref 42)] : List (Nat × Value)).map (cr_2 G.r) = [(0, .ref b)] := by
      show [(0, Value.ref (G.r 42))] = _
      rw [Gx.r_lo (by omega), hGe]
      show [(0, Value.ref (ad 42))] = _
      rw [a42]
    rw [e]
    exact hl
  have hlG : G.l = l := by rw [hGe]; rfl
  have hV := v_L_law (rcF (L, xs) 0) (V_rc (Lx := (L, xs)) (by show L < 2 ^ 31; omega) 22 0 rfl) 42 (M0 L xs) _ (law_pure hL) G hG p e s m #[Value.ref b] below meth c s.heap [] ls F hW va_S.rf hl2
  have hF := law_fin hGs rfl hV
  rw [hlG] at hF
  exact hF
