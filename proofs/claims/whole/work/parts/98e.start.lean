/-! FROM THE LAW'S WALK TO THE CLAIM -/
theorem law_fin {p : Program} {e : Env} {s : State} {m : MethodId} {below : List Frame} {meth : Method} {c : Code} {G : Gx} {b : Nat} {ls : Array Slot} {H : Heap} {x : Bool × Mem} (hGs : G.s = s) (hx : x.1 = true)
    (h : W p G.l e room_1 s m #[Value.ref b] below meth c H [] 0 0 (vx_MQ below (QcV G (wZ x)) (XcV G (wZ x)) #[Value.ref b] s 601024 7293033 G.A) (F0 m 0 ls [])) : W p G.l e room_1 s m #[Value.ref b] below meth c H [] 0 0 (lw_Z below #[Value.ref b] s) (F0 m 0 ls []) := by
  intro T hT X
  obtain ⟨t, a1, o, b1, b2, b3⟩ := h T hT X
  refine ⟨t, a1, o, b1, b2, ?_⟩
  rcases b3 with ⟨⟨⟨v, hv, ho⟩, hW, hF⟩, locs, ⟨f1, f2, f3⟩, f4⟩ | ⟨q, hq, E, ce, locs, ⟨g1, g2⟩, g3⟩
  · have hv1 : v = some (.int 1) := by
      have : (Sum.inl (some (.int (b2i x.1))) : Option Value ⊕ String) = .inl v := hv
      rw [hx] at this
      exact (Sum.inl.inj this).symm
    subst hv1
    refine ⟨ho, ?_⟩
    refine lw_closed (Drawn.sameBut.refl s.drawn lw_cs) ⟨_, ho⟩ f2 (f3.weaken (fun y hy hlt => ?_) (Nat.le_refl _) (Nat.le_refl _))
    exact absurd (f4 y hy) (Nat.not_le.mpr (by
      show y.base < G.s.heap.size
      rw [hGs]
      exact hlt))
  · cases g1
theorem start_of (hpure : PureLaw) {p : Program} {e : Env} {s : State} {m : MethodId} {below : List Frame} {meth : Method} {c : Code} (l : Launch) (hflags : l.flags = flags0) {b L : Nat} {xs : Nat → Int32} (hL : L ≤ 3584) (C0 : lw_At p s m meth c b L xs) : W p l e room_1 s m #[Value.ref b] below meth c s.heap [] 0 0 (lw_Z below #[Value.ref b] s) (entryFrame m ([Value.ref b] : List Value).toArray 9) := by
  obtain ⟨hx, hb, hr, hml, hown, hts, hX, hbl, hlocks, hgv⟩ := id C0
  obtain ⟨D, hD⟩ := st_D hts
  obtain ⟨ad, a42, ainj, aZ, aX⟩ := st_ad (P := fun q => s.heap.size ≤ q) (b := b) hts hgv (fun a h z => Nat.not_le.mpr h z)
  obtain ⟨G, hGe⟩ : ∃ G : Gx, G = (l, s, #[Value.ref b], D, ad) := ⟨_, rfl⟩
  have hGs : G.s = s := by rw [hGe]; rfl
  have hG : g_ok G := by rw [hGe]; exact ⟨hflags, hts, hD, hgv, trivial, ainj, aZ, aX⟩
  have F : frm G mi_L_law p s m #[Value.ref b] meth c := by
    rw [hGe]
    refine ⟨hx, hb, hml, hown, fun w hw => ?_, hr, hlocks, fun z => absurd rfl z, fun z => absurd rfl z, State.WarmedH.refl s, Nat.le_refl _, fun _ _ => rfl⟩
    rcases List.mem_cons.mp hw with rfl | hw
    · exact hts _ (List.mem_of_getElem? (i := 135) (by decide +kernel))
    · exact hts w (cr_Ut hw).1
  have hW : WR G s.heap (M0 L xs) := by
    rw [hGe]
    refine ⟨⟨Nat.le_refl _, fun _ _ => rfl, ?_⟩, fun _ => rfl, fun r c h => nomatch h⟩
    obtain ⟨scr, h1, h2, h3, h4, h5⟩ := hX
    subst h4
    refine ⟨scr, ?_, h2, h3, Nat.le_refl _, rfl, h5, fun z => ?_⟩
    · show s.heap[ad 42]? = some scr
      rw [a42]
      exact h1
    · have z : s.heap.size ≤ ad 42 := z
      rw [a42] at z
      omega
  have hl := lv_entry ([Value.ref b]) (n := 9) (Nat.le_of_ble_eq_true rfl)
  rw [lg_entry_eq]
  generalize (lg_sl ([Value.ref b]) ++ List.replicate (9 - (lg_sl ([Value.ref b])).length) Slot.unset).toArray = ls at hl ⊢
  have hl : lv_has ls 9 [(0, .ref b)] := hl
  have hl2 : lv_has ls mi_L_law.nL (([(0, .ref 42)] : List (Nat × Value)).map (cr_2 G.r)) := by
    have e : ([(0, .ref 42)] : List (Nat × Value)).map (cr_2 G.r) = [(0, .ref b)] := by
      show [(0, Value.ref (G.r 42))] = _
      rw [Gx.r_lo (by omega), hGe]
      show [(0, Value.ref (ad 42))] = _
      rw [a42]
    rw [e]
    exact hl
  obtain ⟨M1, hf⟩ := hpure L xs hL
  have hlG : G.l = l := by rw [hGe]; rfl
  have hV := v_L_law 42 (M0 L xs) _ hf G hG p e s m #[Value.ref b] below meth c s.heap [] ls F hW va_S.rf hl2
  have hF := law_fin hGs rfl hV
  rw [hlG] at hF
  exact hF
