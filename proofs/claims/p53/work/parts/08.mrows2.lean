section VM2
variable {τ : Type} {Y : MI} {pc q : Nat} {L L' : List (Nat × Value)} {st : List Value} {M : Mem} {k n : Nat} {comp : Option τ} {emb : τ → Out}
theorem V_iastore {r : Nat} {i x : Int32} {cont : Mem → Option τ} (hd : decode Y.cc pc = .ok (.iastore, 1)) (hp : pc + 1 = q) (h : ∀ M1, V Y q L st M1 k n (cont M1) emb) : V Y pc L (.int x :: .int i :: .ref r :: st) M k n ((sI M 0 r i x).bind cont) emb := by
  subst hp
  refine V_bind fun M1 hx => ?_
  unfold sI at hx
  split at hx
  · rename_i t' nn f he
    split at hx
    · rename_i hc
      obtain ⟨rfl, hi⟩ := hc
      cases hx
      intro a ha G hG p e s m args below meth c H locs ls F hW hS hl'
      obtain ⟨cA, g1, g2⟩ := hW.arr he
      have g3 := g2 0 _ rfl
      have hK := F.Kt hG g1
      refine W.iast F.1 F.2.1 g3 ((hK.2 0 _ rfl).1 nn (fun j => .int (f j))) (fun z => by cases z) (by show ¬ (i < 0 ∨ (arrV _ _ _).slots.size ≤ _); rw [arrV_size]; exact inR_of hi) rfl rfl hd fun H1 e1 z oq => ?_
      refine h _ a ha G hG p e s m args below meth c H1 _ ls F (hW.set he ⟨cA, g1, ?_⟩ z oq) (hS.put z oq (Gx.r_A (hW.2.2 r _ he).1)) hl'
      show H1[G.r r]? = some (vp_cell _ _)
      rw [e1]
      show some ((vp_cell cA (nn, .inl f)).setSlot _ _) = some (vp_cell cA (nn, .inl (upd f i.toNatClampNeg x)))
      rw [vp_cell_i, vp_cell_i, arrV_store]
      congr 2
      funext j
      by_cases hj : j = i.toNatClampNeg
      · subst hj
        simp [updV, upd]
      · simp [updV, upd, hj]
    · cases hx
  · cases hx
theorem V_bastore {r : Nat} {i x : Int32} {cont : Mem → Option τ} (hd : decode Y.cc pc = .ok (.bastore, 1)) (hp : pc + 1 = q) (h : ∀ M1, V Y q L st M1 k n (cont M1) emb) : V Y pc L (.int x :: .int i :: .ref r :: st) M k n ((sI M 2 r i (vp_nar .byte x)).bind cont) emb := by
  subst hp
  refine V_bind fun M1 hx => ?_
  unfold sI at hx
  split at hx
  · rename_i t' nn f he
    split at hx
    · rename_i hc
      obtain ⟨rfl, hi⟩ := hc
      cases hx
      intro a ha G hG p e s m args below meth c H locs ls F hW hS hl'
      obtain ⟨cA, g1, g2⟩ := hW.arr he
      have g3 := g2 0 _ rfl
      have hK := F.Kt hG g1
      refine W.bast F.1 F.2.1 g3 ((hK.2 0 _ rfl).1 nn (fun j => .int (f j))) (fun z => by cases z) (by show ¬ (i < 0 ∨ (arrV _ _ _).slots.size ≤ _); rw [arrV_size]; exact inR_of hi) rfl rfl hd fun H1 e1 z oq => ?_
      refine h _ a ha G hG p e s m args below meth c H1 _ ls F (hW.set he ⟨cA, g1, ?_⟩ z oq) (hS.put z oq (Gx.r_A (hW.2.2 r _ he).1)) hl'
      show H1[G.r r]? = some (vp_cell _ _)
      rw [e1]
      show some ((vp_cell cA (nn, .inl f)).setSlot _ _) = some (vp_cell cA (nn, .inl (upd f i.toNatClampNeg (vp_nar .byte x))))
      rw [vp_cell_i, vp_cell_i, arrV_store]
      congr 2
      funext j
      by_cases hj : j = i.toNatClampNeg
      · subst hj
        simp [updV, upd, vp_nar]
        try rfl
      · simp [updV, upd, hj]
    · cases hx
  · cases hx
theorem V_zastore {r : Nat} {i : Int32} {x : Bool} {cont : Mem → Option τ} (hd : decode Y.cc pc = .ok (.bastore, 1)) (hp : pc + 1 = q) (h : ∀ M1, V Y q L st M1 k n (cont M1) emb) : V Y pc L (.int (b2i x) :: .int i :: .ref r :: st) M k n ((sI M 3 r i (b2i x)).bind cont) emb := by
  subst hp
  refine V_bind fun M1 hx => ?_
  unfold sI at hx
  split at hx
  · rename_i t' nn f he
    split at hx
    · rename_i hc
      obtain ⟨rfl, hi⟩ := hc
      cases hx
      intro a ha G hG p e s m args below meth c H locs ls F hW hS hl'
      obtain ⟨cA, g1, g2⟩ := hW.arr he
      have g3 := g2 0 _ rfl
      have hK := F.Kt hG g1
      refine W.zast F.1 F.2.1 g3 ((hK.2 0 _ rfl).1 nn (fun j => .int (f j))) (fun z => by cases z) (by show ¬ (i < 0 ∨ (arrV _ _ _).slots.size ≤ _); rw [arrV_size]; exact inR_of hi) rfl rfl hd fun H1 e1 z oq => ?_
      refine h _ a ha G hG p e s m args below meth c H1 _ ls F (hW.set he ⟨cA, g1, ?_⟩ z oq) (hS.put z oq (Gx.r_A (hW.2.2 r _ he).1)) hl'
      show H1[G.r r]? = some (vp_cell _ _)
      rw [e1]
      rw [nar_b2i]
      show some ((vp_cell cA (nn, .inl f)).setSlot _ _) = some (vp_cell cA (nn, .inl (upd f i.toNatClampNeg (b2i x))))
      rw [vp_cell_i, vp_cell_i, arrV_store]
      congr 2
      funext j
      by_cases hj : j = i.toNatClampNeg
      · subst hj
        simp [updV, upd]
      · simp [updV, upd, hj]
    · cases hx
  · cases hx
theorem V_lastore {r : Nat} {i : Int32} {x : Int64} {cont : Mem → Option τ} (hd : decode Y.cc pc = .ok (.lastore, 1)) (hp : pc + 1 = q) (h : ∀ M1, V Y q L st M1 k n (cont M1) emb) : V Y pc L (.long x :: .int i :: .ref r :: st) M k n ((sJ M 1 r i x).bind cont) emb := by
  subst hp
  refine V_bind fun M1 hx => ?_
  unfold sJ at hx
  split at hx
  · rename_i t' nn f he
    split at hx
    · rename_i hc
      obtain ⟨rfl, hi⟩ := hc
      cases hx
      intro a ha G hG p e s m args below meth c H locs ls F hW hS hl'
      obtain ⟨cA, g1, g2⟩ := hW.arr he
      have g3 := g2 0 _ rfl
      have hK := F.Kt hG g1
      refine W.last F.1 F.2.1 g3 ((hK.2 0 _ rfl).1 nn (fun j => .long (f j))) (fun z => by cases z) (by show ¬ (i < 0 ∨ (arrV _ _ _).slots.size ≤ _); rw [arrV_size]; exact inR_of hi) rfl rfl hd fun H1 e1 z oq => ?_
      refine h _ a ha G hG p e s m args below meth c H1 _ ls F (hW.set he ⟨cA, g1, ?_⟩ z oq) (hS.put z oq (Gx.r_A (hW.2.2 r _ he).1)) hl'
      show H1[G.r r]? = some (vp_cell _ _)
      rw [e1]
      show some ((arrV cA nn (fun j => .long (f j))).setSlot _ _) = some (arrV cA nn (fun j => .long (vp_updL f i.toNatClampNeg x j)))
      rw [arrV_store]
      congr 2
      funext j
      by_cases hj : j = i.toNatClampNeg
      · subst hj
        simp [updV, vp_updL]
      · simp [updV, vp_updL, hj]
    · cases hx
  · cases hx
theorem V_dastore {r : Nat} {i : Int32} {x : UInt64} {cont : Mem → Option τ} (hd : decode Y.cc pc = .ok (.dastore, 1)) (hp : pc + 1 = q) (h : ∀ M1, V Y q L st M1 k n (cont M1) emb) : V Y pc L (.double x :: .int i :: .ref r :: st) M k n ((sD M 4 r i x).bind cont) emb := by
  subst hp
  refine V_bind fun M1 hx => ?_
  unfold sD at hx
  split at hx
  · rename_i t' nn f he
    split at hx
    · rename_i hc
      obtain ⟨rfl, hi⟩ := hc
      cases hx
      intro a ha G hG p e s m args below meth c H locs ls F hW hS hl'
      obtain ⟨cA, g1, g2⟩ := hW.arr he
      have g3 := g2 0 _ rfl
      have hK := F.Kt hG g1
      refine W.dast F.1 F.2.1 g3 ((hK.2 0 _ rfl).1 nn (fun j => .double (f j))) (fun z => by cases z) (by show ¬ (i < 0 ∨ (arrV _ _ _).slots.size ≤ _); rw [arrV_size]; exact inR_of hi) rfl rfl hd fun H1 e1 z oq => ?_
      refine h _ a ha G hG p e s m args below meth c H1 _ ls F (hW.set he ⟨cA, g1, ?_⟩ z oq) (hS.put z oq (Gx.r_A (hW.2.2 r _ he).1)) hl'
      show H1[G.r r]? = some (vp_cell _ _)
      rw [e1]
      show some ((arrV cA nn (fun j => .double (f j))).setSlot _ _) = some (arrV cA nn (fun j => .double (vf_upd f i.toNatClampNeg x j)))
      rw [arrV_store]
      congr 2
      funext j
      by_cases hj : j = i.toNatClampNeg
      · subst hj
        simp [updV, vf_upd]
      · simp [updV, vf_upd, hj]
    · cases hx
  · cases hx
theorem V_ob {ci r : Nat} (h : ∀ fs, M.1 r = some (.inr (ci, fs)) → V Y pc L st M k n comp emb) : V Y pc L st M k n (ob M ci r comp) emb := by
  intro a ha
  obtain ⟨ho, ha⟩ := ob_of ha
  obtain ⟨fs, hv⟩ := isO_of ho
  exact h fs hv a ha
/-- an object of the class of the array's elements is stored -/
theorem V_aastore {r v t ci N : Nat} {C : String} {T : u_T} {i : Int32} {cont : Mem → Option τ} (hd : decode Y.cc pc = .ok (.aastore, 1)) (hp : pc + 1 = q) (ht : tyL t = .object C) (hc : vwCl[ci]? = some (C, T, N)) (h : ∀ M1, V Y q L st M1 k n (cont M1) emb) : V Y pc L (.ref v :: .int i :: .ref r :: st) M k n (ob M ci v ((sQ M t r i (some v)).bind cont)) emb := by
  subst hp
  refine V_ob fun fs hv => ?_
  refine V_bind fun M1 hx => ?_
  unfold sQ at hx
  split at hx
  · rename_i t' nn f he
    split at hx
    · rename_i hcc
      obtain ⟨rfl, hi⟩ := hcc
      cases hx
      intro a ha G hG p e s m args below meth c H locs ls F hW hS hl'
      obtain ⟨cA, g1, g2⟩ := hW.arr he
      have g3 := g2 0 _ rfl
      have hK := F.Kt hG g1
      have hK0 := hK
      have hvP := hW.obj hv
      obtain ⟨r', hr', cellV, v1, v2, v3, -⟩ := hvP 0 _ rfl
      have hr : r' = (C, T, N) := Option.some.inj (hr'.symm.trans hc)
      subst hr
      have hcls := (hK.1 ci _ hc).2
      have hRA := (hK.2 0 _ rfl).2
      dsimp only at hRA
      rw [ht] at hRA
      obtain ⟨kA, comp', k1, k2, k3, -⟩ := hRA
      have hcomp : comp' = G.D.1 ci := Option.some.inj (k3.symm.trans hcls.1)
      subst hcomp
      obtain ⟨kC, hkC, -⟩ := hcls.2
      have hin := inR_of hi
      refine W.aast F.1 F.2.1 g3 (fun q h => by cases h) (fun h => by cases h) k1 k2 rfl hkC ⟨fun z => hin (Or.inl z), by show _ < (arrV _ _ _).slots.size; rw [arrV_size]; exact Nat.not_le.mp fun z => hin (Or.inr z)⟩ v1 (fun q h => by rw [v3] at h; cases h) (by rw [v2]; exact hkC) (by rw [v2]; exact va_assign hcls) rfl rfl hd fun H1 e1 z oq => ?_
      refine h _ a ha G hG p e s m args below meth c H1 _ ls F (hW.set he ⟨cA, g1, ?_⟩ z oq) (hS.put z oq (Gx.r_A (hW.2.2 r _ he).1)) hl'
      show H1[G.r r]? = some (vp_cell _ _)
      rw [e1]
      show some ((vp_cell cA (nn, .inr (.inr (.inr (.inr (fun j => (f j).map G.r)))))).setSlot _ _) = some (vp_cell cA (nn, .inr (.inr (.inr (.inr (fun j => (va_up f i.toNatClampNeg (some v) j).map G.r))))))
      rw [vp_cell_q, vp_cell_q, arrV_store]
      congr 2
      funext j
      by_cases hj : j = i.toNatClampNeg
      · subst hj
        simp [updV, va_up, va_rf]
      · simp [updV, va_up, hj]
    · cases hx
  · cases hx
-- new cells
def mnew (M : Mem) (c : PC) : Mem := (fun j => if j = M.2.1 then some c else M.1 j, M.2.1 + 1, M.2.2)
theorem WR.top {G : Gx} {H : Heap} {M : Mem} (h : WR G H M) (hm : M.2.1 ≠ 0) : 100 ≤ M.2.1 ∧ G.r M.2.1 = H.size := by
  have h1 := h.1.1
  have h2 := h.2.1 hm
  have h3 : 100 ≤ M.2.1 := by omega
  exact ⟨h3, by rw [Gx.r_hi h3]; omega⟩
theorem WR.new {G : Gx} {H H1 : Heap} {M : Mem} {c : PC} (h : WR G H M) (hm : M.2.1 ≠ 0) (hc : cellAt G H1 H.size c) (hz : H1.size = H.size + 1) (oq : ∀ q, q < H.size → H1[q]? = H[q]?) : WR G H1 (mnew M c) := by
  have ht := h.top hm
  obtain ⟨⟨w1, w2, w5⟩, w3, w4⟩ := h
  have w3 := w3 hm
  refine ⟨⟨by omega, fun q hq => ?_, w5⟩, fun _ => by show G.b + (M.2.1 + 1) = _; omega, fun j e hj => ?_⟩
  · rw [oq q (by omega)]
    exact w2 q hq
  · unfold mnew at hj
    dsimp only at hj
    split at hj
    · rename_i h0
      subst h0
      cases hj
      exact ⟨ht.1, by rw [ht.2]; exact hc⟩
    · obtain ⟨g1, g2⟩ := w4 j e hj
      exact ⟨g1, g2.kept (oq _ g2.lt)⟩
/-- behind a throw nothing more is made -/
def mskip (M : Mem) : Mem := (M.1, 0, M.2.2)
theorem WR.skip {G : Gx} {H H1 : Heap} {M : Mem} (h : WR G H M) (hz : H.size ≤ H1.size) (oq : ∀ q, q < H.size → H1[q]? = H[q]?) : WR G H1 (mskip M) := by
  obtain ⟨⟨w1, w2, w5⟩, w3, w4⟩ := h
  refine ⟨⟨by omega, fun q hq => ?_, w5⟩, fun z => absurd rfl z, fun j e hj => ?_⟩
  · rw [oq q (by omega)]
    exact w2 q hq
  · obtain ⟨g1, g2⟩ := w4 j e hj
    exact ⟨g1, g2.kept (oq _ g2.lt)⟩
/-- the next new ref -/
def alc (M : Mem) : Option Nat := if M.2.1 = 0 then none else some M.2.1
theorem alc_of {M : Mem} {r : Nat} (h : alc M = some r) : M.2.1 ≠ 0 ∧ r = M.2.1 := by
  unfold alc at h
  split at h
  · cases h
  · rename_i h0; cases h; exact ⟨h0, rfl⟩
theorem va_S.grow {A : Nat → Prop} {H0 H H1 : Heap} {locs : List Loc} (h : va_S A H0 H locs) (hz : H.size ≤ H1.size) (oq : ∀ q, q < H.size → H1[q]? = H[q]?) : va_S A H0 H1 locs :=
  ⟨Nat.le_trans h.1 hz, fun q h1 h2 => (oq q (Nat.lt_of_lt_of_le h1 h.1)).trans (h.2.1 q h1 h2), h.2.2⟩
theorem V_new {cont : Nat → Option τ} {idx ci N : Nat} {C : String} {T : u_T} {fs : List Value} {ty : Nat → FieldType} (hd : decode Y.cc pc = .ok (.new idx, 3)) (hp : pc + 3 = q) (hc : vwCl[ci]? = some (C, T, N)) (hl : Cond.classLink Y.own idx C ∈ cr_U) (hin : Cond.instantiable C N ∈ cr_U) (hini : Cond.initialized C ∈ cr_U) (hty : ∀ k, k < N → parseFieldDescriptor (T k).2.2.1 = some (ty k)) (hfs : ∀ f : Nat → Nat, ∀ j, j < N → defaultValue (ty j) = vp_V (fs.map (cr_v f)) j)
    (hk : k + 1 ≤ Y.rm.cells ∧ n + N ≤ Y.rm.slots) (h : ∀ r, V Y q L (.ref r :: st) (mnew M (.inr (ci, fs))) (k + 1) (n + N) (cont r) emb) : V Y pc L st M k n ((alc M).bind cont) emb := by
  subst hp
  refine V_bind fun r hr => ?_
  obtain ⟨hm, rfl⟩ := alc_of hr
  have h := h M.2.1
  intro a ha G hG p e s m args below meth c H locs ls F hW hS hl'
  have hts := F.ws
  have hin' : ∀ w ∈ u_ws C T N, w ∈ Y.ws := fun w hw => ws_of (cls_in hc w hw)
  have hKn := (F.K hG).1 ci _ hc
  refine W.newcK F.1 F.2.1 F.own (F.U hl) (F.U hin) (F.U hini) rfl hd hk.1 hk.2 hKn.2.1 rfl fun H1 kC hkC e1 z1 o1 => ?_
  have h2 := h a ha G hG p e s m args below meth c H1 locs ls F (hW.new hm (c := .inr (ci, fs)) ⟨_, hc, (u_born ty hts hin' hKn hkC e1 hty).to (hfs G.r)⟩ z1 o1) (hS.grow (by omega) o1) hl'
  have e3 : (Value.ref M.2.1 :: st).map (cr_v G.r) = .ref H.size :: st.map (cr_v G.r) := by
    show Value.ref (G.r M.2.1) :: _ = _
    rw [(hW.top hm).2]
  rw [e3] at h2
  exact h2
theorem V_newarray {cont : Nat → Option τ} {atype : ArrayType} {i : Int32} {N t : Nat} {x : vp_A} (hd : decode Y.cc pc = .ok (.newarray atype, 2)) (hp : pc + 2 = q) (hty : newarray.typeOf atype = tyL t) (hl : Cond.arrayClass (newarray.typeOf atype) ∈ cr_U) (hi : ¬ i < 0) (hN : i.toNatClampNeg = N) (hb : N * componentBytes (newarray.typeOf atype) ≤ 536870912) (hx : ∀ (f : Nat → Nat) (cA : ClassId), vp_cell cA (cr_a f x) = arrV cA N (fun _ => defaultValue (newarray.typeOf atype))) (hRA : ∀ (U : State) (cA : ClassId), U.vm.findClass ("[" ++ (newarray.typeOf atype).toString) = some cA → va_RA U cA (tyL t))
    (hk : k + 1 ≤ Y.rm.cells ∧ n + N ≤ Y.rm.slots) (h : ∀ r, V Y q L (.ref r :: st) (mnew M (.inl (t, x))) (k + 1) (n + N) (cont r) emb) : V Y pc L (.int i :: st) M k n ((alc M).bind cont) emb := by
  subst hp
  refine V_bind fun r hr => ?_
  obtain ⟨hm, rfl⟩ := alc_of hr
  have h := h M.2.1
  intro a ha G hG p e s m args below meth c H locs ls F hW hS hl'
  refine va_newaK F.1 F.2.1 (F.U hl) rfl hd rfl hi hN hb hk.1 hk.2 rfl fun H1 cA e1 z1 o1 hAr hNm => ?_
  have hA0 : ArrOfT G.s cA (tyL t) := by
    rw [← hty]
    intro nn z
    exact State.isArrayOf_alike F.warm.alike.symm (hAr nn z)
  have hR0 : va_RA G.s cA (tyL t) := hRA _ _ (by rw [← F.warm.alike.findClass]; exact hNm)
  have h2 := h a ha G hG p e s m args below meth c H1 locs ls F (hW.new hm (c := .inl (t, x)) ⟨cA, ⟨hA0, hR0⟩, by show H1[H.size]? = some (vp_cell _ _); rw [hx]; exact e1⟩ z1 o1) (hS.grow (by omega) o1) hl'
  have e3 : (Value.ref M.2.1 :: st).map (cr_v G.r) = .ref H.size :: st.map (cr_v G.r) := by
    show Value.ref (G.r M.2.1) :: _ = _
    rw [(hW.top hm).2]
  rw [e3] at h2
  exact h2
theorem V_anewarray {cont : Nat → Option τ} {idx : Nat} {C : String} {i : Int32} {N t : Nat} (hd : decode Y.cc pc = .ok (.anewarray idx, 3)) (hp : pc + 3 = q) (ht : tyL t = .object C) (hl : Cond.classLink Y.own idx C ∈ cr_U) (hov : ∀ (G : Gx), g_ok G → ∀ U : State, G.s.WarmedH U.vm → va_AO C U) (hi : ¬ i < 0) (hN : i.toNatClampNeg = N) (hb : N * 4 ≤ 536870912)
    (hk : k + 1 ≤ Y.rm.cells ∧ n + N ≤ Y.rm.slots) (h : ∀ r, V Y q L (.ref r :: st) (mnew M (.inl (t, (N, .inr (.inr (.inr (.inr (fun _ => none)))))))) (k + 1) (n + N) (cont r) emb) : V Y pc L (.int i :: st) M k n ((alc M).bind cont) emb := by
  subst hp
  refine V_bind fun r hr => ?_
  obtain ⟨hm, rfl⟩ := alc_of hr
  have h := h M.2.1
  subst hN
  intro a ha G hG p e s m args below meth c H locs ls F hW hS hl'
  refine W.anew F.1 F.2.1 F.own (F.U hl) (va_AO.use (hov G hG s F.warm)) rfl hd rfl hi hb hk.1 hk.2 fun cA kA comp' f1 f2 f3 f4 => ?_
  generalize hH1 : H.push ({ cls := cA, slots := Array.replicate i.toNatClampNeg .null, vm := .none } : Cell) = H1
  have z1 : H1.size = H.size + 1 := by rw [← hH1, Array.size_push]
  have e1 : H1[H.size]? = some (arrV cA i.toNatClampNeg (fun _ => .null)) := by rw [← hH1, Array.getElem?_push_size, ← arrV_new]
  have o1 : ∀ q : Nat, q < H.size → H1[q]? = H[q]? := fun q hq => by rw [← hH1, Array.getElem?_push, if_neg (Nat.ne_of_lt hq)]
  have hAr : ArrOfT s cA (.object C) := fun N z => ⟨(fun k h => by cases h), kA, f2, comp', f3⟩
  have hRs : va_RA s cA (.object C) := ⟨kA, comp', f2, f3, f4, f1⟩
  have hA0 : ArrOfT G.s cA (tyL t) := by rw [ht]; exact arrOfT_moved F.warm.alike.symm hAr
  have hR0 : va_RA G.s cA (tyL t) := by rw [ht]; exact hRs.moved F.warm.alike.symm
  have h2 := h a ha G hG p e s m args below meth c H1 locs ls F (hW.new hm (c := .inl (t, (i.toNatClampNeg, .inr (.inr (.inr (.inr (fun _ => none))))))) ⟨cA, ⟨hA0, hR0⟩, by show H1[H.size]? = some (vp_cell _ _); rw [cr_a, vp_cell_q]; exact e1⟩ z1 o1) (hS.grow (by omega) o1) hl'
  have e3 : (Value.ref M.2.1 :: st).map (cr_v G.r) = .ref H.size :: st.map (cr_v G.r) := by
    show Value.ref (G.r M.2.1) :: _ = _
    rw [(hW.top hm).2]
  rw [e3] at h2
  exact h2
end VM2
