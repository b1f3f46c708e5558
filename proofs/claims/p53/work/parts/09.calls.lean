section CALLS
variable {τ σ : Type} {Y Y2 : MI} {pc q : Nat} {L L' : List (Nat × Value)} {st : List Value} {M : Mem} {k n : Nat} {comp : Option τ} {emb : τ → Out}
/-- what is known of a method beside its room: its own words, its descriptor -/
def mOK (Y : MI) (np : Nat) : Prop := Y.hh = [] ∧ Y.w0 ∈ cr_U ∧ Cond.initialized Y.y.cls ∈ cr_U ∧ (Y.y.cls = Y.own ∧ plainFor Y.y = true) ∧ Y.y.cls ≠ "java/lang/invoke/MethodHandle" ∧ Y.y.cls ≠ "java/lang/invoke/VarHandle" ∧ (parseMethodDescriptor Y.y.desc).map (fun d => d.parameters.length) = some np
theorem w0_of {Y : MI} (h : Y.hh = []) : Y.w0 = .code Y.y Y.cc Y.nL Y.ret := by
  unfold MI.w0
  rw [h]
theorem ws_ofY {Y : MI} (h : Y.hh = []) : Y.ws = .code Y.y Y.cc Y.nL Y.ret :: cr_U := by
  unfold MI.ws
  rw [w0_of h]
theorem ws_inU {Y : MI} {np : Nat} (h : mOK Y np) : ∀ w ∈ Y.ws, w ∈ cr_U := by
  intro w hw
  rcases List.mem_cons.mp hw with rfl | hw
  · exact h.2.1
  · exact hw
def rmOK (Y Y2 : MI) (k n : Nat) : Prop := (Y2.rm.frames + 1 ≤ Y.rm.frames ∧ 8 + (Y2.nL + 11) + Y2.rm.locals ≤ Y.rm.locals) ∧ k + Y2.rm.cells ≤ Y.rm.cells ∧ n + Y2.rm.slots ≤ Y.rm.slots
theorem K_blind {G : Gx} {M : Mem} {av : List Value} : FrameBlind (va_Pc av (fun U => G.s.WarmedH U.vm ∧ WR G U.heap M)) := fun _ _ _ _ q => q
/-- behind a call: it returned, and the frame goes on -/
theorem V_run {f : Option σ} {emb2 : σ → Out} {cont : σ → Option τ} {stk : List Value} {free : Addr → Prop} {av : List Value} {idx : Nat}
    (hrun : ∀ x, f = some x → ∀ (G : Gx), g_ok G → ∀ (p : Program) (e : Env) (s : State) (m : MethodId) (args : Array Value) (below : List Frame) (meth : Method) (c : Code) (H : Heap) (locs : List Loc) (ls : Array Slot), frm G Y p s m args meth c → WR G H M → va_S G.A s.heap H locs → lv_has ls Y.nL (L.map (cr_2 G.r)) →
      vx_Run p G.l e Y.rm s m args below meth c H locs k n Y2.rm.cells Y2.rm.slots (F0 m pc ls (stk.map (cr_v G.r))) (st.map (cr_v G.r)) (QcV G (emb2 x) (av.map (cr_v G.r)).toArray) (XcV G (emb2 x)) G.A)
    (hret : ∀ x v M1, f = some x → emb2 x = (.inl v, M1) → V Y (pc + 3) L (v.toList ++ st) M1 (k + Y2.rm.cells) (n + Y2.rm.slots) (cont x) emb)
    (hthr : ∀ x E M1, f = some x → emb2 x = (.inr E, M1) → ∀ y, cont x = some y → Y.hh = [] ∧ emb y = (.inr E, M1) ∧ k + Y2.rm.cells ≤ Y.rm.cells ∧ n + Y2.rm.slots ≤ Y.rm.slots) : V Y pc L stk M k n (f.bind cont) emb := by
  intro a ha G hG p e s m args below meth c H locs ls F hW hS hl
  obtain ⟨x, hx, hcx⟩ := Option.bind_eq_some_iff.mp ha
  intro T hT X
  rcases hrun x hx G hG p e s m args below meth c H locs ls F hW hS hl T hT X with ⟨v, st₀, t, T', L9, h0, X', hL, e1, e2, ⟨⟨v', hv', hoc⟩, hW1, hF⟩, hst⟩ | ⟨q9, st₀, t, T', L9, E, ce, h0, X', hL, e1, e2, ⟨hE, hW1, hF⟩, hce, hcv, hcl, hst⟩
  · cases hoc
    have hk := vx_keep (A0 := G.A) h0 e1 hS (fun _ _ z => z) (fun _ z => z) hL hF
    have hh := hret x v' (emb2 x).2 hx (by rw [← hv'])
    obtain ⟨t2, a1, b1⟩ := hh a hcx G hG p e s m args below meth c T'.heap (locs ++ L9) ls F (by rw [e1]; exact hW1) hk.2.2 hl T' rfl X'
    refine ⟨t2, hst t2 ?_, b1⟩
    have e9 : (v'.toList ++ st).map (cr_v G.r) = (v'.map (cr_v G.r)).toList ++ st.map (cr_v G.r) := by
      rw [List.map_append]
      cases v' <;> rfl
    rw [e9] at a1
    exact a1
  · obtain ⟨g1, g2, g3, g4⟩ := hthr x E (emb2 x).2 hx (by rw [← hE]) a hcx
    have hk := vx_keep (A0 := G.A) h0 e1 hS (fun _ _ z => z) (fun _ z => z) hL hF
    have htab : ∀ x ∈ c.exceptionTable.toList, covers x pc = false := by
      rw [F.tab (lawH_ne g1), g1]
      intro x hx
      exact absurd hx (by simp [tableOf])
    have hF2 : va_F G.A s t := ⟨by rw [← e1]; exact hk.2.2.1, fun q h1 h2 => by rw [← e1]; exact hk.2.2.2.1 q h1 h2⟩
    obtain ⟨t2, a1, b1⟩ := vx_out (R := Y.rm) (Qc := QcV G (emb a)) (XC := XcV G (emb a)) (ls := ls) (rest := st.map (cr_v G.r)) htab F.locks (q := q9) (H := T'.heap) (by rw [e1]; exact hce) hcv hcl
      (fun t9 ht9 _ => ⟨by rw [g2], by rw [g2, ht9, e1]; exact hW1, ⟨by rw [ht9, e1]; exact hF2.1, fun q h1 h2 => by rw [ht9, e1]; exact hF2.2 q h1 h2⟩⟩) hk.2.2.2.2 g3 g4 T' rfl X'
    exact ⟨t2, hst.trans a1, b1⟩
/-- invokevirtual -/
theorem V_callV {f : Option σ} {emb2 : σ → Out} {cont : σ → Option τ} {As stk : List Value} {b ci idx np N : Nat} {C : String} {T : u_T}
    (hK : K Y2 (.ref b :: As) M f emb2) (hob : ∀ x, f = some x → isO M ci b = true) (hok : mOK Y2 np) (hin : Cond.instanceMethod Y2.y ∈ cr_U) (hsel : Cond.selects C Y2.y Y2.y ∈ cr_U) (hcls : Y2.y.cls = C) (hc : vwCl[ci]? = some (C, T, N)) (hl : Cond.methodLink Y.own idx Y2.y ∈ cr_U) (hrm : rmOK Y Y2 k n)
    (hd : decode Y.cc pc = .ok (.invokevirtual idx, 3)) (hp : pc + 3 = q) (hn : As.length = np) (hstk : stk = As.reverse ++ .ref b :: st) (hcat : (st.map fun v => v.category).sum ≤ 8)
    (hret : ∀ x v M1, f = some x → emb2 x = (.inl v, M1) → V Y q L (v.toList ++ st) M1 (k + Y2.rm.cells) (n + Y2.rm.slots) (cont x) emb)
    (hthr : ∀ x E M1, f = some x → emb2 x = (.inr E, M1) → ∀ y, cont x = some y → Y.hh = [] ∧ emb y = (.inr E, M1)) : V Y pc L stk M k n (f.bind cont) emb := by
  subst hp
  refine V_run (Y2 := Y2) (av := .ref b :: As) (idx := idx) (free := fun _ => True) (fun x hx G hG p e s m args below meth c H locs ls F hW hS hl' => ?_) hret (fun x E M1 h1 h2 y h3 => ⟨(hthr x E M1 h1 h2 y h3).1, (hthr x E M1 h1 h2 y h3).2, hrm.2.1, hrm.2.2⟩)
  obtain ⟨fs, hm⟩ := isO_of (hob x hx)
  have hKx := hK x hx G hG
  have hKn := F.K hG
  have hmap : (Value.ref b :: As).map (cr_v G.r) = .ref (G.r b) :: As.map (cr_v G.r) := rfl
  rw [hmap] at hKx ⊢
  have hgood : ∀ w ∈ wsV Y.own idx C Y2.y Y2.ws, w ∈ cr_U := by
    intro w hw
    unfold wsV at hw
    rcases List.mem_append.mp hw with hw | hw
    · simp only [List.mem_cons, List.not_mem_nil, or_false] at hw
      rcases hw with rfl | rfl | rfl | rfl
      · exact hl
      · exact hin
      · exact hsel
      · rw [← hcls]; exact hok.2.2.1
    · exact ws_inU hok w hw
  refine vx_runV (As := As.map (cr_v G.r)) (rest := st.map (cr_v G.r)) (n := np) (C := C) (cc := Y.cc) (nL := Y.nL) (own := Y.own) (Ts := Y.ws) ⟨F.1, F.2.1, F.2.2.1, F.own, F.ws⟩ hKx (cwV np F.ws (gin_of hgood) (ws_ofY hok.1) rfl rfl ⟨hcls, hok.2.2.2.2.1, hok.2.2.2.2.2.1, hok.2.2.2.2.2.2⟩ hrm.1)
    ⟨K_blind, va_recv hKn (hW.obj hm) (ci := ci) (q0 := 0) hc rfl, fun U hU hWm => ⟨rfl, State.WarmedH.trans F.warm hWm, by rw [hU]; exact hW⟩⟩ rfl (by rw [List.length_map]; exact hn) hl'.1 ?_ (lv_room ?_) hd hrm.2
  · show stk.map (cr_v G.r) = _
    rw [hstk, List.map_append, List.map_reverse]
    rfl
  · rw [List.map_map]
    have : (fun v : Value => v.category) ∘ cr_v G.r = fun v => v.category := funext fun v => cr_cat _ _
    rw [this]
    exact hcat
/-- invokestatic -/
theorem V_callS {f : Option σ} {emb2 : σ → Out} {cont : σ → Option τ} {As stk : List Value} {idx np : Nat}
    (hK : K Y2 As M f emb2) (hok : mOK Y2 np) (hin : Cond.static Y2.y ∈ cr_U) (hl : Cond.methodLink Y.own idx Y2.y ∈ cr_U) (hrm : rmOK Y Y2 k n)
    (hd : decode Y.cc pc = .ok (.invokestatic idx, 3)) (hp : pc + 3 = q) (hn : As.length = np) (hstk : stk = As.reverse ++ st) (hcat : (st.map fun v => v.category).sum ≤ 8)
    (hret : ∀ x v M1, f = some x → emb2 x = (.inl v, M1) → V Y q L (v.toList ++ st) M1 (k + Y2.rm.cells) (n + Y2.rm.slots) (cont x) emb)
    (hthr : ∀ x E M1, f = some x → emb2 x = (.inr E, M1) → ∀ y, cont x = some y → Y.hh = [] ∧ emb y = (.inr E, M1)) : V Y pc L stk M k n (f.bind cont) emb := by
  subst hp
  refine V_run (Y2 := Y2) (av := As) (idx := idx) (free := fun _ => True) (fun x hx G hG p e s m args below meth c H locs ls F hW hS hl' => ?_) hret (fun x E M1 h1 h2 y h3 => ⟨(hthr x E M1 h1 h2 y h3).1, (hthr x E M1 h1 h2 y h3).2, hrm.2.1, hrm.2.2⟩)
  have hKx := hK x hx G hG
  have hgood : ∀ w ∈ va_wsS Y.own idx Y2.y Y2.ws, w ∈ cr_U := by
    intro w hw
    unfold va_wsS at hw
    rcases List.mem_append.mp hw with hw | hw
    · simp only [List.mem_cons, List.not_mem_nil, or_false] at hw
      rcases hw with rfl | rfl | rfl
      · exact hl
      · exact hin
      · exact hok.2.2.1
    · exact ws_inU hok w hw
  refine vx_runS (As := As.map (cr_v G.r)) (rest := st.map (cr_v G.r)) (n := np) (cc := Y.cc) (nL := Y.nL) (own := Y.own) (Ts := Y.ws) ⟨F.1, F.2.1, F.2.2.1, F.own, F.ws⟩ hKx (va_cwS np F.ws (gin_of hgood) (ws_ofY hok.1) rfl rfl ⟨hok.2.2.2.2.1, hok.2.2.2.2.2.1, hok.2.2.2.2.2.2⟩ hrm.1)
    ⟨K_blind, fun U hU hWm => ⟨rfl, State.WarmedH.trans F.warm hWm, by rw [hU]; exact hW⟩⟩ rfl (by rw [List.length_map]; exact hn) hl'.1 ?_ (lv_room ?_) hd hrm.2
  · show stk.map (cr_v G.r) = _
    rw [hstk, List.map_append, List.map_reverse]
  · rw [List.map_map]
    have : (fun v : Value => v.category) ∘ cr_v G.r = fun v => v.category := funext fun v => cr_cat _ _
    rw [this]
    exact hcat
/-- invokespecial of a constructor -/
theorem V_callI {f : Option σ} {emb2 : σ → Out} {cont : σ → Option τ} {As stk : List Value} {b idx np : Nat}
    (hK : K Y2 (.ref b :: As) M f emb2) (hok : mOK Y2 np) (hin : Cond.instanceMethod Y2.y ∈ cr_U) (hl : Cond.methodLink Y.own idx Y2.y ∈ cr_U) (hrm : rmOK Y Y2 k n) (hret0 : Y2.ret = none) (hnm : Y2.y.name = "<init>")
    (hd : decode Y.cc pc = .ok (.invokespecial idx, 3)) (hp : pc + 3 = q) (hn : As.length = np) (hstk : stk = As.reverse ++ .ref b :: st) (hcat : (st.map fun v => v.category).sum ≤ 8)
    (hret : ∀ x v M1, f = some x → emb2 x = (.inl v, M1) → V Y q L (v.toList ++ st) M1 (k + Y2.rm.cells) (n + Y2.rm.slots) (cont x) emb)
    (hthr : ∀ x E M1, f = some x → emb2 x = (.inr E, M1) → ∀ y, cont x = some y → Y.hh = [] ∧ emb y = (.inr E, M1)) : V Y pc L stk M k n (f.bind cont) emb := by
  subst hp
  refine V_run (Y2 := Y2) (av := .ref b :: As) (idx := idx) (free := fun _ => True) (fun x hx G hG p e s m args below meth c H locs ls F hW hS hl' => ?_) hret (fun x E M1 h1 h2 y h3 => ⟨(hthr x E M1 h1 h2 y h3).1, (hthr x E M1 h1 h2 y h3).2, hrm.2.1, hrm.2.2⟩)
  have hKx := hK x hx G hG
  have hmap : (Value.ref b :: As).map (cr_v G.r) = .ref (G.r b) :: As.map (cr_v G.r) := rfl
  rw [hmap] at hKx ⊢
  have hw0 : Y2.w0 = .code Y2.y Y2.cc Y2.nL none := by rw [w0_of hok.1, hret0]
  have hG2 : GoodIn Y.ws Y2.ws := gin_of (ws_inU hok)
  have hcb : CallB Y.rm s args Y.own idx Y2.y Y2.cc Y2.nL none Y2.ws Y2.rm Y2.rm.cells Y2.rm.slots np :=
    callB_of np F.ws hG2 (by rw [ws_ofY hok.1, hret0]) rfl rfl (F.U hok.2.2.1) (F.U hl) ⟨hok.2.2.2.2.1, hok.2.2.2.2.2.1, hok.2.2.2.2.2.2⟩ hrm.1
  refine vx_runI (As := As.map (cr_v G.r)) (rest := st.map (cr_v G.r)) (n := np) (cc := Y.cc) (nL := Y.nL) (own := Y.own) (Ts := Y.ws) ⟨F.1, F.2.1, F.2.2.1, F.own, F.ws⟩ hKx ⟨hcb, hnm, F.U hin⟩
    ⟨K_blind, fun U hU hWm => ⟨rfl, State.WarmedH.trans F.warm hWm, by rw [hU]; exact hW⟩⟩ rfl (by rw [List.length_map]; exact hn) hl'.1 ?_ (lv_room ?_) hd hrm.2
  · show stk.map (cr_v G.r) = _
    rw [hstk, List.map_append, List.map_reverse]
    rfl
  · rw [List.map_map]
    have : (fun v : Value => v.category) ∘ cr_v G.r = fun v => v.category := funext fun v => cr_cat _ _
    rw [this]
    exact hcat
end CALLS
