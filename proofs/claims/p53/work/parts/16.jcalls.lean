/-! OWN ROWS: calls on a receiver whose class is known somehow; calls that the receiver's class answers by another method; calls of the superclass's method -/
section JC
variable {τ : Type} {Y Y2 : MI} {pc q : Nat} {L L' : List (Nat × Value)} {st stk : List Value} {M : Mem} {k n : Nat} {emb : τ → Out}
/-- a receiver whose class is known -/
def RC (M : Mem) (b : Nat) (C : String) : Prop := ∀ (G : Gx), g_ok G → ∀ (Y : MI) (p : Program) (s : State) (m : MethodId) (args : Array Value) (meth : Method) (c : Code) (H : Heap) (locs : List Loc), frm G Y p s m args meth c → WR G H M → va_S G.A s.heap H locs → ∃ cell : Cell, H[G.r b]? = some cell ∧ cell.vm.isStatics = false ∧ s.vm.findClass C = some cell.cls
theorem RC.obj {b ci N : Nat} {C : String} {T : u_T} (hc : vwCl[ci]? = some (C, T, N)) (h : isO M ci b = true) : RC M b C := by
  obtain ⟨fs, hm⟩ := isO_of h
  intro G hG Y p s m args meth c H locs F hW hS
  exact va_recv (F.K hG) (hW.obj hm) (ci := ci) (q0 := 0) hc rfl
theorem RC.con {b : Nat} {C : String} (hob : ∀ G, g_ok G → va_O C (G.r b) G.A G.s G.s.heap) : RC M b C := by
  intro G hG Y p s m args meth c H locs F hW hS
  obtain ⟨cell, v1, v2, v3, -⟩ := (F.O (hob G hG)).kept hS.2.1
  exact ⟨cell, v1, v2, v3⟩
/-- which method a class answers with -/
def selOK (C : String) (x y : MethodName) : Prop := ∀ (G : Gx), g_ok G → ∀ (A : Array Value) (s : State), G.s.WarmedH s.vm → (∀ w ∈ cr_U, w.before A s = true) → (Cond.selects C x y).before A s = true
theorem selOK.of {C : String} {x y : MethodName} (h : Cond.selects C x y ∈ cr_U) : selOK C x y := fun _ _ _ _ _ hs => hs _ h
theorem selOK.priv {C : String} {y : MethodName} {N : Nat} (h1 : Cond.instantiable C N ∈ cr_U) (h2 : Cond.privateMethod y ∈ lw_tbl) (h3 : Cond.instanceMethod y ∈ cr_U) (h4 : Cond.sameMethod y.cls y.cls y.name y.desc ∈ cr_U) : selOK C y y := by
  intro G hG args s hW hs
  obtain ⟨c, k, hc, hk, -, hniab, -, -⟩ := Cond.instantiable_spec (hs _ h1)
  obtain ⟨mk, methM, hnamed, hmethM, -, -⟩ := Cond.instanceMethod_spec (hs _ h3)
  obtain ⟨cn, ck, r1, hcn, hck, hni, hf, hn1⟩ := Cond.sameMethod_found (hs _ h4)
  have hn2 : s.methodNamed? y = some r1 := hn1
  cases hnamed.symm.trans hn2
  have hcls : mk.cls = cn := Option.some.inj ((findClass_of_methodNamed hnamed).symm.trans hcn)
  have hsel : selectMethod {} s.vm c mk = .method mk := selectMethod_private hmethM (Cond.privateMethod_at (Cond.privateMethod_warm (args' := args) hW (hG.2.1 _ h2)) mk methM hnamed hmethM)
  simp only [Cond.before, Cond.holds, Cond.value, hc, hf, hnamed, hsel, hcls, hck]
  simp
  exact hni
/-- a call that runs -/
def CRun {σ : Type} (Y Y2 : MI) (pc : Nat) (L : List (Nat × Value)) (stk st av : List Value) (M : Mem) (k n : Nat) (f : Option σ) (emb2 : σ → Out) : Prop :=
  ∀ x, f = some x → ∀ (G : Gx), g_ok G → ∀ (p : Program) (e : Env) (s : State) (m : MethodId) (args : Array Value) (below : List Frame) (meth : Method) (c : Code) (H : Heap) (locs : List Loc) (ls : Array Slot), frm G Y p s m args meth c → WR G H M → va_S G.A s.heap H locs → lv_has ls Y.nL (L.map (cr_2 G.r)) →
    vx_Run p G.l e Y.rm s m args below meth c H locs k n Y2.rm.cells Y2.rm.slots (F0 m pc ls (stk.map (cr_v G.r))) (st.map (cr_v G.r)) (QcV G (emb2 x) (av.map (cr_v G.r)).toArray) (XcV G (emb2 x)) G.A
variable {σ : Type} {f : Option σ} {emb2 : σ → Out} {As : List Value} {b idx np : Nat} {C : String}
theorem CRun.V (hK : K Y2 (.ref b :: As) M f emb2) (hob : ∀ x, f = some x → RC M b C) (hok : mOK Y2 np) (hin : Cond.instanceMethod Y2.y ∈ cr_U) (hsel : selOK C Y2.y Y2.y) (hl : Cond.methodLink Y.own idx Y2.y ∈ cr_U) (hrm : rmOK Y Y2 k n)
    (hd : decode Y.cc pc = .ok (.invokevirtual idx, 3)) (hn : As.length = np) (hstk : stk = As.reverse ++ .ref b :: st) (hcat : (st.map fun v => v.category).sum ≤ 8) : CRun Y Y2 pc L stk st (.ref b :: As) M k n f emb2 := by
  intro x hx G hG p e s m args below meth c H locs ls F hW hS hl'
  have hKx := hK x hx G hG
  have hmap : (Value.ref b :: As).map (cr_v G.r) = .ref (G.r b) :: As.map (cr_v G.r) := rfl
  rw [hmap] at hKx ⊢
  have hcb : CallB Y.rm s args Y.own idx Y2.y Y2.cc Y2.nL Y2.ret Y2.ws Y2.rm Y2.rm.cells Y2.rm.slots np :=
    callB_of np F.ws (gin_of (ws_inU hok)) (ws_ofY hok.1) rfl rfl (F.U hok.2.2.1) (F.U hl) ⟨hok.2.2.2.2.1, hok.2.2.2.2.2.1, hok.2.2.2.2.2.2⟩ hrm.1
  refine vx_runV (As := As.map (cr_v G.r)) (rest := st.map (cr_v G.r)) (n := np) (C := C) (cc := Y.cc) (nL := Y.nL) (own := Y.own) (Ts := Y.ws) ⟨F.1, F.2.1, F.2.2.1, F.own, F.ws⟩ hKx ⟨hcb, F.U hin, hsel G hG args s F.warm (fun w hw => F.U hw)⟩
    ⟨K_blind, hob x hx G hG Y p s m args meth c H locs F hW hS, fun U hU hWm => ⟨rfl, State.WarmedH.trans F.warm hWm, by rw [hU]; exact hW⟩⟩ rfl (by rw [List.length_map]; exact hn) hl'.1 ?_ (lv_room ?_) hd hrm.2
  · show stk.map (cr_v G.r) = _
    rw [hstk, List.map_append, List.map_reverse]
    rfl
  · rw [List.map_map]
    have : (fun v : Value => v.category) ∘ cr_v G.r = fun v => v.category := funext fun v => cr_cat _ _
    rw [this]
    exact hcat
/-- the receiver's class answers x with y -/
theorem CRun.U {x : MethodName} {owner : String} {b0 : ByteArray} {m0 : Nat} {r0 : Option FieldType} (hK : K Y2 (.ref b :: As) M f emb2) (hob : ∀ z, f = some z → RC M b C) (hok : mOK Y2 np) (hin : Cond.instanceMethod Y2.y ∈ cr_U) (hsel : Cond.selects C x Y2.y ∈ cr_U) (hl : Cond.methodLink Y.own idx x ∈ cr_U)
    (hsm : Cond.sameMethod x.cls owner x.name x.desc ∈ cr_U) (hin0 : Cond.instanceMethod ⟨owner, x.name, x.desc⟩ ∈ cr_U) (hc0 : Cond.code ⟨owner, x.name, x.desc⟩ b0 m0 r0 ∈ cr_U) (how : owner ≠ "java/lang/invoke/MethodHandle" ∧ owner ≠ "java/lang/invoke/VarHandle") (hx0 : (parseMethodDescriptor x.desc).map (fun d => d.parameters.length) = some np) (hrm : rmOK Y Y2 k n)
    (hd : decode Y.cc pc = .ok (.invokevirtual idx, 3)) (hn : As.length = np) (hstk : stk = As.reverse ++ .ref b :: st) (hcat : (st.map fun v => v.category).sum ≤ 8) : CRun Y Y2 pc L stk st (.ref b :: As) M k n f emb2 := by
  intro z hz G hG p e s m args below meth c H locs ls F hW hS hl'
  have hKx := hK z hz G hG
  have hmap : (Value.ref b :: As).map (cr_v G.r) = .ref (G.r b) :: As.map (cr_v G.r) := rfl
  rw [hmap] at hKx ⊢
  have hws : ∀ w ∈ Y2.ws, ∀ (a' : Array Value) (U : State), s.WarmedH U.vm → w.before a' U = true := pay_in F.ws (gin_of (ws_inU hok))
  have hcw : Cond.code Y2.y Y2.cc Y2.nL Y2.ret ∈ Y2.ws := by rw [ws_ofY hok.1]; exact List.mem_cons_self
  have hini : (Cond.initialized Y2.y.cls).before args s = true := F.U hok.2.2.1
  have hBk : vx_Back G.l Y.rm p e below s args Y2.y 3 8 (PreOf Y.rm Y2.rm.cells Y2.rm.slots _) (PostOf _ Y2.rm.cells Y2.rm.slots G.A) (vx_Post _ Y2.rm.cells Y2.rm.slots G.A) :=
    vx_back (bytes := Y2.cc) (maxL := Y2.nL) (ret := Y2.ret) hKx K_blind rfl rfl hrm.1.1 hrm.1.2 hws hcw (fun a' U hU => word_at hU (Or.inl (by first | rfl | simp [Cond.onTables, Cond.keeps, Cond.steady])) hini)
  obtain ⟨cellB, hcB, hoB, hclB⟩ := hob z hz G hG Y p s m args meth c H locs F hW hS
  have hcode : (Cond.code Y2.y Y2.cc Y2.nL Y2.ret).before args s = true := hws _ hcw _ _ (State.WarmedH.refl _)
  intro T hT X
  rcases vx_callVU X F.1 (C := C) (owner := owner) (x := x) (bytes := Y2.cc) (maxL := Y2.nL) (ret := Y2.ret) F.own (F.U hl) (F.U hsm) (va_Decl.of (F.U hin0) (F.U hc0)) how (F.U hsel) (F.U hin) hcode hBk (by rw [hT]; exact hcB) hoB hclB (g := F0 m pc ls (stk.map (cr_v G.r))) rfl (hl'.1.trans F.2.2.1.symm) (argsL := As.map (cr_v G.r)) (rest := st.map (cr_v G.r))
    (fun sig h => by rw [List.length_map, hn]; have h2 := hx0; rw [h] at h2; exact (Option.some.inj h2).symm) (by show stk.map (cr_v G.r) = _; rw [hstk, List.map_append, List.map_reverse]; rfl) (lv_room (by
      rw [List.map_map]
      have : (fun v : Value => v.category) ∘ cr_v G.r = fun v => v.category := funext fun v => cr_cat _ _
      rw [this]
      exact hcat)) (by show decode c.code pc = _; rw [F.2.1]; exact hd)
    (fun vm₁ hW₁ => ⟨hrm.2.1, hrm.2.2, ⟨rfl, State.WarmedH.trans F.warm hW₁, by show WR G (T.setVm vm₁).heap M; rw [show (T.setVm vm₁).heap = T.heap from rfl, hT]; exact hW⟩⟩) with ⟨v, vm₁, ⟨U', l2, c2, s2⟩, hW₁, X', ⟨g', mk, t, L9, e1, e2, hq, h1, hL, h2, h3⟩, st9⟩ | ⟨q9, vm₁, ⟨U', l2, c2, s2⟩, hW₁, X', ⟨g', mk, t, L9, E, ce, e1, e2, hq, hce, hcv, hcl, h1, hL, h2, h3⟩, st9⟩
  · dsimp only [Pt.U, Pt.locs, Pt.cells, Pt.slots] at X' e1 e2 h1 h2 h3 st9
    subst h1; subst h2; subst h3
    exact Or.inl ⟨v, (T.setVm vm₁).calling g' mk _, t, U', L9, hT, X', hL, e1, e2, hq, st9⟩
  · dsimp only [Pt.U, Pt.locs, Pt.cells, Pt.slots] at X' e1 e2 h1 h2 h3 st9 hcl
    subst h1; subst h2; subst h3
    exact Or.inr ⟨q9, (T.setVm vm₁).calling g' mk _, t, U', L9, E, ce, hT, X', hL, e1, e2, hq, hce, hcv, vx_cls hW₁ hcl, st9⟩
/-- the superclass's own method, on this -/
theorem CRun.S {ci N : Nat} {T9 : u_T} (hK : K Y2 (.ref b :: As) M f emb2) (hob : ∀ z, f = some z → isO M ci b = true) (hc : vwCl[ci]? = some (C, T9, N)) (hok : mOK Y2 np) (hin : Cond.instanceMethod Y2.y ∈ cr_U) (hl : Cond.methodLink Y.own idx Y2.y ∈ cr_U)
    (hsm : Cond.sameMethod Y2.y.cls Y2.y.cls Y2.y.name Y2.y.desc ∈ cr_U) (hsu : Cond.superclass Y.own Y2.y.cls ∈ cr_U) (hno : Y2.y.name ≠ "<init>") (hrm : rmOK Y Y2 k n)
    (hd : decode Y.cc pc = .ok (.invokespecial idx, 3)) (hn : As.length = np) (hstk : stk = As.reverse ++ .ref b :: st) (hcat : (st.map fun v => v.category).sum ≤ 8) : CRun Y Y2 pc L stk st (.ref b :: As) M k n f emb2 := by
  intro z hz G hG p e s m args below meth c H locs ls F hW hS hl'
  have hKx := hK z hz G hG
  have hmap : (Value.ref b :: As).map (cr_v G.r) = .ref (G.r b) :: As.map (cr_v G.r) := rfl
  rw [hmap] at hKx ⊢
  have hws : ∀ w ∈ Y2.ws, ∀ (a' : Array Value) (U : State), s.WarmedH U.vm → w.before a' U = true := pay_in F.ws (gin_of (ws_inU hok))
  have hcw : Cond.code Y2.y Y2.cc Y2.nL Y2.ret ∈ Y2.ws := by rw [ws_ofY hok.1]; exact List.mem_cons_self
  have hini : (Cond.initialized Y2.y.cls).before args s = true := F.U hok.2.2.1
  have hBk : vx_Back G.l Y.rm p e below s args Y2.y 3 8 (PreOf Y.rm Y2.rm.cells Y2.rm.slots _) (PostOf _ Y2.rm.cells Y2.rm.slots G.A) (vx_Post _ Y2.rm.cells Y2.rm.slots G.A) :=
    vx_back (bytes := Y2.cc) (maxL := Y2.nL) (ret := Y2.ret) hKx K_blind rfl rfl hrm.1.1 hrm.1.2 hws hcw (fun a' U hU => word_at hU (Or.inl (by first | rfl | simp [Cond.onTables, Cond.keeps, Cond.steady])) hini)
  obtain ⟨fs, hm⟩ := isO_of (hob z hz)
  obtain ⟨cellB, hcB, hoB, hclB⟩ := va_recv (F.K hG) (hW.obj hm) (ci := ci) (q0 := 0) hc rfl
  obtain ⟨hfc, kB, hkB, -⟩ := ((F.K hG).1 ci _ hc).2
  have e7 : cellB.cls = G.D.1 ci := Option.some.inj (hclB.symm.trans hfc)
  rw [← e7] at hkB
  have hcode : (Cond.code Y2.y Y2.cc Y2.nL Y2.ret).before args s = true := hws _ hcw _ _ (State.WarmedH.refl _)
  intro T hT X
  rcases vx_callSU X F.1 (bytes := Y2.cc) (maxL := Y2.nL) (ret := Y2.ret) F.own (F.U hl) (F.U hsm) (F.U hsu) (F.U hin) hcode hno hBk (by rw [hT]; exact hcB) hoB hkB (g := F0 m pc ls (stk.map (cr_v G.r))) rfl (hl'.1.trans F.2.2.1.symm) (argsL := As.map (cr_v G.r)) (rest := st.map (cr_v G.r))
    (fun sig h => by rw [List.length_map, hn]; have h2 := hok.2.2.2.2.2.2; rw [h] at h2; exact (Option.some.inj h2).symm) (by show stk.map (cr_v G.r) = _; rw [hstk, List.map_append, List.map_reverse]; rfl) (lv_room (by
      rw [List.map_map]
      have : (fun v : Value => v.category) ∘ cr_v G.r = fun v => v.category := funext fun v => cr_cat _ _
      rw [this]
      exact hcat)) (by show decode c.code pc = _; rw [F.2.1]; exact hd)
    (fun vm₁ hW₁ => ⟨hrm.2.1, hrm.2.2, ⟨rfl, State.WarmedH.trans F.warm hW₁, by show WR G (T.setVm vm₁).heap M; rw [show (T.setVm vm₁).heap = T.heap from rfl, hT]; exact hW⟩⟩) with ⟨v, vm₁, ⟨U', l2, c2, s2⟩, hW₁, X', ⟨g', mk, t, L9, e1, e2, hq, h1, hL, h2, h3⟩, st9⟩ | ⟨q9, vm₁, ⟨U', l2, c2, s2⟩, hW₁, X', ⟨g', mk, t, L9, E, ce, e1, e2, hq, hce, hcv, hcl, h1, hL, h2, h3⟩, st9⟩
  · dsimp only [Pt.U, Pt.locs, Pt.cells, Pt.slots] at X' e1 e2 h1 h2 h3 st9
    subst h1; subst h2; subst h3
    exact Or.inl ⟨v, (T.setVm vm₁).calling g' mk _, t, U', L9, hT, X', hL, e1, e2, hq, st9⟩
  · dsimp only [Pt.U, Pt.locs, Pt.cells, Pt.slots] at X' e1 e2 h1 h2 h3 st9 hcl
    subst h1; subst h2; subst h3
    exact Or.inr ⟨q9, (T.setVm vm₁).calling g' mk _, t, U', L9, E, ce, hT, X', hL, e1, e2, hq, hce, hcv, vx_cls hW₁ hcl, st9⟩
end JC
section JK
variable {τ : Type} {Y Y2 : MI} {pc q k2 n2 : Nat} {L L' : List (Nat × Value)} {st stk av : List Value} {M : Mem} {k n : Nat} {emb : τ → Out}
theorem V_cG {σ : Type} {f : Option σ} {emb2 : σ → Out} {cont : σ → Option τ} (hr : CRun Y Y2 pc L stk st av M k n f emb2) (hp : pc + 3 = q)
    (hret : ∀ x v M1, f = some x → emb2 x = (.inl v, M1) → V Y q L (v.toList ++ st) M1 (k + Y2.rm.cells) (n + Y2.rm.slots) (cont x) emb) (hthr : ∀ x E M1, f = some x → emb2 x ≠ (.inr E, M1)) : V Y pc L stk M k n (f.bind cont) emb := by
  subst hp
  exact V_run (Y2 := Y2) (av := av) (idx := 0) (free := fun _ => True) hr hret (fun x E M1 h1 h2 y h3 => absurd h2 (hthr x E M1 h1))
theorem V_cGeI {f : Option Int32} {cont : Int32 → Option τ} (hr : CRun Y Y2 pc L stk st av M k n f (eI M)) (hp : pc + 3 = q) (hk2 : k + Y2.rm.cells = k2) (hn2 : n + Y2.rm.slots = n2) (h : ∀ r, V Y q L (.int r :: st) M k2 n2 (cont r) emb) : V Y pc L stk M k n (f.bind cont) emb := by
  subst hk2; subst hn2
  exact V_cG hr hp (fun x v M1 _ e => by cases e; exact h x) (fun x E M1 _ e => by cases e)
theorem V_cGeZ {f : Option Bool} {cont : Bool → Option τ} (hr : CRun Y Y2 pc L stk st av M k n f (eZ M)) (hp : pc + 3 = q) (hk2 : k + Y2.rm.cells = k2) (hn2 : n + Y2.rm.slots = n2) (h : ∀ r, V Y q L (.int (b2i r) :: st) M k2 n2 (cont r) emb) : V Y pc L stk M k n (f.bind cont) emb := by
  subst hk2; subst hn2
  exact V_cG hr hp (fun x v M1 _ e => by cases e; exact h x) (fun x E M1 _ e => by cases e)
theorem V_cGeR {f : Option Nat} {cont : Nat → Option τ} (hr : CRun Y Y2 pc L stk st av M k n f (eR M)) (hp : pc + 3 = q) (hk2 : k + Y2.rm.cells = k2) (hn2 : n + Y2.rm.slots = n2) (h : ∀ r, V Y q L (.ref r :: st) M k2 n2 (cont r) emb) : V Y pc L stk M k n (f.bind cont) emb := by
  subst hk2; subst hn2
  exact V_cG hr hp (fun x v M1 _ e => by cases e; exact h x) (fun x E M1 _ e => by cases e)
theorem V_cGwI {f : Option (Int32 × Mem)} {cont : Int32 × Mem → Option τ} (hr : CRun Y Y2 pc L stk st av M k n f wI) (hp : pc + 3 = q) (hk2 : k + Y2.rm.cells = k2) (hn2 : n + Y2.rm.slots = n2) (h : ∀ r M1, V Y q L (.int r :: st) M1 k2 n2 (cont (r, M1)) emb) : V Y pc L stk M k n (f.bind cont) emb := by
  subst hk2; subst hn2
  exact V_cG hr hp (fun x v M1 _ e => by cases e; exact h x.1 x.2) (fun x E M1 _ e => by cases e)
theorem V_cGwR {f : Option (Nat × Mem)} {cont : Nat × Mem → Option τ} (hr : CRun Y Y2 pc L stk st av M k n f wR) (hp : pc + 3 = q) (hk2 : k + Y2.rm.cells = k2) (hn2 : n + Y2.rm.slots = n2) (h : ∀ r M1, V Y q L (.ref r :: st) M1 k2 n2 (cont (r, M1)) emb) : V Y pc L stk M k n (f.bind cont) emb := by
  subst hk2; subst hn2
  exact V_cG hr hp (fun x v M1 _ e => by cases e; exact h x.1 x.2) (fun x E M1 _ e => by cases e)
theorem V_cGwQ {f : Option (Option Nat × Mem)} {cont : Option Nat × Mem → Option τ} (hr : CRun Y Y2 pc L stk st av M k n f wQ) (hp : pc + 3 = q) (hk2 : k + Y2.rm.cells = k2) (hn2 : n + Y2.rm.slots = n2) (h : ∀ r M1, V Y q L (va_rf r :: st) M1 k2 n2 (cont (r, M1)) emb) : V Y pc L stk M k n (f.bind cont) emb := by
  subst hk2; subst hn2
  exact V_cG hr hp (fun x v M1 _ e => by cases e; exact h x.1 x.2) (fun x E M1 _ e => by cases e)
theorem V_cGwV {f : Option Mem} {cont : Mem → Option τ} (hr : CRun Y Y2 pc L stk st av M k n f wV) (hp : pc + 3 = q) (hk2 : k + Y2.rm.cells = k2) (hn2 : n + Y2.rm.slots = n2) (h : ∀ M1, V Y q L st M1 k2 n2 (cont M1) emb) : V Y pc L stk M k n (f.bind cont) emb := by
  subst hk2; subst hn2
  exact V_cG hr hp (fun x v M1 _ e => by cases e; exact h x) (fun x E M1 _ e => by cases e)
end JK
