/-! OWN ROWS: methods that catch -/
def hFind (E : String) : List (String × Int32) → Option Int32
  | [] => none
  | (nm, c) :: r => if E = nm then some c else hFind E r
def bH {α : Type} (hs : List (String × Int32)) (f : Option ((α ⊕ String) × Mem)) (kk : α → Mem → Option (Int32 × Mem)) : Option (Int32 × Mem) := f.bind fun o => match o.1 with
  | .inl v => kk v o.2
  | .inr E => (hFind E hs).map fun c => (c, o.2)
/-- the handler: keep the exception, answer a number -/
def hDec (Y : MI) (h : Nat) (c : Int32) : Prop := ∃ (i : Nat) (d : Nat), Cond.constant Y.own i c ∈ cr_U ∧ decode Y.cc (h + d) = .ok (.ldc i, 2) ∧ decode Y.cc (h + d + 2) = .ok (.ireturn, 1) ∧
  ((d = 2 ∧ ∃ j : Nat, j < Y.nL ∧ decode Y.cc h = .ok (.astore j, 2)) ∨ (d = 1 ∧ ∃ j : Fin 4, (j : Nat) < Y.nL ∧ decode Y.cc h = .ok (.astore_n j, 1)))
def hC (Y : MI) (pc : Nat) (r : Nat × Nat × Nat × Nat) (nm : String) (c : Int32) : Prop := (r.1 ≤ pc ∧ pc < r.2.1) ∧ r.2.2.2 ≠ 0 ∧ Cond.classLink Y.own r.2.2.2 nm ∈ cr_U ∧ Cond.castable nm nm ∈ lw_tbl ∧ hDec Y r.2.2.1 c
def hNc (a b : String) : Prop := Cond.not (.castable a b) ∈ flatC (Jvm.Cond.and given_1 narrow_1)
def hAll (Y : MI) (pc : Nat) : List (Nat × Nat × Nat × Nat) → List (String × Int32) → List String → Prop
  | [], [], _ => True
  | r :: rs, (nm, c) :: hs, prev => hC Y pc r nm c ∧ (∀ p ∈ prev, hNc nm p) ∧ hAll Y pc rs hs (nm :: prev)
  | _, _, _ => False
theorem hAll_find {Y : MI} {pc : Nat} {E : String} {c : Int32} : ∀ (rs : List (Nat × Nat × Nat × Nat)) (hs : List (String × Int32)) (prev : List String), hAll Y pc rs hs prev → hFind E hs = some c →
    ∃ pre r suf, rs = pre ++ r :: suf ∧ hC Y pc r E c ∧ (∀ z ∈ pre, z.2.2.2 ≠ 0 ∧ ∃ nm, Cond.classLink Y.own z.2.2.2 nm ∈ cr_U ∧ hNc E nm) ∧ ∀ p ∈ prev, hNc E p := by
  intro rs
  induction rs with
  | nil => intro hs prev h hf; cases hs with
    | nil => cases hf
    | cons a b => exact h.elim
  | cons r rs ih =>
    intro hs prev h hf
    cases hs with
    | nil => exact h.elim
    | cons a hs =>
      obtain ⟨nm, c1⟩ := a
      obtain ⟨h1, h2, h3⟩ := h
      unfold hFind at hf
      split at hf
      · rename_i e
        subst e
        cases hf
        exact ⟨[], r, rs, rfl, h1, (fun z hz => nomatch hz), h2⟩
      · obtain ⟨pre, r', suf, e1, e2, e3, e4⟩ := ih hs (nm :: prev) h3 hf
        refine ⟨r :: pre, r', suf, by rw [e1]; rfl, e2, fun z hz => ?_, fun p hp => e4 p (List.mem_cons_of_mem _ hp)⟩
        rcases List.mem_cons.mp hz with rfl | hz
        · exact ⟨h1.2.1, nm, h1.2.2.1, e4 nm List.mem_cons_self⟩
        · exact e3 z hz
section HAND
variable {τ σ : Type} {Y Y2 : MI} {pc q : Nat} {L L' : List (Nat × Value)} {st : List Value} {M : Mem} {k n : Nat} {comp : Option τ} {emb : τ → Out}
/-- behind a call that may throw, in a method that catches: it returned, and the frame goes on; or the handler answers -/
theorem V_runH {f : Option σ} {emb2 : σ → Out} {cont : σ → Option τ} {stk : List Value} {free : Addr → Prop} {av : List Value} {hs : List (String × Int32)}
    (hrun : ∀ x, f = some x → ∀ (G : Gx), g_ok G → ∀ (p : Program) (e : Env) (s : State) (m : MethodId) (args : Array Value) (below : List Frame) (meth : Method) (c : Code) (H : Heap) (locs : List Loc) (ls : Array Slot), frm G Y p s m args meth c → WR G H M → va_S G.A s.heap H locs → lv_has ls Y.nL (L.map (cr_2 G.r)) →
      vx_Run p G.l e Y.rm s m args below meth c H locs k n Y2.rm.cells Y2.rm.slots (F0 m pc ls (stk.map (cr_v G.r))) (st.map (cr_v G.r)) (QcV G (emb2 x) (av.map (cr_v G.r)).toArray) (XcV G (emb2 x)) G.A)
    (hall : hAll Y pc Y.hh hs []) (hr : Y.ret = some .int) (hrm : k + Y2.rm.cells ≤ Y.rm.cells ∧ n + Y2.rm.slots ≤ Y.rm.slots)
    (hret : ∀ x v M1, f = some x → emb2 x = (.inl v, M1) → V Y (pc + 3) L (v.toList ++ st) M1 (k + Y2.rm.cells) (n + Y2.rm.slots) (cont x) emb)
    (hthr : ∀ x E M1, f = some x → emb2 x = (.inr E, M1) → ∀ y, cont x = some y → ∃ cst : Int32, hFind E hs = some cst ∧ emb y = (.inl (some (.int cst)), M1)) : V Y pc L stk M k n (f.bind cont) emb := by
  intro a ha G hG p e s m args below meth c H locs ls F hW hS hl
  obtain ⟨x, hx, hcx⟩ := Option.bind_eq_some_iff.mp ha
  intro T hT X
  rcases hrun x hx G hG p e s m args below meth c H locs ls F hW hS hl T hT X with ⟨v, st₀, t, T', L9, h0, X', hL, e1, e2, ⟨⟨v', hv', hoc⟩, hW1, hF⟩, hst⟩ | ⟨q9, st₀, t, T', L9, E, ce, h0, X', hL, e1, e2, ⟨hE, hW1, hF⟩, hce, hcv, hcl, hst⟩
  · cases hoc
    have hk := vx_keep (A0 := G.A) h0 e1 hS (fun _ _ z => z) (fun _ z => z) hL hF
    have hh := hret x v' (emb2 x).2 hx (by rw [← hv'])
    obtain ⟨t2, a1, b1⟩ := hh a hcx G hG p e s m args below meth c T'.heap (locs ++ L9) ls F (by rw [e1]; exact hW1) hk.2.2 hl T' rfl X'
    refine ⟨t2, hst t2 ?_, b1⟩
    have e9 : (v'.toList ++ st).map (cr_v G.r) = (v'.map (cr_v G.r)).toList ++ st.map (cr_v G.r) := by
      rw [List.map_append]
      cases v' <;> rfl
    rw [e9] at a1
    exact a1
  · obtain ⟨cst, g1, g2⟩ := hthr x E (emb2 x).2 hx (by rw [← hE]) a hcx
    have hk := vx_keep (A0 := G.A) h0 e1 hS (fun _ _ z => z) (fun _ z => z) hL hF
    obtain ⟨pre, r, suf, r1, ⟨r2, r3, r4, r5, i9, d9, z0, z1, z2, z3⟩, r6, -⟩ := hAll_find _ _ _ hall g1
    have hrows : c.exceptionTable.toList = (tableOf pre) ++ (tableOf [r]).head (by simp [tableOf]) :: tableOf suf := by
      rw [F.tab (fun z => by
        rw [r1] at z
        have h0 := congrArg List.head? z
        have hm : r ∈ pre ++ r :: suf := by simp
        rw [z] at hm
        have hr0 : r = (0, 0, 0, 0) := List.mem_singleton.mp hm
        rw [hr0] at r2
        exact Nat.not_lt_zero _ r2.2), r1]
      simp [tableOf]
    have hS2 := hk.2.2
    have hWW : WR G T'.heap (emb2 x).2 := by rw [e1]; exact hW1
    have hend : ∀ ls' : Array Slot, W p G.l e Y.rm s m args below meth c T'.heap (locs ++ L9) (k + Y2.rm.cells) (n + Y2.rm.slots) (vx_MQ below (QcV G (emb a)) (XcV G (emb a)) args s Y.rm.cells Y.rm.slots G.A) (F0 m (r.2.2.1 + d9) ls' []) := by
      intro ls'
      refine lv_ldc F.1 F.2.1 F.own (F.U z0) z1 ?_
      exact W.widen hrm.1 hrm.2 (vx_ret (W.iret F.1 F.2.1 (F.ret.trans hr) (fun t ht hw => ⟨⟨_, by rw [g2], rfl⟩, by rw [g2, ht]; exact hWW, hS2.F ht⟩) hS2.2.2 z2 F.locks))
    have hcatch := vx_catch (p := p) (l := G.l) (e := e) (R := Y.rm) (args := args) (below := below) (meth := meth) (H := T'.heap) (locs := locs ++ L9) (cells := k + Y2.rm.cells) (slots := n + Y2.rm.slots) (Q := vx_MQ below (QcV G (emb a)) (XcV G (emb a)) args s Y.rm.cells Y.rm.slots G.A) (ls := ls) (rest := st.map (cr_v G.r)) (pc := pc) (E := E) (ce := ce) (q := q9) F.own (name := E) (tableOf pre) _ (tableOf suf) hrows
      (fun z hz => by
        obtain ⟨z', hz', rfl⟩ : ∃ z', z' ∈ pre ∧ z = (tableOf [z']).head (by simp [tableOf]) := by
          simp only [tableOf, List.mem_map] at hz
          obtain ⟨z', h1, h2⟩ := hz
          exact ⟨z', h1, by rw [← h2]; simp [tableOf]⟩
        obtain ⟨y1, nm, y2, y3⟩ := r6 z' hz'
        exact Or.inr ⟨by simpa [tableOf] using y1, nm, by simpa [tableOf] using F.U y2, va_Nc.moved F.warm.alike (va_Nc.of (g_flat hG y3))⟩)
      (by simp [tableOf, covers, r2.1, r2.2]) (by simpa [tableOf] using r3) (by simpa [tableOf] using F.U r4) (F.T hG r5 rfl) (by rw [e1]; exact hce) hcv hcl
    have hgo : W p G.l e Y.rm s m args below meth c T'.heap (locs ++ L9) (k + Y2.rm.cells) (n + Y2.rm.slots) (vx_MQ below (QcV G (emb a)) (XcV G (emb a)) args s Y.rm.cells Y.rm.slots G.A) (F0 m r.2.2.1 ls [.ref q9]) := by
      rcases z3 with ⟨rfl, j, hj, hd⟩ | ⟨rfl, j, hj, hd⟩
      · exact lv_astore F.1 F.2.1 hd hl hj rfl (fun ls' _ => hend ls')
      · exact lv_astore_n F.1 F.2.1 hd rfl hl hj rfl (fun ls' _ => hend ls')
    obtain ⟨t2, a1, b1⟩ := hcatch (by simpa [tableOf] using hgo) T' rfl X'
    exact ⟨t2, hst.trans a1, b1⟩
end HAND
section HAND2
variable {τ σ : Type} {Y Y2 : MI} {pc q : Nat} {L L' : List (Nat × Value)} {st : List Value} {M : Mem} {k n : Nat} {comp : Option τ} {emb : τ → Out}
theorem V_cVH {α : Type} {f : Option ((α ⊕ String) × Mem)} {emb2 : (α ⊕ String) × Mem → Out} {wv : α → Option Value} {kk : α → Mem → Option (Int32 × Mem)} {hs : List (String × Int32)} {As stk : List Value} {b ci idx np N : Nat} {C : String} {T : u_T}
    (hK : K Y2 (.ref b :: As) M f emb2) (hob : ∀ x, f = some x → isO M ci b = true) (hok : mOK Y2 np) (hin : Cond.instanceMethod Y2.y ∈ cr_U) (hsel : Cond.selects C Y2.y Y2.y ∈ cr_U) (hcls : Y2.y.cls = C) (hc : vwCl[ci]? = some (C, T, N)) (hl : Cond.methodLink Y.own idx Y2.y ∈ cr_U) (hrm : rmOK Y Y2 k n)
    (hd : decode Y.cc pc = .ok (.invokevirtual idx, 3)) (hp : pc + 3 = q) (hn : As.length = np) (hstk : stk = As.reverse ++ .ref b :: st) (hcat : (st.map fun v => v.category).sum ≤ 8)
    (hall : hAll Y pc Y.hh hs []) (hr : Y.ret = some .int) (he1 : ∀ v M1, emb2 (.inl v, M1) = (.inl (wv v), M1)) (he2 : ∀ E M1, emb2 (.inr E, M1) = (.inr E, M1)) {k2 n2 : Nat} (hk2 : k + Y2.rm.cells = k2) (hn2 : n + Y2.rm.slots = n2)
    (h : ∀ r M1, V Y q L ((wv r).toList ++ st) M1 k2 n2 (kk r M1) wI) : V Y pc L stk M k n (bH hs f kk) wI := by
  subst hp; subst hk2; subst hn2
  unfold bH
  refine V_runH (st := st) (Y2 := Y2) (av := .ref b :: As) (free := fun _ => True) (hs := hs) (emb2 := emb2) (fun x hx G hG p e s m args below meth c H locs ls F hW hS hl' => ?_) hall hr hrm.2 (fun x v M1 h1 h2 => ?_) (fun x E M1 h1 h2 y h3 => ?_)
  · obtain ⟨fs, hm⟩ := isO_of (hob x hx)
    have hKx := hK x hx G hG
    have hKn := F.K hG
    have hmap : (Value.ref b :: As).map (cr_v G.r) = .ref (G.r b) :: As.map (cr_v G.r) := rfl
    rw [hmap] at hKx ⊢
    have hgood : ∀ w ∈ wsV Y.own idx C Y2.y Y2.ws, w ∈ cr_U := by
      intro w hw
      unfold wsV at hw
      rcases List.mem_append.mp hw with hw | hw
      · simp only [List.mem_cons, List.not_mem_nil, or_false] at hw
        rcases hw with rfl | rfl | rfl | rfl
        · exact hl
        · exact hin
        · exact hsel
        · rw [← hcls]; exact hok.2.2.1
      · exact ws_inU hok w hw
    refine vx_runV (As := As.map (cr_v G.r)) (rest := st.map (cr_v G.r)) (n := np) (C := C) (cc := Y.cc) (nL := Y.nL) (own := Y.own) (Ts := Y.ws) ⟨F.1, F.2.1, F.2.2.1, F.own, F.ws⟩ hKx (cwV np F.ws (gin_of hgood) (ws_ofY hok.1) rfl rfl ⟨hcls, hok.2.2.2.2.1, hok.2.2.2.2.2.1, hok.2.2.2.2.2.2⟩ hrm.1)
      ⟨K_blind, va_recv hKn (hW.obj hm) (ci := ci) (q0 := 0) hc rfl, fun U hU hWm => ⟨rfl, State.WarmedH.trans F.warm hWm, by rw [hU]; exact hW⟩⟩ rfl (by rw [List.length_map]; exact hn) hl'.1 ?_ (lv_room ?_) hd hrm.2
    · show stk.map (cr_v G.r) = _
      rw [hstk, List.map_append, List.map_reverse]
      rfl
    · rw [List.map_map]
      have : (fun v : Value => v.category) ∘ cr_v G.r = fun v => v.category := funext fun v => cr_cat _ _
      rw [this]
      exact hcat
  · obtain ⟨o, M9⟩ := x
    cases o with
    | inl r =>
      rw [he1] at h2
      cases h2
      exact h r _
    | inr E =>
      rw [he2] at h2
      cases h2
  · obtain ⟨o, M9⟩ := x
    cases o with
    | inl r =>
      rw [he1] at h2
      cases h2
    | inr E9 =>
      rw [he2] at h2
      cases h2
      dsimp only at h3
      cases hf : hFind E hs with
      | none => rw [hf] at h3; cases h3
      | some c =>
        rw [hf] at h3
        cases h3
        exact ⟨c, rfl, rfl⟩
def mOKW (Y : MI) (np : Nat) : Prop := Y.w0 = .codeWith Y.y Y.cc Y.nL Y.ret Y.hh ∧ Y.w0 ∈ cr_U ∧ Cond.initialized Y.y.cls ∈ cr_U ∧ (Y.y.cls = Y.own ∧ plainName Y.y.cls = true) ∧ Y.y.cls ≠ "java/lang/invoke/MethodHandle" ∧ Y.y.cls ≠ "java/lang/invoke/VarHandle" ∧ (parseMethodDescriptor Y.y.desc).map (fun d => d.parameters.length) = some np
theorem ws_ofYW {Y : MI} {np : Nat} (h : mOKW Y np) : Y.ws = .codeWith Y.y Y.cc Y.nL Y.ret Y.hh :: cr_U := by
  unfold MI.ws
  rw [h.1]
theorem ws_inUW {Y : MI} {np : Nat} (h : mOKW Y np) : ∀ w ∈ Y.ws, w ∈ cr_U := by
  intro w hw
  rcases List.mem_cons.mp hw with rfl | hw
  · exact h.2.1
  · exact hw
theorem K_of_VW {np : Nat} {av : List Value} (hY : mOKW Y np) (hl : (lg_sl av).length ≤ Y.nL) (h : V Y 0 (lv_args 0 av) [] M 0 0 comp emb) : K Y av M comp emb := by
  intro x hx G hG
  refine vx_ofWH (cc := Y.cc) (maxL := Y.nL) (ret := Y.ret) (hh := Y.hh) hY.2.2.2.1.2 (ws_ofYW hY) ?_
  intro p e s m args below meth c s₁ B hml hv
  obtain ⟨rfl, hwarm, hW⟩ := hv
  have hts := atoms_spec (ws := Y.ws) B.pre
  have F : frm G Y p s m (av.map (cr_v G.r)).toArray meth c := ⟨B.exec, B.bytes, hml, hY.2.2.2.1.1 ▸ findClass_of_methodNamed B.named, hts, B.returns, B.notSynchronized, fun _ => vx_table (x := Y.y) B (hts _ (by rw [ws_ofYW hY]; exact List.mem_cons_self)), fun _ => (name_of_methodNamed B.named B.method).1, hwarm, ⟨hW.1.1, hW.1.2.1⟩⟩
  rw [lg_entry_eq]
  have hh := lv_entry (av.map (cr_v G.r)) (n := Y.nL) (by rw [lg_sl_len]; exact hl)
  rw [lv_args_map] at hh
  exact h x hx G hG p e s m _ below meth c s.heap [] _ F hW va_S.rf hh
/-- a static call of a method that catches, and throws nothing -/
theorem V_cSWI {f : Option (Int32 × Mem)} {cont : Int32 × Mem → Option τ} {As stk : List Value} {idx np : Nat}
    (hK : K Y2 As M f wI) (hok : mOKW Y2 np) (hin : Cond.static Y2.y ∈ cr_U) (hl : Cond.methodLink Y.own idx Y2.y ∈ cr_U) (hrm : rmOK Y Y2 k n)
    (hd : decode Y.cc pc = .ok (.invokestatic idx, 3)) (hp : pc + 3 = q) (hn : As.length = np) (hstk : stk = As.reverse ++ st) (hcat : (st.map fun v => v.category).sum ≤ 8) {k2 n2 : Nat} (hk2 : k + Y2.rm.cells = k2) (hn2 : n + Y2.rm.slots = n2)
    (h : ∀ r M1, V Y q L (.int r :: st) M1 k2 n2 (cont (r, M1)) emb) : V Y pc L stk M k n (f.bind cont) emb := by
  subst hp; subst hk2; subst hn2
  refine V_run (st := st) (emb2 := wI) (Y2 := Y2) (av := As) (idx := idx) (free := fun _ => True) (fun x hx G hG p e s m args below meth c H locs ls F hW hS hl' => ?_) (fun x v M1 _ e => by cases e; exact h x.1 x.2) (fun x E M1 _ e => by cases e)
  have hKx := hK x hx G hG
  have hgood : ∀ w ∈ va_wsS Y.own idx Y2.y Y2.ws, w ∈ cr_U := by
    intro w hw
    unfold va_wsS at hw
    rcases List.mem_append.mp hw with hw | hw
    · simp only [List.mem_cons, List.not_mem_nil, or_false] at hw
      rcases hw with rfl | rfl | rfl
      · exact hl
      · exact hin
      · exact hok.2.2.1
    · exact ws_inUW hok w hw
  refine vx_runSX (hh := Y2.hh) (As := As.map (cr_v G.r)) (rest := st.map (cr_v G.r)) (n := np) (cc := Y.cc) (nL := Y.nL) (own := Y.own) (Ts := Y.ws) ⟨F.1, F.2.1, F.2.2.1, F.own, F.ws⟩ hKx (vx_cwSW np F.ws (gin_of hgood) (ws_ofYW hok) rfl rfl ⟨hok.2.2.2.2.1, hok.2.2.2.2.2.1, hok.2.2.2.2.2.2⟩ hrm.1)
    ⟨K_blind, fun U hU hWm => ⟨rfl, State.WarmedH.trans F.warm hWm, by rw [hU]; exact hW⟩⟩ rfl (by rw [List.length_map]; exact hn) hl'.1 ?_ (lv_room ?_) hd hrm.2
  · show stk.map (cr_v G.r) = _
    rw [hstk, List.map_append, List.map_reverse]
  · rw [List.map_map]
    have : (fun v : Value => v.category) ∘ cr_v G.r = fun v => v.category := funext fun v => cr_cat _ _
    rw [this]
    exact hcat
end HAND2
/-- what room is left for so many turns of a loop -/
def kb (KB NB cc ss fu k n : Nat) : Prop := k + fu * cc ≤ KB ∧ n + fu * ss ≤ NB
section KB
variable {KB NB cc ss fu k n o o2 c B B2 : Nat}
theorem kb_c (hb : kb KB NB cc ss (fu + 1) k n) (h : o + c ≤ cc) (hB : KB ≤ B) : k + o + c ≤ B := by
  have h1 := hb.1
  rw [Nat.succ_mul] at h1
  omega
theorem kb_s (hb : kb KB NB cc ss (fu + 1) k n) (h : o + c ≤ ss) (hB : NB ≤ B) : n + o + c ≤ B := by
  have h1 := hb.2
  rw [Nat.succ_mul] at h1
  omega
theorem kb_ck (hb : kb KB NB cc ss (fu + 1) k n) (h : o ≤ cc) (hB : KB ≤ B) : k + o ≤ B := by
  have h1 := hb.1
  rw [Nat.succ_mul] at h1
  omega
theorem kb_sk (hb : kb KB NB cc ss (fu + 1) k n) (h : o ≤ ss) (hB : NB ≤ B) : n + o ≤ B := by
  have h1 := hb.2
  rw [Nat.succ_mul] at h1
  omega
theorem kb_next (hb : kb KB NB cc ss (fu + 1) k n) (h1 : o ≤ cc) (h2 : o2 ≤ ss) : kb KB NB cc ss fu (k + o) (n + o2) := by
  obtain ⟨h3, h4⟩ := hb
  rw [Nat.succ_mul] at h3 h4
  exact ⟨by omega, by omega⟩
variable {cc2 ss2 fu2 kk nn oE oS : Nat}
theorem kb_in {F : Nat} (h1 : o + F * cc2 ≤ oE) (h2 : o2 + F * ss2 ≤ oS) : kb (k + oE) (n + oS) cc2 ss2 F (k + o) (n + o2) := ⟨by omega, by omega⟩
theorem kb2_ck (hb : kb KB NB cc ss (fu + 1) k n) (hb2 : kb (k + oE) (n + oS) cc2 ss2 (fu2 + 1) kk nn) (h : o ≤ cc2) (hE : oE ≤ cc) (hB : KB ≤ B) : kk + o ≤ B :=
  Nat.le_trans (kb_ck hb2 h (Nat.le_refl _)) (kb_ck hb hE hB)
theorem kb2_sk (hb : kb KB NB cc ss (fu + 1) k n) (hb2 : kb (k + oE) (n + oS) cc2 ss2 (fu2 + 1) kk nn) (h : o ≤ ss2) (hE : oS ≤ ss) (hB : NB ≤ B) : nn + o ≤ B :=
  Nat.le_trans (kb_sk hb2 h (Nat.le_refl _)) (kb_sk hb hE hB)
theorem kb2_c (hb : kb KB NB cc ss (fu + 1) k n) (hb2 : kb (k + oE) (n + oS) cc2 ss2 (fu2 + 1) kk nn) (h : o + c ≤ cc2) (hE : oE ≤ cc) (hB : KB ≤ B) : kk + o + c ≤ B :=
  Nat.le_trans (kb_c hb2 h (Nat.le_refl _)) (kb_ck hb hE hB)
theorem kb2_s (hb : kb KB NB cc ss (fu + 1) k n) (hb2 : kb (k + oE) (n + oS) cc2 ss2 (fu2 + 1) kk nn) (h : o + c ≤ ss2) (hE : oS ≤ ss) (hB : NB ≤ B) : nn + o + c ≤ B :=
  Nat.le_trans (kb_s hb2 h (Nat.le_refl _)) (kb_sk hb hE hB)
end KB
