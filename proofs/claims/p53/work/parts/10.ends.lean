section ENDS
variable {τ : Type} {Y : MI} {pc q : Nat} {L L' : List (Nat × Value)} {st : List Value} {M : Mem} {k n : Nat} {comp : Option τ} {emb : τ → Out}
theorem V_iret {x : τ} {v : Int32} (hd : decode Y.cc pc = .ok (.ireturn, 1)) (hr : Y.ret = some .int) (hx : emb x = (.inl (some (.int v)), M)) (hk : k ≤ Y.rm.cells ∧ n ≤ Y.rm.slots) : V Y pc L [.int v] M k n (some x) emb := by
  intro a ha G hG p e s m args below meth c H locs ls F hW hS hl
  cases ha
  exact W.widen hk.1 hk.2 (vx_ret (W.iret F.1 F.2.1 (F.ret.trans hr) (fun t ht hw => ⟨⟨_, by rw [hx], rfl⟩, by rw [hx, ht]; exact hW, hS.F ht⟩) hS.2.2 hd F.locks))
theorem V_zret {x : τ} {v : Bool} (hd : decode Y.cc pc = .ok (.ireturn, 1)) (hr : Y.ret = some .boolean) (hx : emb x = (.inl (some (.int (b2i v))), M)) (hk : k ≤ Y.rm.cells ∧ n ≤ Y.rm.slots) : V Y pc L [.int (b2i v)] M k n (some x) emb := by
  intro a ha G hG p e s m args below meth c H locs ls F hW hS hl
  cases ha
  exact W.widen hk.1 hk.2 (vx_ret (W.zret F.1 F.2.1 (F.ret.trans hr) (nar_b2i v) (fun t ht hw => ⟨⟨_, by rw [hx], rfl⟩, by rw [hx, ht]; exact hW, hS.F ht⟩) hS.2.2 hd F.locks))
theorem V_lret {x : τ} {v : Int64} (hd : decode Y.cc pc = .ok (.lreturn, 1)) (hr : Y.ret = some .long) (hx : emb x = (.inl (some (.long v)), M)) (hk : k ≤ Y.rm.cells ∧ n ≤ Y.rm.slots) : V Y pc L [.long v] M k n (some x) emb := by
  intro a ha G hG p e s m args below meth c H locs ls F hW hS hl
  cases ha
  exact W.widen hk.1 hk.2 (vx_ret (W.lret F.1 F.2.1 (F.ret.trans hr) (fun t ht hw => ⟨⟨_, by rw [hx], rfl⟩, by rw [hx, ht]; exact hW, hS.F ht⟩) hS.2.2 hd F.locks))
theorem V_fret {x : τ} {v : UInt32} (hd : decode Y.cc pc = .ok (.freturn, 1)) (hr : Y.ret = some .float) (hx : emb x = (.inl (some (.float v)), M)) (hk : k ≤ Y.rm.cells ∧ n ≤ Y.rm.slots) : V Y pc L [.float v] M k n (some x) emb := by
  intro a ha G hG p e s m args below meth c H locs ls F hW hS hl
  cases ha
  exact W.widen hk.1 hk.2 (vx_ret (W.fret F.1 F.2.1 (F.ret.trans hr) (fun t ht hw => ⟨⟨_, by rw [hx], rfl⟩, by rw [hx, ht]; exact hW, hS.F ht⟩) hS.2.2 hd F.locks))
theorem V_dret {x : τ} {v : UInt64} (hd : decode Y.cc pc = .ok (.dreturn, 1)) (hr : Y.ret = some .double) (hx : emb x = (.inl (some (.double v)), M)) (hk : k ≤ Y.rm.cells ∧ n ≤ Y.rm.slots) : V Y pc L [.double v] M k n (some x) emb := by
  intro a ha G hG p e s m args below meth c H locs ls F hW hS hl
  cases ha
  exact W.widen hk.1 hk.2 (vx_ret (W.dret F.1 F.2.1 (F.ret.trans hr) (fun t ht hw => ⟨⟨_, by rw [hx], rfl⟩, by rw [hx, ht]; exact hW, hS.F ht⟩) hS.2.2 hd F.locks))
theorem V_aret {x : τ} {v : Option Nat} {rt : FieldType} (hd : decode Y.cc pc = .ok (.areturn, 1)) (hr : Y.ret = some rt) (hrt : (∃ n, rt = .object n) ∨ ∃ t, rt = .array t) (hx : emb x = (.inl (some (va_rf v)), M)) (hk : k ≤ Y.rm.cells ∧ n ≤ Y.rm.slots) : V Y pc L [va_rf v] M k n (some x) emb := by
  intro a ha G hG p e s m args below meth c H locs ls F hW hS hl
  cases ha
  refine W.widen hk.1 hk.2 (vx_ret ?_)
  show W p G.l e Y.rm s m args below meth c H locs _ _ _ (F0 m pc ls [cr_v G.r (va_rf v)])
  rw [cr_rf]
  exact W.aret F.1 F.2.1 (F.ret.trans hr) hrt (by cases v <;> simp [va_rf]) (fun t ht hw => ⟨⟨_, by rw [hx], by rw [Option.map_some, cr_rf]⟩, by rw [hx, ht]; exact hW, hS.F ht⟩) hS.2.2 hd F.locks
theorem V_vret {x : τ} (hd : decode Y.cc pc = .ok (.return_, 1)) (hr : Y.ret = none) (hx : emb x = (.inl none, M)) (hk : k ≤ Y.rm.cells ∧ n ≤ Y.rm.slots) : V Y pc L [] M k n (some x) emb := by
  intro a ha G hG p e s m args below meth c H locs ls F hW hS hl
  cases ha
  exact W.widen hk.1 hk.2 (vx_ret (W.vret F.1 F.2.1 (F.ret.trans hr) (fun t ht hw => ⟨⟨_, by rw [hx], rfl⟩, by rw [hx, ht]; exact hW, hS.F ht⟩) hS.2.2 hd F.locks))
theorem lv_args_map (f : Nat → Nat) : ∀ (av : List Value) (i : Nat), lv_args i (av.map (cr_v f)) = (lv_args i av).map (cr_2 f)
  | [], _ => rfl
  | v :: vs, i => by
    rw [List.map_cons, lv_args, lv_args, List.map_cons, cr_cat, lv_args_map f vs]
    rfl
theorem lg_sl_len (f : Nat → Nat) : ∀ av : List Value, (lg_sl (av.map (cr_v f))).length = (lg_sl av).length
  | [] => rfl
  | v :: vs => by
    have h := lg_sl_len f vs
    simp only [lg_sl, List.map_cons, List.flatMap_cons, List.length_append] at h ⊢
    rw [h, cr_cat]
    split <;> rfl
theorem vx_ofWF {l : Launch} {y : MethodName} {ws ws' : List Cond} {rm : Room} {Pc : Array Value → State → Prop} {Qc : Array Value → State → Outcome → State → Prop} {XC : String → State → State → Prop} {mc ms : Nat} {free : Addr → Prop} {cc : ByteArray} {maxL : Nat} {ret : Option FieldType}
    (hy : plainFor y = true) (hw : ws = Cond.code y cc maxL ret :: ws')
    (body : ∀ p e s m args below meth c s₁, BodyLoose p l y (headSpec ws rm) cc maxL ret e s m args below meth c s₁ → c.maxLocals = maxL → (∀ x ∈ c.exceptionTable.toList, False) → Pc args s →
      W p l e (headSpec ws rm).room s m args below meth c s.heap [] 0 0 (vx_MQ below Qc XC args s mc ms free) (entryFrame m args maxL)) : vx_Met l y ws rm Pc Qc XC mc ms free := by
  refine MetFree.of_bodySF (code := cc) (maxLocals := maxL) (ret := ret) hy ?_ ?_
  · intro args s m h hn
    obtain ⟨meth, c, h1, h2, h3, h4, h5, h6, -, -⟩ := Cond.code_spec hn (atoms_spec (ws := ws) h _ (by rw [hw]; exact List.mem_cons_self))
    exact ⟨meth, c, h1, h2, h3, h4, h5, h6⟩
  · intro p e s m args below meth c s₁ B hml hP _
    have hh0 : s₁.heap = s.heap := by rw [B.state]; rfl
    have ht : ∀ x ∈ c.exceptionTable.toList, False := by
      obtain ⟨meth9, c9, h1, h2, -, -, -, -, h7, -⟩ := Cond.code_spec B.named (atoms_spec (ws := ws) B.pre _ (by rw [hw]; exact List.mem_cons_self))
      cases Option.some.inj (h1.symm.trans B.method)
      cases Option.some.inj (h2.symm.trans (Stand.of_body B).code)
      intro x hx
      rw [Array.isEmpty_iff.mp h7] at hx
      cases hx
    obtain ⟨t, a1, o, b1, b2, b3⟩ := body p e s m args below meth c s₁ B hml ht hP s₁ hh0 (Stand.of_body B)
    exact ⟨t, o, a1, b1, b2, b3⟩
theorem K_of_V {np : Nat} {av : List Value} (hY : mOK Y np) (hl : (lg_sl av).length ≤ Y.nL) (h : V Y 0 (lv_args 0 av) [] M 0 0 comp emb) : K Y av M comp emb := by
  intro x hx G hG
  refine vx_ofWF (cc := Y.cc) (maxL := Y.nL) (ret := Y.ret) hY.2.2.2.1.2 (ws_ofY hY.1) ?_
  intro p e s m args below meth c s₁ B hml hnt hv
  obtain ⟨rfl, hwarm, hW⟩ := hv
  have hts := atoms_spec (ws := Y.ws) B.pre
  have F : frm G Y p s m (av.map (cr_v G.r)).toArray meth c := ⟨B.exec, B.bytes, hml, hY.2.2.2.1.1 ▸ findClass_of_methodNamed B.named, hts, B.returns, B.notSynchronized, fun _ => by
    rw [hY.1]
    cases ht : c.exceptionTable.toList with
    | nil => rfl
    | cons a l => exact (hnt a (by rw [ht]; exact List.mem_cons_self)).elim, fun _ => (name_of_methodNamed B.named B.method).1, hwarm, ⟨hW.1.1, hW.1.2.1⟩⟩
  rw [lg_entry_eq]
  have hh := lv_entry (av.map (cr_v G.r)) (n := Y.nL) (by rw [lg_sl_len]; exact hl)
  rw [lv_args_map] at hh
  exact h x hx G hG p e s m _ below meth c s.heap [] _ F hW va_S.rf hh
theorem g_trace {G : Gx} (hG : g_ok G) : G.l.stackTraces = false := by
  unfold Launch.stackTraces
  rw [hG.1]
  decide +kernel
theorem g_flat {G : Gx} (hG : g_ok G) {w : Cond} (h : w ∈ flatC (Jvm.Cond.and given_1 narrow_1)) : w.before G.a G.s = true := flat_of_before _ hG.2.2.2.1 w h
theorem g_A {G : Gx} : ∀ a : Nat, a < G.s.heap.size → ¬ G.A a := fun a h z => by
  have : G.s.heap.size ≤ a := z
  omega
theorem g_Zq {G : Gx} (hG : g_ok G) {C nm d : String} (h1 : Cond.laysStatic C nm d ∈ lw_tbl) (h2 : Cond.initialized C ∈ lw_tbl) (h3 : Cond.isRef (.static C nm d) ∈ flatC (Jvm.Cond.and given_1 narrow_1)) : vx_Zq C nm d G.A G.s G.s.heap :=
  vx_Zqof (hG.2.1 _ h1) (hG.2.1 _ h2) (g_flat hG h3) g_A
theorem frm.kept {G : Gx} {p : Program} {s : State} {m : MethodId} {args : Array Value} {meth : Method} {c : Code} (F : frm G Y p s m args meth c) : ∀ a : Nat, a < G.s.heap.size → ¬ G.A a → s.heap[a]? = G.s.heap[a]? := fun a h _ => F.old.2 a h
theorem g_str {G : Gx} (hG : g_ok G) {own tx : String} {i : Nat} {cur : ClassId} (hc : G.s.vm.findClass own = some cur) (h : Cond.stringRef own i tx ∈ lw_tbl) : ∃ a, vk_R own i tx a G.s := by
  have h0 := hG.2.1 _ h
  obtain ⟨-, -, -, a, -, -, -, -, -, he⟩ := Cond.stringRef_spec hc h0
  refine ⟨a, vk_R.of h0 ?_⟩
  exact he
theorem frm.str {G : Gx} {p : Program} {s : State} {m : MethodId} {args : Array Value} {meth : Method} {c : Code} (F : frm G Y p s m args meth c) (hG : g_ok G) {tx : String} {i : Nat} (h : Cond.stringRef Y.own i tx ∈ lw_tbl) : ∃ a, vk_R Y.own i tx a s := by
  obtain ⟨a, ha⟩ := g_str hG (by rw [← F.warm.alike.findClass]; exact F.own) h
  exact ⟨a, ha.warm F.warm⟩
def thr_chk (own cls : String) (ik ic : Nat) (names : List String) : Bool := Bundle.fit cls && names.all Bundle.fit && (vx_atS own ic cls names).all (fun w => decide (w ∈ lw_tbl) && cr_wk w) && (Cond.classLink own ik cls :: Cond.initialized cls :: vx_atS own ic cls names).all vx_ot && decide (Cond.classLink own ik cls ∈ lw_tbl) && decide (Cond.initialized cls ∈ lw_tbl)
theorem thr_U : Cond.laysStatic Bundle.tN "UNASSIGNED_STACK" Bundle.steD ∈ lw_tbl ∧ Cond.laysStatic Bundle.tN "SUPPRESSED_SENTINEL" Bundle.listD ∈ lw_tbl ∧ Cond.initialized Bundle.tN ∈ lw_tbl := by decide +kernel
set_option maxRecDepth 100000 in
theorem thr_F : Cond.isRef (.static Bundle.tN "UNASSIGNED_STACK" Bundle.steD) ∈ flatC (Jvm.Cond.and given_1 narrow_1) ∧ Cond.isRef (.static Bundle.tN "SUPPRESSED_SENTINEL" Bundle.listD) ∈ flatC (Jvm.Cond.and given_1 narrow_1) := by decide +kernel
theorem V_throw {x : τ} {cls text : String} {names : List String} {ik is ic : Nat} (hchk : thr_chk Y.own cls ik ic names = true) (hstr : Cond.stringRef Y.own is text ∈ lw_tbl) (hh : Y.hh = [])
    (d0 : decode Y.cc pc = .ok (.new ik, 3)) (d3 : decode Y.cc (pc + 3) = .ok (.dup, 1)) (d4 : decode Y.cc (pc + 4) = .ok (.ldc is, 2)) (d6 : decode Y.cc (pc + 6) = .ok (.invokespecial ic, 3)) (d9 : decode Y.cc (pc + 9) = .ok (.athrow, 1))
    (hrm : names.length + 3 < Y.rm.frames ∧ (st.map fun v => v.category).sum + (13 * (names.length + 1) + 43) ≤ Y.rm.locals) (hk : k + 1 ≤ Y.rm.cells ∧ n + 6 ≤ Y.rm.slots) (hx : emb x = (.inr cls, mskip M)) : V Y pc L st M k n (some x) emb := by
  intro a ha G hG p e s m args below meth c H locs ls F hW hS hl
  cases ha
  simp only [thr_chk, Bool.and_eq_true, decide_eq_true_eq] at hchk
  obtain ⟨⟨⟨⟨⟨h1, h2⟩, h3⟩, h4⟩, h5⟩, h6⟩ := hchk
  obtain ⟨sa, hsa⟩ := F.str hG hstr
  have hU : vx_Zq Bundle.tN "UNASSIGNED_STACK" Bundle.steD G.A s s.heap := vx_Zq.moved F.warm.alike ((g_Zq hG thr_U.1 thr_U.2.2 thr_F.1).kept F.kept)
  have hN : vx_Zq Bundle.tN "SUPPRESSED_SENTINEL" Bundle.listD G.A s s.heap := vx_Zq.moved F.warm.alike ((g_Zq hG thr_U.2.1 thr_U.2.2 thr_F.2).kept F.kept)
  refine vx_throwS F.1 F.2.1 (g_trace hG) F.own h1 (fun nm hn => List.all_eq_true.mp h2 nm hn) (F.T hG h5 rfl) (F.T hG h6 rfl) hsa (fun w hw => ?_) (fun w hw => List.all_eq_true.mp h4 w hw) hU hN hS (hl.1.trans F.2.2.1.symm) d0 d3 d4 d6 d9 (fun z hz => ?_) hrm.1 ?_ hk.1 hk.2 F.locks (fun t hA hz hq => ?_) hS.2.2 hk.1 hk.2
  · have h7 := List.all_eq_true.mp h3 w hw
    rw [Bool.and_eq_true, decide_eq_true_eq] at h7
    exact F.T hG h7.1 h7.2
  · rw [F.tab (lawH_ne hh), hh] at hz
    exact absurd hz (by simp [tableOf])
  · rw [List.map_map]
    have : (fun v : Value => v.category) ∘ cr_v G.r = fun v => v.category := funext fun v => cr_cat _ _
    rw [this]
    exact hrm.2
  · exact ⟨by rw [hx], by rw [hx]; exact hW.skip hz hq, ⟨Nat.le_trans hS.1 hz, fun q h1 h2 => (hq q (Nat.lt_of_lt_of_le h1 hS.1)).trans (hS.2.1 q h1 h2)⟩⟩
theorem V_throwW {x : τ} {cls text : String} {names : List String} {ik is ic : Nat} (hchk : thr_chk Y.own cls ik ic names = true) (hstr : Cond.stringRef Y.own is text ∈ lw_tbl) (hh : Y.hh = [])
    (d0 : decode Y.cc pc = .ok (.new ik, 3)) (d3 : decode Y.cc (pc + 3) = .ok (.dup, 1)) (d4 : decode Y.cc (pc + 4) = .ok (.ldc_w is, 3)) (d6 : decode Y.cc (pc + 7) = .ok (.invokespecial ic, 3)) (d9 : decode Y.cc (pc + 10) = .ok (.athrow, 1))
    (hrm : names.length + 3 < Y.rm.frames ∧ (st.map fun v => v.category).sum + (13 * (names.length + 1) + 43) ≤ Y.rm.locals) (hk : k + 1 ≤ Y.rm.cells ∧ n + 6 ≤ Y.rm.slots) (hx : emb x = (.inr cls, mskip M)) : V Y pc L st M k n (some x) emb := by
  intro a ha G hG p e s m args below meth c H locs ls F hW hS hl
  cases ha
  simp only [thr_chk, Bool.and_eq_true, decide_eq_true_eq] at hchk
  obtain ⟨⟨⟨⟨⟨h1, h2⟩, h3⟩, h4⟩, h5⟩, h6⟩ := hchk
  obtain ⟨sa, hsa⟩ := F.str hG hstr
  have hU : vx_Zq Bundle.tN "UNASSIGNED_STACK" Bundle.steD G.A s s.heap := vx_Zq.moved F.warm.alike ((g_Zq hG thr_U.1 thr_U.2.2 thr_F.1).kept F.kept)
  have hN : vx_Zq Bundle.tN "SUPPRESSED_SENTINEL" Bundle.listD G.A s s.heap := vx_Zq.moved F.warm.alike ((g_Zq hG thr_U.2.1 thr_U.2.2 thr_F.2).kept F.kept)
  refine vx_throwSW F.1 F.2.1 (g_trace hG) F.own h1 (fun nm hn => List.all_eq_true.mp h2 nm hn) (F.T hG h5 rfl) (F.T hG h6 rfl) hsa (fun w hw => ?_) (fun w hw => List.all_eq_true.mp h4 w hw) hU hN hS (hl.1.trans F.2.2.1.symm) d0 d3 d4 d6 d9 (fun z hz => ?_) hrm.1 ?_ hk.1 hk.2 F.locks (fun t hA hz hq => ?_) hS.2.2 hk.1 hk.2
  · have h7 := List.all_eq_true.mp h3 w hw
    rw [Bool.and_eq_true, decide_eq_true_eq] at h7
    exact F.T hG h7.1 h7.2
  · rw [F.tab (lawH_ne hh), hh] at hz
    exact absurd hz (by simp [tableOf])
  · rw [List.map_map]
    have : (fun v : Value => v.category) ∘ cr_v G.r = fun v => v.category := funext fun v => cr_cat _ _
    rw [this]
    exact hrm.2
  · exact ⟨by rw [hx], by rw [hx]; exact hW.skip hz hq, ⟨Nat.le_trans hS.1 hz, fun q h1 h2 => (hq q (Nat.lt_of_lt_of_le h1 hS.1)).trans (hS.2.1 q h1 h2)⟩⟩
end ENDS
