/-! OWN ROWS: calls whose throw is not followed (the law's own), and some constants -/
def bN {α τ : Type} (f : Option ((α ⊕ String) × Mem)) (k : α → Mem → Option τ) : Option τ := f.bind fun o => match o.1 with | .inl v => k v o.2 | .inr _ => none
section CALLN
variable {τ β : Type} {Y Y2 : MI} {pc q k2 n2 : Nat} {L L' : List (Nat × Value)} {st : List Value} {M : Mem} {k n : Nat} {emb : τ → Out} {As stk : List Value} {b ci idx np N : Nat} {C : String} {T : u_T}
theorem V_cVnI {f : Option ((Int32 ⊕ String) × Mem)} {cont : Int32 → Mem → Option τ} (hK : K Y2 (.ref b :: As) M f tI) (hob : ∀ x, f = some x → isO M ci b = true) (hok : mOK Y2 np) (hin : Cond.instanceMethod Y2.y ∈ cr_U) (hsel : Cond.selects C Y2.y Y2.y ∈ cr_U) (hcls : Y2.y.cls = C) (hc : vwCl[ci]? = some (C, T, N)) (hl : Cond.methodLink Y.own idx Y2.y ∈ cr_U) (hrm : rmOK Y Y2 k n) (hd : decode Y.cc pc = .ok (.invokevirtual idx, 3)) (hp : pc + 3 = q) (hn : As.length = np) (hstk : stk = As.reverse ++ .ref b :: st) (hcat : (st.map fun v => v.category).sum ≤ 8) (hk2 : k + Y2.rm.cells = k2) (hn2 : n + Y2.rm.slots = n2) (h : ∀ r M1, V Y q L (.int r :: st) M1 k2 n2 (cont r M1) emb) : V Y pc L stk M k n (bN f cont) emb := by
  subst hk2; subst hn2
  refine V_callV hK hob hok hin hsel hcls hc hl hrm hd hp hn hstk hcat (fun x v M1 _ e => ?_) (fun x E M1 _ e y ey => ?_)
  · obtain ⟨x | x, M2⟩ := x
    · cases e; exact h x _
    · cases e
  · obtain ⟨x | x, M2⟩ := x
    · cases e
    · cases ey
theorem V_cVnZ {f : Option ((Bool ⊕ String) × Mem)} {cont : Bool → Mem → Option τ} (hK : K Y2 (.ref b :: As) M f tZ) (hob : ∀ x, f = some x → isO M ci b = true) (hok : mOK Y2 np) (hin : Cond.instanceMethod Y2.y ∈ cr_U) (hsel : Cond.selects C Y2.y Y2.y ∈ cr_U) (hcls : Y2.y.cls = C) (hc : vwCl[ci]? = some (C, T, N)) (hl : Cond.methodLink Y.own idx Y2.y ∈ cr_U) (hrm : rmOK Y Y2 k n) (hd : decode Y.cc pc = .ok (.invokevirtual idx, 3)) (hp : pc + 3 = q) (hn : As.length = np) (hstk : stk = As.reverse ++ .ref b :: st) (hcat : (st.map fun v => v.category).sum ≤ 8) (hk2 : k + Y2.rm.cells = k2) (hn2 : n + Y2.rm.slots = n2) (h : ∀ r M1, V Y q L (.int (b2i r) :: st) M1 k2 n2 (cont r M1) emb) : V Y pc L stk M k n (bN f cont) emb := by
  subst hk2; subst hn2
  refine V_callV hK hob hok hin hsel hcls hc hl hrm hd hp hn hstk hcat (fun x v M1 _ e => ?_) (fun x E M1 _ e y ey => ?_)
  · obtain ⟨x | x, M2⟩ := x
    · cases e; exact h x _
    · cases e
  · obtain ⟨x | x, M2⟩ := x
    · cases e
    · cases ey
theorem V_cVnJ {f : Option ((Int64 ⊕ String) × Mem)} {cont : Int64 → Mem → Option τ} (hK : K Y2 (.ref b :: As) M f tJ) (hob : ∀ x, f = some x → isO M ci b = true) (hok : mOK Y2 np) (hin : Cond.instanceMethod Y2.y ∈ cr_U) (hsel : Cond.selects C Y2.y Y2.y ∈ cr_U) (hcls : Y2.y.cls = C) (hc : vwCl[ci]? = some (C, T, N)) (hl : Cond.methodLink Y.own idx Y2.y ∈ cr_U) (hrm : rmOK Y Y2 k n) (hd : decode Y.cc pc = .ok (.invokevirtual idx, 3)) (hp : pc + 3 = q) (hn : As.length = np) (hstk : stk = As.reverse ++ .ref b :: st) (hcat : (st.map fun v => v.category).sum ≤ 8) (hk2 : k + Y2.rm.cells = k2) (hn2 : n + Y2.rm.slots = n2) (h : ∀ r M1, V Y q L (.long r :: st) M1 k2 n2 (cont r M1) emb) : V Y pc L stk M k n (bN f cont) emb := by
  subst hk2; subst hn2
  refine V_callV hK hob hok hin hsel hcls hc hl hrm hd hp hn hstk hcat (fun x v M1 _ e => ?_) (fun x E M1 _ e y ey => ?_)
  · obtain ⟨x | x, M2⟩ := x
    · cases e; exact h x _
    · cases e
  · obtain ⟨x | x, M2⟩ := x
    · cases e
    · cases ey
theorem V_cVnR {f : Option ((Nat ⊕ String) × Mem)} {cont : Nat → Mem → Option τ} (hK : K Y2 (.ref b :: As) M f tR) (hob : ∀ x, f = some x → isO M ci b = true) (hok : mOK Y2 np) (hin : Cond.instanceMethod Y2.y ∈ cr_U) (hsel : Cond.selects C Y2.y Y2.y ∈ cr_U) (hcls : Y2.y.cls = C) (hc : vwCl[ci]? = some (C, T, N)) (hl : Cond.methodLink Y.own idx Y2.y ∈ cr_U) (hrm : rmOK Y Y2 k n) (hd : decode Y.cc pc = .ok (.invokevirtual idx, 3)) (hp : pc + 3 = q) (hn : As.length = np) (hstk : stk = As.reverse ++ .ref b :: st) (hcat : (st.map fun v => v.category).sum ≤ 8) (hk2 : k + Y2.rm.cells = k2) (hn2 : n + Y2.rm.slots = n2) (h : ∀ r M1, V Y q L (.ref r :: st) M1 k2 n2 (cont r M1) emb) : V Y pc L stk M k n (bN f cont) emb := by
  subst hk2; subst hn2
  refine V_callV hK hob hok hin hsel hcls hc hl hrm hd hp hn hstk hcat (fun x v M1 _ e => ?_) (fun x E M1 _ e y ey => ?_)
  · obtain ⟨x | x, M2⟩ := x
    · cases e; exact h x _
    · cases e
  · obtain ⟨x | x, M2⟩ := x
    · cases e
    · cases ey
theorem V_cVnQ {f : Option ((Option Nat ⊕ String) × Mem)} {cont : Option Nat → Mem → Option τ} (hK : K Y2 (.ref b :: As) M f tQ) (hob : ∀ x, f = some x → isO M ci b = true) (hok : mOK Y2 np) (hin : Cond.instanceMethod Y2.y ∈ cr_U) (hsel : Cond.selects C Y2.y Y2.y ∈ cr_U) (hcls : Y2.y.cls = C) (hc : vwCl[ci]? = some (C, T, N)) (hl : Cond.methodLink Y.own idx Y2.y ∈ cr_U) (hrm : rmOK Y Y2 k n) (hd : decode Y.cc pc = .ok (.invokevirtual idx, 3)) (hp : pc + 3 = q) (hn : As.length = np) (hstk : stk = As.reverse ++ .ref b :: st) (hcat : (st.map fun v => v.category).sum ≤ 8) (hk2 : k + Y2.rm.cells = k2) (hn2 : n + Y2.rm.slots = n2) (h : ∀ r M1, V Y q L (va_rf r :: st) M1 k2 n2 (cont r M1) emb) : V Y pc L stk M k n (bN f cont) emb := by
  subst hk2; subst hn2
  refine V_callV hK hob hok hin hsel hcls hc hl hrm hd hp hn hstk hcat (fun x v M1 _ e => ?_) (fun x E M1 _ e y ey => ?_)
  · obtain ⟨x | x, M2⟩ := x
    · cases e; exact h x _
    · cases e
  · obtain ⟨x | x, M2⟩ := x
    · cases e
    · cases ey
theorem V_cVnV {f : Option ((Unit ⊕ String) × Mem)} {cont : Unit → Mem → Option τ} (hK : K Y2 (.ref b :: As) M f tV) (hob : ∀ x, f = some x → isO M ci b = true) (hok : mOK Y2 np) (hin : Cond.instanceMethod Y2.y ∈ cr_U) (hsel : Cond.selects C Y2.y Y2.y ∈ cr_U) (hcls : Y2.y.cls = C) (hc : vwCl[ci]? = some (C, T, N)) (hl : Cond.methodLink Y.own idx Y2.y ∈ cr_U) (hrm : rmOK Y Y2 k n) (hd : decode Y.cc pc = .ok (.invokevirtual idx, 3)) (hp : pc + 3 = q) (hn : As.length = np) (hstk : stk = As.reverse ++ .ref b :: st) (hcat : (st.map fun v => v.category).sum ≤ 8) (hk2 : k + Y2.rm.cells = k2) (hn2 : n + Y2.rm.slots = n2) (h : ∀ M1, V Y q L st M1 k2 n2 (cont () M1) emb) : V Y pc L stk M k n (bN f cont) emb := by
  subst hk2; subst hn2
  refine V_callV hK hob hok hin hsel hcls hc hl hrm hd hp hn hstk hcat (fun x v M1 _ e => ?_) (fun x E M1 _ e y ey => ?_)
  · obtain ⟨x | x, M2⟩ := x
    · cases e; exact h _
    · cases e
  · obtain ⟨x | x, M2⟩ := x
    · cases e
    · cases ey
theorem V_cSnI {f : Option ((Int32 ⊕ String) × Mem)} {cont : Int32 → Mem → Option τ} (hK : K Y2 As M f tI) (hok : mOK Y2 np) (hin : Cond.static Y2.y ∈ cr_U) (hl : Cond.methodLink Y.own idx Y2.y ∈ cr_U) (hrm : rmOK Y Y2 k n) (hd : decode Y.cc pc = .ok (.invokestatic idx, 3)) (hp : pc + 3 = q) (hn : As.length = np) (hstk : stk = As.reverse ++ st) (hcat : (st.map fun v => v.category).sum ≤ 8) (hk2 : k + Y2.rm.cells = k2) (hn2 : n + Y2.rm.slots = n2) (h : ∀ r M1, V Y q L (.int r :: st) M1 k2 n2 (cont r M1) emb) : V Y pc L stk M k n (bN f cont) emb := by
  subst hk2; subst hn2
  refine V_callS hK hok hin hl hrm hd hp hn hstk hcat (fun x v M1 _ e => ?_) (fun x E M1 _ e y ey => ?_)
  · obtain ⟨x | x, M2⟩ := x
    · cases e; exact h x _
    · cases e
  · obtain ⟨x | x, M2⟩ := x
    · cases e
    · cases ey
theorem V_cSnZ {f : Option ((Bool ⊕ String) × Mem)} {cont : Bool → Mem → Option τ} (hK : K Y2 As M f tZ) (hok : mOK Y2 np) (hin : Cond.static Y2.y ∈ cr_U) (hl : Cond.methodLink Y.own idx Y2.y ∈ cr_U) (hrm : rmOK Y Y2 k n) (hd : decode Y.cc pc = .ok (.invokestatic idx, 3)) (hp : pc + 3 = q) (hn : As.length = np) (hstk : stk = As.reverse ++ st) (hcat : (st.map fun v => v.category).sum ≤ 8) (hk2 : k + Y2.rm.cells = k2) (hn2 : n + Y2.rm.slots = n2) (h : ∀ r M1, V Y q L (.int (b2i r) :: st) M1 k2 n2 (cont r M1) emb) : V Y pc L stk M k n (bN f cont) emb := by
  subst hk2; subst hn2
  refine V_callS hK hok hin hl hrm hd hp hn hstk hcat (fun x v M1 _ e => ?_) (fun x E M1 _ e y ey => ?_)
  · obtain ⟨x | x, M2⟩ := x
    · cases e; exact h x _
    · cases e
  · obtain ⟨x | x, M2⟩ := x
    · cases e
    · cases ey
theorem V_cSnJ {f : Option ((Int64 ⊕ String) × Mem)} {cont : Int64 → Mem → Option τ} (hK : K Y2 As M f tJ) (hok : mOK Y2 np) (hin : Cond.static Y2.y ∈ cr_U) (hl : Cond.methodLink Y.own idx Y2.y ∈ cr_U) (hrm : rmOK Y Y2 k n) (hd : decode Y.cc pc = .ok (.invokestatic idx, 3)) (hp : pc + 3 = q) (hn : As.length = np) (hstk : stk = As.reverse ++ st) (hcat : (st.map fun v => v.category).sum ≤ 8) (hk2 : k + Y2.rm.cells = k2) (hn2 : n + Y2.rm.slots = n2) (h : ∀ r M1, V Y q L (.long r :: st) M1 k2 n2 (cont r M1) emb) : V Y pc L stk M k n (bN f cont) emb := by
  subst hk2; subst hn2
  refine V_callS hK hok hin hl hrm hd hp hn hstk hcat (fun x v M1 _ e => ?_) (fun x E M1 _ e y ey => ?_)
  · obtain ⟨x | x, M2⟩ := x
    · cases e; exact h x _
    · cases e
  · obtain ⟨x | x, M2⟩ := x
    · cases e
    · cases ey
theorem V_cSnR {f : Option ((Nat ⊕ String) × Mem)} {cont : Nat → Mem → Option τ} (hK : K Y2 As M f tR) (hok : mOK Y2 np) (hin : Cond.static Y2.y ∈ cr_U) (hl : Cond.methodLink Y.own idx Y2.y ∈ cr_U) (hrm : rmOK Y Y2 k n) (hd : decode Y.cc pc = .ok (.invokestatic idx, 3)) (hp : pc + 3 = q) (hn : As.length = np) (hstk : stk = As.reverse ++ st) (hcat : (st.map fun v => v.category).sum ≤ 8) (hk2 : k + Y2.rm.cells = k2) (hn2 : n + Y2.rm.slots = n2) (h : ∀ r M1, V Y q L (.ref r :: st) M1 k2 n2 (cont r M1) emb) : V Y pc L stk M k n (bN f cont) emb := by
  subst hk2; subst hn2
  refine V_callS hK hok hin hl hrm hd hp hn hstk hcat (fun x v M1 _ e => ?_) (fun x E M1 _ e y ey => ?_)
  · obtain ⟨x | x, M2⟩ := x
    · cases e; exact h x _
    · cases e
  · obtain ⟨x | x, M2⟩ := x
    · cases e
    · cases ey
theorem V_cSnQ {f : Option ((Option Nat ⊕ String) × Mem)} {cont : Option Nat → Mem → Option τ} (hK : K Y2 As M f tQ) (hok : mOK Y2 np) (hin : Cond.static Y2.y ∈ cr_U) (hl : Cond.methodLink Y.own idx Y2.y ∈ cr_U) (hrm : rmOK Y Y2 k n) (hd : decode Y.cc pc = .ok (.invokestatic idx, 3)) (hp : pc + 3 = q) (hn : As.length = np) (hstk : stk = As.reverse ++ st) (hcat : (st.map fun v => v.category).sum ≤ 8) (hk2 : k + Y2.rm.cells = k2) (hn2 : n + Y2.rm.slots = n2) (h : ∀ r M1, V Y q L (va_rf r :: st) M1 k2 n2 (cont r M1) emb) : V Y pc L stk M k n (bN f cont) emb := by
  subst hk2; subst hn2
  refine V_callS hK hok hin hl hrm hd hp hn hstk hcat (fun x v M1 _ e => ?_) (fun x E M1 _ e y ey => ?_)
  · obtain ⟨x | x, M2⟩ := x
    · cases e; exact h x _
    · cases e
  · obtain ⟨x | x, M2⟩ := x
    · cases e
    · cases ey
theorem V_cSnV {f : Option ((Unit ⊕ String) × Mem)} {cont : Unit → Mem → Option τ} (hK : K Y2 As M f tV) (hok : mOK Y2 np) (hin : Cond.static Y2.y ∈ cr_U) (hl : Cond.methodLink Y.own idx Y2.y ∈ cr_U) (hrm : rmOK Y Y2 k n) (hd : decode Y.cc pc = .ok (.invokestatic idx, 3)) (hp : pc + 3 = q) (hn : As.length = np) (hstk : stk = As.reverse ++ st) (hcat : (st.map fun v => v.category).sum ≤ 8) (hk2 : k + Y2.rm.cells = k2) (hn2 : n + Y2.rm.slots = n2) (h : ∀ M1, V Y q L st M1 k2 n2 (cont () M1) emb) : V Y pc L stk M k n (bN f cont) emb := by
  subst hk2; subst hn2
  refine V_callS hK hok hin hl hrm hd hp hn hstk hcat (fun x v M1 _ e => ?_) (fun x E M1 _ e y ey => ?_)
  · obtain ⟨x | x, M2⟩ := x
    · cases e; exact h _
    · cases e
  · obtain ⟨x | x, M2⟩ := x
    · cases e
    · cases ey
end CALLN
section MORE
variable {τ : Type} {Y Y2 : MI} {pc q : Nat} {L L' : List (Nat × Value)} {st : List Value} {M : Mem} {k n : Nat} {comp : Option τ} {emb : τ → Out}
/-- String.checkIndex -/
theorem V_chk {x y : Int32} {idx : Nat} (hl : Cond.methodLink Y.own idx ySk ∈ cr_U) (hd : decode Y.cc pc = .ok (.invokestatic idx, 3)) (hp : pc + 3 = q) (hrm : rmOK Y mi_Sk k n) (hcat : (st.map fun v => v.category).sum ≤ 8) (h : V Y q L st M k n comp emb) : V Y pc L (.int y :: .int x :: st) M k n ((pChk x y).bind fun _ => comp) emb := by
  have e : ((pChk x y).bind fun _ => comp) = (((pChk x y).bind fun _ => some M).bind fun _ => comp) := by cases pChk x y <;> rfl
  rw [e]
  refine V_callS (As := [.int x, .int y]) (st := st) (k_Sk x y M) ok_Sk sm_Sk hl hrm hd hp rfl rfl hcat (fun z v M1 hz e9 => ?_) (fun z E M1 hz e9 => by cases e9)
  cases hq : pChk x y with
  | none => rw [hq] at hz; cases hz
  | some w =>
    rw [hq] at hz
    cases hz
    cases e9
    exact h
end MORE
theorem dg_90 : ∀ G : Gx, g_ok G → va_Z "java/lang/Integer" "DigitOnes" "[B" (cr_v G.r (.ref 90)) G.A G.s G.s.heap := fun G hG => by
  show va_Z _ _ _ (.ref (G.r 90)) _ _ _
  rw [Gx.r_lo (by omega)]
  exact (g_x hG).2.2.2.1.2.1.1
theorem dg_91 : ∀ G : Gx, g_ok G → va_Z "java/lang/Integer" "DigitTens" "[B" (cr_v G.r (.ref 91)) G.A G.s G.s.heap := fun G hG => by
  show va_Z _ _ _ (.ref (G.r 91)) _ _ _
  rw [Gx.r_lo (by omega)]
  exact (g_x hG).2.2.2.1.2.2.1
theorem ao_10 : ∀ G : Gx, g_ok G → ∀ U : State, G.s.WarmedH U.vm → va_AO "java/lang/String" U := fun _ hG _ hW => va_AO.moved hW.alike (va_AO.of (hG.2.1 (.arrayOver (.object "java/lang/String")) (List.mem_of_getElem? (i := 802) (by decide +kernel))))
