/-! what a method's answer is to the machine, and the calls by kinds of answers -/
def eI (M : Mem) : Int32 → Out := fun v => (.inl (some (.int v)), M)
def wI : Int32 × Mem → Out := fun p => (.inl (some (.int p.1)), p.2)
def tI : (Int32 ⊕ String) × Mem → Out := fun p => (match p.1 with | .inl v => .inl (some (.int v)) | .inr E => .inr E, p.2)
def eZ (M : Mem) : Bool → Out := fun v => (.inl (some (.int (b2i v))), M)
def wZ : Bool × Mem → Out := fun p => (.inl (some (.int (b2i p.1))), p.2)
def tZ : (Bool ⊕ String) × Mem → Out := fun p => (match p.1 with | .inl v => .inl (some (.int (b2i v))) | .inr E => .inr E, p.2)
def eJ (M : Mem) : Int64 → Out := fun v => (.inl (some (.long v)), M)
def wJ : Int64 × Mem → Out := fun p => (.inl (some (.long p.1)), p.2)
def tJ : (Int64 ⊕ String) × Mem → Out := fun p => (match p.1 with | .inl v => .inl (some (.long v)) | .inr E => .inr E, p.2)
def eF (M : Mem) : UInt32 → Out := fun v => (.inl (some (.float v)), M)
def wF : UInt32 × Mem → Out := fun p => (.inl (some (.float p.1)), p.2)
def tF : (UInt32 ⊕ String) × Mem → Out := fun p => (match p.1 with | .inl v => .inl (some (.float v)) | .inr E => .inr E, p.2)
def eD (M : Mem) : UInt64 → Out := fun v => (.inl (some (.double v)), M)
def wD : UInt64 × Mem → Out := fun p => (.inl (some (.double p.1)), p.2)
def tD : (UInt64 ⊕ String) × Mem → Out := fun p => (match p.1 with | .inl v => .inl (some (.double v)) | .inr E => .inr E, p.2)
def eR (M : Mem) : Nat → Out := fun v => (.inl (some (.ref v)), M)
def wR : Nat × Mem → Out := fun p => (.inl (some (.ref p.1)), p.2)
def tR : (Nat ⊕ String) × Mem → Out := fun p => (match p.1 with | .inl v => .inl (some (.ref v)) | .inr E => .inr E, p.2)
def eQ (M : Mem) : Option Nat → Out := fun v => (.inl (some (va_rf v)), M)
def wQ : Option Nat × Mem → Out := fun p => (.inl (some (va_rf p.1)), p.2)
def tQ : (Option Nat ⊕ String) × Mem → Out := fun p => (match p.1 with | .inl v => .inl (some (va_rf v)) | .inr E => .inr E, p.2)
/-- how often any loop may go round -/
def FU : Nat := 6000
def wV : Mem → Out := fun M => (.inl none, M)
def tV : (Unit ⊕ String) × Mem → Out := fun p => (match p.1 with | .inl _ => .inl none | .inr E => .inr E, p.2)
def bX {α β : Type} (f : Option ((α ⊕ String) × Mem)) (k : α → Mem → Option ((β ⊕ String) × Mem)) : Option ((β ⊕ String) × Mem) := f.bind fun o => match o.1 with | .inl v => k v o.2 | .inr E => some (.inr E, o.2)
section CALLK
variable {τ β : Type} {Y Y2 : MI} {pc q k2 n2 : Nat} {L L' : List (Nat × Value)} {st : List Value} {M : Mem} {k n : Nat} {comp : Option τ} {emb : τ → Out} {embx : (β ⊕ String) × Mem → Out} {As stk : List Value} {b ci idx np N : Nat} {C : String} {T : u_T}
theorem V_cVeI {f : Option (Int32)} {cont : Int32 → Option τ} (hK : K Y2 (.ref b :: As) M f (eI M)) (hob : ∀ x, f = some x → isO M ci b = true) (hok : mOK Y2 np) (hin : Cond.instanceMethod Y2.y ∈ cr_U) (hsel : Cond.selects C Y2.y Y2.y ∈ cr_U) (hcls : Y2.y.cls = C) (hc : vwCl[ci]? = some (C, T, N)) (hl : Cond.methodLink Y.own idx Y2.y ∈ cr_U) (hrm : rmOK Y Y2 k n) (hd : decode Y.cc pc = .ok (.invokevirtual idx, 3)) (hp : pc + 3 = q) (hn : As.length = np) (hstk : stk = As.reverse ++ .ref b :: st) (hcat : (st.map fun v => v.category).sum ≤ 8) (hk2 : k + Y2.rm.cells = k2) (hn2 : n + Y2.rm.slots = n2) (h : ∀ r, V Y q L (.int r :: st) M k2 n2 (cont r) emb) : V Y pc L stk M k n (f.bind cont) emb := by
  subst hk2; subst hn2
  exact V_callV hK hob hok hin hsel hcls hc hl hrm hd hp hn hstk hcat (fun x v M1 _ e => by cases e; exact h x) (fun x E M1 _ e => by cases e)
theorem V_cVwI {f : Option (Int32 × Mem)} {cont : Int32 × Mem → Option τ} (hK : K Y2 (.ref b :: As) M f wI) (hob : ∀ x, f = some x → isO M ci b = true) (hok : mOK Y2 np) (hin : Cond.instanceMethod Y2.y ∈ cr_U) (hsel : Cond.selects C Y2.y Y2.y ∈ cr_U) (hcls : Y2.y.cls = C) (hc : vwCl[ci]? = some (C, T, N)) (hl : Cond.methodLink Y.own idx Y2.y ∈ cr_U) (hrm : rmOK Y Y2 k n) (hd : decode Y.cc pc = .ok (.invokevirtual idx, 3)) (hp : pc + 3 = q) (hn : As.length = np) (hstk : stk = As.reverse ++ .ref b :: st) (hcat : (st.map fun v => v.category).sum ≤ 8) (hk2 : k + Y2.rm.cells = k2) (hn2 : n + Y2.rm.slots = n2) (h : ∀ r M1, V Y q L (.int r :: st) M1 k2 n2 (cont (r, M1)) emb) : V Y pc L stk M k n (f.bind cont) emb := by
  subst hk2; subst hn2
  exact V_callV hK hob hok hin hsel hcls hc hl hrm hd hp hn hstk hcat (fun x v M1 _ e => by cases e; exact h x.1 x.2) (fun x E M1 _ e => by cases e)
theorem V_cVtI {f : Option ((Int32 ⊕ String) × Mem)} {cont : Int32 → Mem → Option ((β ⊕ String) × Mem)} (hK : K Y2 (.ref b :: As) M f tI) (hh : Y.hh = []) (he : ∀ E M1, embx (.inr E, M1) = (.inr E, M1)) (hob : ∀ x, f = some x → isO M ci b = true) (hok : mOK Y2 np) (hin : Cond.instanceMethod Y2.y ∈ cr_U) (hsel : Cond.selects C Y2.y Y2.y ∈ cr_U) (hcls : Y2.y.cls = C) (hc : vwCl[ci]? = some (C, T, N)) (hl : Cond.methodLink Y.own idx Y2.y ∈ cr_U) (hrm : rmOK Y Y2 k n) (hd : decode Y.cc pc = .ok (.invokevirtual idx, 3)) (hp : pc + 3 = q) (hn : As.length = np) (hstk : stk = As.reverse ++ .ref b :: st) (hcat : (st.map fun v => v.category).sum ≤ 8) (hk2 : k + Y2.rm.cells = k2) (hn2 : n + Y2.rm.slots = n2) (h : ∀ r M1, V Y q L (.int r :: st) M1 k2 n2 (cont r M1) embx) : V Y pc L stk M k n (bX f cont) embx := by
  subst hk2; subst hn2
  refine V_callV hK hob hok hin hsel hcls hc hl hrm hd hp hn hstk hcat (fun x v M1 _ e => ?_) (fun x E M1 _ e y ey => ?_)
  · obtain ⟨x | x, M2⟩ := x
    · cases e; exact h x _
    · cases e
  · obtain ⟨x | x, M2⟩ := x
    · cases e
    · cases e; cases ey; exact ⟨hh, he _ _⟩
theorem V_cVeZ {f : Option (Bool)} {cont : Bool → Option τ} (hK : K Y2 (.ref b :: As) M f (eZ M)) (hob : ∀ x, f = some x → isO M ci b = true) (hok : mOK Y2 np) (hin : Cond.instanceMethod Y2.y ∈ cr_U) (hsel : Cond.selects C Y2.y Y2.y ∈ cr_U) (hcls : Y2.y.cls = C) (hc : vwCl[ci]? = some (C, T, N)) (hl : Cond.methodLink Y.own idx Y2.y ∈ cr_U) (hrm : rmOK Y Y2 k n) (hd : decode Y.cc pc = .ok (.invokevirtual idx, 3)) (hp : pc + 3 = q) (hn : As.length = np) (hstk : stk = As.reverse ++ .ref b :: st) (hcat : (st.map fun v => v.category).sum ≤ 8) (hk2 : k + Y2.rm.cells = k2) (hn2 : n + Y2.rm.slots = n2) (h : ∀ r, V Y q L (.int (b2i r) :: st) M k2 n2 (cont r) emb) : V Y pc L stk M k n (f.bind cont) emb := by
  subst hk2; subst hn2
  exact V_callV hK hob hok hin hsel hcls hc hl hrm hd hp hn hstk hcat (fun x v M1 _ e => by cases e; exact h x) (fun x E M1 _ e => by cases e)
theorem V_cVwZ {f : Option (Bool × Mem)} {cont : Bool × Mem → Option τ} (hK : K Y2 (.ref b :: As) M f wZ) (hob : ∀ x, f = some x → isO M ci b = true) (hok : mOK Y2 np) (hin : Cond.instanceMethod Y2.y ∈ cr_U) (hsel : Cond.selects C Y2.y Y2.y ∈ cr_U) (hcls : Y2.y.cls = C) (hc : vwCl[ci]? = some (C, T, N)) (hl : Cond.methodLink Y.own idx Y2.y ∈ cr_U) (hrm : rmOK Y Y2 k n) (hd : decode Y.cc pc = .ok (.invokevirtual idx, 3)) (hp : pc + 3 = q) (hn : As.length = np) (hstk : stk = As.reverse ++ .ref b :: st) (hcat : (st.map fun v => v.category).sum ≤ 8) (hk2 : k + Y2.rm.cells = k2) (hn2 : n + Y2.rm.slots = n2) (h : ∀ r M1, V Y q L (.int (b2i r) :: st) M1 k2 n2 (cont (r, M1)) emb) : V Y pc L stk M k n (f.bind cont) emb := by
  subst hk2; subst hn2
  exact V_callV hK hob hok hin hsel hcls hc hl hrm hd hp hn hstk hcat (fun x v M1 _ e => by cases e; exact h x.1 x.2) (fun x E M1 _ e => by cases e)
theorem V_cVtZ {f : Option ((Bool ⊕ String) × Mem)} {cont : Bool → Mem → Option ((β ⊕ String) × Mem)} (hK : K Y2 (.ref b :: As) M f tZ) (hh : Y.hh = []) (he : ∀ E M1, embx (.inr E, M1) = (.inr E, M1)) (hob : ∀ x, f = some x → isO M ci b = true) (hok : mOK Y2 np) (hin : Cond.instanceMethod Y2.y ∈ cr_U) (hsel : Cond.selects C Y2.y Y2.y ∈ cr_U) (hcls : Y2.y.cls = C) (hc : vwCl[ci]? = some (C, T, N)) (hl : Cond.methodLink Y.own idx Y2.y ∈ cr_U) (hrm : rmOK Y Y2 k n) (hd : decode Y.cc pc = .ok (.invokevirtual idx, 3)) (hp : pc + 3 = q) (hn : As.length = np) (hstk : stk = As.reverse ++ .ref b :: st) (hcat : (st.map fun v => v.category).sum ≤ 8) (hk2 : k + Y2.rm.cells = k2) (hn2 : n + Y2.rm.slots = n2) (h : ∀ r M1, V Y q L (.int (b2i r) :: st) M1 k2 n2 (cont r M1) embx) : V Y pc L stk M k n (bX f cont) embx := by
  subst hk2; subst hn2
  refine V_callV hK hob hok hin hsel hcls hc hl hrm hd hp hn hstk hcat (fun x v M1 _ e => ?_) (fun x E M1 _ e y ey => ?_)
  · obtain ⟨x | x, M2⟩ := x
    · cases e; exact h x _
    · cases e
  · obtain ⟨x | x, M2⟩ := x
    · cases e
    · cases e; cases ey; exact ⟨hh, he _ _⟩
theorem V_cVeJ {f : Option (Int64)} {cont : Int64 → Option τ} (hK : K Y2 (.ref b :: As) M f (eJ M)) (hob : ∀ x, f = some x → isO M ci b = true) (hok : mOK Y2 np) (hin : Cond.instanceMethod Y2.y ∈ cr_U) (hsel : Cond.selects C Y2.y Y2.y ∈ cr_U) (hcls : Y2.y.cls = C) (hc : vwCl[ci]? = some (C, T, N)) (hl : Cond.methodLink Y.own idx Y2.y ∈ cr_U) (hrm : rmOK Y Y2 k n) (hd : decode Y.cc pc = .ok (.invokevirtual idx, 3)) (hp : pc + 3 = q) (hn : As.length = np) (hstk : stk = As.reverse ++ .ref b :: st) (hcat : (st.map fun v => v.category).sum ≤ 8) (hk2 : k + Y2.rm.cells = k2) (hn2 : n + Y2.rm.slots = n2) (h : ∀ r, V Y q L (.long r :: st) M k2 n2 (cont r) emb) : V Y pc L stk M k n (f.bind cont) emb := by
  subst hk2; subst hn2
  exact V_callV hK hob hok hin hsel hcls hc hl hrm hd hp hn hstk hcat (fun x v M1 _ e => by cases e; exact h x) (fun x E M1 _ e => by cases e)
theorem V_cVwJ {f : Option (Int64 × Mem)} {cont : Int64 × Mem → Option τ} (hK : K Y2 (.ref b :: As) M f wJ) (hob : ∀ x, f = some x → isO M ci b = true) (hok : mOK Y2 np) (hin : Cond.instanceMethod Y2.y ∈ cr_U) (hsel : Cond.selects C Y2.y Y2.y ∈ cr_U) (hcls : Y2.y.cls = C) (hc : vwCl[ci]? = some (C, T, N)) (hl : Cond.methodLink Y.own idx Y2.y ∈ cr_U) (hrm : rmOK Y Y2 k n) (hd : decode Y.cc pc = .ok (.invokevirtual idx, 3)) (hp : pc + 3 = q) (hn : As.length = np) (hstk : stk = As.reverse ++ .ref b :: st) (hcat : (st.map fun v => v.category).sum ≤ 8) (hk2 : k + Y2.rm.cells = k2) (hn2 : n + Y2.rm.slots = n2) (h : ∀ r M1, V Y q L (.long r :: st) M1 k2 n2 (cont (r, M1)) emb) : V Y pc L stk M k n (f.bind cont) emb := by
  subst hk2; subst hn2
  exact V_callV hK hob hok hin hsel hcls hc hl hrm hd hp hn hstk hcat (fun x v M1 _ e => by cases e; exact h x.1 x.2) (fun x E M1 _ e => by cases e)
theorem V_cVtJ {f : Option ((Int64 ⊕ String) × Mem)} {cont : Int64 → Mem → Option ((β ⊕ String) × Mem)} (hK : K Y2 (.ref b :: As) M f tJ) (hh : Y.hh = []) (he : ∀ E M1, embx (.inr E, M1) = (.inr E, M1)) (hob : ∀ x, f = some x → isO M ci b = true) (hok : mOK Y2 np) (hin : Cond.instanceMethod Y2.y ∈ cr_U) (hsel : Cond.selects C Y2.y Y2.y ∈ cr_U) (hcls : Y2.y.cls = C) (hc : vwCl[ci]? = some (C, T, N)) (hl : Cond.methodLink Y.own idx Y2.y ∈ cr_U) (hrm : rmOK Y Y2 k n) (hd : decode Y.cc pc = .ok (.invokevirtual idx, 3)) (hp : pc + 3 = q) (hn : As.length = np) (hstk : stk = As.reverse ++ .ref b :: st) (hcat : (st.map fun v => v.category).sum ≤ 8) (hk2 : k + Y2.rm.cells = k2) (hn2 : n + Y2.rm.slots = n2) (h : ∀ r M1, V Y q L (.long r :: st) M1 k2 n2 (cont r M1) embx) : V Y pc L stk M k n (bX f cont) embx := by
  subst hk2; subst hn2
  refine V_callV hK hob hok hin hsel hcls hc hl hrm hd hp hn hstk hcat (fun x v M1 _ e => ?_) (fun x E M1 _ e y ey => ?_)
  · obtain ⟨x | x, M2⟩ := x
    · cases e; exact h x _
    · cases e
  · obtain ⟨x | x, M2⟩ := x
    · cases e
    · cases e; cases ey; exact ⟨hh, he _ _⟩
theorem V_cVeF {f : Option (UInt32)} {cont : UInt32 → Option τ} (hK : K Y2 (.ref b :: As) M f (eF M)) (hob : ∀ x, f = some x → isO M ci b = true) (hok : mOK Y2 np) (hin : Cond.instanceMethod Y2.y ∈ cr_U) (hsel : Cond.selects C Y2.y Y2.y ∈ cr_U) (hcls : Y2.y.cls = C) (hc : vwCl[ci]? = some (C, T, N)) (hl : Cond.methodLink Y.own idx Y2.y ∈ cr_U) (hrm : rmOK Y Y2 k n) (hd : decode Y.cc pc = .ok (.invokevirtual idx, 3)) (hp : pc + 3 = q) (hn : As.length = np) (hstk : stk = As.reverse ++ .ref b :: st) (hcat : (st.map fun v => v.category).sum ≤ 8) (hk2 : k + Y2.rm.cells = k2) (hn2 : n + Y2.rm.slots = n2) (h : ∀ r, V Y q L (.float r :: st) M k2 n2 (cont r) emb) : V Y pc L stk M k n (f.bind cont) emb := by
  subst hk2; subst hn2
  exact V_callV hK hob hok hin hsel hcls hc hl hrm hd hp hn hstk hcat (fun x v M1 _ e => by cases e; exact h x) (fun x E M1 _ e => by cases e)
theorem V_cVwF {f : Option (UInt32 × Mem)} {cont : UInt32 × Mem → Option τ} (hK : K Y2 (.ref b :: As) M f wF) (hob : ∀ x, f = some x → isO M ci b = true) (hok : mOK Y2 np) (hin : Cond.instanceMethod Y2.y ∈ cr_U) (hsel : Cond.selects C Y2.y Y2.y ∈ cr_U) (hcls : Y2.y.cls = C) (hc : vwCl[ci]? = some (C, T, N)) (hl : Cond.methodLink Y.own idx Y2.y ∈ cr_U) (hrm : rmOK Y Y2 k n) (hd : decode Y.cc pc = .ok (.invokevirtual idx, 3)) (hp : pc + 3 = q) (hn : As.length = np) (hstk : stk = As.reverse ++ .ref b :: st) (hcat : (st.map fun v => v.category).sum ≤ 8) (hk2 : k + Y2.rm.cells = k2) (hn2 : n + Y2.rm.slots = n2) (h : ∀ r M1, V Y q L (.float r :: st) M1 k2 n2 (cont (r, M1)) emb) : V Y pc L stk M k n (f.bind cont) emb := by
  subst hk2; subst hn2
  exact V_callV hK hob hok hin hsel hcls hc hl hrm hd hp hn hstk hcat (fun x v M1 _ e => by cases e; exact h x.1 x.2) (fun x E M1 _ e => by cases e)
theorem V_cVtF {f : Option ((UInt32 ⊕ String) × Mem)} {cont : UInt32 → Mem → Option ((β ⊕ String) × Mem)} (hK : K Y2 (.ref b :: As) M f tF) (hh : Y.hh = []) (he : ∀ E M1, embx (.inr E, M1) = (.inr E, M1)) (hob : ∀ x, f = some x → isO M ci b = true) (hok : mOK Y2 np) (hin : Cond.instanceMethod Y2.y ∈ cr_U) (hsel : Cond.selects C Y2.y Y2.y ∈ cr_U) (hcls : Y2.y.cls = C) (hc : vwCl[ci]? = some (C, T, N)) (hl : Cond.methodLink Y.own idx Y2.y ∈ cr_U) (hrm : rmOK Y Y2 k n) (hd : decode Y.cc pc = .ok (.invokevirtual idx, 3)) (hp : pc + 3 = q) (hn : As.length = np) (hstk : stk = As.reverse ++ .ref b :: st) (hcat : (st.map fun v => v.category).sum ≤ 8) (hk2 : k + Y2.rm.cells = k2) (hn2 : n + Y2.rm.slots = n2) (h : ∀ r M1, V Y q L (.float r :: st) M1 k2 n2 (cont r M1) embx) : V Y pc L stk M k n (bX f cont) embx := by
  subst hk2; subst hn2
  refine V_callV hK hob hok hin hsel hcls hc hl hrm hd hp hn hstk hcat (fun x v M1 _ e => ?_) (fun x E M1 _ e y ey => ?_)
  · obtain ⟨x | x, M2⟩ := x
    · cases e; exact h x _
    · cases e
  · obtain ⟨x | x, M2⟩ := x
    · cases e
    · cases e; cases ey; exact ⟨hh, he _ _⟩
theorem V_cVeD {f : Option (UInt64)} {cont : UInt64 → Option τ} (hK : K Y2 (.ref b :: As) M f (eD M)) (hob : ∀ x, f = some x → isO M ci b = true) (hok : mOK Y2 np) (hin : Cond.instanceMethod Y2.y ∈ cr_U) (hsel : Cond.selects C Y2.y Y2.y ∈ cr_U) (hcls : Y2.y.cls = C) (hc : vwCl[ci]? = some (C, T, N)) (hl : Cond.methodLink Y.own idx Y2.y ∈ cr_U) (hrm : rmOK Y Y2 k n) (hd : decode Y.cc pc = .ok (.invokevirtual idx, 3)) (hp : pc + 3 = q) (hn : As.length = np) (hstk : stk = As.reverse ++ .ref b :: st) (hcat : (st.map fun v => v.category).sum ≤ 8) (hk2 : k + Y2.rm.cells = k2) (hn2 : n + Y2.rm.slots = n2) (h : ∀ r, V Y q L (.double r :: st) M k2 n2 (cont r) emb) : V Y pc L stk M k n (f.bind cont) emb := by
  subst hk2; subst hn2
  exact V_callV hK hob hok hin hsel hcls hc hl hrm hd hp hn hstk hcat (fun x v M1 _ e => by cases e; exact h x) (fun x E M1 _ e => by cases e)
theorem V_cVwD {f : Option (UInt64 × Mem)} {cont : UInt64 × Mem → Option τ} (hK : K Y2 (.ref b :: As) M f wD) (hob : ∀ x, f = some x → isO M ci b = true) (hok : mOK Y2 np) (hin : Cond.instanceMethod Y2.y ∈ cr_U) (hsel : Cond.selects C Y2.y Y2.y ∈ cr_U) (hcls : Y2.y.cls = C) (hc : vwCl[ci]? = some (C, T, N)) (hl : Cond.methodLink Y.own idx Y2.y ∈ cr_U) (hrm : rmOK Y Y2 k n) (hd : decode Y.cc pc = .ok (.invokevirtual idx, 3)) (hp : pc + 3 = q) (hn : As.length = np) (hstk : stk = As.reverse ++ .ref b :: st) (hcat : (st.map fun v => v.category).sum ≤ 8) (hk2 : k + Y2.rm.cells = k2) (hn2 : n + Y2.rm.slots = n2) (h : ∀ r M1, V Y q L (.double r :: st) M1 k2 n2 (cont (r, M1)) emb) : V Y pc L stk M k n (f.bind cont) emb := by
  subst hk2; subst hn2
  exact V_callV hK hob hok hin hsel hcls hc hl hrm hd hp hn hstk hcat (fun x v M1 _ e => by cases e; exact h x.1 x.2) (fun x E M1 _ e => by cases e)
theorem V_cVtD {f : Option ((UInt64 ⊕ String) × Mem)} {cont : UInt64 → Mem → Option ((β ⊕ String) × Mem)} (hK : K Y2 (.ref b :: As) M f tD) (hh : Y.hh = []) (he : ∀ E M1, embx (.inr E, M1) = (.inr E, M1)) (hob : ∀ x, f = some x → isO M ci b = true) (hok : mOK Y2 np) (hin : Cond.instanceMethod Y2.y ∈ cr_U) (hsel : Cond.selects C Y2.y Y2.y ∈ cr_U) (hcls : Y2.y.cls = C) (hc : vwCl[ci]? = some (C, T, N)) (hl : Cond.methodLink Y.own idx Y2.y ∈ cr_U) (hrm : rmOK Y Y2 k n) (hd : decode Y.cc pc = .ok (.invokevirtual idx, 3)) (hp : pc + 3 = q) (hn : As.length = np) (hstk : stk = As.reverse ++ .ref b :: st) (hcat : (st.map fun v => v.category).sum ≤ 8) (hk2 : k + Y2.rm.cells = k2) (hn2 : n + Y2.rm.slots = n2) (h : ∀ r M1, V Y q L (.double r :: st) M1 k2 n2 (cont r M1) embx) : V Y pc L stk M k n (bX f cont) embx := by
  subst hk2; subst hn2
  refine V_callV hK hob hok hin hsel hcls hc hl hrm hd hp hn hstk hcat (fun x v M1 _ e => ?_) (fun x E M1 _ e y ey => ?_)
  · obtain ⟨x | x, M2⟩ := x
    · cases e; exact h x _
    · cases e
  · obtain ⟨x | x, M2⟩ := x
    · cases e
    · cases e; cases ey; exact ⟨hh, he _ _⟩
theorem V_cVeR {f : Option (Nat)} {cont : Nat → Option τ} (hK : K Y2 (.ref b :: As) M f (eR M)) (hob : ∀ x, f = some x → isO M ci b = true) (hok : mOK Y2 np) (hin : Cond.instanceMethod Y2.y ∈ cr_U) (hsel : Cond.selects C Y2.y Y2.y ∈ cr_U) (hcls : Y2.y.cls = C) (hc : vwCl[ci]? = some (C, T, N)) (hl : Cond.methodLink Y.own idx Y2.y ∈ cr_U) (hrm : rmOK Y Y2 k n) (hd : decode Y.cc pc = .ok (.invokevirtual idx, 3)) (hp : pc + 3 = q) (hn : As.length = np) (hstk : stk = As.reverse ++ .ref b :: st) (hcat : (st.map fun v => v.category).sum ≤ 8) (hk2 : k + Y2.rm.cells = k2) (hn2 : n + Y2.rm.slots = n2) (h : ∀ r, V Y q L (.ref r :: st) M k2 n2 (cont r) emb) : V Y pc L stk M k n (f.bind cont) emb := by
  subst hk2; subst hn2
  exact V_callV hK hob hok hin hsel hcls hc hl hrm hd hp hn hstk hcat (fun x v M1 _ e => by cases e; exact h x) (fun x E M1 _ e => by cases e)
theorem V_cVwR {f : Option (Nat × Mem)} {cont : Nat × Mem → Option τ} (hK : K Y2 (.ref b :: As) M f wR) (hob : ∀ x, f = some x → isO M ci b = true) (hok : mOK Y2 np) (hin : Cond.instanceMethod Y2.y ∈ cr_U) (hsel : Cond.selects C Y2.y Y2.y ∈ cr_U) (hcls : Y2.y.cls = C) (hc : vwCl[ci]? = some (C, T, N)) (hl : Cond.methodLink Y.own idx Y2.y ∈ cr_U) (hrm : rmOK Y Y2 k n) (hd : decode Y.cc pc = .ok (.invokevirtual idx, 3)) (hp : pc + 3 = q) (hn : As.length = np) (hstk : stk = As.reverse ++ .ref b :: st) (hcat : (st.map fun v => v.category).sum ≤ 8) (hk2 : k + Y2.rm.cells = k2) (hn2 : n + Y2.rm.slots = n2) (h : ∀ r M1, V Y q L (.ref r :: st) M1 k2 n2 (cont (r, M1)) emb) : V Y pc L stk M k n (f.bind cont) emb := by
  subst hk2; subst hn2
  exact V_callV hK hob hok hin hsel hcls hc hl hrm hd hp hn hstk hcat (fun x v M1 _ e => by cases e; exact h x.1 x.2) (fun x E M1 _ e => by cases e)
theorem V_cVtR {f : Option ((Nat ⊕ String) × Mem)} {cont : Nat → Mem → Option ((β ⊕ String) × Mem)} (hK : K Y2 (.ref b :: As) M f tR) (hh : Y.hh = []) (he : ∀ E M1, embx (.inr E, M1) = (.inr E, M1)) (hob : ∀ x, f = some x → isO M ci b = true) (hok : mOK Y2 np) (hin : Cond.instanceMethod Y2.y ∈ cr_U) (hsel : Cond.selects C Y2.y Y2.y ∈ cr_U) (hcls : Y2.y.cls = C) (hc : vwCl[ci]? = some (C, T, N)) (hl : Cond.methodLink Y.own idx Y2.y ∈ cr_U) (hrm : rmOK Y Y2 k n) (hd : decode Y.cc pc = .ok (.invokevirtual idx, 3)) (hp : pc + 3 = q) (hn : As.length = np) (hstk : stk = As.reverse ++ .ref b :: st) (hcat : (st.map fun v => v.category).sum ≤ 8) (hk2 : k + Y2.rm.cells = k2) (hn2 : n + Y2.rm.slots = n2) (h : ∀ r M1, V Y q L (.ref r :: st) M1 k2 n2 (cont r M1) embx) : V Y pc L stk M k n (bX f cont) embx := by
  subst hk2; subst hn2
  refine V_callV hK hob hok hin hsel hcls hc hl hrm hd hp hn hstk hcat (fun x v M1 _ e => ?_) (fun x E M1 _ e y ey => ?_)
  · obtain ⟨x | x, M2⟩ := x
    · cases e; exact h x _
    · cases e
  · obtain ⟨x | x, M2⟩ := x
    · cases e
    · cases e; cases ey; exact ⟨hh, he _ _⟩
theorem V_cVeQ {f : Option (Option Nat)} {cont : Option Nat → Option τ} (hK : K Y2 (.ref b :: As) M f (eQ M)) (hob : ∀ x, f = some x → isO M ci b = true) (hok : mOK Y2 np) (hin : Cond.instanceMethod Y2.y ∈ cr_U) (hsel : Cond.selects C Y2.y Y2.y ∈ cr_U) (hcls : Y2.y.cls = C) (hc : vwCl[ci]? = some (C, T, N)) (hl : Cond.methodLink Y.own idx Y2.y ∈ cr_U) (hrm : rmOK Y Y2 k n) (hd : decode Y.cc pc = .ok (.invokevirtual idx, 3)) (hp : pc + 3 = q) (hn : As.length = np) (hstk : stk = As.reverse ++ .ref b :: st) (hcat : (st.map fun v => v.category).sum ≤ 8) (hk2 : k + Y2.rm.cells = k2) (hn2 : n + Y2.rm.slots = n2) (h : ∀ r, V Y q L (va_rf r :: st) M k2 n2 (cont r) emb) : V Y pc L stk M k n (f.bind cont) emb := by
  subst hk2; subst hn2
  exact V_callV hK hob hok hin hsel hcls hc hl hrm hd hp hn hstk hcat (fun x v M1 _ e => by cases e; exact h x) (fun x E M1 _ e => by cases e)
theorem V_cVwQ {f : Option (Option Nat × Mem)} {cont : Option Nat × Mem → Option τ} (hK : K Y2 (.ref b :: As) M f wQ) (hob : ∀ x, f = some x → isO M ci b = true) (hok : mOK Y2 np) (hin : Cond.instanceMethod Y2.y ∈ cr_U) (hsel : Cond.selects C Y2.y Y2.y ∈ cr_U) (hcls : Y2.y.cls = C) (hc : vwCl[ci]? = some (C, T, N)) (hl : Cond.methodLink Y.own idx Y2.y ∈ cr_U) (hrm : rmOK Y Y2 k n) (hd : decode Y.cc pc = .ok (.invokevirtual idx, 3)) (hp : pc + 3 = q) (hn : As.length = np) (hstk : stk = As.reverse ++ .ref b :: st) (hcat : (st.map fun v => v.category).sum ≤ 8) (hk2 : k + Y2.rm.cells = k2) (hn2 : n + Y2.rm.slots = n2) (h : ∀ r M1, V Y q L (va_rf r :: st) M1 k2 n2 (cont (r, M1)) emb) : V Y pc L stk M k n (f.bind cont) emb := by
  subst hk2; subst hn2
  exact V_callV hK hob hok hin hsel hcls hc hl hrm hd hp hn hstk hcat (fun x v M1 _ e => by cases e; exact h x.1 x.2) (fun x E M1 _ e => by cases e)
theorem V_cVtQ {f : Option ((Option Nat ⊕ String) × Mem)} {cont : Option Nat → Mem → Option ((β ⊕ String) × Mem)} (hK : K Y2 (.ref b :: As) M f tQ) (hh : Y.hh = []) (he : ∀ E M1, embx (.inr E, M1) = (.inr E, M1)) (hob : ∀ x, f = some x → isO M ci b = true) (hok : mOK Y2 np) (hin : Cond.instanceMethod Y2.y ∈ cr_U) (hsel : Cond.selects C Y2.y Y2.y ∈ cr_U) (hcls : Y2.y.cls = C) (hc : vwCl[ci]? = some (C, T, N)) (hl : Cond.methodLink Y.own idx Y2.y ∈ cr_U) (hrm : rmOK Y Y2 k n) (hd : decode Y.cc pc = .ok (.invokevirtual idx, 3)) (hp : pc + 3 = q) (hn : As.length = np) (hstk : stk = As.reverse ++ .ref b :: st) (hcat : (st.map fun v => v.category).sum ≤ 8) (hk2 : k + Y2.rm.cells = k2) (hn2 : n + Y2.rm.slots = n2) (h : ∀ r M1, V Y q L (va_rf r :: st) M1 k2 n2 (cont r M1) embx) : V Y pc L stk M k n (bX f cont) embx := by
  subst hk2; subst hn2
  refine V_callV hK hob hok hin hsel hcls hc hl hrm hd hp hn hstk hcat (fun x v M1 _ e => ?_) (fun x E M1 _ e y ey => ?_)
  · obtain ⟨x | x, M2⟩ := x
    · cases e; exact h x _
    · cases e
  · obtain ⟨x | x, M2⟩ := x
    · cases e
    · cases e; cases ey; exact ⟨hh, he _ _⟩
theorem V_cVwV {f : Option Mem} {cont : Mem → Option τ} (hK : K Y2 (.ref b :: As) M f wV) (hob : ∀ x, f = some x → isO M ci b = true) (hok : mOK Y2 np) (hin : Cond.instanceMethod Y2.y ∈ cr_U) (hsel : Cond.selects C Y2.y Y2.y ∈ cr_U) (hcls : Y2.y.cls = C) (hc : vwCl[ci]? = some (C, T, N)) (hl : Cond.methodLink Y.own idx Y2.y ∈ cr_U) (hrm : rmOK Y Y2 k n) (hd : decode Y.cc pc = .ok (.invokevirtual idx, 3)) (hp : pc + 3 = q) (hn : As.length = np) (hstk : stk = As.reverse ++ .ref b :: st) (hcat : (st.map fun v => v.category).sum ≤ 8) (hk2 : k + Y2.rm.cells = k2) (hn2 : n + Y2.rm.slots = n2) (h : ∀ M1, V Y q L st M1 k2 n2 (cont M1) emb) : V Y pc L stk M k n (f.bind cont) emb := by
  subst hk2; subst hn2
  exact V_callV hK hob hok hin hsel hcls hc hl hrm hd hp hn hstk hcat (fun x v M1 _ e => by cases e; exact h x) (fun x E M1 _ e => by cases e)
theorem V_cVtV {f : Option ((Unit ⊕ String) × Mem)} {cont : Unit → Mem → Option ((β ⊕ String) × Mem)} (hK : K Y2 (.ref b :: As) M f tV) (hh : Y.hh = []) (he : ∀ E M1, embx (.inr E, M1) = (.inr E, M1)) (hob : ∀ x, f = some x → isO M ci b = true) (hok : mOK Y2 np) (hin : Cond.instanceMethod Y2.y ∈ cr_U) (hsel : Cond.selects C Y2.y Y2.y ∈ cr_U) (hcls : Y2.y.cls = C) (hc : vwCl[ci]? = some (C, T, N)) (hl : Cond.methodLink Y.own idx Y2.y ∈ cr_U) (hrm : rmOK Y Y2 k n) (hd : decode Y.cc pc = .ok (.invokevirtual idx, 3)) (hp : pc + 3 = q) (hn : As.length = np) (hstk : stk = As.reverse ++ .ref b :: st) (hcat : (st.map fun v => v.category).sum ≤ 8) (hk2 : k + Y2.rm.cells = k2) (hn2 : n + Y2.rm.slots = n2) (h : ∀ M1, V Y q L st M1 k2 n2 (cont () M1) embx) : V Y pc L stk M k n (bX f cont) embx := by
  subst hk2; subst hn2
  refine V_callV hK hob hok hin hsel hcls hc hl hrm hd hp hn hstk hcat (fun x v M1 _ e => ?_) (fun x E M1 _ e y ey => ?_)
  · obtain ⟨x | x, M2⟩ := x
    · cases e; exact h _
    · cases e
  · obtain ⟨x | x, M2⟩ := x
    · cases e
    · cases e; cases ey; exact ⟨hh, he _ _⟩
theorem V_cSeI {f : Option (Int32)} {cont : Int32 → Option τ} (hK : K Y2 As M f (eI M)) (hok : mOK Y2 np) (hin : Cond.static Y2.y ∈ cr_U) (hl : Cond.methodLink Y.own idx Y2.y ∈ cr_U) (hrm : rmOK Y Y2 k n) (hd : decode Y.cc pc = .ok (.invokestatic idx, 3)) (hp : pc + 3 = q) (hn : As.length = np) (hstk : stk = As.reverse ++ st) (hcat : (st.map fun v => v.category).sum ≤ 8) (hk2 : k + Y2.rm.cells = k2) (hn2 : n + Y2.rm.slots = n2) (h : ∀ r, V Y q L (.int r :: st) M k2 n2 (cont r) emb) : V Y pc L stk M k n (f.bind cont) emb := by
  subst hk2; subst hn2
  exact V_callS hK hok hin hl hrm hd hp hn hstk hcat (fun x v M1 _ e => by cases e; exact h x) (fun x E M1 _ e => by cases e)
theorem V_cSwI {f : Option (Int32 × Mem)} {cont : Int32 × Mem → Option τ} (hK : K Y2 As M f wI) (hok : mOK Y2 np) (hin : Cond.static Y2.y ∈ cr_U) (hl : Cond.methodLink Y.own idx Y2.y ∈ cr_U) (hrm : rmOK Y Y2 k n) (hd : decode Y.cc pc = .ok (.invokestatic idx, 3)) (hp : pc + 3 = q) (hn : As.length = np) (hstk : stk = As.reverse ++ st) (hcat : (st.map fun v => v.category).sum ≤ 8) (hk2 : k + Y2.rm.cells = k2) (hn2 : n + Y2.rm.slots = n2) (h : ∀ r M1, V Y q L (.int r :: st) M1 k2 n2 (cont (r, M1)) emb) : V Y pc L stk M k n (f.bind cont) emb := by
  subst hk2; subst hn2
  exact V_callS hK hok hin hl hrm hd hp hn hstk hcat (fun x v M1 _ e => by cases e; exact h x.1 x.2) (fun x E M1 _ e => by cases e)
theorem V_cStI {f : Option ((Int32 ⊕ String) × Mem)} {cont : Int32 → Mem → Option ((β ⊕ String) × Mem)} (hK : K Y2 As M f tI) (hh : Y.hh = []) (he : ∀ E M1, embx (.inr E, M1) = (.inr E, M1)) (hok : mOK Y2 np) (hin : Cond.static Y2.y ∈ cr_U) (hl : Cond.methodLink Y.own idx Y2.y ∈ cr_U) (hrm : rmOK Y Y2 k n) (hd : decode Y.cc pc = .ok (.invokestatic idx, 3)) (hp : pc + 3 = q) (hn : As.length = np) (hstk : stk = As.reverse ++ st) (hcat : (st.map fun v => v.category).sum ≤ 8) (hk2 : k + Y2.rm.cells = k2) (hn2 : n + Y2.rm.slots = n2) (h : ∀ r M1, V Y q L (.int r :: st) M1 k2 n2 (cont r M1) embx) : V Y pc L stk M k n (bX f cont) embx := by
  subst hk2; subst hn2
  refine V_callS hK hok hin hl hrm hd hp hn hstk hcat (fun x v M1 _ e => ?_) (fun x E M1 _ e y ey => ?_)
  · obtain ⟨x | x, M2⟩ := x
    · cases e; exact h x _
    · cases e
  · obtain ⟨x | x, M2⟩ := x
    · cases e
    · cases e; cases ey; exact ⟨hh, he _ _⟩
theorem V_cSeZ {f : Option (Bool)} {cont : Bool → Option τ} (hK : K Y2 As M f (eZ M)) (hok : mOK Y2 np) (hin : Cond.static Y2.y ∈ cr_U) (hl : Cond.methodLink Y.own idx Y2.y ∈ cr_U) (hrm : rmOK Y Y2 k n) (hd : decode Y.cc pc = .ok (.invokestatic idx, 3)) (hp : pc + 3 = q) (hn : As.length = np) (hstk : stk = As.reverse ++ st) (hcat : (st.map fun v => v.category).sum ≤ 8) (hk2 : k + Y2.rm.cells = k2) (hn2 : n + Y2.rm.slots = n2) (h : ∀ r, V Y q L (.int (b2i r) :: st) M k2 n2 (cont r) emb) : V Y pc L stk M k n (f.bind cont) emb := by
  subst hk2; subst hn2
  exact V_callS hK hok hin hl hrm hd hp hn hstk hcat (fun x v M1 _ e => by cases e; exact h x) (fun x E M1 _ e => by cases e)
theorem V_cSwZ {f : Option (Bool × Mem)} {cont : Bool × Mem → Option τ} (hK : K Y2 As M f wZ) (hok : mOK Y2 np) (hin : Cond.static Y2.y ∈ cr_U) (hl : Cond.methodLink Y.own idx Y2.y ∈ cr_U) (hrm : rmOK Y Y2 k n) (hd : decode Y.cc pc = .ok (.invokestatic idx, 3)) (hp : pc + 3 = q) (hn : As.length = np) (hstk : stk = As.reverse ++ st) (hcat : (st.map fun v => v.category).sum ≤ 8) (hk2 : k + Y2.rm.cells = k2) (hn2 : n + Y2.rm.slots = n2) (h : ∀ r M1, V Y q L (.int (b2i r) :: st) M1 k2 n2 (cont (r, M1)) emb) : V Y pc L stk M k n (f.bind cont) emb := by
  subst hk2; subst hn2
  exact V_callS hK hok hin hl hrm hd hp hn hstk hcat (fun x v M1 _ e => by cases e; exact h x.1 x.2) (fun x E M1 _ e => by cases e)
theorem V_cStZ {f : Option ((Bool ⊕ String) × Mem)} {cont : Bool → Mem → Option ((β ⊕ String) × Mem)} (hK : K Y2 As M f tZ) (hh : Y.hh = []) (he : ∀ E M1, embx (.inr E, M1) = (.inr E, M1)) (hok : mOK Y2 np) (hin : Cond.static Y2.y ∈ cr_U) (hl : Cond.methodLink Y.own idx Y2.y ∈ cr_U) (hrm : rmOK Y Y2 k n) (hd : decode Y.cc pc = .ok (.invokestatic idx, 3)) (hp : pc + 3 = q) (hn : As.length = np) (hstk : stk = As.reverse ++ st) (hcat : (st.map fun v => v.category).sum ≤ 8) (hk2 : k + Y2.rm.cells = k2) (hn2 : n + Y2.rm.slots = n2) (h : ∀ r M1, V Y q L (.int (b2i r) :: st) M1 k2 n2 (cont r M1) embx) : V Y pc L stk M k n (bX f cont) embx := by
  subst hk2; subst hn2
  refine V_callS hK hok hin hl hrm hd hp hn hstk hcat (fun x v M1 _ e => ?_) (fun x E M1 _ e y ey => ?_)
  · obtain ⟨x | x, M2⟩ := x
    · cases e; exact h x _
    · cases e
  · obtain ⟨x | x, M2⟩ := x
    · cases e
    · cases e; cases ey; exact ⟨hh, he _ _⟩
theorem V_cSeJ {f : Option (Int64)} {cont : Int64 → Option τ} (hK : K Y2 As M f (eJ M)) (hok : mOK Y2 np) (hin : Cond.static Y2.y ∈ cr_U) (hl : Cond.methodLink Y.own idx Y2.y ∈ cr_U) (hrm : rmOK Y Y2 k n) (hd : decode Y.cc pc = .ok (.invokestatic idx, 3)) (hp : pc + 3 = q) (hn : As.length = np) (hstk : stk = As.reverse ++ st) (hcat : (st.map fun v => v.category).sum ≤ 8) (hk2 : k + Y2.rm.cells = k2) (hn2 : n + Y2.rm.slots = n2) (h : ∀ r, V Y q L (.long r :: st) M k2 n2 (cont r) emb) : V Y pc L stk M k n (f.bind cont) emb := by
  subst hk2; subst hn2
  exact V_callS hK hok hin hl hrm hd hp hn hstk hcat (fun x v M1 _ e => by cases e; exact h x) (fun x E M1 _ e => by cases e)
theorem V_cSwJ {f : Option (Int64 × Mem)} {cont : Int64 × Mem → Option τ} (hK : K Y2 As M f wJ) (hok : mOK Y2 np) (hin : Cond.static Y2.y ∈ cr_U) (hl : Cond.methodLink Y.own idx Y2.y ∈ cr_U) (hrm : rmOK Y Y2 k n) (hd : decode Y.cc pc = .ok (.invokestatic idx, 3)) (hp : pc + 3 = q) (hn : As.length = np) (hstk : stk = As.reverse ++ st) (hcat : (st.map fun v => v.category).sum ≤ 8) (hk2 : k + Y2.rm.cells = k2) (hn2 : n + Y2.rm.slots = n2) (h : ∀ r M1, V Y q L (.long r :: st) M1 k2 n2 (cont (r, M1)) emb) : V Y pc L stk M k n (f.bind cont) emb := by
  subst hk2; subst hn2
  exact V_callS hK hok hin hl hrm hd hp hn hstk hcat (fun x v M1 _ e => by cases e; exact h x.1 x.2) (fun x E M1 _ e => by cases e)
theorem V_cStJ {f : Option ((Int64 ⊕ String) × Mem)} {cont : Int64 → Mem → Option ((β ⊕ String) × Mem)} (hK : K Y2 As M f tJ) (hh : Y.hh = []) (he : ∀ E M1, embx (.inr E, M1) = (.inr E, M1)) (hok : mOK Y2 np) (hin : Cond.static Y2.y ∈ cr_U) (hl : Cond.methodLink Y.own idx Y2.y ∈ cr_U) (hrm : rmOK Y Y2 k n) (hd : decode Y.cc pc = .ok (.invokestatic idx, 3)) (hp : pc + 3 = q) (hn : As.length = np) (hstk : stk = As.reverse ++ st) (hcat : (st.map fun v => v.category).sum ≤ 8) (hk2 : k + Y2.rm.cells = k2) (hn2 : n + Y2.rm.slots = n2) (h : ∀ r M1, V Y q L (.long r :: st) M1 k2 n2 (cont r M1) embx) : V Y pc L stk M k n (bX f cont) embx := by
  subst hk2; subst hn2
  refine V_callS hK hok hin hl hrm hd hp hn hstk hcat (fun x v M1 _ e => ?_) (fun x E M1 _ e y ey => ?_)
  · obtain ⟨x | x, M2⟩ := x
    · cases e; exact h x _
    · cases e
  · obtain ⟨x | x, M2⟩ := x
    · cases e
    · cases e; cases ey; exact ⟨hh, he _ _⟩
theorem V_cSeF {f : Option (UInt32)} {cont : UInt32 → Option τ} (hK : K Y2 As M f (eF M)) (hok : mOK Y2 np) (hin : Cond.static Y2.y ∈ cr_U) (hl : Cond.methodLink Y.own idx Y2.y ∈ cr_U) (hrm : rmOK Y Y2 k n) (hd : decode Y.cc pc = .ok (.invokestatic idx, 3)) (hp : pc + 3 = q) (hn : As.length = np) (hstk : stk = As.reverse ++ st) (hcat : (st.map fun v => v.category).sum ≤ 8) (hk2 : k + Y2.rm.cells = k2) (hn2 : n + Y2.rm.slots = n2) (h : ∀ r, V Y q L (.float r :: st) M k2 n2 (cont r) emb) : V Y pc L stk M k n (f.bind cont) emb := by
  subst hk2; subst hn2
  exact V_callS hK hok hin hl hrm hd hp hn hstk hcat (fun x v M1 _ e => by cases e; exact h x) (fun x E M1 _ e => by cases e)
theorem V_cSwF {f : Option (UInt32 × Mem)} {cont : UInt32 × Mem → Option τ} (hK : K Y2 As M f wF) (hok : mOK Y2 np) (hin : Cond.static Y2.y ∈ cr_U) (hl : Cond.methodLink Y.own idx Y2.y ∈ cr_U) (hrm : rmOK Y Y2 k n) (hd : decode Y.cc pc = .ok (.invokestatic idx, 3)) (hp : pc + 3 = q) (hn : As.length = np) (hstk : stk = As.reverse ++ st) (hcat : (st.map fun v => v.category).sum ≤ 8) (hk2 : k + Y2.rm.cells = k2) (hn2 : n + Y2.rm.slots = n2) (h : ∀ r M1, V Y q L (.float r :: st) M1 k2 n2 (cont (r, M1)) emb) : V Y pc L stk M k n (f.bind cont) emb := by
  subst hk2; subst hn2
  exact V_callS hK hok hin hl hrm hd hp hn hstk hcat (fun x v M1 _ e => by cases e; exact h x.1 x.2) (fun x E M1 _ e => by cases e)
theorem V_cStF {f : Option ((UInt32 ⊕ String) × Mem)} {cont : UInt32 → Mem → Option ((β ⊕ String) × Mem)} (hK : K Y2 As M f tF) (hh : Y.hh = []) (he : ∀ E M1, embx (.inr E, M1) = (.inr E, M1)) (hok : mOK Y2 np) (hin : Cond.static Y2.y ∈ cr_U) (hl : Cond.methodLink Y.own idx Y2.y ∈ cr_U) (hrm : rmOK Y Y2 k n) (hd : decode Y.cc pc = .ok (.invokestatic idx, 3)) (hp : pc + 3 = q) (hn : As.length = np) (hstk : stk = As.reverse ++ st) (hcat : (st.map fun v => v.category).sum ≤ 8) (hk2 : k + Y2.rm.cells = k2) (hn2 : n + Y2.rm.slots = n2) (h : ∀ r M1, V Y q L (.float r :: st) M1 k2 n2 (cont r M1) embx) : V Y pc L stk M k n (bX f cont) embx := by
  subst hk2; subst hn2
  refine V_callS hK hok hin hl hrm hd hp hn hstk hcat (fun x v M1 _ e => ?_) (fun x E M1 _ e y ey => ?_)
  · obtain ⟨x | x, M2⟩ := x
    · cases e; exact h x _
    · cases e
  · obtain ⟨x | x, M2⟩ := x
    · cases e
    · cases e; cases ey; exact ⟨hh, he _ _⟩
theorem V_cSeD {f : Option (UInt64)} {cont : UInt64 → Option τ} (hK : K Y2 As M f (eD M)) (hok : mOK Y2 np) (hin : Cond.static Y2.y ∈ cr_U) (hl : Cond.methodLink Y.own idx Y2.y ∈ cr_U) (hrm : rmOK Y Y2 k n) (hd : decode Y.cc pc = .ok (.invokestatic idx, 3)) (hp : pc + 3 = q) (hn : As.length = np) (hstk : stk = As.reverse ++ st) (hcat : (st.map fun v => v.category).sum ≤ 8) (hk2 : k + Y2.rm.cells = k2) (hn2 : n + Y2.rm.slots = n2) (h : ∀ r, V Y q L (.double r :: st) M k2 n2 (cont r) emb) : V Y pc L stk M k n (f.bind cont) emb := by
  subst hk2; subst hn2
  exact V_callS hK hok hin hl hrm hd hp hn hstk hcat (fun x v M1 _ e => by cases e; exact h x) (fun x E M1 _ e => by cases e)
theorem V_cSwD {f : Option (UInt64 × Mem)} {cont : UInt64 × Mem → Option τ} (hK : K Y2 As M f wD) (hok : mOK Y2 np) (hin : Cond.static Y2.y ∈ cr_U) (hl : Cond.methodLink Y.own idx Y2.y ∈ cr_U) (hrm : rmOK Y Y2 k n) (hd : decode Y.cc pc = .ok (.invokestatic idx, 3)) (hp : pc + 3 = q) (hn : As.length = np) (hstk : stk = As.reverse ++ st) (hcat : (st.map fun v => v.category).sum ≤ 8) (hk2 : k + Y2.rm.cells = k2) (hn2 : n + Y2.rm.slots = n2) (h : ∀ r M1, V Y q L (.double r :: st) M1 k2 n2 (cont (r, M1)) emb) : V Y pc L stk M k n (f.bind cont) emb := by
  subst hk2; subst hn2
  exact V_callS hK hok hin hl hrm hd hp hn hstk hcat (fun x v M1 _ e => by cases e; exact h x.1 x.2) (fun x E M1 _ e => by cases e)
theorem V_cStD {f : Option ((UInt64 ⊕ String) × Mem)} {cont : UInt64 → Mem → Option ((β ⊕ String) × Mem)} (hK : K Y2 As M f tD) (hh : Y.hh = []) (he : ∀ E M1, embx (.inr E, M1) = (.inr E, M1)) (hok : mOK Y2 np) (hin : Cond.static Y2.y ∈ cr_U) (hl : Cond.methodLink Y.own idx Y2.y ∈ cr_U) (hrm : rmOK Y Y2 k n) (hd : decode Y.cc pc = .ok (.invokestatic idx, 3)) (hp : pc + 3 = q) (hn : As.length = np) (hstk : stk = As.reverse ++ st) (hcat : (st.map fun v => v.category).sum ≤ 8) (hk2 : k + Y2.rm.cells = k2) (hn2 : n + Y2.rm.slots = n2) (h : ∀ r M1, V Y q L (.double r :: st) M1 k2 n2 (cont r M1) embx) : V Y pc L stk M k n (bX f cont) embx := by
  subst hk2; subst hn2
  refine V_callS hK hok hin hl hrm hd hp hn hstk hcat (fun x v M1 _ e => ?_) (fun x E M1 _ e y ey => ?_)
  · obtain ⟨x | x, M2⟩ := x
    · cases e; exact h x _
    · cases e
  · obtain ⟨x | x, M2⟩ := x
    · cases e
    · cases e; cases ey; exact ⟨hh, he _ _⟩
theorem V_cSeR {f : Option (Nat)} {cont : Nat → Option τ} (hK : K Y2 As M f (eR M)) (hok : mOK Y2 np) (hin : Cond.static Y2.y ∈ cr_U) (hl : Cond.methodLink Y.own idx Y2.y ∈ cr_U) (hrm : rmOK Y Y2 k n) (hd : decode Y.cc pc = .ok (.invokestatic idx, 3)) (hp : pc + 3 = q) (hn : As.length = np) (hstk : stk = As.reverse ++ st) (hcat : (st.map fun v => v.category).sum ≤ 8) (hk2 : k + Y2.rm.cells = k2) (hn2 : n + Y2.rm.slots = n2) (h : ∀ r, V Y q L (.ref r :: st) M k2 n2 (cont r) emb) : V Y pc L stk M k n (f.bind cont) emb := by
  subst hk2; subst hn2
  exact V_callS hK hok hin hl hrm hd hp hn hstk hcat (fun x v M1 _ e => by cases e; exact h x) (fun x E M1 _ e => by cases e)
theorem V_cSwR {f : Option (Nat × Mem)} {cont : Nat × Mem → Option τ} (hK : K Y2 As M f wR) (hok : mOK Y2 np) (hin : Cond.static Y2.y ∈ cr_U) (hl : Cond.methodLink Y.own idx Y2.y ∈ cr_U) (hrm : rmOK Y Y2 k n) (hd : decode Y.cc pc = .ok (.invokestatic idx, 3)) (hp : pc + 3 = q) (hn : As.length = np) (hstk : stk = As.reverse ++ st) (hcat : (st.map fun v => v.category).sum ≤ 8) (hk2 : k + Y2.rm.cells = k2) (hn2 : n + Y2.rm.slots = n2) (h : ∀ r M1, V Y q L (.ref r :: st) M1 k2 n2 (cont (r, M1)) emb) : V Y pc L stk M k n (f.bind cont) emb := by
  subst hk2; subst hn2
  exact V_callS hK hok hin hl hrm hd hp hn hstk hcat (fun x v M1 _ e => by cases e; exact h x.1 x.2) (fun x E M1 _ e => by cases e)
theorem V_cStR {f : Option ((Nat ⊕ String) × Mem)} {cont : Nat → Mem → Option ((β ⊕ String) × Mem)} (hK : K Y2 As M f tR) (hh : Y.hh = []) (he : ∀ E M1, embx (.inr E, M1) = (.inr E, M1)) (hok : mOK Y2 np) (hin : Cond.static Y2.y ∈ cr_U) (hl : Cond.methodLink Y.own idx Y2.y ∈ cr_U) (hrm : rmOK Y Y2 k n) (hd : decode Y.cc pc = .ok (.invokestatic idx, 3)) (hp : pc + 3 = q) (hn : As.length = np) (hstk : stk = As.reverse ++ st) (hcat : (st.map fun v => v.category).sum ≤ 8) (hk2 : k + Y2.rm.cells = k2) (hn2 : n + Y2.rm.slots = n2) (h : ∀ r M1, V Y q L (.ref r :: st) M1 k2 n2 (cont r M1) embx) : V Y pc L stk M k n (bX f cont) embx := by
  subst hk2; subst hn2
  refine V_callS hK hok hin hl hrm hd hp hn hstk hcat (fun x v M1 _ e => ?_) (fun x E M1 _ e y ey => ?_)
  · obtain ⟨x | x, M2⟩ := x
    · cases e; exact h x _
    · cases e
  · obtain ⟨x | x, M2⟩ := x
    · cases e
    · cases e; cases ey; exact ⟨hh, he _ _⟩
theorem V_cSeQ {f : Option (Option Nat)} {cont : Option Nat → Option τ} (hK : K Y2 As M f (eQ M)) (hok : mOK Y2 np) (hin : Cond.static Y2.y ∈ cr_U) (hl : Cond.methodLink Y.own idx Y2.y ∈ cr_U) (hrm : rmOK Y Y2 k n) (hd : decode Y.cc pc = .ok (.invokestatic idx, 3)) (hp : pc + 3 = q) (hn : As.length = np) (hstk : stk = As.reverse ++ st) (hcat : (st.map fun v => v.category).sum ≤ 8) (hk2 : k + Y2.rm.cells = k2) (hn2 : n + Y2.rm.slots = n2) (h : ∀ r, V Y q L (va_rf r :: st) M k2 n2 (cont r) emb) : V Y pc L stk M k n (f.bind cont) emb := by
  subst hk2; subst hn2
  exact V_callS hK hok hin hl hrm hd hp hn hstk hcat (fun x v M1 _ e => by cases e; exact h x) (fun x E M1 _ e => by cases e)
theorem V_cSwQ {f : Option (Option Nat × Mem)} {cont : Option Nat × Mem → Option τ} (hK : K Y2 As M f wQ) (hok : mOK Y2 np) (hin : Cond.static Y2.y ∈ cr_U) (hl : Cond.methodLink Y.own idx Y2.y ∈ cr_U) (hrm : rmOK Y Y2 k n) (hd : decode Y.cc pc = .ok (.invokestatic idx, 3)) (hp : pc + 3 = q) (hn : As.length = np) (hstk : stk = As.reverse ++ st) (hcat : (st.map fun v => v.category).sum ≤ 8) (hk2 : k + Y2.rm.cells = k2) (hn2 : n + Y2.rm.slots = n2) (h : ∀ r M1, V Y q L (va_rf r :: st) M1 k2 n2 (cont (r, M1)) emb) : V Y pc L stk M k n (f.bind cont) emb := by
  subst hk2; subst hn2
  exact V_callS hK hok hin hl hrm hd hp hn hstk hcat (fun x v M1 _ e => by cases e; exact h x.1 x.2) (fun x E M1 _ e => by cases e)
theorem V_cStQ {f : Option ((Option Nat ⊕ String) × Mem)} {cont : Option Nat → Mem → Option ((β ⊕ String) × Mem)} (hK : K Y2 As M f tQ) (hh : Y.hh = []) (he : ∀ E M1, embx (.inr E, M1) = (.inr E, M1)) (hok : mOK Y2 np) (hin : Cond.static Y2.y ∈ cr_U) (hl : Cond.methodLink Y.own idx Y2.y ∈ cr_U) (hrm : rmOK Y Y2 k n) (hd : decode Y.cc pc = .ok (.invokestatic idx, 3)) (hp : pc + 3 = q) (hn : As.length = np) (hstk : stk = As.reverse ++ st) (hcat : (st.map fun v => v.category).sum ≤ 8) (hk2 : k + Y2.rm.cells = k2) (hn2 : n + Y2.rm.slots = n2) (h : ∀ r M1, V Y q L (va_rf r :: st) M1 k2 n2 (cont r M1) embx) : V Y pc L stk M k n (bX f cont) embx := by
  subst hk2; subst hn2
  refine V_callS hK hok hin hl hrm hd hp hn hstk hcat (fun x v M1 _ e => ?_) (fun x E M1 _ e y ey => ?_)
  · obtain ⟨x | x, M2⟩ := x
    · cases e; exact h x _
    · cases e
  · obtain ⟨x | x, M2⟩ := x
    · cases e
    · cases e; cases ey; exact ⟨hh, he _ _⟩
theorem V_cSwV {f : Option Mem} {cont : Mem → Option τ} (hK : K Y2 As M f wV) (hok : mOK Y2 np) (hin : Cond.static Y2.y ∈ cr_U) (hl : Cond.methodLink Y.own idx Y2.y ∈ cr_U) (hrm : rmOK Y Y2 k n) (hd : decode Y.cc pc = .ok (.invokestatic idx, 3)) (hp : pc + 3 = q) (hn : As.length = np) (hstk : stk = As.reverse ++ st) (hcat : (st.map fun v => v.category).sum ≤ 8) (hk2 : k + Y2.rm.cells = k2) (hn2 : n + Y2.rm.slots = n2) (h : ∀ M1, V Y q L st M1 k2 n2 (cont M1) emb) : V Y pc L stk M k n (f.bind cont) emb := by
  subst hk2; subst hn2
  exact V_callS hK hok hin hl hrm hd hp hn hstk hcat (fun x v M1 _ e => by cases e; exact h x) (fun x E M1 _ e => by cases e)
theorem V_cStV {f : Option ((Unit ⊕ String) × Mem)} {cont : Unit → Mem → Option ((β ⊕ String) × Mem)} (hK : K Y2 As M f tV) (hh : Y.hh = []) (he : ∀ E M1, embx (.inr E, M1) = (.inr E, M1)) (hok : mOK Y2 np) (hin : Cond.static Y2.y ∈ cr_U) (hl : Cond.methodLink Y.own idx Y2.y ∈ cr_U) (hrm : rmOK Y Y2 k n) (hd : decode Y.cc pc = .ok (.invokestatic idx, 3)) (hp : pc + 3 = q) (hn : As.length = np) (hstk : stk = As.reverse ++ st) (hcat : (st.map fun v => v.category).sum ≤ 8) (hk2 : k + Y2.rm.cells = k2) (hn2 : n + Y2.rm.slots = n2) (h : ∀ M1, V Y q L st M1 k2 n2 (cont () M1) embx) : V Y pc L stk M k n (bX f cont) embx := by
  subst hk2; subst hn2
  refine V_callS hK hok hin hl hrm hd hp hn hstk hcat (fun x v M1 _ e => ?_) (fun x E M1 _ e y ey => ?_)
  · obtain ⟨x | x, M2⟩ := x
    · cases e; exact h _
    · cases e
  · obtain ⟨x | x, M2⟩ := x
    · cases e
    · cases e; cases ey; exact ⟨hh, he _ _⟩
theorem V_cIwV {f : Option Mem} {cont : Mem → Option τ} (hK : K Y2 (.ref b :: As) M f wV) (hok : mOK Y2 np) (hin : Cond.instanceMethod Y2.y ∈ cr_U) (hl : Cond.methodLink Y.own idx Y2.y ∈ cr_U) (hrm : rmOK Y Y2 k n) (hret0 : Y2.ret = none) (hnm : Y2.y.name = "<init>") (hd : decode Y.cc pc = .ok (.invokespecial idx, 3)) (hp : pc + 3 = q) (hn : As.length = np) (hstk : stk = As.reverse ++ .ref b :: st) (hcat : (st.map fun v => v.category).sum ≤ 8) (hk2 : k + Y2.rm.cells = k2) (hn2 : n + Y2.rm.slots = n2) (h : ∀ M1, V Y q L st M1 k2 n2 (cont M1) emb) : V Y pc L stk M k n (f.bind cont) emb := by
  subst hk2; subst hn2
  exact V_callI hK hok hin hl hrm hret0 hnm hd hp hn hstk hcat (fun x v M1 _ e => by cases e; exact h x) (fun x E M1 _ e => by cases e)
theorem V_cItV {f : Option ((Unit ⊕ String) × Mem)} {cont : Unit → Mem → Option ((β ⊕ String) × Mem)} (hK : K Y2 (.ref b :: As) M f tV) (hh : Y.hh = []) (he : ∀ E M1, embx (.inr E, M1) = (.inr E, M1)) (hok : mOK Y2 np) (hin : Cond.instanceMethod Y2.y ∈ cr_U) (hl : Cond.methodLink Y.own idx Y2.y ∈ cr_U) (hrm : rmOK Y Y2 k n) (hret0 : Y2.ret = none) (hnm : Y2.y.name = "<init>") (hd : decode Y.cc pc = .ok (.invokespecial idx, 3)) (hp : pc + 3 = q) (hn : As.length = np) (hstk : stk = As.reverse ++ .ref b :: st) (hcat : (st.map fun v => v.category).sum ≤ 8) (hk2 : k + Y2.rm.cells = k2) (hn2 : n + Y2.rm.slots = n2) (h : ∀ M1, V Y q L st M1 k2 n2 (cont () M1) embx) : V Y pc L stk M k n (bX f cont) embx := by
  subst hk2; subst hn2
  refine V_callI hK hok hin hl hrm hret0 hnm hd hp hn hstk hcat (fun x v M1 _ e => ?_) (fun x E M1 _ e y ey => ?_)
  · obtain ⟨x | x, M2⟩ := x
    · cases e; exact h _
    · cases e
  · obtain ⟨x | x, M2⟩ := x
    · cases e
    · cases e; cases ey; exact ⟨hh, he _ _⟩
end CALLK
section MISC
variable {τ : Type} {Y : MI} {pc q : Nat} {L L' : List (Nat × Value)} {st : List Value} {M : Mem} {k n : Nat} {comp : Option τ} {emb : τ → Out}
theorem obj_U : Cond.instanceMethod Lib.objectInit ∈ lw_tbl ∧ Cond.code Lib.objectInit ⟨#[0xb1]⟩ 1 none ∈ lw_tbl := by decide +kernel
theorem V_objInit {r idx : Nat} (hl : Cond.methodLink Y.own idx Lib.objectInit ∈ cr_U) (hd : decode Y.cc pc = .ok (.invokespecial idx, 3)) (hp : pc + 3 = q) (hrm : 1 ≤ Y.rm.frames ∧ (st.map fun v => v.category).sum + 12 ≤ Y.rm.locals) (h : V Y q L st M k n comp emb) : V Y pc L (.ref r :: st) M k n comp emb := by
  subst hp
  intro a ha G hG p e s m args below meth c H locs ls F hW hS hl'
  refine W.objInit F.1 F.2.1 F.own (F.U hl) (F.U (cr_Uof obj_U.1 rfl)) (F.U (cr_Uof obj_U.2 rfl)) rfl (hl'.1.trans F.2.2.1.symm) rfl hd hrm.1 ?_ (h a ha G hG p e s m args below meth c H locs ls F hW hS hl')
  rw [List.map_map]
  have : (fun v : Value => v.category) ∘ cr_v G.r = fun v => v.category := funext fun v => cr_cat _ _
  rw [this]
  have h2 := hrm.2
  show 2 * 0 + _ + 12 ≤ _
  omega
theorem V_ldc {idx : Nat} {x : Int32} (hl : Cond.constant Y.own idx x ∈ cr_U) (hd : decode Y.cc pc = .ok (.ldc idx, 2)) (hp : pc + 2 = q) (h : V Y q L (.int x :: st) M k n comp emb) : V Y pc L st M k n comp emb := by
  subst hp
  exact fun a ha G hG p e s m args below meth c H locs ls F hW hS hl' => lv_ldc F.1 F.2.1 F.own (F.U hl) hd (h a ha G hG p e s m args below meth c H locs ls F hW hS hl')
theorem V_ldcw {idx : Nat} {x : Int32} (hl : Cond.constant Y.own idx x ∈ cr_U) (hd : decode Y.cc pc = .ok (.ldc_w idx, 3)) (hp : pc + 3 = q) (h : V Y q L (.int x :: st) M k n comp emb) : V Y pc L st M k n comp emb := by
  subst hp
  exact fun a ha G hG p e s m args below meth c H locs ls F hW hS hl' => lv_ldcw F.1 F.2.1 F.own (F.U hl) hd (h a ha G hG p e s m args below meth c H locs ls F hW hS hl')
theorem V_ldc2 {idx : Nat} {x : Int64} (hl : Cond.constantLong Y.own idx x ∈ cr_U) (hd : decode Y.cc pc = .ok (.ldc2_w idx, 3)) (hp : pc + 3 = q) (h : V Y q L (.long x :: st) M k n comp emb) : V Y pc L st M k n comp emb := by
  subst hp
  exact fun a ha G hG p e s m args below meth c H locs ls F hW hS hl' => lv_ldc2 F.1 F.2.1 F.own (F.U hl) hd (h a ha G hG p e s m args below meth c H locs ls F hW hS hl')
theorem mem_U {w : Cond} {i : Nat} (h : lw_tbl[i]? = some w) (hg : goodWord w = true) : w ∈ cr_U := cr_Uof (List.mem_of_getElem? h) hg
/-- a division by what isn't 0 -/
def dv (y : Int32) {α : Type} (x : Option α) : Option α := if y = 0 then none else x
theorem V_dv {y : Int32} (h : ¬ y = 0 → V Y pc L st M k n comp emb) : V Y pc L st M k n (dv y comp) emb := by
  unfold dv
  by_cases hy : y = 0
  · rw [if_pos hy]; exact V_none
  · rw [if_neg hy]; exact h hy
def nf32 (y : UInt32) {α : Type} (x : Option α) : Option α := if y &&& 0x7fffffff ≤ 0x7f800000 then x else none
theorem V_nf32 {y : UInt32} (h : vf_n32 y → V Y pc L st M k n comp emb) : V Y pc L st M k n (nf32 y comp) emb := by
  unfold nf32
  by_cases hy : y &&& 0x7fffffff ≤ 0x7f800000
  · rw [if_pos hy]; exact h hy
  · rw [if_neg hy]; exact V_none
def nf64 (y : UInt64) {α : Type} (x : Option α) : Option α := if y &&& 0x7fffffffffffffff ≤ 0x7ff0000000000000 then x else none
theorem V_nf64 {y : UInt64} (h : vf_n64 y → V Y pc L st M k n comp emb) : V Y pc L st M k n (nf64 y comp) emb := by
  unfold nf64
  by_cases hy : y &&& 0x7fffffffffffffff ≤ 0x7ff0000000000000
  · rw [if_pos hy]; exact h hy
  · rw [if_neg hy]; exact V_none
/-- a nullable ref that is used -/
theorem V_nn {x : Option Nat} {cont : Nat → Option τ} (h : ∀ r, x = some r → V Y pc L st M k n (cont r) emb) : V Y pc L st M k n (x.bind cont) emb := V_bind h
end MISC
