/-! OWN CORE. Abstract memory, and V: what a method's frame still computes, said without the machine. -/
def cr_r (ad : Nat → Nat) (b0 : Nat) (r : Nat) : Nat := if r < 100 then ad r else b0 + (r - 100)
def cr_v (f : Nat → Nat) (v : Value) : Value := match v with
  | .ref r => .ref (f r)
  | .int x => .int x
  | .long x => .long x
  | .float x => .float x
  | .double x => .double x
  | .null => .null
  | .retAddr x => .retAddr x
def cr_2 (f : Nat → Nat) (q : Nat × Value) : Nat × Value := (q.1, cr_v f q.2)
theorem cr_cat (f : Nat → Nat) (v : Value) : (cr_v f v).category = v.category := by cases v <;> rfl
/-- what a cell holds: an array of a kind of elements, or an object of a class -/
abbrev PC : Type := (Nat × vp_A) ⊕ (Nat × List Value)
/-- cells; the next new ref (0: not known); the script -/
abbrev Mem : Type := (Nat → Option PC) × Nat × Nat × (Nat → Int32)
def cr_a (f : Nat → Nat) (x : vp_A) : vp_A := match x with
  | (n, .inr (.inr (.inr (.inr g)))) => (n, .inr (.inr (.inr (.inr (fun j => (g j).map f)))))
  | y => y
def tyL (t : Nat) : FieldType := match t with
  | 0 => .int
  | 1 => .long
  | 2 => .byte
  | 3 => .boolean
  | 4 => .double
  | 5 => .object "MailSessions$Box"
  | 6 => .object "MailSessions$Session"
  | 7 => .object "MailSessions$State"
  | 8 => .object "MailSessions$Keyword"
  | 9 => .array .int
  | _ => .object "java/lang/String"
/-- the start: launch, state, arguments, the classes' numbers, the constants' addresses -/
abbrev Gx : Type := Launch × State × Array Value × va_G × (Nat → Nat)
def Gx.l (G : Gx) : Launch := G.1
def Gx.s (G : Gx) : State := G.2.1
def Gx.a (G : Gx) : Array Value := G.2.2.1
def Gx.D (G : Gx) : va_G := G.2.2.2.1
def Gx.ad (G : Gx) : Nat → Nat := G.2.2.2.2
def Gx.b (G : Gx) : Nat := G.s.heap.size
def Gx.r (G : Gx) : Nat → Nat := cr_r G.ad G.b
/-- what may be written -/
def Gx.A (G : Gx) : Nat → Prop := fun q => G.b ≤ q
def cellAt (G : Gx) (H : Heap) (a : Nat) (c : PC) : Prop := match c with
  | .inl (t, x) => ∃ cA : ClassId, (ArrOfT G.s cA (tyL t) ∧ va_RA G.s cA (tyL t)) ∧ va_at G.D vwCl (a, .inl (cA, cr_a G.r x)) H
  | .inr (ci, fs) => va_at G.D vwCl (a, .inr (ci, fs.map (cr_v G.r))) H
/-- the machine's heap holds the memory; what was there at the start is as it was -/
def WR (G : Gx) (H : Heap) (M : Mem) : Prop :=
  (G.b ≤ H.size ∧ (∀ q : Nat, q < G.b → H[q]? = G.s.heap[q]?) ∧ va_T .int (G.ad 42) M.2.2.1 (fun j => .int (M.2.2.2 j)) G.A G.s G.s.heap) ∧ (M.2.1 ≠ 0 → G.b + M.2.1 = H.size + 100) ∧ ∀ (r : Nat) (c : PC), M.1 r = some c → 100 ≤ r ∧ cellAt G H (G.r r) c
def cr_U : List Cond := lw_tbl.filter goodWord
/-- a method: own class, name, code, locals, answer, handlers, room -/
abbrev MI : Type := String × MethodName × ByteArray × Nat × Option FieldType × List (Nat × Nat × Nat × Nat) × Room
def MI.own (Y : MI) : String := Y.1
def MI.y (Y : MI) : MethodName := Y.2.1
def MI.cc (Y : MI) : ByteArray := Y.2.2.1
def MI.nL (Y : MI) : Nat := Y.2.2.2.1
def MI.ret (Y : MI) : Option FieldType := Y.2.2.2.2.1
def MI.hh (Y : MI) : List (Nat × Nat × Nat × Nat) := Y.2.2.2.2.2.1
def MI.rm (Y : MI) : Room := Y.2.2.2.2.2.2
def MI.w0 (Y : MI) : Cond := match Y.hh with
  | [] => .code Y.y Y.cc Y.nL Y.ret
  | (0, 0, 0, 0) :: _ => .initialized Y.own
  | _ => .codeWith Y.y Y.cc Y.nL Y.ret Y.hh
/-- of the law's own frame neither its table nor its name is asked -/
def lawH : List (Nat × Nat × Nat × Nat) := [(0, 0, 0, 0)]
def MI.ws (Y : MI) : List Cond := Y.w0 :: cr_U
/-- the constants: the enum's, with their fields and words -/
def kwName (i : Nat) : String := ["LIMIT", "BOX", "MESSAGE", "SIZE", "SESSION", "READS", "SEEN_FLAG", "ANSWERED_FLAG", "FLAGGED_FLAG", "DELETED_FLAG", "DRAFT_FLAG", "ALL", "UID", "NOT", "OR"].getD i ""
def kwFlag (i : Nat) : Int32 := ([0, 0, 0, 0, 0, 0, 1, 2, 4, 8, 16, 0, 0, 0, 0] : List Int32).getD i 0
def kwWord (i : Nat) : List Int32 := ([[108, 105, 109, 105, 116], [98, 111, 120], [109, 101, 115, 115, 97, 103, 101], [115, 105, 122, 101], [115, 101, 115, 115, 105, 111, 110], [114, 101, 97, 100, 115], [115, 101, 101, 110], [97, 110, 115, 119, 101, 114, 101, 100], [102, 108, 97, 103, 103, 101, 100], [100, 101, 108, 101, 116, 101, 100], [100, 114, 97, 102, 116], [97, 108, 108], [117, 105, 100], [110, 111, 116], [111, 114]] : List (List Int32)).getD i []
def kwT : String := "MailSessions$Keyword"
def kwD : String := "LMailSessions$Keyword;"
/-- the law's String constants: place in the class file, text, bytes -/
def lsIdx (j : Nat) : Nat := ([68, 76, 78, 83, 85, 42, 44, 46, 48, 50, 55, 91, 93, 95] : List Nat).getD j 0
def lsTx (j : Nat) : String := (["limit ", ";", "box b", "message b", " size ", " seen", " answered", " flagged", " deleted", " draft", "", "session s", " reads b", " b"] : List String).getD j ""
def lsBy (j : Nat) : List Int32 := ([[108, 105, 109, 105, 116, 32], [59], [98, 111, 120, 32, 98], [109, 101, 115, 115, 97, 103, 101, 32, 98], [32, 115, 105, 122, 101, 32], [32, 115, 101, 101, 110], [32, 97, 110, 115, 119, 101, 114, 101, 100], [32, 102, 108, 97, 103, 103, 101, 100], [32, 100, 101, 108, 101, 116, 101, 100], [32, 100, 114, 97, 102, 116], [], [115, 101, 115, 115, 105, 111, 110, 32, 115], [32, 114, 101, 97, 100, 115, 32, 98], [32, 98]] : List (List Int32)).getD j []
def dgO : List Int32 := [48, 49, 50, 51, 52, 53, 54, 55, 56, 57, 48, 49, 50, 51, 52, 53, 54, 55, 56, 57, 48, 49, 50, 51, 52, 53, 54, 55, 56, 57, 48, 49, 50, 51, 52, 53, 54, 55, 56, 57, 48, 49, 50, 51, 52, 53, 54, 55, 56, 57, 48, 49, 50, 51, 52, 53, 54, 55, 56, 57, 48, 49, 50, 51, 52, 53, 54, 55, 56, 57, 48, 49, 50, 51, 52, 53, 54, 55, 56, 57, 48, 49, 50, 51, 52, 53, 54, 55, 56, 57, 48, 49, 50, 51, 52, 53, 54, 55, 56, 57]
def dgT : List Int32 := [48, 48, 48, 48, 48, 48, 48, 48, 48, 48, 49, 49, 49, 49, 49, 49, 49, 49, 49, 49, 50, 50, 50, 50, 50, 50, 50, 50, 50, 50, 51, 51, 51, 51, 51, 51, 51, 51, 51, 51, 52, 52, 52, 52, 52, 52, 52, 52, 52, 52, 53, 53, 53, 53, 53, 53, 53, 53, 53, 53, 54, 54, 54, 54, 54, 54, 54, 54, 54, 54, 55, 55, 55, 55, 55, 55, 55, 55, 55, 55, 56, 56, 56, 56, 56, 56, 56, 56, 56, 56, 57, 57, 57, 57, 57, 57, 57, 57, 57, 57]
def strT : String := "java/lang/String"
/-- the constants' fields, the words, the table of them, and two statics -/
def g_ext (G : Gx) : Prop :=
  (∀ i, i < 15 → va_O kwT (G.ad i) G.A G.s G.s.heap ∧ va_OF kwT "flag" "I" (.int (kwFlag i)) (G.ad i) G.A G.s G.s.heap ∧ va_OF kwT "word" "Ljava/lang/String;" (.ref (G.ad (20 + i))) (G.ad i) G.A G.s G.s.heap) ∧
  (va_Z kwT "KEYWORDS" "[LMailSessions$Keyword;" (.ref (G.ad 40)) G.A G.s G.s.heap ∧ va_T (.object kwT) (G.ad 40) 15 (fun j => .ref (G.ad j)) G.A G.s G.s.heap) ∧
  (∀ i, i < 15 → va_O strT (G.ad (20 + i)) G.A G.s G.s.heap ∧ va_OF strT "coder" "B" (.int 0) (G.ad (20 + i)) G.A G.s G.s.heap ∧ va_OF strT "value" "[B" (.ref (G.ad (60 + i))) (G.ad (20 + i)) G.A G.s G.s.heap ∧ va_T .byte (G.ad (60 + i)) (kwWord i).length (fun j => .int ((kwWord i).getD j 0)) G.A G.s G.s.heap) ∧
  ((∀ j, j < 14 → vk_R "MailSessionsLaw" (lsIdx j) (lsTx j) (G.ad (43 + j)) G.s ∧ va_O strT (G.ad (43 + j)) G.A G.s G.s.heap ∧ va_OF strT "coder" "B" (.int 0) (G.ad (43 + j)) G.A G.s G.s.heap ∧ va_OF strT "value" "[B" (.ref (G.ad (76 + j))) (G.ad (43 + j)) G.A G.s G.s.heap ∧ va_T .byte (G.ad (76 + j)) (lsBy j).length (fun q => .int ((lsBy j).getD q 0)) G.A G.s G.s.heap) ∧
    (va_Z "java/lang/Integer" "DigitOnes" "[B" (.ref (G.ad 90)) G.A G.s G.s.heap ∧ va_T .byte (G.ad 90) 100 (fun q => .int (dgO.getD q 0)) G.A G.s G.s.heap) ∧
    (va_Z "java/lang/Integer" "DigitTens" "[B" (.ref (G.ad 91)) G.A G.s G.s.heap ∧ va_T .byte (G.ad 91) 100 (fun q => .int (dgT.getD q 0)) G.A G.s G.s.heap)) ∧
  va_Z strT "COMPACT_STRINGS" "Z" (.int 1) G.A G.s G.s.heap ∧
  (va_Z "jdk/internal/util/Preconditions" "SIOOBE_FORMATTER" "Ljava/util/function/BiFunction;" .null G.A G.s G.s.heap ∨ va_Z "jdk/internal/util/Preconditions" "SIOOBE_FORMATTER" "Ljava/util/function/BiFunction;" (.ref (G.ad 41)) G.A G.s G.s.heap)
/-- what is known of the start -/
def g_ok (G : Gx) : Prop :=
  G.l.flags = flags0 ∧ (∀ w ∈ lw_tbl, w.before G.a G.s = true) ∧ va_K G.D vwCl [] G.s ∧ (Jvm.Cond.and given_1 narrow_1).before G.a G.s = true ∧
  True ∧ (∀ i j, i < 15 → j < 15 → G.ad i = G.ad j → i = j) ∧
  (∀ i, i < 15 → va_Z kwT (kwName i) kwD (.ref (G.ad i)) G.A G.s G.s.heap) ∧
  g_ext G
def frm (G : Gx) (Y : MI) (p : Program) (s : State) (m : MethodId) (args : Array Value) (meth : Method) (c : Code) : Prop :=
  p.tables.exec = Jvm.exec ∧ c.code = Y.cc ∧ c.maxLocals = Y.nL ∧ s.vm.findClass Y.own = some m.cls ∧ (∀ w ∈ Y.ws, w.before args s = true) ∧ meth.sig.returnType = Y.ret ∧ meth.locks = false ∧ (Y.hh ≠ lawH → c.exceptionTable.toList = tableOf Y.hh) ∧ (Y.y.name ≠ "law" → meth.name = Y.y.name) ∧ G.s.WarmedH s.vm ∧ (G.b ≤ s.heap.size ∧ ∀ q : Nat, q < G.b → s.heap[q]? = G.s.heap[q]?)
abbrev Out : Type := (Option Value ⊕ String) × Mem
def QcV (G : Gx) (o : Out) : Array Value → State → Outcome → State → Prop := fun _ st oc t => (∃ v, o.1 = .inl v ∧ oc = .returned (v.map (cr_v G.r))) ∧ WR G t.heap o.2 ∧ va_F G.A st t
def XcV (G : Gx) (o : Out) : String → State → State → Prop := fun E st t => o.1 = .inr E ∧ WR G t.heap o.2 ∧ va_F G.A st t
def V {τ : Type} (Y : MI) (pc : Nat) (L : List (Nat × Value)) (st : List Value) (M : Mem) (k n : Nat) (comp : Option τ) (emb : τ → Out) : Prop :=
  ∀ x, comp = some x → ∀ (G : Gx), g_ok G → ∀ (p : Program) (e : Env) (s : State) (m : MethodId) (args : Array Value) (below : List Frame) (meth : Method) (c : Code) (H : Heap) (locs : List Loc) (ls : Array Slot),
    frm G Y p s m args meth c → WR G H M → va_S G.A s.heap H locs → lv_has ls Y.nL (L.map (cr_2 G.r)) →
    W p G.l e Y.rm s m args below meth c H locs k n (vx_MQ below (QcV G (emb x)) (XcV G (emb x)) args s Y.rm.cells Y.rm.slots G.A) (F0 m pc ls (st.map (cr_v G.r)))
/-- the contract of a call -/
def K {τ : Type} (Y : MI) (av : List Value) (M : Mem) (comp : Option τ) (emb : τ → Out) : Prop :=
  ∀ x, comp = some x → ∀ (G : Gx), g_ok G → vx_Met G.l Y.y Y.ws Y.rm (va_Pc (av.map (cr_v G.r)) (fun U => G.s.WarmedH U.vm ∧ WR G U.heap M)) (QcV G (emb x)) (XcV G (emb x)) Y.rm.cells Y.rm.slots G.A
