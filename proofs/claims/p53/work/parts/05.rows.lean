/-! OWN ROWS over V: one for each instruction, out of the kit's -/
theorem cr_at {f : Nat → Nat} {L : List (Nat × Value)} {j i : Nat} {v : Value} (h : L[j]? = some (i, v)) : (L.map (cr_2 f))[j]? = some (i, cr_v f v) := by
  rw [List.getElem?_map, h]; rfl
theorem lv_mono {ls : Array Slot} {nL : Nat} {l l' : List (Nat × Value)} (h : lv_has ls nL l) (hs : ∀ q ∈ l', q ∈ l) : lv_has ls nL l' := ⟨h.1, h.2.1, fun q hq => h.2.2 q (hs q hq)⟩
def lflt (i : Nat) (v : Value) (L : List (Nat × Value)) : List (Nat × Value) := L.filter (fun q => !(Nat.beq q.1 i) && (!(Nat.beq v.category 2 && Nat.beq q.1 (i + 1)) && !(Nat.beq (q.1 + 1) i && Nat.beq q.2.category 2)))
def lins (q : Nat × Value) : List (Nat × Value) → List (Nat × Value)
  | [] => [q]
  | a :: l => bif Nat.blt q.1 a.1 then q :: a :: l else a :: lins q l
def lput (i : Nat) (v : Value) (L : List (Nat × Value)) : List (Nat × Value) := lins (i, v) (lflt i v L)
theorem lins_mem {q a : Nat × Value} {l : List (Nat × Value)} (h : a ∈ lins q l) : a = q ∨ a ∈ l := by
  induction l with
  | nil => exact Or.inl (List.mem_singleton.mp h)
  | cons b l ih =>
    rw [lins] at h
    cases hb : Nat.blt q.1 b.1 with
    | true => rw [hb] at h; exact List.mem_cons.mp h
    | false =>
      rw [hb] at h
      rcases List.mem_cons.mp h with h | h
      · exact Or.inr (h ▸ List.mem_cons_self)
      · rcases ih h with h | h
        · exact Or.inl h
        · exact Or.inr (List.mem_cons_of_mem _ h)
theorem nbeq {a b : Nat} : Nat.beq a b = false ↔ ¬ a = b := by
  rw [← Bool.not_eq_true, Nat.beq_eq]
theorem lput_1 {f : Nat → Nat} {i : Nat} {v : Value} {L : List (Nat × Value)} : ∀ q ∈ (lput i v L).map (cr_2 f), q ∈ (i, cr_v f v) :: (L.map (cr_2 f)).filter (fun q => !(q.1 == i) && !(q.1 + 1 == i && q.2.category == 2)) := by
  intro q hq
  obtain ⟨q0, h0, rfl⟩ := List.mem_map.mp hq
  rcases lins_mem h0 with rfl | h
  · exact List.mem_cons_self
  · refine List.mem_cons_of_mem _ (List.mem_filter.mpr ⟨List.mem_map.mpr ⟨q0, (List.mem_filter.mp h).1, rfl⟩, ?_⟩)
    have h2 := (List.mem_filter.mp h).2
    simp [nbeq, cr_2, cr_cat] at h2 ⊢
    exact ⟨h2.1, h2.2.2⟩
theorem lput_2 {f : Nat → Nat} {i : Nat} {v : Value} (hv : v.category = 2) {L : List (Nat × Value)} : ∀ q ∈ (lput i v L).map (cr_2 f), q ∈ (i, cr_v f v) :: (L.map (cr_2 f)).filter (fun q => !(q.1 == i) && (!(q.1 == i + 1) && !(q.1 + 1 == i && q.2.category == 2))) := by
  intro q hq
  obtain ⟨q0, h0, rfl⟩ := List.mem_map.mp hq
  rcases lins_mem h0 with rfl | h
  · exact List.mem_cons_self
  · refine List.mem_cons_of_mem _ (List.mem_filter.mpr ⟨List.mem_map.mpr ⟨q0, (List.mem_filter.mp h).1, rfl⟩, ?_⟩)
    have h2 := (List.mem_filter.mp h).2
    rw [hv] at h2
    simp [nbeq, cr_2, cr_cat] at h2 ⊢
    exact h2
def b2i (b : Bool) : Int32 := bif b then 1 else 0
section VROWS
variable {τ : Type} {Y : MI} {pc q : Nat} {L L' : List (Nat × Value)} {st : List Value} {M : Mem} {k n : Nat} {comp : Option τ} {emb : τ → Out}

theorem V_iadd {x y : Int32} (hd : decode Y.cc pc = .ok (.iadd, 1)) (hp : pc + 1 = q)  (h : V Y q L (.int (x + y) :: st) M k n comp emb) : V Y pc L (.int y :: .int x :: st) M k n comp emb := by
  subst hp
  exact fun a ha G hG p e s m args below meth c H locs ls F hW hS hl => lv_iadd F.1 F.2.1 hd  (h a ha G hG p e s m args below meth c H locs ls F hW hS hl)
theorem V_isub {x y : Int32} (hd : decode Y.cc pc = .ok (.isub, 1)) (hp : pc + 1 = q)  (h : V Y q L (.int (x - y) :: st) M k n comp emb) : V Y pc L (.int y :: .int x :: st) M k n comp emb := by
  subst hp
  exact fun a ha G hG p e s m args below meth c H locs ls F hW hS hl => lv_isub F.1 F.2.1 hd  (h a ha G hG p e s m args below meth c H locs ls F hW hS hl)
theorem V_imul {x y : Int32} (hd : decode Y.cc pc = .ok (.imul, 1)) (hp : pc + 1 = q)  (h : V Y q L (.int (x * y) :: st) M k n comp emb) : V Y pc L (.int y :: .int x :: st) M k n comp emb := by
  subst hp
  exact fun a ha G hG p e s m args below meth c H locs ls F hW hS hl => lv_imul F.1 F.2.1 hd  (h a ha G hG p e s m args below meth c H locs ls F hW hS hl)
theorem V_iand {x y : Int32} (hd : decode Y.cc pc = .ok (.iand, 1)) (hp : pc + 1 = q)  (h : V Y q L (.int (x &&& y) :: st) M k n comp emb) : V Y pc L (.int y :: .int x :: st) M k n comp emb := by
  subst hp
  exact fun a ha G hG p e s m args below meth c H locs ls F hW hS hl => lv_iand F.1 F.2.1 hd  (h a ha G hG p e s m args below meth c H locs ls F hW hS hl)
theorem V_ior {x y : Int32} (hd : decode Y.cc pc = .ok (.ior, 1)) (hp : pc + 1 = q)  (h : V Y q L (.int (x ||| y) :: st) M k n comp emb) : V Y pc L (.int y :: .int x :: st) M k n comp emb := by
  subst hp
  exact fun a ha G hG p e s m args below meth c H locs ls F hW hS hl => lv_ior F.1 F.2.1 hd  (h a ha G hG p e s m args below meth c H locs ls F hW hS hl)
theorem V_ixor {x y : Int32} (hd : decode Y.cc pc = .ok (.ixor, 1)) (hp : pc + 1 = q)  (h : V Y q L (.int (x ^^^ y) :: st) M k n comp emb) : V Y pc L (.int y :: .int x :: st) M k n comp emb := by
  subst hp
  exact fun a ha G hG p e s m args below meth c H locs ls F hW hS hl => lv_ixor F.1 F.2.1 hd  (h a ha G hG p e s m args below meth c H locs ls F hW hS hl)
theorem V_ishl {x y : Int32} (hd : decode Y.cc pc = .ok (.ishl, 1)) (hp : pc + 1 = q)  (h : V Y q L (.int (x <<< (y &&& 31)) :: st) M k n comp emb) : V Y pc L (.int y :: .int x :: st) M k n comp emb := by
  subst hp
  exact fun a ha G hG p e s m args below meth c H locs ls F hW hS hl => lv_ishl F.1 F.2.1 hd  (h a ha G hG p e s m args below meth c H locs ls F hW hS hl)
theorem V_ishr {x y : Int32} (hd : decode Y.cc pc = .ok (.ishr, 1)) (hp : pc + 1 = q)  (h : V Y q L (.int (x >>> (y &&& 31)) :: st) M k n comp emb) : V Y pc L (.int y :: .int x :: st) M k n comp emb := by
  subst hp
  exact fun a ha G hG p e s m args below meth c H locs ls F hW hS hl => lv_ishr F.1 F.2.1 hd  (h a ha G hG p e s m args below meth c H locs ls F hW hS hl)
theorem V_idiv {x y : Int32} (hd : decode Y.cc pc = .ok (.idiv, 1)) (hp : pc + 1 = q) (hy : ¬ y = 0) (h : V Y q L (.int (x / y) :: st) M k n comp emb) : V Y pc L (.int y :: .int x :: st) M k n comp emb := by
  subst hp
  exact fun a ha G hG p e s m args below meth c H locs ls F hW hS hl => lv_idiv F.1 F.2.1 hd hy (h a ha G hG p e s m args below meth c H locs ls F hW hS hl)
theorem V_irem {x y : Int32} (hd : decode Y.cc pc = .ok (.irem, 1)) (hp : pc + 1 = q) (hy : ¬ y = 0) (h : V Y q L (.int (x - x / y * y) :: st) M k n comp emb) : V Y pc L (.int y :: .int x :: st) M k n comp emb := by
  subst hp
  exact fun a ha G hG p e s m args below meth c H locs ls F hW hS hl => lv_irem F.1 F.2.1 hd hy (h a ha G hG p e s m args below meth c H locs ls F hW hS hl)
theorem V_ladd {x y : Int64} (hd : decode Y.cc pc = .ok (.ladd, 1)) (hp : pc + 1 = q)  (h : V Y q L (.long (x + y) :: st) M k n comp emb) : V Y pc L (.long y :: .long x :: st) M k n comp emb := by
  subst hp
  exact fun a ha G hG p e s m args below meth c H locs ls F hW hS hl => lv_ladd F.1 F.2.1 hd  (h a ha G hG p e s m args below meth c H locs ls F hW hS hl)
theorem V_lsub {x y : Int64} (hd : decode Y.cc pc = .ok (.lsub, 1)) (hp : pc + 1 = q)  (h : V Y q L (.long (x - y) :: st) M k n comp emb) : V Y pc L (.long y :: .long x :: st) M k n comp emb := by
  subst hp
  exact fun a ha G hG p e s m args below meth c H locs ls F hW hS hl => lv_lsub F.1 F.2.1 hd  (h a ha G hG p e s m args below meth c H locs ls F hW hS hl)
theorem V_lmul {x y : Int64} (hd : decode Y.cc pc = .ok (.lmul, 1)) (hp : pc + 1 = q)  (h : V Y q L (.long (x * y) :: st) M k n comp emb) : V Y pc L (.long y :: .long x :: st) M k n comp emb := by
  subst hp
  exact fun a ha G hG p e s m args below meth c H locs ls F hW hS hl => lv_lmul F.1 F.2.1 hd  (h a ha G hG p e s m args below meth c H locs ls F hW hS hl)
theorem V_lor {x y : Int64} (hd : decode Y.cc pc = .ok (.lor, 1)) (hp : pc + 1 = q)  (h : V Y q L (.long (x ||| y) :: st) M k n comp emb) : V Y pc L (.long y :: .long x :: st) M k n comp emb := by
  subst hp
  exact fun a ha G hG p e s m args below meth c H locs ls F hW hS hl => lv_lor F.1 F.2.1 hd  (h a ha G hG p e s m args below meth c H locs ls F hW hS hl)
theorem V_land {x y : Int64} (hd : decode Y.cc pc = .ok (.land, 1)) (hp : pc + 1 = q)  (h : V Y q L (.long (x &&& y) :: st) M k n comp emb) : V Y pc L (.long y :: .long x :: st) M k n comp emb := by
  subst hp
  exact fun a ha G hG p e s m args below meth c H locs ls F hW hS hl => lv_land F.1 F.2.1 hd  (h a ha G hG p e s m args below meth c H locs ls F hW hS hl)
theorem V_lshl {x : Int64} {y : Int32} (hd : decode Y.cc pc = .ok (.lshl, 1)) (hp : pc + 1 = q)  (h : V Y q L (.long (x <<< (y.toInt64 &&& 63)) :: st) M k n comp emb) : V Y pc L (.int y :: .long x :: st) M k n comp emb := by
  subst hp
  exact fun a ha G hG p e s m args below meth c H locs ls F hW hS hl => lv_lshl F.1 F.2.1 hd rfl (h a ha G hG p e s m args below meth c H locs ls F hW hS hl)
theorem V_i2l {x : Int32} (hd : decode Y.cc pc = .ok (.i2l, 1)) (hp : pc + 1 = q)  (h : V Y q L (.long x.toInt64 :: st) M k n comp emb) : V Y pc L (.int x :: st) M k n comp emb := by
  subst hp
  exact fun a ha G hG p e s m args below meth c H locs ls F hW hS hl => lv_i2l F.1 F.2.1 hd rfl (h a ha G hG p e s m args below meth c H locs ls F hW hS hl)
theorem V_l2i {x : Int64} (hd : decode Y.cc pc = .ok (.l2i, 1)) (hp : pc + 1 = q)  (h : V Y q L (.int x.toInt32 :: st) M k n comp emb) : V Y pc L (.long x :: st) M k n comp emb := by
  subst hp
  exact fun a ha G hG p e s m args below meth c H locs ls F hW hS hl => lv_l2i F.1 F.2.1 hd rfl (h a ha G hG p e s m args below meth c H locs ls F hW hS hl)
theorem V_i2b {x : Int32} (hd : decode Y.cc pc = .ok (.i2b, 1)) (hp : pc + 1 = q)  (h : V Y q L (.int x.toInt8.toInt32 :: st) M k n comp emb) : V Y pc L (.int x :: st) M k n comp emb := by
  subst hp
  exact fun a ha G hG p e s m args below meth c H locs ls F hW hS hl => lv_i2b F.1 F.2.1 hd rfl (h a ha G hG p e s m args below meth c H locs ls F hW hS hl)
theorem V_i2f {x : Int32} (hd : decode Y.cc pc = .ok (.i2f, 1)) (hp : pc + 1 = q)  (h : V Y q L (.float (FP.i2f x) :: st) M k n comp emb) : V Y pc L (.int x :: st) M k n comp emb := by
  subst hp
  exact fun a ha G hG p e s m args below meth c H locs ls F hW hS hl => lv_i2f F.1 F.2.1 hd  (h a ha G hG p e s m args below meth c H locs ls F hW hS hl)
theorem V_i2d {x : Int32} (hd : decode Y.cc pc = .ok (.i2d, 1)) (hp : pc + 1 = q)  (h : V Y q L (.double (FP.i2d x) :: st) M k n comp emb) : V Y pc L (.int x :: st) M k n comp emb := by
  subst hp
  exact fun a ha G hG p e s m args below meth c H locs ls F hW hS hl => lv_i2d F.1 F.2.1 hd  (h a ha G hG p e s m args below meth c H locs ls F hW hS hl)
theorem V_f2d {x : UInt32} (hd : decode Y.cc pc = .ok (.f2d, 1)) (hp : pc + 1 = q) (hy : vf_n64 (FP.f2d x)) (h : V Y q L (.double (FP.f2d x) :: st) M k n comp emb) : V Y pc L (.float x :: st) M k n comp emb := by
  subst hp
  exact fun a ha G hG p e s m args below meth c H locs ls F hW hS hl => lv_f2d F.1 F.2.1 hd hy (h a ha G hG p e s m args below meth c H locs ls F hW hS hl)
theorem V_fdiv {x y : UInt32} (hd : decode Y.cc pc = .ok (.fdiv, 1)) (hp : pc + 1 = q) (hy : vf_n32 (FP.fdiv x y)) (h : V Y q L (.float (FP.fdiv x y) :: st) M k n comp emb) : V Y pc L (.float y :: .float x :: st) M k n comp emb := by
  subst hp
  exact fun a ha G hG p e s m args below meth c H locs ls F hW hS hl => lv_fdiv F.1 F.2.1 hd hy (h a ha G hG p e s m args below meth c H locs ls F hW hS hl)
theorem V_ddiv {x y : UInt64} (hd : decode Y.cc pc = .ok (.ddiv, 1)) (hp : pc + 1 = q) (hy : vf_n64 (FP.ddiv x y)) (h : V Y q L (.double (FP.ddiv x y) :: st) M k n comp emb) : V Y pc L (.double y :: .double x :: st) M k n comp emb := by
  subst hp
  exact fun a ha G hG p e s m args below meth c H locs ls F hW hS hl => lv_ddiv F.1 F.2.1 hd hy (h a ha G hG p e s m args below meth c H locs ls F hW hS hl)
theorem V_dcmp {x y : UInt64} {op : CmpOp} (hd : decode Y.cc pc = .ok (.dcmp op, 1)) (hp : pc + 1 = q)  (h : V Y q L (.int (Op.cmpValue (FP.dcmp x y) op) :: st) M k n comp emb) : V Y pc L (.double y :: .double x :: st) M k n comp emb := by
  subst hp
  exact fun a ha G hG p e s m args below meth c H locs ls F hW hS hl => lv_dcmp F.1 F.2.1 hd  (h a ha G hG p e s m args below meth c H locs ls F hW hS hl)
theorem V_lcmp {x y : Int64} (hd : decode Y.cc pc = .ok (.lcmp, 1)) (hp : pc + 1 = q)  (h : V Y q L (.int (lg_cmp x y) :: st) M k n comp emb) : V Y pc L (.long y :: .long x :: st) M k n comp emb := by
  subst hp
  exact fun a ha G hG p e s m args below meth c H locs ls F hW hS hl => W.lcmp F.1 F.2.1 hd  (h a ha G hG p e s m args below meth c H locs ls F hW hS hl)
theorem V_iconst {i : Int} {x : Int32} (hd : decode Y.cc pc = .ok (.iconst i, 1)) (hp : pc + 1 = q) (hx : Int32.ofInt i = x) (h : V Y q L (.int x :: st) M k n comp emb) : V Y pc L (st) M k n comp emb := by
  subst hp
  exact fun a ha G hG p e s m args below meth c H locs ls F hW hS hl => lv_iconst F.1 F.2.1 hd hx (h a ha G hG p e s m args below meth c H locs ls F hW hS hl)
theorem V_bipush {i : Int} {x : Int32} (hd : decode Y.cc pc = .ok (.bipush i, 2)) (hp : pc + 2 = q) (hx : (Int8.ofInt i).toInt32 = x) (h : V Y q L (.int x :: st) M k n comp emb) : V Y pc L (st) M k n comp emb := by
  subst hp
  exact fun a ha G hG p e s m args below meth c H locs ls F hW hS hl => lv_bipush F.1 F.2.1 hd hx (h a ha G hG p e s m args below meth c H locs ls F hW hS hl)
theorem V_sipush {i : Int} {x : Int32} (hd : decode Y.cc pc = .ok (.sipush i, 3)) (hp : pc + 3 = q) (hx : (Int16.ofInt i).toInt32 = x) (h : V Y q L (.int x :: st) M k n comp emb) : V Y pc L (st) M k n comp emb := by
  subst hp
  exact fun a ha G hG p e s m args below meth c H locs ls F hW hS hl => lv_sipush F.1 F.2.1 hd hx (h a ha G hG p e s m args below meth c H locs ls F hW hS hl)
theorem V_lconst {i : Fin 2} {x : Int64} (hd : decode Y.cc pc = .ok (.lconst i, 1)) (hp : pc + 1 = q) (hx : Int64.ofNat (i : Nat) = x) (h : V Y q L (.long x :: st) M k n comp emb) : V Y pc L (st) M k n comp emb := by
  subst hp
  exact fun a ha G hG p e s m args below meth c H locs ls F hW hS hl => lv_lconst F.1 F.2.1 hd hx (h a ha G hG p e s m args below meth c H locs ls F hW hS hl)
theorem V_fconst0  (hd : decode Y.cc pc = .ok (.fconst 0, 1)) (hp : pc + 1 = q)  (h : V Y q L (.float FP.fconst0 :: st) M k n comp emb) : V Y pc L (st) M k n comp emb := by
  subst hp
  exact fun a ha G hG p e s m args below meth c H locs ls F hW hS hl => lv_fconst0 F.1 F.2.1 hd  (h a ha G hG p e s m args below meth c H locs ls F hW hS hl)
theorem V_dconst0  (hd : decode Y.cc pc = .ok (.dconst 0, 1)) (hp : pc + 1 = q)  (h : V Y q L (.double FP.dconst0 :: st) M k n comp emb) : V Y pc L (st) M k n comp emb := by
  subst hp
  exact fun a ha G hG p e s m args below meth c H locs ls F hW hS hl => lv_dconst0 F.1 F.2.1 hd  (h a ha G hG p e s m args below meth c H locs ls F hW hS hl)
theorem V_null  (hd : decode Y.cc pc = .ok (.aconst_null, 1)) (hp : pc + 1 = q)  (h : V Y q L (.null :: st) M k n comp emb) : V Y pc L (st) M k n comp emb := by
  subst hp
  exact fun a ha G hG p e s m args below meth c H locs ls F hW hS hl => lv_null F.1 F.2.1 hd  (h a ha G hG p e s m args below meth c H locs ls F hW hS hl)
theorem V_dup {v : Value} (hd : decode Y.cc pc = .ok (.dup, 1)) (hp : pc + 1 = q) (hv : v.category = 1) (h : V Y q L (v :: v :: st) M k n comp emb) : V Y pc L (v :: st) M k n comp emb := by
  subst hp
  exact fun a ha G hG p e s m args below meth c H locs ls F hW hS hl => lv_dup F.1 F.2.1 hd ((cr_cat _ _).trans hv) (h a ha G hG p e s m args below meth c H locs ls F hW hS hl)
theorem V_pop {v : Value} (hd : decode Y.cc pc = .ok (.pop, 1)) (hp : pc + 1 = q) (hv : v.category = 1) (h : V Y q L (st) M k n comp emb) : V Y pc L (v :: st) M k n comp emb := by
  subst hp
  exact fun a ha G hG p e s m args below meth c H locs ls F hW hS hl => lv_pop F.1 F.2.1 hd ((cr_cat _ _).trans hv) (h a ha G hG p e s m args below meth c H locs ls F hW hS hl)
theorem V_dup2 {v w : Value} (hd : decode Y.cc pc = .ok (.dup2, 1)) (hp : pc + 1 = q) (hv : v.category = 1) (hw : w.category = 1) (h : V Y q L (v :: w :: v :: w :: st) M k n comp emb) : V Y pc L (v :: w :: st) M k n comp emb := by
  subst hp
  exact fun a ha G hG p e s m args below meth c H locs ls F hW hS hl => lv_dup2_11 F.1 F.2.1 hd ((cr_cat _ _).trans hv) ((cr_cat _ _).trans hw) (h a ha G hG p e s m args below meth c H locs ls F hW hS hl)
theorem V_iload_n {x : Int32} {i : Fin 4} (hd : decode Y.cc pc = .ok (.iload_n i, 1)) (hp : pc + 1 = q) (j : Nat) (hj : L[j]? = some ((i : Nat), .int x)) (h : V Y q L (.int x :: st) M k n comp emb) : V Y pc L st M k n comp emb := by
  subst hp
  exact fun a ha G hG p e s m args below meth c H locs ls F hW hS hl => lv_iload_n F.1 F.2.1 hd rfl (lv_at hl j (cr_at hj)) (h a ha G hG p e s m args below meth c H locs ls F hW hS hl)
theorem V_iload {x : Int32} {i : Nat} (hd : decode Y.cc pc = .ok (.iload i, 2)) (hp : pc + 2 = q) (j : Nat) (hj : L[j]? = some (i, .int x)) (h : V Y q L (.int x :: st) M k n comp emb) : V Y pc L st M k n comp emb := by
  subst hp
  exact fun a ha G hG p e s m args below meth c H locs ls F hW hS hl => lv_iload F.1 F.2.1 hd (lv_at hl j (cr_at hj)) (h a ha G hG p e s m args below meth c H locs ls F hW hS hl)
theorem V_lload_n {x : Int64} {i : Fin 4} (hd : decode Y.cc pc = .ok (.lload_n i, 1)) (hp : pc + 1 = q) (j : Nat) (hj : L[j]? = some ((i : Nat), .long x)) (h : V Y q L (.long x :: st) M k n comp emb) : V Y pc L st M k n comp emb := by
  subst hp
  exact fun a ha G hG p e s m args below meth c H locs ls F hW hS hl => lv_lload_n F.1 F.2.1 hd rfl (lv_at hl j (cr_at hj)) (h a ha G hG p e s m args below meth c H locs ls F hW hS hl)
theorem V_lload {x : Int64} {i : Nat} (hd : decode Y.cc pc = .ok (.lload i, 2)) (hp : pc + 2 = q) (j : Nat) (hj : L[j]? = some (i, .long x)) (h : V Y q L (.long x :: st) M k n comp emb) : V Y pc L st M k n comp emb := by
  subst hp
  exact fun a ha G hG p e s m args below meth c H locs ls F hW hS hl => lv_lload F.1 F.2.1 hd (lv_at hl j (cr_at hj)) (h a ha G hG p e s m args below meth c H locs ls F hW hS hl)
theorem V_fload_n {x : UInt32} {i : Fin 4} (hd : decode Y.cc pc = .ok (.fload_n i, 1)) (hp : pc + 1 = q) (j : Nat) (hj : L[j]? = some ((i : Nat), .float x)) (h : V Y q L (.float x :: st) M k n comp emb) : V Y pc L st M k n comp emb := by
  subst hp
  exact fun a ha G hG p e s m args below meth c H locs ls F hW hS hl => lv_fload_n F.1 F.2.1 hd rfl (lv_at hl j (cr_at hj)) (h a ha G hG p e s m args below meth c H locs ls F hW hS hl)
theorem V_fload {x : UInt32} {i : Nat} (hd : decode Y.cc pc = .ok (.fload i, 2)) (hp : pc + 2 = q) (j : Nat) (hj : L[j]? = some (i, .float x)) (h : V Y q L (.float x :: st) M k n comp emb) : V Y pc L st M k n comp emb := by
  subst hp
  exact fun a ha G hG p e s m args below meth c H locs ls F hW hS hl => lv_fload F.1 F.2.1 hd (lv_at hl j (cr_at hj)) (h a ha G hG p e s m args below meth c H locs ls F hW hS hl)
theorem V_dload_n {x : UInt64} {i : Fin 4} (hd : decode Y.cc pc = .ok (.dload_n i, 1)) (hp : pc + 1 = q) (j : Nat) (hj : L[j]? = some ((i : Nat), .double x)) (h : V Y q L (.double x :: st) M k n comp emb) : V Y pc L st M k n comp emb := by
  subst hp
  exact fun a ha G hG p e s m args below meth c H locs ls F hW hS hl => lv_dload_n F.1 F.2.1 hd rfl (lv_at hl j (cr_at hj)) (h a ha G hG p e s m args below meth c H locs ls F hW hS hl)
theorem V_dload {x : UInt64} {i : Nat} (hd : decode Y.cc pc = .ok (.dload i, 2)) (hp : pc + 2 = q) (j : Nat) (hj : L[j]? = some (i, .double x)) (h : V Y q L (.double x :: st) M k n comp emb) : V Y pc L st M k n comp emb := by
  subst hp
  exact fun a ha G hG p e s m args below meth c H locs ls F hW hS hl => lv_dload F.1 F.2.1 hd (lv_at hl j (cr_at hj)) (h a ha G hG p e s m args below meth c H locs ls F hW hS hl)
theorem V_aload_n {x : Nat} {i : Fin 4} (hd : decode Y.cc pc = .ok (.aload_n i, 1)) (hp : pc + 1 = q) (j : Nat) (hj : L[j]? = some ((i : Nat), .ref x)) (h : V Y q L (.ref x :: st) M k n comp emb) : V Y pc L st M k n comp emb := by
  subst hp
  exact fun a ha G hG p e s m args below meth c H locs ls F hW hS hl => lv_aload_n F.1 F.2.1 hd rfl (lv_at hl j (cr_at hj)) (h a ha G hG p e s m args below meth c H locs ls F hW hS hl)
theorem V_aload {x : Nat} {i : Nat} (hd : decode Y.cc pc = .ok (.aload i, 2)) (hp : pc + 2 = q) (j : Nat) (hj : L[j]? = some (i, .ref x)) (h : V Y q L (.ref x :: st) M k n comp emb) : V Y pc L st M k n comp emb := by
  subst hp
  exact fun a ha G hG p e s m args below meth c H locs ls F hW hS hl => lv_aload F.1 F.2.1 hd (lv_at hl j (cr_at hj)) (h a ha G hG p e s m args below meth c H locs ls F hW hS hl)
theorem V_aload_nN {i : Fin 4} (hd : decode Y.cc pc = .ok (.aload_n i, 1)) (hp : pc + 1 = q) (j : Nat) (hj : L[j]? = some ((i : Nat), .null)) (h : V Y q L (.null :: st) M k n comp emb) : V Y pc L st M k n comp emb := by
  subst hp
  exact fun a ha G hG p e s m args below meth c H locs ls F hW hS hl => lv_aload_nN F.1 F.2.1 hd rfl (lv_at hl j (cr_at hj)) (h a ha G hG p e s m args below meth c H locs ls F hW hS hl)
theorem V_aloadN {i : Nat} (hd : decode Y.cc pc = .ok (.aload i, 2)) (hp : pc + 2 = q) (j : Nat) (hj : L[j]? = some (i, .null)) (h : V Y q L (.null :: st) M k n comp emb) : V Y pc L st M k n comp emb := by
  subst hp
  exact fun a ha G hG p e s m args below meth c H locs ls F hW hS hl => lv_aloadN F.1 F.2.1 hd (lv_at hl j (cr_at hj)) (h a ha G hG p e s m args below meth c H locs ls F hW hS hl)
theorem V_aload_nQ {x : Option Nat} {i : Fin 4} (hd : decode Y.cc pc = .ok (.aload_n i, 1)) (hp : pc + 1 = q) (j : Nat) (hj : L[j]? = some ((i : Nat), va_rf x)) (h : V Y q L (va_rf x :: st) M k n comp emb) : V Y pc L st M k n comp emb := by
  cases x with
  | none => exact V_aload_nN hd hp j hj h
  | some x => exact V_aload_n hd hp j hj h
theorem V_aloadQ {x : Option Nat} {i : Nat} (hd : decode Y.cc pc = .ok (.aload i, 2)) (hp : pc + 2 = q) (j : Nat) (hj : L[j]? = some (i, va_rf x)) (h : V Y q L (va_rf x :: st) M k n comp emb) : V Y pc L st M k n comp emb := by
  cases x with
  | none => exact V_aloadN hd hp j hj h
  | some x => exact V_aload hd hp j hj h
theorem V_istore_n {x : Int32} {i : Fin 4} (hd : decode Y.cc pc = .ok (.istore_n i, 1)) (hp : pc + 1 = q) (hi : (i : Nat) < Y.nL) (hL : lput (i : Nat) (.int x) L = L') (h : V Y q L' st M k n comp emb) : V Y pc L (.int x :: st) M k n comp emb := by
  subst hp; subst hL
  exact fun a ha G hG p e s m args below meth c H locs ls F hW hS hl => lv_istore_n F.1 F.2.1 hd rfl hl hi rfl (fun ls' hl' => h a ha G hG p e s m args below meth c H locs ls' F hW hS (lv_mono hl' lput_1))
theorem V_istore {x : Int32} {i : Nat} (hd : decode Y.cc pc = .ok (.istore i, 2)) (hp : pc + 2 = q) (hi : i < Y.nL) (hL : lput i (.int x) L = L') (h : V Y q L' st M k n comp emb) : V Y pc L (.int x :: st) M k n comp emb := by
  subst hp; subst hL
  exact fun a ha G hG p e s m args below meth c H locs ls F hW hS hl => lv_istore F.1 F.2.1 hd hl hi rfl (fun ls' hl' => h a ha G hG p e s m args below meth c H locs ls' F hW hS (lv_mono hl' lput_1))
theorem V_fstore_n {x : UInt32} {i : Fin 4} (hd : decode Y.cc pc = .ok (.fstore_n i, 1)) (hp : pc + 1 = q) (hi : (i : Nat) < Y.nL) (hL : lput (i : Nat) (.float x) L = L') (h : V Y q L' st M k n comp emb) : V Y pc L (.float x :: st) M k n comp emb := by
  subst hp; subst hL
  exact fun a ha G hG p e s m args below meth c H locs ls F hW hS hl => lv_fstore_n F.1 F.2.1 hd rfl hl hi rfl (fun ls' hl' => h a ha G hG p e s m args below meth c H locs ls' F hW hS (lv_mono hl' lput_1))
theorem V_fstore {x : UInt32} {i : Nat} (hd : decode Y.cc pc = .ok (.fstore i, 2)) (hp : pc + 2 = q) (hi : i < Y.nL) (hL : lput i (.float x) L = L') (h : V Y q L' st M k n comp emb) : V Y pc L (.float x :: st) M k n comp emb := by
  subst hp; subst hL
  exact fun a ha G hG p e s m args below meth c H locs ls F hW hS hl => lv_fstore F.1 F.2.1 hd hl hi rfl (fun ls' hl' => h a ha G hG p e s m args below meth c H locs ls' F hW hS (lv_mono hl' lput_1))
theorem V_astore_n {x : Nat} {i : Fin 4} (hd : decode Y.cc pc = .ok (.astore_n i, 1)) (hp : pc + 1 = q) (hi : (i : Nat) < Y.nL) (hL : lput (i : Nat) (.ref x) L = L') (h : V Y q L' st M k n comp emb) : V Y pc L (.ref x :: st) M k n comp emb := by
  subst hp; subst hL
  exact fun a ha G hG p e s m args below meth c H locs ls F hW hS hl => lv_astore_n F.1 F.2.1 hd rfl hl hi rfl (fun ls' hl' => h a ha G hG p e s m args below meth c H locs ls' F hW hS (lv_mono hl' lput_1))
theorem V_astore {x : Nat} {i : Nat} (hd : decode Y.cc pc = .ok (.astore i, 2)) (hp : pc + 2 = q) (hi : i < Y.nL) (hL : lput i (.ref x) L = L') (h : V Y q L' st M k n comp emb) : V Y pc L (.ref x :: st) M k n comp emb := by
  subst hp; subst hL
  exact fun a ha G hG p e s m args below meth c H locs ls F hW hS hl => lv_astore F.1 F.2.1 hd hl hi rfl (fun ls' hl' => h a ha G hG p e s m args below meth c H locs ls' F hW hS (lv_mono hl' lput_1))
theorem V_lstore_n {x : Int64} {i : Fin 4} (hd : decode Y.cc pc = .ok (.lstore_n i, 1)) (hp : pc + 1 = q) (hi : (i : Nat) + 1 < Y.nL) (hL : lput (i : Nat) (.long x) L = L') (h : V Y q L' st M k n comp emb) : V Y pc L (.long x :: st) M k n comp emb := by
  subst hp; subst hL
  exact fun a ha G hG p e s m args below meth c H locs ls F hW hS hl => lv_lstore_n F.1 F.2.1 hd rfl hl hi rfl (fun ls' hl' => h a ha G hG p e s m args below meth c H locs ls' F hW hS (lv_mono hl' (lput_2 rfl)))
theorem V_lstore {x : Int64} {i : Nat} (hd : decode Y.cc pc = .ok (.lstore i, 2)) (hp : pc + 2 = q) (hi : i + 1 < Y.nL) (hL : lput i (.long x) L = L') (h : V Y q L' st M k n comp emb) : V Y pc L (.long x :: st) M k n comp emb := by
  subst hp; subst hL
  exact fun a ha G hG p e s m args below meth c H locs ls F hW hS hl => lv_lstore F.1 F.2.1 hd hl hi rfl (fun ls' hl' => h a ha G hG p e s m args below meth c H locs ls' F hW hS (lv_mono hl' (lput_2 rfl)))
theorem V_dstore_n {x : UInt64} {i : Fin 4} (hd : decode Y.cc pc = .ok (.dstore_n i, 1)) (hp : pc + 1 = q) (hi : (i : Nat) + 1 < Y.nL) (hL : lput (i : Nat) (.double x) L = L') (h : V Y q L' st M k n comp emb) : V Y pc L (.double x :: st) M k n comp emb := by
  subst hp; subst hL
  exact fun a ha G hG p e s m args below meth c H locs ls F hW hS hl => lv_dstore_n F.1 F.2.1 hd rfl hl hi rfl (fun ls' hl' => h a ha G hG p e s m args below meth c H locs ls' F hW hS (lv_mono hl' (lput_2 rfl)))
theorem V_dstore {x : UInt64} {i : Nat} (hd : decode Y.cc pc = .ok (.dstore i, 2)) (hp : pc + 2 = q) (hi : i + 1 < Y.nL) (hL : lput i (.double x) L = L') (h : V Y q L' st M k n comp emb) : V Y pc L (.double x :: st) M k n comp emb := by
  subst hp; subst hL
  exact fun a ha G hG p e s m args below meth c H locs ls F hW hS hl => lv_dstore F.1 F.2.1 hd hl hi rfl (fun ls' hl' => h a ha G hG p e s m args below meth c H locs ls' F hW hS (lv_mono hl' (lput_2 rfl)))
theorem V_astore_nN {i : Fin 4} (hd : decode Y.cc pc = .ok (.astore_n i, 1)) (hp : pc + 1 = q) (hi : (i : Nat) < Y.nL) (hL : lput (i : Nat) .null L = L') (h : V Y q L' st M k n comp emb) : V Y pc L (.null :: st) M k n comp emb := by
  subst hp; subst hL
  exact fun a ha G hG p e s m args below meth c H locs ls F hW hS hl => lv_astore_nN F.1 F.2.1 hd rfl hl hi rfl (fun ls' hl' => h a ha G hG p e s m args below meth c H locs ls' F hW hS (lv_mono hl' lput_1))
theorem V_astore_nQ {x : Option Nat} {i : Fin 4} (hd : decode Y.cc pc = .ok (.astore_n i, 1)) (hp : pc + 1 = q) (hi : (i : Nat) < Y.nL) (hL : lput (i : Nat) (va_rf x) L = L') (h : V Y q L' st M k n comp emb) : V Y pc L (va_rf x :: st) M k n comp emb := by
  cases x with
  | none => exact V_astore_nN hd hp hi hL h
  | some x => exact V_astore_n hd hp hi hL h
theorem V_astoreN {i : Nat} (hd : decode Y.cc pc = .ok (.astore i, 2)) (hp : pc + 2 = q) (hi : i < Y.nL) (hL : lput i .null L = L') (h : V Y q L' st M k n comp emb) : V Y pc L (.null :: st) M k n comp emb := by
  subst hp; subst hL
  exact fun a ha G hG p e s m args below meth c H locs ls F hW hS hl => lv_astoreN F.1 F.2.1 hd hl hi rfl (fun ls' hl' => h a ha G hG p e s m args below meth c H locs ls' F hW hS (lv_mono hl' lput_1))
theorem V_astoreQ {x : Option Nat} {i : Nat} (hd : decode Y.cc pc = .ok (.astore i, 2)) (hp : pc + 2 = q) (hi : i < Y.nL) (hL : lput i (va_rf x) L = L') (h : V Y q L' st M k n comp emb) : V Y pc L (va_rf x :: st) M k n comp emb := by
  cases x with
  | none => exact V_astoreN hd hp hi hL h
  | some x => exact V_astore hd hp hi hL h
theorem V_iinc {x y : Int32} {i : Nat} {d : Int} (hd : decode Y.cc pc = .ok (.iinc i d, 3)) (hp : pc + 3 = q) (j : Nat) (hj : L[j]? = some (i, .int x)) (hy : x + Int32.ofInt d = y) (hi : i < Y.nL) (hL : lput i (.int y) L = L') (h : V Y q L' st M k n comp emb) : V Y pc L st M k n comp emb := by
  subst hp; subst hL
  exact fun a ha G hG p e s m args below meth c H locs ls F hW hS hl => lv_iinc F.1 F.2.1 hd hl (cr_at hj) hy hi rfl (fun ls' hl' => h a ha G hG p e s m args below meth c H locs ls' F hW hS (lv_mono hl' lput_1))
theorem V_goto {off : Int} (hd : decode Y.cc pc = .ok (.goto off, 3)) (hp : (pc : Int) + off = (q : Int)) (h : V Y q L st M k n comp emb) : V Y pc L st M k n comp emb :=
  fun a ha G hG p e s m args below meth c H locs ls F hW hS hl => lv_goto F.1 F.2.1 hd hp (h a ha G hG p e s m args below meth c H locs ls F hW hS hl)
variable {q2 : Nat} {c1 c2 : Option τ}
theorem V_icmp_eq {x y : Int32} {off : Int} (hd : decode Y.cc pc = .ok (.if_icmp .eq off, 3)) (hp : (pc : Int) + off = (q : Int)) (hp2 : pc + 3 = q2) (ht : V Y q L st M k n c1 emb) (hf : V Y q2 L st M k n c2 emb) : V Y pc L (.int y :: .int x :: st) M k n (if x = y then c1 else c2) emb := by
  subst hp2
  intro a ha G hG p e s m args below meth c H locs ls F hW hS hl
  refine lv_icmp_eq F.1 F.2.1 hd hp (fun hc => ?_) (fun hc => ?_)
  · first | rw [if_pos hc] at ha | rw [if_neg hc] at ha
    exact ht a ha G hG p e s m args below meth c H locs ls F hW hS hl
  · first | rw [if_pos hc] at ha | rw [if_neg hc] at ha
    exact hf a ha G hG p e s m args below meth c H locs ls F hW hS hl
theorem V_icmp_eq_t {x y : Int32} {off : Int} (hd : decode Y.cc pc = .ok (.if_icmp .eq off, 3)) (hp : (pc : Int) + off = (q : Int)) (hp2 : pc + 3 = q2) (hc : x = y) (h : V Y q L st M k n comp emb) : V Y pc L (.int y :: .int x :: st) M k n comp emb :=
  fun a ha G hG p e s m args below meth c H locs ls F hW hS hl => lv_icmp_eq F.1 F.2.1 hd hp (fun _ => h a ha G hG p e s m args below meth c H locs ls F hW hS hl) (fun z => absurd hc z)
theorem V_icmp_eq_f {x y : Int32} {off : Int} (hd : decode Y.cc pc = .ok (.if_icmp .eq off, 3)) (hp : (pc : Int) + off = (q : Int)) (hp2 : pc + 3 = q2) (hc : ¬ (x = y)) (h : V Y q2 L st M k n comp emb) : V Y pc L (.int y :: .int x :: st) M k n comp emb := by
  subst hp2
  exact fun a ha G hG p e s m args below meth c H locs ls F hW hS hl => lv_icmp_eq F.1 F.2.1 hd hp (fun z => absurd z hc) (fun _ => h a ha G hG p e s m args below meth c H locs ls F hW hS hl)
theorem V_if_eq {x : Int32} {off : Int} (hd : decode Y.cc pc = .ok (.ifCond .eq off, 3)) (hp : (pc : Int) + off = (q : Int)) (hp2 : pc + 3 = q2) (ht : V Y q L st M k n c1 emb) (hf : V Y q2 L st M k n c2 emb) : V Y pc L (.int x :: st) M k n (if x = 0 then c1 else c2) emb := by
  subst hp2
  intro a ha G hG p e s m args below meth c H locs ls F hW hS hl
  refine lv_if_eq F.1 F.2.1 hd hp (fun hc => ?_) (fun hc => ?_)
  · first | rw [if_pos hc] at ha | rw [if_neg hc] at ha
    exact ht a ha G hG p e s m args below meth c H locs ls F hW hS hl
  · first | rw [if_pos hc] at ha | rw [if_neg hc] at ha
    exact hf a ha G hG p e s m args below meth c H locs ls F hW hS hl
theorem V_if_eq_t {x : Int32} {off : Int} (hd : decode Y.cc pc = .ok (.ifCond .eq off, 3)) (hp : (pc : Int) + off = (q : Int)) (hp2 : pc + 3 = q2) (hc : x = 0) (h : V Y q L st M k n comp emb) : V Y pc L (.int x :: st) M k n comp emb :=
  fun a ha G hG p e s m args below meth c H locs ls F hW hS hl => lv_if_eq F.1 F.2.1 hd hp (fun _ => h a ha G hG p e s m args below meth c H locs ls F hW hS hl) (fun z => absurd hc z)
theorem V_if_eq_f {x : Int32} {off : Int} (hd : decode Y.cc pc = .ok (.ifCond .eq off, 3)) (hp : (pc : Int) + off = (q : Int)) (hp2 : pc + 3 = q2) (hc : ¬ (x = 0)) (h : V Y q2 L st M k n comp emb) : V Y pc L (.int x :: st) M k n comp emb := by
  subst hp2
  exact fun a ha G hG p e s m args below meth c H locs ls F hW hS hl => lv_if_eq F.1 F.2.1 hd hp (fun z => absurd z hc) (fun _ => h a ha G hG p e s m args below meth c H locs ls F hW hS hl)
theorem V_icmp_ne {x y : Int32} {off : Int} (hd : decode Y.cc pc = .ok (.if_icmp .ne off, 3)) (hp : (pc : Int) + off = (q : Int)) (hp2 : pc + 3 = q2) (ht : V Y q L st M k n c2 emb) (hf : V Y q2 L st M k n c1 emb) : V Y pc L (.int y :: .int x :: st) M k n (if x = y then c1 else c2) emb := by
  subst hp2
  intro a ha G hG p e s m args below meth c H locs ls F hW hS hl
  refine lv_icmp_ne F.1 F.2.1 hd hp (fun hc => ?_) (fun hc => ?_)
  · first | rw [if_pos hc] at ha | rw [if_neg hc] at ha
    exact ht a ha G hG p e s m args below meth c H locs ls F hW hS hl
  · first | rw [if_pos hc] at ha | rw [if_neg hc] at ha
    exact hf a ha G hG p e s m args below meth c H locs ls F hW hS hl
theorem V_icmp_ne_t {x y : Int32} {off : Int} (hd : decode Y.cc pc = .ok (.if_icmp .ne off, 3)) (hp : (pc : Int) + off = (q : Int)) (hp2 : pc + 3 = q2) (hc : ¬ x = y) (h : V Y q L st M k n comp emb) : V Y pc L (.int y :: .int x :: st) M k n comp emb :=
  fun a ha G hG p e s m args below meth c H locs ls F hW hS hl => lv_icmp_ne F.1 F.2.1 hd hp (fun _ => h a ha G hG p e s m args below meth c H locs ls F hW hS hl) (fun z => absurd z hc)
theorem V_icmp_ne_f {x y : Int32} {off : Int} (hd : decode Y.cc pc = .ok (.if_icmp .ne off, 3)) (hp : (pc : Int) + off = (q : Int)) (hp2 : pc + 3 = q2) (hc : ¬ (¬ x = y)) (h : V Y q2 L st M k n comp emb) : V Y pc L (.int y :: .int x :: st) M k n comp emb := by
  subst hp2
  exact fun a ha G hG p e s m args below meth c H locs ls F hW hS hl => lv_icmp_ne F.1 F.2.1 hd hp (fun z => absurd z hc) (fun _ => h a ha G hG p e s m args below meth c H locs ls F hW hS hl)
theorem V_if_ne {x : Int32} {off : Int} (hd : decode Y.cc pc = .ok (.ifCond .ne off, 3)) (hp : (pc : Int) + off = (q : Int)) (hp2 : pc + 3 = q2) (ht : V Y q L st M k n c2 emb) (hf : V Y q2 L st M k n c1 emb) : V Y pc L (.int x :: st) M k n (if x = 0 then c1 else c2) emb := by
  subst hp2
  intro a ha G hG p e s m args below meth c H locs ls F hW hS hl
  refine lv_if_ne F.1 F.2.1 hd hp (fun hc => ?_) (fun hc => ?_)
  · first | rw [if_pos hc] at ha | rw [if_neg hc] at ha
    exact ht a ha G hG p e s m args below meth c H locs ls F hW hS hl
  · first | rw [if_pos hc] at ha | rw [if_neg hc] at ha
    exact hf a ha G hG p e s m args below meth c H locs ls F hW hS hl
theorem V_if_ne_t {x : Int32} {off : Int} (hd : decode Y.cc pc = .ok (.ifCond .ne off, 3)) (hp : (pc : Int) + off = (q : Int)) (hp2 : pc + 3 = q2) (hc : ¬ x = 0) (h : V Y q L st M k n comp emb) : V Y pc L (.int x :: st) M k n comp emb :=
  fun a ha G hG p e s m args below meth c H locs ls F hW hS hl => lv_if_ne F.1 F.2.1 hd hp (fun _ => h a ha G hG p e s m args below meth c H locs ls F hW hS hl) (fun z => absurd z hc)
theorem V_if_ne_f {x : Int32} {off : Int} (hd : decode Y.cc pc = .ok (.ifCond .ne off, 3)) (hp : (pc : Int) + off = (q : Int)) (hp2 : pc + 3 = q2) (hc : ¬ (¬ x = 0)) (h : V Y q2 L st M k n comp emb) : V Y pc L (.int x :: st) M k n comp emb := by
  subst hp2
  exact fun a ha G hG p e s m args below meth c H locs ls F hW hS hl => lv_if_ne F.1 F.2.1 hd hp (fun z => absurd z hc) (fun _ => h a ha G hG p e s m args below meth c H locs ls F hW hS hl)
theorem V_icmp_lt {x y : Int32} {off : Int} (hd : decode Y.cc pc = .ok (.if_icmp .lt off, 3)) (hp : (pc : Int) + off = (q : Int)) (hp2 : pc + 3 = q2) (ht : V Y q L st M k n c1 emb) (hf : V Y q2 L st M k n c2 emb) : V Y pc L (.int y :: .int x :: st) M k n (if x < y then c1 else c2) emb := by
  subst hp2
  intro a ha G hG p e s m args below meth c H locs ls F hW hS hl
  refine lv_icmp_lt F.1 F.2.1 hd hp (fun hc => ?_) (fun hc => ?_)
  · first | rw [if_pos hc] at ha | rw [if_neg hc] at ha
    exact ht a ha G hG p e s m args below meth c H locs ls F hW hS hl
  · first | rw [if_pos hc] at ha | rw [if_neg hc] at ha
    exact hf a ha G hG p e s m args below meth c H locs ls F hW hS hl
theorem V_icmp_lt_t {x y : Int32} {off : Int} (hd : decode Y.cc pc = .ok (.if_icmp .lt off, 3)) (hp : (pc : Int) + off = (q : Int)) (hp2 : pc + 3 = q2) (hc : x < y) (h : V Y q L st M k n comp emb) : V Y pc L (.int y :: .int x :: st) M k n comp emb :=
  fun a ha G hG p e s m args below meth c H locs ls F hW hS hl => lv_icmp_lt F.1 F.2.1 hd hp (fun _ => h a ha G hG p e s m args below meth c H locs ls F hW hS hl) (fun z => absurd hc z)
theorem V_icmp_lt_f {x y : Int32} {off : Int} (hd : decode Y.cc pc = .ok (.if_icmp .lt off, 3)) (hp : (pc : Int) + off = (q : Int)) (hp2 : pc + 3 = q2) (hc : ¬ (x < y)) (h : V Y q2 L st M k n comp emb) : V Y pc L (.int y :: .int x :: st) M k n comp emb := by
  subst hp2
  exact fun a ha G hG p e s m args below meth c H locs ls F hW hS hl => lv_icmp_lt F.1 F.2.1 hd hp (fun z => absurd z hc) (fun _ => h a ha G hG p e s m args below meth c H locs ls F hW hS hl)
theorem V_if_lt {x : Int32} {off : Int} (hd : decode Y.cc pc = .ok (.ifCond .lt off, 3)) (hp : (pc : Int) + off = (q : Int)) (hp2 : pc + 3 = q2) (ht : V Y q L st M k n c1 emb) (hf : V Y q2 L st M k n c2 emb) : V Y pc L (.int x :: st) M k n (if x < 0 then c1 else c2) emb := by
  subst hp2
  intro a ha G hG p e s m args below meth c H locs ls F hW hS hl
  refine lv_if_lt F.1 F.2.1 hd hp (fun hc => ?_) (fun hc => ?_)
  · first | rw [if_pos hc] at ha | rw [if_neg hc] at ha
    exact ht a ha G hG p e s m args below meth c H locs ls F hW hS hl
  · first | rw [if_pos hc] at ha | rw [if_neg hc] at ha
    exact hf a ha G hG p e s m args below meth c H locs ls F hW hS hl
theorem V_if_lt_t {x : Int32} {off : Int} (hd : decode Y.cc pc = .ok (.ifCond .lt off, 3)) (hp : (pc : Int) + off = (q : Int)) (hp2 : pc + 3 = q2) (hc : x < 0) (h : V Y q L st M k n comp emb) : V Y pc L (.int x :: st) M k n comp emb :=
  fun a ha G hG p e s m args below meth c H locs ls F hW hS hl => lv_if_lt F.1 F.2.1 hd hp (fun _ => h a ha G hG p e s m args below meth c H locs ls F hW hS hl) (fun z => absurd hc z)
theorem V_if_lt_f {x : Int32} {off : Int} (hd : decode Y.cc pc = .ok (.ifCond .lt off, 3)) (hp : (pc : Int) + off = (q : Int)) (hp2 : pc + 3 = q2) (hc : ¬ (x < 0)) (h : V Y q2 L st M k n comp emb) : V Y pc L (.int x :: st) M k n comp emb := by
  subst hp2
  exact fun a ha G hG p e s m args below meth c H locs ls F hW hS hl => lv_if_lt F.1 F.2.1 hd hp (fun z => absurd z hc) (fun _ => h a ha G hG p e s m args below meth c H locs ls F hW hS hl)
theorem V_icmp_ge {x y : Int32} {off : Int} (hd : decode Y.cc pc = .ok (.if_icmp .ge off, 3)) (hp : (pc : Int) + off = (q : Int)) (hp2 : pc + 3 = q2) (ht : V Y q L st M k n c1 emb) (hf : V Y q2 L st M k n c2 emb) : V Y pc L (.int y :: .int x :: st) M k n (if y ≤ x then c1 else c2) emb := by
  subst hp2
  intro a ha G hG p e s m args below meth c H locs ls F hW hS hl
  refine lv_icmp_ge F.1 F.2.1 hd hp (fun hc => ?_) (fun hc => ?_)
  · first | rw [if_pos hc] at ha | rw [if_neg hc] at ha
    exact ht a ha G hG p e s m args below meth c H locs ls F hW hS hl
  · first | rw [if_pos hc] at ha | rw [if_neg hc] at ha
    exact hf a ha G hG p e s m args below meth c H locs ls F hW hS hl
theorem V_icmp_ge_t {x y : Int32} {off : Int} (hd : decode Y.cc pc = .ok (.if_icmp .ge off, 3)) (hp : (pc : Int) + off = (q : Int)) (hp2 : pc + 3 = q2) (hc : y ≤ x) (h : V Y q L st M k n comp emb) : V Y pc L (.int y :: .int x :: st) M k n comp emb :=
  fun a ha G hG p e s m args below meth c H locs ls F hW hS hl => lv_icmp_ge F.1 F.2.1 hd hp (fun _ => h a ha G hG p e s m args below meth c H locs ls F hW hS hl) (fun z => absurd hc z)
theorem V_icmp_ge_f {x y : Int32} {off : Int} (hd : decode Y.cc pc = .ok (.if_icmp .ge off, 3)) (hp : (pc : Int) + off = (q : Int)) (hp2 : pc + 3 = q2) (hc : ¬ (y ≤ x)) (h : V Y q2 L st M k n comp emb) : V Y pc L (.int y :: .int x :: st) M k n comp emb := by
  subst hp2
  exact fun a ha G hG p e s m args below meth c H locs ls F hW hS hl => lv_icmp_ge F.1 F.2.1 hd hp (fun z => absurd z hc) (fun _ => h a ha G hG p e s m args below meth c H locs ls F hW hS hl)
theorem V_if_ge {x : Int32} {off : Int} (hd : decode Y.cc pc = .ok (.ifCond .ge off, 3)) (hp : (pc : Int) + off = (q : Int)) (hp2 : pc + 3 = q2) (ht : V Y q L st M k n c1 emb) (hf : V Y q2 L st M k n c2 emb) : V Y pc L (.int x :: st) M k n (if 0 ≤ x then c1 else c2) emb := by
  subst hp2
  intro a ha G hG p e s m args below meth c H locs ls F hW hS hl
  refine lv_if_ge F.1 F.2.1 hd hp (fun hc => ?_) (fun hc => ?_)
  · first | rw [if_pos hc] at ha | rw [if_neg hc] at ha
    exact ht a ha G hG p e s m args below meth c H locs ls F hW hS hl
  · first | rw [if_pos hc] at ha | rw [if_neg hc] at ha
    exact hf a ha G hG p e s m args below meth c H locs ls F hW hS hl
theorem V_if_ge_t {x : Int32} {off : Int} (hd : decode Y.cc pc = .ok (.ifCond .ge off, 3)) (hp : (pc : Int) + off = (q : Int)) (hp2 : pc + 3 = q2) (hc : 0 ≤ x) (h : V Y q L st M k n comp emb) : V Y pc L (.int x :: st) M k n comp emb :=
  fun a ha G hG p e s m args below meth c H locs ls F hW hS hl => lv_if_ge F.1 F.2.1 hd hp (fun _ => h a ha G hG p e s m args below meth c H locs ls F hW hS hl) (fun z => absurd hc z)
theorem V_if_ge_f {x : Int32} {off : Int} (hd : decode Y.cc pc = .ok (.ifCond .ge off, 3)) (hp : (pc : Int) + off = (q : Int)) (hp2 : pc + 3 = q2) (hc : ¬ (0 ≤ x)) (h : V Y q2 L st M k n comp emb) : V Y pc L (.int x :: st) M k n comp emb := by
  subst hp2
  exact fun a ha G hG p e s m args below meth c H locs ls F hW hS hl => lv_if_ge F.1 F.2.1 hd hp (fun z => absurd z hc) (fun _ => h a ha G hG p e s m args below meth c H locs ls F hW hS hl)
theorem V_icmp_gt {x y : Int32} {off : Int} (hd : decode Y.cc pc = .ok (.if_icmp .gt off, 3)) (hp : (pc : Int) + off = (q : Int)) (hp2 : pc + 3 = q2) (ht : V Y q L st M k n c1 emb) (hf : V Y q2 L st M k n c2 emb) : V Y pc L (.int y :: .int x :: st) M k n (if y < x then c1 else c2) emb := by
  subst hp2
  intro a ha G hG p e s m args below meth c H locs ls F hW hS hl
  refine lv_icmp_gt F.1 F.2.1 hd hp (fun hc => ?_) (fun hc => ?_)
  · first | rw [if_pos hc] at ha | rw [if_neg hc] at ha
    exact ht a ha G hG p e s m args below meth c H locs ls F hW hS hl
  · first | rw [if_pos hc] at ha | rw [if_neg hc] at ha
    exact hf a ha G hG p e s m args below meth c H locs ls F hW hS hl
theorem V_icmp_gt_t {x y : Int32} {off : Int} (hd : decode Y.cc pc = .ok (.if_icmp .gt off, 3)) (hp : (pc : Int) + off = (q : Int)) (hp2 : pc + 3 = q2) (hc : y < x) (h : V Y q L st M k n comp emb) : V Y pc L (.int y :: .int x :: st) M k n comp emb :=
  fun a ha G hG p e s m args below meth c H locs ls F hW hS hl => lv_icmp_gt F.1 F.2.1 hd hp (fun _ => h a ha G hG p e s m args below meth c H locs ls F hW hS hl) (fun z => absurd hc z)
theorem V_icmp_gt_f {x y : Int32} {off : Int} (hd : decode Y.cc pc = .ok (.if_icmp .gt off, 3)) (hp : (pc : Int) + off = (q : Int)) (hp2 : pc + 3 = q2) (hc : ¬ (y < x)) (h : V Y q2 L st M k n comp emb) : V Y pc L (.int y :: .int x :: st) M k n comp emb := by
  subst hp2
  exact fun a ha G hG p e s m args below meth c H locs ls F hW hS hl => lv_icmp_gt F.1 F.2.1 hd hp (fun z => absurd z hc) (fun _ => h a ha G hG p e s m args below meth c H locs ls F hW hS hl)
theorem V_if_gt {x : Int32} {off : Int} (hd : decode Y.cc pc = .ok (.ifCond .gt off, 3)) (hp : (pc : Int) + off = (q : Int)) (hp2 : pc + 3 = q2) (ht : V Y q L st M k n c1 emb) (hf : V Y q2 L st M k n c2 emb) : V Y pc L (.int x :: st) M k n (if 0 < x then c1 else c2) emb := by
  subst hp2
  intro a ha G hG p e s m args below meth c H locs ls F hW hS hl
  refine lv_if_gt F.1 F.2.1 hd hp (fun hc => ?_) (fun hc => ?_)
  · first | rw [if_pos hc] at ha | rw [if_neg hc] at ha
    exact ht a ha G hG p e s m args below meth c H locs ls F hW hS hl
  · first | rw [if_pos hc] at ha | rw [if_neg hc] at ha
    exact hf a ha G hG p e s m args below meth c H locs ls F hW hS hl
theorem V_if_gt_t {x : Int32} {off : Int} (hd : decode Y.cc pc = .ok (.ifCond .gt off, 3)) (hp : (pc : Int) + off = (q : Int)) (hp2 : pc + 3 = q2) (hc : 0 < x) (h : V Y q L st M k n comp emb) : V Y pc L (.int x :: st) M k n comp emb :=
  fun a ha G hG p e s m args below meth c H locs ls F hW hS hl => lv_if_gt F.1 F.2.1 hd hp (fun _ => h a ha G hG p e s m args below meth c H locs ls F hW hS hl) (fun z => absurd hc z)
theorem V_if_gt_f {x : Int32} {off : Int} (hd : decode Y.cc pc = .ok (.ifCond .gt off, 3)) (hp : (pc : Int) + off = (q : Int)) (hp2 : pc + 3 = q2) (hc : ¬ (0 < x)) (h : V Y q2 L st M k n comp emb) : V Y pc L (.int x :: st) M k n comp emb := by
  subst hp2
  exact fun a ha G hG p e s m args below meth c H locs ls F hW hS hl => lv_if_gt F.1 F.2.1 hd hp (fun z => absurd z hc) (fun _ => h a ha G hG p e s m args below meth c H locs ls F hW hS hl)
theorem V_icmp_le {x y : Int32} {off : Int} (hd : decode Y.cc pc = .ok (.if_icmp .le off, 3)) (hp : (pc : Int) + off = (q : Int)) (hp2 : pc + 3 = q2) (ht : V Y q L st M k n c1 emb) (hf : V Y q2 L st M k n c2 emb) : V Y pc L (.int y :: .int x :: st) M k n (if x ≤ y then c1 else c2) emb := by
  subst hp2
  intro a ha G hG p e s m args below meth c H locs ls F hW hS hl
  refine lv_icmp_le F.1 F.2.1 hd hp (fun hc => ?_) (fun hc => ?_)
  · first | rw [if_pos hc] at ha | rw [if_neg hc] at ha
    exact ht a ha G hG p e s m args below meth c H locs ls F hW hS hl
  · first | rw [if_pos hc] at ha | rw [if_neg hc] at ha
    exact hf a ha G hG p e s m args below meth c H locs ls F hW hS hl
theorem V_icmp_le_t {x y : Int32} {off : Int} (hd : decode Y.cc pc = .ok (.if_icmp .le off, 3)) (hp : (pc : Int) + off = (q : Int)) (hp2 : pc + 3 = q2) (hc : x ≤ y) (h : V Y q L st M k n comp emb) : V Y pc L (.int y :: .int x :: st) M k n comp emb :=
  fun a ha G hG p e s m args below meth c H locs ls F hW hS hl => lv_icmp_le F.1 F.2.1 hd hp (fun _ => h a ha G hG p e s m args below meth c H locs ls F hW hS hl) (fun z => absurd hc z)
theorem V_icmp_le_f {x y : Int32} {off : Int} (hd : decode Y.cc pc = .ok (.if_icmp .le off, 3)) (hp : (pc : Int) + off = (q : Int)) (hp2 : pc + 3 = q2) (hc : ¬ (x ≤ y)) (h : V Y q2 L st M k n comp emb) : V Y pc L (.int y :: .int x :: st) M k n comp emb := by
  subst hp2
  exact fun a ha G hG p e s m args below meth c H locs ls F hW hS hl => lv_icmp_le F.1 F.2.1 hd hp (fun z => absurd z hc) (fun _ => h a ha G hG p e s m args below meth c H locs ls F hW hS hl)
theorem V_if_le {x : Int32} {off : Int} (hd : decode Y.cc pc = .ok (.ifCond .le off, 3)) (hp : (pc : Int) + off = (q : Int)) (hp2 : pc + 3 = q2) (ht : V Y q L st M k n c1 emb) (hf : V Y q2 L st M k n c2 emb) : V Y pc L (.int x :: st) M k n (if x ≤ 0 then c1 else c2) emb := by
  subst hp2
  intro a ha G hG p e s m args below meth c H locs ls F hW hS hl
  refine lv_if_le F.1 F.2.1 hd hp (fun hc => ?_) (fun hc => ?_)
  · first | rw [if_pos hc] at ha | rw [if_neg hc] at ha
    exact ht a ha G hG p e s m args below meth c H locs ls F hW hS hl
  · first | rw [if_pos hc] at ha | rw [if_neg hc] at ha
    exact hf a ha G hG p e s m args below meth c H locs ls F hW hS hl
theorem V_if_le_t {x : Int32} {off : Int} (hd : decode Y.cc pc = .ok (.ifCond .le off, 3)) (hp : (pc : Int) + off = (q : Int)) (hp2 : pc + 3 = q2) (hc : x ≤ 0) (h : V Y q L st M k n comp emb) : V Y pc L (.int x :: st) M k n comp emb :=
  fun a ha G hG p e s m args below meth c H locs ls F hW hS hl => lv_if_le F.1 F.2.1 hd hp (fun _ => h a ha G hG p e s m args below meth c H locs ls F hW hS hl) (fun z => absurd hc z)
theorem V_if_le_f {x : Int32} {off : Int} (hd : decode Y.cc pc = .ok (.ifCond .le off, 3)) (hp : (pc : Int) + off = (q : Int)) (hp2 : pc + 3 = q2) (hc : ¬ (x ≤ 0)) (h : V Y q2 L st M k n comp emb) : V Y pc L (.int x :: st) M k n comp emb := by
  subst hp2
  exact fun a ha G hG p e s m args below meth c H locs ls F hW hS hl => lv_if_le F.1 F.2.1 hd hp (fun z => absurd z hc) (fun _ => h a ha G hG p e s m args below meth c H locs ls F hW hS hl)
theorem V_ifz_eq {b : Bool} {off : Int} (hd : decode Y.cc pc = .ok (.ifCond .eq off, 3)) (hp : (pc : Int) + off = (q : Int)) (hp2 : pc + 3 = q2) (ht : V Y q L st M k n c2 emb) (hf : V Y q2 L st M k n c1 emb) : V Y pc L (.int (b2i b) :: st) M k n (bif b then c1 else c2) emb := by
  cases b with
  | true => exact V_if_eq_f hd hp hp2 (by decide) hf
  | false => exact V_if_eq_t hd hp hp2 (by decide) ht
theorem V_ifz_ne {b : Bool} {off : Int} (hd : decode Y.cc pc = .ok (.ifCond .ne off, 3)) (hp : (pc : Int) + off = (q : Int)) (hp2 : pc + 3 = q2) (ht : V Y q L st M k n c1 emb) (hf : V Y q2 L st M k n c2 emb) : V Y pc L (.int (b2i b) :: st) M k n (bif b then c1 else c2) emb := by
  cases b with
  | true => exact V_if_ne_t hd hp hp2 (by decide) ht
  | false => exact V_if_ne_f hd hp hp2 (by decide) hf
theorem V_ifnull_r {r : Nat} {off : Int} (hd : decode Y.cc pc = .ok (.ifnull off, 3)) (hp : pc + 3 = q) (h : V Y q L st M k n comp emb) : V Y pc L (.ref r :: st) M k n comp emb := by
  subst hp
  exact fun a ha G hG p e s m args below meth c H locs ls F hW hS hl => lv_ifnull F.1 F.2.1 hd (h a ha G hG p e s m args below meth c H locs ls F hW hS hl)
theorem V_ifnull_n {off : Int} (hd : decode Y.cc pc = .ok (.ifnull off, 3)) (hp : (pc : Int) + off = (q : Int)) (h : V Y q L st M k n comp emb) : V Y pc L (.null :: st) M k n comp emb :=
  fun a ha G hG p e s m args below meth c H locs ls F hW hS hl => lv_ifnullN F.1 F.2.1 hd hp (h a ha G hG p e s m args below meth c H locs ls F hW hS hl)
theorem V_ifnonnull_r {r : Nat} {off : Int} (hd : decode Y.cc pc = .ok (.ifnonnull off, 3)) (hp : (pc : Int) + off = (q : Int)) (h : V Y q L st M k n comp emb) : V Y pc L (.ref r :: st) M k n comp emb :=
  fun a ha G hG p e s m args below meth c H locs ls F hW hS hl => lv_ifnonnull F.1 F.2.1 hd hp (h a ha G hG p e s m args below meth c H locs ls F hW hS hl)
theorem V_ifnonnull_n {off : Int} (hd : decode Y.cc pc = .ok (.ifnonnull off, 3)) (hp : pc + 3 = q) (h : V Y q L st M k n comp emb) : V Y pc L (.null :: st) M k n comp emb := by
  subst hp
  exact fun a ha G hG p e s m args below meth c H locs ls F hW hS hl => lv_ifnonnullN F.1 F.2.1 hd (h a ha G hG p e s m args below meth c H locs ls F hW hS hl)
theorem V_sub (ks : List Nat) (hL : lv_pick L ks = L') (h : V Y pc L' st M k n comp emb) : V Y pc L st M k n comp emb := by
  subst hL
  intro a ha G hG p e s m args below meth c H locs ls F hW hS hl
  refine h a ha G hG p e s m args below meth c H locs ls F hW hS (lv_mono hl ?_)
  intro q hq
  obtain ⟨q0, h0, rfl⟩ := List.mem_map.mp hq
  obtain ⟨i, -, hi⟩ := List.mem_filterMap.mp h0
  exact List.mem_map.mpr ⟨q0, List.mem_of_getElem? hi, rfl⟩
theorem V_none : V Y pc L st M k n (none : Option τ) emb := fun a ha => nomatch ha
theorem V_if {c : Prop} [Decidable c] (h1 : c → V Y pc L st M k n c1 emb) (h2 : ¬ c → V Y pc L st M k n c2 emb) : V Y pc L st M k n (if c then c1 else c2) emb := by
  by_cases hc : c
  · rw [if_pos hc]; exact h1 hc
  · rw [if_neg hc]; exact h2 hc
theorem V_w {k' n' : Nat} (h1 : k ≤ k') (h2 : n ≤ n') (h : V Y pc L st M k' n' comp emb) : V Y pc L st M k n comp emb :=
  fun a ha G hG p e s m args below meth c H locs ls F hW hS hl => W.widen h1 h2 (h a ha G hG p e s m args below meth c H locs ls F hW hS hl)
end VROWS
