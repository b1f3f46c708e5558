/-! OWN ROWS: Strings and their bytes, constant or not; arrays of a length that is not constant; arrays of arrays -/
def strc (r : Nat) : Bool := decide (20 ≤ r ∧ r < 35) || decide (43 ≤ r ∧ r < 57)
def strb (r : Nat) : Nat := if r < 35 then r + 40 else r + 33
def cB (r : Nat) : Option (List Int32) := if 60 ≤ r ∧ r < 75 then some (kwWord (r - 60)) else if 76 ≤ r ∧ r < 90 then some (lsBy (r - 76)) else if r = 90 then some dgO else if r = 91 then some dgT else none
theorem strc_of {r : Nat} (h : strc r = true) : (∃ i, i < 15 ∧ r = 20 + i) ∨ ∃ j, j < 14 ∧ r = 43 + j := by
  unfold strc at h
  rw [Bool.or_eq_true, decide_eq_true_eq, decide_eq_true_eq] at h
  rcases h with h | h
  · exact Or.inl ⟨r - 20, by omega, by omega⟩
  · exact Or.inr ⟨r - 43, by omega, by omega⟩
theorem strc_lt {r : Nat} (h : strc r = true) : r < 100 ∧ strb r < 100 := by
  rcases strc_of h with ⟨i, hi, rfl⟩ | ⟨j, hj, rfl⟩
  · unfold strb; rw [if_pos (by omega)]; omega
  · unfold strb; rw [if_neg (by omega)]; omega
theorem strc_g {r : Nat} (h : strc r = true) {G : Gx} (hG : g_ok G) : va_O strT (G.ad r) G.A G.s G.s.heap ∧ va_OF strT "coder" "B" (.int 0) (G.ad r) G.A G.s G.s.heap ∧ va_OF strT "value" "[B" (.ref (G.ad (strb r))) (G.ad r) G.A G.s G.s.heap := by
  rcases strc_of h with ⟨i, hi, rfl⟩ | ⟨j, hj, rfl⟩
  · have e : strb (20 + i) = 60 + i := by unfold strb; rw [if_pos (by omega)]; omega
    rw [e]
    obtain ⟨a, b, c, -⟩ := (g_x hG).2.2.1 i hi
    exact ⟨a, b, c⟩
  · have e : strb (43 + j) = 76 + j := by unfold strb; rw [if_neg (by omega)]; omega
    rw [e]
    obtain ⟨-, a, b, c, -⟩ := (g_x hG).2.2.2.1.1 j hj
    exact ⟨a, b, c⟩
theorem dg_len : dgO.length = 100 ∧ dgT.length = 100 := by decide +kernel
theorem cB_g {r : Nat} {l : List Int32} (h : cB r = some l) : r < 100 ∧ ∀ G : Gx, g_ok G → va_T .byte (G.ad r) l.length (fun j => .int (l.getD j 0)) G.A G.s G.s.heap := by
  unfold cB at h
  split at h
  · rename_i hr
    cases h
    obtain ⟨i, rfl⟩ : ∃ i, r = 60 + i := ⟨r - 60, by omega⟩
    rw [Nat.add_sub_cancel_left]
    exact ⟨by omega, fun G hG => ((g_x hG).2.2.1 i (by omega)).2.2.2⟩
  · split at h
    · rename_i hr
      cases h
      obtain ⟨i, rfl⟩ : ∃ i, r = 76 + i := ⟨r - 76, by omega⟩
      rw [Nat.add_sub_cancel_left]
      exact ⟨by omega, fun G hG => ((g_x hG).2.2.2.1.1 i (by omega)).2.2.2.2⟩
    · split at h
      · rename_i hr
        cases h; subst hr
        exact ⟨by omega, fun G hG => by rw [dg_len.1]; exact (g_x hG).2.2.2.1.2.1.2⟩
      · split at h
        · rename_i hr
          cases h; subst hr
          exact ⟨by omega, fun G hG => by rw [dg_len.2]; exact (g_x hG).2.2.2.1.2.2.2⟩
        · cases h
def isS (M : Mem) (r : Nat) : Bool := strc r || isO M 11 r
def obS {τ : Type} (M : Mem) (r : Nat) (x : Option τ) : Option τ := bif isS M r then x else none
theorem obS_of {τ : Type} {M : Mem} {r : Nat} {x : Option τ} {y : τ} (h : obS M r x = some y) : isS M r = true ∧ x = some y := by
  unfold obS at h
  cases hi : isS M r with
  | true => rw [hi] at h; exact ⟨rfl, h⟩
  | false => rw [hi] at h; cases h
theorem RC.str {M : Mem} {r : Nat} (h : isS M r = true) : RC M r strT := by
  unfold isS at h
  rw [Bool.or_eq_true] at h
  rcases h with h | h
  · exact RC.con fun G hG => by rw [Gx.r_lo (strc_lt h).1]; exact (strc_g h hG).1
  · exact RC.obj (ci := 11) (T := TJ0) (N := 4) rfl h
def sV (M : Mem) (r : Nat) : Option Nat := bif strc r then some (strb r) else gR M 11 0 r
def sK (M : Mem) (r : Nat) : Option Int32 := bif strc r then some 0 else gI M 11 1 r
def bL (M : Mem) (r : Nat) : Option Int32 := match cB r with | some l => some (Int32.ofNat l.length) | none => aL M r
def bI (M : Mem) (r : Nat) (i : Int32) : Option Int32 := match cB r with | some l => (if inR i l.length = true then some (l.getD i.toNatClampNeg 0) else none) | none => aI M 2 r i
def gd {τ : Type} (b : Bool) (c : Option τ) : Option τ := bif b then c else none
def isB (x : Int32) : Bool := decide (x.toInt8.toInt32 = x)
def isC (x : Int32) : Bool := decide ((x.toUInt32 % 65536).toInt32 = x)
section WCOPY
variable {p : Program} {l : Launch} {e : Env} {R : Room} {s : State} {m : MethodId} {args : Array Value} {below : List Frame} {meth : Method} {c : Code} {H : Heap} {locs : List Loc} {cells slots : Nat} {Q : State → Prop}
variable {cc : ByteArray} {pc : Nat} {ls : Array Slot} {rest : List Value} {a : Nat}
/-- bytes copied from one array to another -/
theorem wx_copy (hexec : p.tables.exec = Jvm.exec) (hb : c.code = cc) (hml : c.maxLocals = ls.size) {own : String} {index : Nat} (hown : s.vm.findClass own = some m.cls) (hlink : (Cond.methodLink own index arraycopyName).before args s = true) (hnat : (Cond.native arraycopyName).before args s = true) (hstat : (Cond.static arraycopyName).before args s = true) (hini : (Cond.initialized "java/lang/System").before args s = true)
    {b0 n0 n1 : Nat} {f g : Nat → Int32} {scr : Cell} {c1 : ClassId} (hc0 : H[b0]? = some scr) (hs2 : s.isArrayOf scr .byte) (hs3 : scr.vm ≠ .unknown) (hs4 : n0 ≤ scr.slots.size) (hs5 : ∀ j : Nat, j < n0 → scr.slots[j]? = some (.int (f j))) (hc1 : H[a]? = some (vp_cell c1 (n1, .inl g))) (hAr : ArrOfT s c1 .byte)
    {sp dp n : Int32} (h1 : ¬ sp < 0) (h2 : ¬ dp < 0) (h3 : ¬ n < 0) (h4 : sp.toNatClampNeg + n.toNatClampNeg ≤ n0) (h5 : dp.toNatClampNeg + n.toNatClampNeg ≤ n1) (hfit : ∀ i : Nat, i < n.toNatClampNeg → fits .byte (.int (f (sp.toNatClampNeg + i))) = true)
    (hframes : 1 ≤ R.frames) (hlocals : (rest.map fun v => v.category).sum + (nativeFrameWords "java/lang/System" "arraycopy" 5 + 11) ≤ R.locals) (hdg : decode cc pc = .ok (.invokestatic index, 3))
    (kk : ∀ (H1 : Heap) (locs1 : List Loc), H1.size = H.size → H1[a]? = some (vp_cell c1 (n1, .inl (va_cpy f g sp.toNatClampNeg dp.toNatClampNeg n.toNatClampNeg))) → (∀ q, q ≠ a → H1[q]? = H[q]?) → (∀ z ∈ locs1, z.base = a) → W p l e R s m args below meth c H1 (locs ++ locs1) cells slots Q (F0 m (pc + 3) ls rest)) : W p l e R s m args below meth c H locs cells slots Q (F0 m pc ls (.int n :: .int dp :: .ref a :: .int sp :: .ref b0 :: rest)) := by
  have nn : ∀ z : Int32, ¬ z < 0 → z.toInt = (z.toNatClampNeg : Int) := by
    intro z hz
    have hz0 : (0 : Int) ≤ z.toInt := by
      have := Int32.not_lt.mp hz
      simpa using Int32.le_iff_toInt_le.mp this
    show z.toInt = ((z.toInt.toNat : Nat) : Int)
    omega
  intro T hT X
  obtain ⟨hs6, k0, hk0, cm0, hkk0⟩ := hs2
  obtain ⟨-, k1, hk1, cm1, hkk1⟩ := hAr n1 (fun j => .int (g j))
  obtain ⟨vm', X', step⟩ := X.arraycopy hexec hown hlink hnat hstat hini (src := b0) (dst := a) (cs := scr) (cd := vp_cell c1 (n1, .inl g)) (srcPos := sp) (destPos := dp) (n := n) (by rw [hT]; exact hc0) (by rw [hT]; exact hc1)
    hs6 (fun _ h => by cases h) hs3 (fun h => by cases h) hk0 hk1 hkk0 hkk1 (by simp [refKind]) h1 h2 h3
    (by rw [nn sp h1, nn n h3]; omega)
    (by rw [nn dp h2, nn n h3]; show ¬ _ > ((arrV c1 n1 (fun j => .int (g j))).slots.size : Int); rw [arrV_size]; omega)
    (fun vm₁ _ i hi => by
      have e : scr.slots.getD (sp.toNatClampNeg + i) .null = .int (f (sp.toNatClampNeg + i)) := by
        rw [Array.getD_eq_getD_getElem?, hs5 _ (by omega)]
        rfl
      refine ⟨?_, ?_⟩
      · rw [e]
        exact hfit i hi
      · rw [e]
        exact trivial)
    (g := F0 m pc ls (.int n :: .int dp :: .ref a :: .int sp :: .ref b0 :: rest)) rfl (by rw [hml]) (rest := rest) rfl (by rw [hb]; exact hdg) hframes (by show 2 * 0 + _ + _ ≤ _; omega)
  have e1 : copied scr (vp_cell c1 (n1, .inl g)) sp dp n = vp_cell c1 (n1, .inl (va_cpy f g sp.toNatClampNeg dp.toNatClampNeg n.toNatClampNeg)) := va_copiedX (fun z => .int z) scr c1 f g hs5 h4
  rw [e1] at X' step
  have hl : a < H.size := (Array.getElem?_eq_some_iff.mp hc1).1
  have hheap : ((T.setVm vm').setCell a (vp_cell c1 (n1, .inl (va_cpy f g sp.toNatClampNeg dp.toNatClampNeg n.toNatClampNeg)))).heap = H.setIfInBounds a (vp_cell c1 (n1, .inl (va_cpy f g sp.toNatClampNeg dp.toNatClampNeg n.toNatClampNeg))) := by rw [← hT]; rfl
  obtain ⟨t, a1, b1⟩ := kk _ _ (by simp) (show (H.setIfInBounds a _)[a]? = some _ by simp [Array.getElem?_setIfInBounds, hl]) (fun q hq => by simp [Array.getElem?_setIfInBounds, Ne.symm hq])
    (fun q hq => by
      obtain ⟨z, -, hz⟩ := List.mem_map.mp hq
      rw [← hz]) _ hheap X'
  exact ⟨t, step t a1, b1⟩
/-- an array cloned -/
theorem wx_clone (hexec : p.tables.exec = Jvm.exec) (hb : c.code = cc) (hml : c.maxLocals = ls.size) {own ad : String} {index : Nat} (hown : s.vm.findClass own = some m.cls)
    (hlink : (Cond.methodLink own index ⟨ad, "clone", "()Ljava/lang/Object;"⟩).before args s = true) (hsame : (Cond.sameMethod ad "java/lang/Object" "clone" "()Ljava/lang/Object;").before args s = true)
    (hnat : (Cond.native ⟨"java/lang/Object", "clone", "()Ljava/lang/Object;"⟩).before args s = true) (hinst : (Cond.instanceMethod ⟨"java/lang/Object", "clone", "()Ljava/lang/Object;"⟩).before args s = true)
    (hsel : (Cond.selects ad ⟨ad, "clone", "()Ljava/lang/Object;"⟩ ⟨"java/lang/Object", "clone", "()Ljava/lang/Object;"⟩).before args s = true) (hcl : (Cond.castable ad "java/lang/Cloneable").before args s = true)
    {cA : ClassId} {n : Nat} {f : Nat → Int32} {ty : FieldType} (hc0 : H[a]? = some (vp_cell cA (n, .inl f))) (hAr : ArrOfT s cA ty)
    (hnm : s.vm.findClass ad = some cA) (hfit : ∀ i : Nat, i < n → fits ty (.int (f i)) = true)
    (hframes : 1 ≤ R.frames) (hlocals : (rest.map fun v => v.category).sum + 14 ≤ R.locals) (hcells : cells + 1 ≤ R.cells) (hslots : slots + n ≤ R.slots) (hdg : decode cc pc = .ok (.invokevirtual index, 3))
    (kk : ∀ H1 : Heap, H1.size = H.size + 1 → H1[H.size]? = some (vp_cell cA (n, .inl f)) → (∀ q : Nat, q < H.size → H1[q]? = H[q]?) → W p l e R s m args below meth c H1 locs (cells + 1) (slots + n) Q (F0 m (pc + 3) ls (.ref H.size :: rest))) : W p l e R s m args below meth c H locs cells slots Q (F0 m pc ls (.ref a :: rest)) := by
  have hsz : (vp_cell cA (n, .inl f)).slots.size = n := arrV_size _ _ _
  obtain ⟨c0, t0', f1, f2, f3⟩ := Cond.castable_spec hcl
  cases hnm.symm.trans f1
  intro T hT X
  have hcellT : T.heap[a]? = some (vp_cell cA (n, .inl f)) := by rw [hT]; exact hc0
  obtain ⟨-, kA, hkA, comp, hkind⟩ := State.isArrayOf_alike X.warmed.alike (hAr 0 (fun _ => .null))
  obtain ⟨-, kS, hkS, compS, hkindS⟩ := hAr 0 (fun _ => .null)
  obtain ⟨vm', X', st⟩ := X.cloneArray hexec hown hlink hsame hnat hinst hsel (a := a) (cell := vp_cell cA (n, .inl f)) hcellT (fun k h => by cases h) (fun h => by cases h) hnm f2 f3
    (fun i v hv => by
      have hk' : T.vm.classes[cA]? = some kA := hkA
      show T.fitsSlot cA .none i v = true
      simpa [State.fitsSlot, State.slotType?, hk', hkind] using va_fit (F := fun j => .int (f j)) hfit i v hv)
    (g := F0 m pc ls (.ref a :: rest)) rfl (by rw [hml]) rfl (by rw [hb]; exact hdg) hframes (by show 2 * 0 + _ + 14 ≤ _; omega) hcells (by rw [hsz]; exact hslots) (hloader := Vm.clonesLoader_of_array hkS hkindS)
  rw [hsz] at X'
  generalize hH1 : H.push (vp_cell cA (n, .inl f)) = H1
  obtain ⟨t, b1, b2⟩ := kk H1 (by rw [← hH1, Array.size_push]) (by rw [← hH1, Array.getElem?_push_size]) (fun q hq => by rw [← hH1, Array.getElem?_push, if_neg (Nat.ne_of_lt hq)])
    ((T.setVm vm').pushCell (vp_cell cA (n, .inl f))) (by rw [← hH1, ← hT]; rfl) X'
  refine ⟨t, st t ?_, b2⟩
  rw [hT]
  exact b1
end WCOPY
section JR
variable {τ : Type} {Y Y2 : MI} {pc q q2 q3 : Nat} {L L' : List (Nat × Value)} {st : List Value} {M : Mem} {k n k2 n2 : Nat} {comp c1 c2 c3 : Option τ} {emb : τ → Out}
theorem V_obS {r : Nat} (h : isS M r = true → V Y pc L st M k n comp emb) : V Y pc L st M k n (obS M r comp) emb := by
  unfold obS
  cases hi : isS M r with
  | true => exact h hi
  | false => exact V_none
theorem V_gd {b : Bool} (h : b = true → V Y pc L st M k n comp emb) : V Y pc L st M k n (gd b comp) emb := by
  unfold gd
  cases b with
  | true => exact h rfl
  | false => exact V_none
theorem V_sVal {r idx : Nat} {cont : Nat → Option τ} (hl : Cond.fieldLink Y.own idx strT "value" "[B" ∈ cr_U) (hd : decode Y.cc pc = .ok (.getfield idx, 3)) (hp : pc + 3 = q) (h : ∀ x, V Y q L (.ref x :: st) M k n (cont x) emb) : V Y pc L (.ref r :: st) M k n ((sV M r).bind cont) emb := by
  unfold sV
  cases hs : strc r with
  | true =>
    exact V_getO (v := .ref (strb r)) (strc_lt hs).1 (fun G hG => by show va_OF _ _ _ (.ref (G.r (strb r))) _ _ _ _; rw [Gx.r_lo (strc_lt hs).2]; exact (strc_g hs hG).2.2) hl hd hp (h _)
  | false => exact V_getR hd hp (ci := 11) (T := TJ0) (N := 4) rfl (by decide) (Or.inl hl) h
theorem V_sCod {r idx : Nat} {cont : Int32 → Option τ} (hl : Cond.fieldLink Y.own idx strT "coder" "B" ∈ cr_U) (hd : decode Y.cc pc = .ok (.getfield idx, 3)) (hp : pc + 3 = q) (h : ∀ x, V Y q L (.int x :: st) M k n (cont x) emb) : V Y pc L (.ref r :: st) M k n ((sK M r).bind cont) emb := by
  unfold sK
  cases hs : strc r with
  | true => exact V_getO (v := .int 0) (strc_lt hs).1 (fun G hG => (strc_g hs hG).2.1) hl hd hp (h _)
  | false => exact V_getI hd hp (ci := 11) (T := TJ0) (N := 4) rfl (by decide) (Or.inl hl) h
theorem V_bL {r : Nat} {cont : Int32 → Option τ} (hd : decode Y.cc pc = .ok (.arraylength, 1)) (hp : pc + 1 = q) (h : ∀ x, V Y q L (.int x :: st) M k n (cont x) emb) : V Y pc L (.ref r :: st) M k n ((bL M r).bind cont) emb := by
  unfold bL
  cases hc : cB r with
  | some l => exact V_lenO (cB_g hc).1 (f := fun _ j => .int (l.getD j 0)) (cB_g hc).2 hd hp (h _)
  | none => exact V_arraylength hd hp h
theorem V_bI {r : Nat} {i : Int32} {cont : Int32 → Option τ} (hd : decode Y.cc pc = .ok (.baload, 1)) (hp : pc + 1 = q) (h : ∀ x, V Y q L (.int x :: st) M k n (cont x) emb) : V Y pc L (.int i :: .ref r :: st) M k n ((bI M r i).bind cont) emb := by
  unfold bI
  cases hc : cB r with
  | some l =>
    dsimp only
    split
    · rename_i hi
      exact V_ldO (cB_g hc).1 (cB_g hc).2 (inR_of hi) hd hp (h _)
    · exact V_none
  | none => exact V_baload hd hp h
theorem V_ineg {x : Int32} (hd : decode Y.cc pc = .ok (.ineg, 1)) (hp : pc + 1 = q) (h : V Y q L (.int (-x) :: st) M k n comp emb) : V Y pc L (.int x :: st) M k n comp emb := by
  subst hp
  exact fun a ha G hG p e s m args below meth c H locs ls F hW hS hl => lv_ineg F.1 F.2.1 hd (h a ha G hG p e s m args below meth c H locs ls F hW hS hl)
theorem V_dup_x1 {v w : Value} (hd : decode Y.cc pc = .ok (.dup_x1, 1)) (hp : pc + 1 = q) (hv : v.category = 1) (hw : w.category = 1) (h : V Y q L (v :: w :: v :: st) M k n comp emb) : V Y pc L (v :: w :: st) M k n comp emb := by
  subst hp
  exact fun a ha G hG p e s m args below meth c H locs ls F hW hS hl => lv_dup_x1 F.1 F.2.1 hd ((cr_cat _ _).trans hv) ((cr_cat _ _).trans hw) (h a ha G hG p e s m args below meth c H locs ls F hW hS hl)
/-- a switch over 0 and 1 -/
theorem V_look2 {x : Int32} {d a b : Int} {len : Nat} (hd : decode Y.cc pc = .ok (.lookupswitch d #[(0, a), (1, b)], len)) (hp : (pc : Int) + a = (q : Int)) (hp2 : (pc : Int) + b = (q2 : Int)) (hp3 : (pc : Int) + d = (q3 : Int)) (h1 : V Y q L st M k n c1 emb) (h2 : V Y q2 L st M k n c2 emb) (h3 : V Y q3 L st M k n c3 emb) : V Y pc L (.int x :: st) M k n (if x = 0 then c1 else if x = 1 then c2 else c3) emb := by
  intro z hz G hG p e s m args below meth c H locs ls F hW hS hl
  by_cases e0 : x = 0
  · rw [if_pos e0] at hz
    subst e0
    exact lv_lookup F.1 F.2.1 hd (by first | rfl | simp) (off := a) rfl hp (h1 z hz G hG p e s m args below meth c H locs ls F hW hS hl)
  · rw [if_neg e0] at hz
    by_cases e1 : x = 1
    · rw [if_pos e1] at hz
      subst e1
      exact lv_lookup F.1 F.2.1 hd (by first | rfl | simp) (off := b) rfl hp2 (h2 z hz G hG p e s m args below meth c H locs ls F hW hS hl)
    · rw [if_neg e1] at hz
      have g0 : ¬ x.toInt = 0 := fun w => e0 (Int32.toInt_inj.mp w)
      have g1 : ¬ x.toInt = 1 := fun w => e1 (Int32.toInt_inj.mp w)
      have g2 : ¬ 0 = x.toInt := fun w => g0 w.symm
      have g3 : ¬ 1 = x.toInt := fun w => g1 w.symm
      exact lv_lookup F.1 F.2.1 hd (by first | rfl | simp) (off := d) (by simp [Op.lookupswitch.offset, g0, g1, g2, g3]) hp3 (h3 z hz G hG p e s m args below meth c H locs ls F hW hS hl)
/-- answers of type byte and char -/
theorem V_bret {x : τ} {v : Int32} (hd : decode Y.cc pc = .ok (.ireturn, 1)) (hr : Y.ret = some .byte) (hv : isB v = true) (hx : emb x = (.inl (some (.int v)), M)) (hk : k ≤ Y.rm.cells ∧ n ≤ Y.rm.slots) : V Y pc L [.int v] M k n (some x) emb :=
  V_nret hd hr (Or.inl rfl) (by show Value.int v.toInt8.toInt32 = _; rw [of_decide_eq_true hv]) hx hk
theorem V_cret {x : τ} {v : Int32} (hd : decode Y.cc pc = .ok (.ireturn, 1)) (hr : Y.ret = some .char) (hv : isC v = true) (hx : emb x = (.inl (some (.int v)), M)) (hk : k ≤ Y.rm.cells ∧ n ≤ Y.rm.slots) : V Y pc L [.int v] M k n (some x) emb :=
  V_nret hd hr (Or.inr rfl) (by have h := pk_nc v; rw [of_decide_eq_true hv] at h; exact h) hx hk
/-- bytes into fields -/
theorem V_putB {idx ci kf r N : Nat} {C : String} {T : u_T} {v : Int32} {cont : Mem → Option τ} (hd : decode Y.cc pc = .ok (.putfield idx, 3)) (hp : pc + 3 = q) (hc : vwCl[ci]? = some (C, T, N)) (hk : kf < N) (hl : flk Y.own idx (T kf)) (hfin : (T kf).2.2.2 = false) (ht : parseFieldDescriptor (T kf).2.2.1 = some .byte) (h : ∀ M1, V Y q L st M1 k n (cont M1) emb) : V Y pc L (.int v :: .ref r :: st) M k n (gd (isB v) ((pV M ci kf r (.int v)).bind cont)) emb :=
  V_gd fun hv => V_bind fun M1 hm => V_putV hd hp hc hk hl hfin ht (fun _ => by show Value.int v.toInt8.toInt32 = _; rw [of_decide_eq_true hv]; rfl) (fun _ => by have h9 := pk_fb v; rw [of_decide_eq_true hv] at h9; exact h9) hm (h M1)
theorem V_putFB {idx ci kf r N : Nat} {C : String} {T : u_T} {v : Int32} {cont : Mem → Option τ} (hd : decode Y.cc pc = .ok (.putfield idx, 3)) (hp : pc + 3 = q) (hc : vwCl[ci]? = some (C, T, N)) (hk : kf < N) (hl : Cond.fieldLink Y.own idx (T kf).1 (T kf).2.1 (T kf).2.2.1 ∈ cr_U) (hfin : (T kf).2.2.2 = true) (hini : Y.y.name = "<init>") (hdecl : (T kf).1 = Y.own) (ht : parseFieldDescriptor (T kf).2.2.1 = some .byte) (h : ∀ M1, V Y q L st M1 k n (cont M1) emb) : V Y pc L (.int v :: .ref r :: st) M k n (gd (isB v) ((pV M ci kf r (.int v)).bind cont)) emb :=
  V_gd fun hv => V_bind fun M1 hm => V_putF hd hp hc hk hl hfin hini hdecl ht (fun _ => by show Value.int v.toInt8.toInt32 = _; rw [of_decide_eq_true hv]; rfl) (fun _ => by have h9 := pk_fb v; rw [of_decide_eq_true hv] at h9; exact h9) hm (h M1)
/-- an array of a length that is not constant, of at most N elements -/
def okN (N : Nat) (i : Int32) : Bool := !(decide (i < 0)) && Nat.ble i.toNatClampNeg N
theorem okN_of {N : Nat} {i : Int32} (h : okN N i = true) : ¬ i < 0 ∧ i.toNatClampNeg ≤ N := by
  unfold okN at h
  rw [Bool.and_eq_true, Bool.not_eq_true', decide_eq_false_iff_not] at h
  exact ⟨h.1, Nat.le_of_ble_eq_true h.2⟩
theorem V_newarrayD {cont : Nat → Option τ} {atype : ArrayType} {i : Int32} {N t : Nat} {x : Nat → vp_A} (hd : decode Y.cc pc = .ok (.newarray atype, 2)) (hp : pc + 2 = q) (hty : newarray.typeOf atype = tyL t) (hl : Cond.arrayClass (newarray.typeOf atype) ∈ cr_U) (hb : N * componentBytes (newarray.typeOf atype) ≤ 536870912) (hx : ∀ (m : Nat) (f : Nat → Nat) (cA : ClassId), vp_cell cA (cr_a f (x m)) = arrV cA m (fun _ => defaultValue (newarray.typeOf atype))) (hRA : ∀ (U : State) (cA : ClassId), U.vm.findClass ("[" ++ (newarray.typeOf atype).toString) = some cA → va_RA U cA (tyL t))
    (hk : k + 1 ≤ Y.rm.cells ∧ n + N ≤ Y.rm.slots) (h : ∀ r, V Y q L (.ref r :: st) (mnew M (.inl (t, x i.toNatClampNeg))) (k + 1) (n + N) (cont r) emb) : V Y pc L (.int i :: st) M k n (gd (okN N i) ((alc M).bind cont)) emb :=
  V_gd fun hg => V_newarray hd hp hty hl (okN_of hg).1 rfl (Nat.le_trans (Nat.mul_le_mul_right _ (okN_of hg).2) hb) (hx _) hRA ⟨hk.1, Nat.le_trans (Nat.add_le_add_left (okN_of hg).2 _) hk.2⟩ (fun r => V_w (Nat.le_refl _) (Nat.add_le_add_left (okN_of hg).2 _) (h r))
/-- rows of ints in a row -/
theorem V_anewarrayA {cont : Nat → Option τ} {idx : Nat} {i : Int32} {N : Nat} (hd : decode Y.cc pc = .ok (.anewarray idx, 3)) (hp : pc + 3 = q) (hl : Cond.classLink Y.own idx (FieldType.array .int).toString ∈ cr_U) (hov : Cond.arrayOver (.array .int) ∈ lw_tbl) (hb : N * 4 ≤ 536870912)
    (hk : k + 1 ≤ Y.rm.cells ∧ n + N ≤ Y.rm.slots) (h : ∀ r, V Y q L (.ref r :: st) (mnew M (.inl (9, (i.toNatClampNeg, .inr (.inr (.inr (.inr (fun _ => none)))))))) (k + 1) (n + N) (cont r) emb) : V Y pc L (.int i :: st) M k n (gd (okN N i) ((alc M).bind cont)) emb := by
  refine V_gd fun hg => ?_
  subst hp
  obtain ⟨hi, hN⟩ := okN_of hg
  refine V_bind fun r hr => ?_
  obtain ⟨hm, rfl⟩ := alc_of hr
  have h := V_w (Nat.le_refl _) (Nat.add_le_add_left hN n) (h M.2.1)
  intro a ha G hG p e s m args below meth c H locs ls F hW hS hl'
  refine W.anewA F.1 F.2.1 F.own (F.U hl) (over_moved F.warm.alike (hG.2.1 _ hov)) rfl hd rfl hi (Nat.le_trans (Nat.mul_le_mul_right _ hN) hb) hk.1 (Nat.le_trans (Nat.add_le_add_left hN _) hk.2) fun cA kA comp' f1 f2 f3 f4 => ?_
  generalize hH1 : H.push ({ cls := cA, slots := Array.replicate i.toNatClampNeg .null, vm := .none } : Cell) = H1
  have z1 : H1.size = H.size + 1 := by rw [← hH1, Array.size_push]
  have e1 : H1[H.size]? = some (arrV cA i.toNatClampNeg (fun _ => .null)) := by rw [← hH1, Array.getElem?_push_size, ← arrV_new]
  have o1 : ∀ q : Nat, q < H.size → H1[q]? = H[q]? := fun q hq => by rw [← hH1, Array.getElem?_push, if_neg (Nat.ne_of_lt hq)]
  have hAr : ArrOfT s cA (.array .int) := fun N z => ⟨(fun k h => by cases h), kA, f2, comp', f3⟩
  have hRs : va_RA s cA (.array .int) := f1
  have hA0 : ArrOfT G.s cA (tyL 9) := arrOfT_moved F.warm.alike.symm hAr
  have hR0 : va_RA G.s cA (tyL 9) := hRs.moved F.warm.alike.symm
  have h2 := h a ha G hG p e s m args below meth c H1 locs ls F (hW.new hm (c := .inl (9, (i.toNatClampNeg, .inr (.inr (.inr (.inr (fun _ => none))))))) ⟨cA, ⟨hA0, hR0⟩, by show H1[H.size]? = some (vp_cell _ _); rw [cr_a, vp_cell_q]; exact e1⟩ z1 o1) (hS.grow (by omega) o1) hl'
  have e3 : (Value.ref M.2.1 :: st).map (cr_v G.r) = .ref H.size :: st.map (cr_v G.r) := by
    show Value.ref (G.r M.2.1) :: _ = _
    rw [(hW.top hm).2]
  rw [e3] at h2
  exact h2
/-- a row of ints is there -/
def isI (M : Mem) (v : Nat) : Bool := match M.1 v with
  | some (.inl (0, _)) => true
  | _ => false
theorem isI_of {M : Mem} {v : Nat} (h : isI M v = true) : ∃ x, M.1 v = some (.inl (0, x)) := by
  unfold isI at h
  split at h
  · rename_i x he
    exact ⟨x, he⟩
  · cases h
theorem ow_i (x : vp_A) (cA : ClassId) : (vp_cell cA x).vm = .none ∧ (vp_cell cA x).cls = cA := by
  obtain ⟨n, f | f | f | f | f⟩ := x <;> exact ⟨rfl, rfl⟩
theorem V_aastoreA {r v : Nat} {i : Int32} {cont : Mem → Option τ} (hov : Cond.arrayOver (.array .int) ∈ lw_tbl) (hd : decode Y.cc pc = .ok (.aastore, 1)) (hp : pc + 1 = q) (h : ∀ M1, V Y q L st M1 k n (cont M1) emb) : V Y pc L (.ref v :: .int i :: .ref r :: st) M k n (gd (isI M v) ((sQ M 9 r i (some v)).bind cont)) emb := by
  subst hp
  refine V_gd fun hv => ?_
  obtain ⟨xv, hxv⟩ := isI_of hv
  refine V_bind fun M1 hx => ?_
  unfold sQ at hx
  split at hx
  · rename_i t' nn f he
    split at hx
    · rename_i hcc
      obtain ⟨rfl, hi⟩ := hcc
      cases hx
      intro a ha G hG p e s m args below meth c H locs ls F hW hS hl'
      obtain ⟨cA, g1, g2⟩ := hW.arr he
      have g3 := g2 0 _ rfl
      obtain ⟨cV, w1, w2⟩ := hW.arr hxv
      have w3 : H[G.r v]? = some (vp_cell cV (cr_a G.r xv)) := w2 0 _ rfl
      have hK := F.Kt hG g1
      have hin := inR_of hi
      have hlt : i.toNatClampNeg < nn := Nat.not_le.mp fun q => hin (Or.inr q)
      have h0 : ¬ i < 0 := fun q => hin (Or.inl q)
      obtain ⟨comp, c9, kA, p1, p2, p3, p4, p5⟩ := arrayOverA_spec (over_moved (a' := args) F.warm.alike (hG.2.1 _ hov))
      have hcA : s.vm.findClass ("[" ++ (FieldType.array .int).toString) = some cA := (hK.2 0 _ rfl).2
      have hcV : s.vm.findClass ("[" ++ FieldType.int.toString) = some cV := ((F.Kt hG w1).2 0 _ rfl).2
      cases hcA.symm.trans p5
      have e9 : (FieldType.array .int).toString = "[" ++ FieldType.int.toString := by decide +kernel
      rw [e9] at p1
      cases hcV.symm.trans p1
      obtain ⟨-, kV, hkV, cmV, hkkV⟩ := (F.Kt hG w1).2 0 _ rfl |>.1 0 (fun _ => .null)
      refine W.aast F.1 F.2.1 (a := G.r r) (v := G.r v) g3 (fun q h => by cases h) (fun h => by cases h) p3 p4 rfl hkV ⟨h0, by show _ < (arrV _ _ _).slots.size; rw [arrV_size]; exact hlt⟩ w3 (fun q h => by rw [(ow_i _ _).1] at h; cases h) (by rw [(ow_i _ _).2]; exact hkV) (by rw [(ow_i _ _).2]; exact va_asg _ _) rfl rfl hd fun H1 e1 z oq => ?_
      refine h _ a ha G hG p e s m args below meth c H1 _ ls F (hW.set he ⟨cA, g1, ?_⟩ z oq) (hS.put z oq (Gx.r_A (hW.2.2 r _ he).1)) hl'
      show H1[G.r r]? = some (vp_cell _ _)
      rw [e1]
      show some ((vp_cell cA (nn, .inr (.inr (.inr (.inr (fun j => (f j).map G.r)))))).setSlot i.toNatClampNeg (.ref (G.r v))) = some (vp_cell cA (nn, .inr (.inr (.inr (.inr (fun j => (va_up f i.toNatClampNeg (some v) j).map G.r))))))
      rw [vp_cell_q, vp_cell_q, arrV_store]
      congr 2
      funext q
      by_cases hq : q = i.toNatClampNeg
      · subst hq
        simp [updV, va_up, va_rf]
      · simp [updV, va_up, hq]
    · cases hx
  · cases hx
theorem V_aaloadA {r : Nat} {i : Int32} {cont : Option Nat → Option τ} (hd : decode Y.cc pc = .ok (.aaload, 1)) (hp : pc + 1 = q) (h : ∀ x, V Y q L (va_rf x :: st) M k n (cont x) emb) : V Y pc L (.int i :: .ref r :: st) M k n ((aQ M 9 r i).bind cont) emb := by
  subst hp
  refine V_bind fun x hx => ?_
  unfold aQ at hx
  split at hx
  · rename_i t' nn f he
    split at hx
    · rename_i hc
      obtain ⟨rfl, hi⟩ := hc
      cases hx
      intro a ha G hG p e s m args below meth c H locs ls F hW hS hl'
      obtain ⟨cA, g1, g2⟩ := hW.arr he
      have hin := inR_of hi
      have hlt : i.toNatClampNeg < nn := Nat.not_le.mp fun q => hin (Or.inr q)
      have h2 := h _ a ha G hG p e s m args below meth c H locs ls F hW hS hl'
      rw [List.map_cons, cr_rf] at h2
      exact W.aald (v := va_rf ((f i.toNatClampNeg).map G.r)) (ty := .array .int) F.1 F.2.1 (g2 0 _ rfl) (((F.Kt hG g1).2 0 _ rfl).1 nn (fun j => va_rf ((f j).map G.r))) rfl (fun q => by cases q) (by show ¬ (i < 0 ∨ (arrV _ _ _).slots.size ≤ _); rw [arrV_size]; exact hin) (by show (arrV cA nn (fun j => va_rf ((f j).map G.r))).slots[i.toNatClampNeg]? = _; exact arrV_read _ _ hlt) rfl rfl hd h2
    · cases hx
  · cases hx
/-- a constant String into a row of Strings -/
theorem V_aastoreS {r v : Nat} {i : Int32} {cont : Mem → Option τ} (hd : decode Y.cc pc = .ok (.aastore, 1)) (hp : pc + 1 = q) (h : ∀ M1, V Y q L st M1 k n (cont M1) emb) : V Y pc L (.ref v :: .int i :: .ref r :: st) M k n (gd (strc v) ((sQ M 10 r i (some v)).bind cont)) emb := by
  subst hp
  refine V_gd fun hv => ?_
  refine V_bind fun M1 hx => ?_
  unfold sQ at hx
  split at hx
  · rename_i t' nn f he
    split at hx
    · rename_i hcc
      obtain ⟨rfl, hi⟩ := hcc
      cases hx
      intro a ha G hG p e s m args below meth c H locs ls F hW hS hl'
      obtain ⟨cA, g1, g2⟩ := hW.arr he
      have g3 := g2 0 _ rfl
      have hK := F.Kt hG g1
      have hin := inR_of hi
      have hlt : i.toNatClampNeg < nn := Nat.not_le.mp fun q => hin (Or.inr q)
      have h0 : ¬ i < 0 := fun q => hin (Or.inl q)
      obtain ⟨cell, v1, v2, v3, -⟩ := (F.O (strc_g hv hG).1).kept hS.2.1
      obtain ⟨kA, comp, p2, p3, p4, p5⟩ := (hK.2 0 _ rfl).2
      have hcomp : comp = cell.cls := Option.some.inj (p4.symm.trans v3)
      subst hcomp
      obtain ⟨kC, hkC, -⟩ := Vm.findClass_spec v3
      refine W.aast F.1 F.2.1 (a := G.r r) (v := G.r v) g3 (fun q h => by cases h) (fun h => by cases h) p2 p3 rfl hkC ⟨h0, by show _ < (arrV _ _ _).slots.size; rw [arrV_size]; exact hlt⟩ (by rw [Gx.r_lo (strc_lt hv).1]; exact v1) (fun q h => by rw [h] at v2; cases v2) hkC (va_asg _ _) rfl rfl hd fun H1 e1 z oq => ?_
      refine h _ a ha G hG p e s m args below meth c H1 _ ls F (hW.set he ⟨cA, g1, ?_⟩ z oq) (hS.put z oq (Gx.r_A (hW.2.2 r _ he).1)) hl'
      show H1[G.r r]? = some (vp_cell _ _)
      rw [e1]
      show some ((vp_cell cA (nn, .inr (.inr (.inr (.inr (fun j => (f j).map G.r)))))).setSlot i.toNatClampNeg (.ref (G.r v))) = some (vp_cell cA (nn, .inr (.inr (.inr (.inr (fun j => (va_up f i.toNatClampNeg (some v) j).map G.r))))))
      rw [vp_cell_q, vp_cell_q, arrV_store]
      congr 2
      funext q
      by_cases hq : q = i.toNatClampNeg
      · subst hq
        simp [updV, va_up, va_rf]
      · simp [updV, va_up, hq]
    · cases hx
  · cases hx
/-- System.arraycopy, of bytes -/
def srcB (M : Mem) (r : Nat) : Option (Nat × (Nat → Int32)) := match cB r with
  | some l => some (l.length, fun j => l.getD j 0)
  | none => match M.1 r with
    | some (.inl (2, n, .inl f)) => some (n, f)
    | _ => none
def cpOK (n0 n1 : Nat) (f : Nat → Int32) (sp dp n : Int32) : Bool := !(decide (sp < 0)) && !(decide (dp < 0)) && !(decide (n < 0)) && Nat.ble (sp.toNatClampNeg + n.toNatClampNeg) n0 && Nat.ble (dp.toNatClampNeg + n.toNatClampNeg) n1 && (List.range n.toNatClampNeg).all (fun i => fits .byte (.int (f (sp.toNatClampNeg + i))))
def bcp (M : Mem) (src : Nat) (sp : Int32) (dst : Nat) (dp n : Int32) : Option Mem := match srcB M src, M.1 dst with
  | some (n0, f), some (.inl (2, n1, .inl g)) => bif cpOK n0 n1 f sp dp n && !(Nat.beq src dst) then some (mset M dst (.inl (2, n1, .inl (va_cpy f g sp.toNatClampNeg dp.toNatClampNeg n.toNatClampNeg)))) else none
  | _, _ => none
theorem nfw : 8 + (nativeFrameWords "java/lang/System" "arraycopy" 5 + 11) ≤ 60 := by decide +kernel
theorem sum_cat (f : Nat → Nat) (st : List Value) : ((st.map (cr_v f)).map fun v => v.category).sum = (st.map fun v => v.category).sum := by
  rw [List.map_map]
  have : (fun v : Value => v.category) ∘ cr_v f = fun v => v.category := funext fun v => cr_cat _ _
  rw [this]
theorem V_bcp {src dst idx : Nat} {sp dp z : Int32} {cont : Mem → Option τ} (hl : Cond.methodLink Y.own idx arraycopyName ∈ cr_U) (hnat : Cond.native arraycopyName ∈ cr_U) (hstat : Cond.static arraycopyName ∈ cr_U) (hini : Cond.initialized "java/lang/System" ∈ cr_U) (hd : decode Y.cc pc = .ok (.invokestatic idx, 3)) (hp : pc + 3 = q) (hfr : 1 ≤ Y.rm.frames ∧ 60 ≤ Y.rm.locals) (hcat : (st.map fun v => v.category).sum ≤ 8)
    (h : ∀ M1, V Y q L st M1 k n (cont M1) emb) : V Y pc L (.int z :: .int dp :: .ref dst :: .int sp :: .ref src :: st) M k n ((bcp M src sp dst dp z).bind cont) emb := by
  subst hp
  refine V_bind fun M1 hx => ?_
  unfold bcp at hx
  split at hx
  · rename_i n0 f n1 g hsrc hdst
    cases hg : (cpOK n0 n1 f sp dp z && !(Nat.beq src dst)) with
    | false => rw [hg] at hx; cases hx
    | true =>
      rw [hg] at hx
      simp only [cond_true] at hx
      cases hx
      rw [Bool.and_eq_true] at hg
      have hg1 := hg.1
      unfold cpOK at hg1
      simp only [Bool.and_eq_true, Bool.not_eq_true', decide_eq_false_iff_not, List.all_eq_true, List.mem_range] at hg1
      obtain ⟨⟨⟨⟨⟨q1, q2⟩, q3⟩, q4⟩, q5⟩, q6⟩ := hg1
      have q4 := Nat.le_of_ble_eq_true q4
      have q5 := Nat.le_of_ble_eq_true q5
      intro a ha G hG p e s m args below meth c H locs ls F hW hS hl'
      obtain ⟨cA, g1, g2⟩ := hW.arr hdst
      have g3 : H[G.r dst]? = some (vp_cell cA (n1, .inl g)) := g2 0 _ rfl
      have hsum : ((st.map (cr_v G.r)).map fun v => v.category).sum + (nativeFrameWords "java/lang/System" "arraycopy" 5 + 11) ≤ Y.rm.locals := by
        rw [sum_cat]
        have := nfw
        omega
      have fin : ∀ (scr : Cell), H[G.r src]? = some scr → s.isArrayOf scr .byte → scr.vm ≠ .unknown → n0 ≤ scr.slots.size → (∀ j : Nat, j < n0 → scr.slots[j]? = some (.int (f j))) → W p G.l e Y.rm s m args below meth c H locs k n (vx_MQ below (QcV G (emb a)) (XcV G (emb a)) args s Y.rm.cells Y.rm.slots G.A) (F0 m pc ls ((.int z :: .int dp :: .ref dst :: .int sp :: .ref src :: st).map (cr_v G.r))) := by
        intro scr e1 e2 e3 e4 e5
        refine wx_copy F.1 F.2.1 (F.2.2.1.trans hl'.1.symm) F.own (F.U hl) (F.U hnat) (F.U hstat) (F.U hini) e1 e2 e3 e4 e5 g3 ((F.Kt hG g1).2 0 _ rfl).1 q1 q2 q3 q4 q5 q6 hfr.1 hsum hd fun H1 locs1 z1 d1 oq hb => ?_
        refine h _ a ha G hG p e s m args below meth c H1 _ ls F (hW.set hdst ⟨cA, g1, d1⟩ z1 oq) ⟨by rw [z1]; exact hS.1, fun y h1 h2 => ?_, fun y hy => ?_⟩ hl'
        · rw [oq y (fun w => h2 (by rw [w]; exact Gx.r_A (hW.2.2 dst _ hdst).1))]
          exact hS.2.1 y h1 h2
        · rcases List.mem_append.mp hy with w | w
          · exact hS.2.2 y w
          · rw [hb y w]; exact Gx.r_A (hW.2.2 dst _ hdst).1
      unfold srcB at hsrc
      cases hcb : cB src with
      | some l =>
        rw [hcb] at hsrc
        cases hsrc
        obtain ⟨hlo, hT⟩ := cB_g hcb
        obtain ⟨scr, hs1, hs2, hs3, hs4, -, hs5, hs7⟩ := F.Tb (hT G hG)
        refine fin scr ?_ hs2 hs3 hs4 hs5
        rw [Gx.r_lo hlo, hS.2.1 _ (Array.getElem?_eq_some_iff.mp hs1).1 hs7]
        exact hs1
      | none =>
        rw [hcb] at hsrc
        dsimp only at hsrc
        split at hsrc
        · rename_i n9 f9 he
          cases hsrc
          obtain ⟨cS, w1, w2⟩ := hW.arr he
          refine fin _ (w2 0 _ rfl) (((F.Kt hG w1).2 0 _ rfl).1 n0 (fun j => .int (f j))) (fun h => by cases h) (by show n0 ≤ (arrV cS n0 (fun j => .int (f j))).slots.size; rw [arrV_size]; exact Nat.le_refl _) (fun j hj => by show (arrV cS n0 (fun j => .int (f j))).slots[j]? = _; exact arrV_read _ _ hj)
        · cases hsrc
  · cases hx
/-- bytes cloned -/
def cln (M : Mem) (N r : Nat) : Option PC := match M.1 r with
  | some (.inl (2, n, .inl f)) => bif Nat.ble n N && (List.range n).all (fun i => fits .byte (.int (f i))) then some (.inl (2, n, .inl f)) else none
  | _ => none
theorem V_cln {r idx N : Nat} {cont : PC → Nat → Option τ} (hl : Cond.methodLink Y.own idx ⟨"[B", "clone", "()Ljava/lang/Object;"⟩ ∈ cr_U) (hsame : Cond.sameMethod "[B" "java/lang/Object" "clone" "()Ljava/lang/Object;" ∈ cr_U) (hnat : Cond.native ⟨"java/lang/Object", "clone", "()Ljava/lang/Object;"⟩ ∈ cr_U) (hinst : Cond.instanceMethod ⟨"java/lang/Object", "clone", "()Ljava/lang/Object;"⟩ ∈ cr_U)
    (hsel : Cond.selects "[B" ⟨"[B", "clone", "()Ljava/lang/Object;"⟩ ⟨"java/lang/Object", "clone", "()Ljava/lang/Object;"⟩ ∈ cr_U) (hcl : Cond.castable "[B" "java/lang/Cloneable" ∈ lw_tbl) (hd : decode Y.cc pc = .ok (.invokevirtual idx, 3)) (hp : pc + 3 = q) (hfr : 1 ≤ Y.rm.frames ∧ 22 ≤ Y.rm.locals) (hcat : (st.map fun v => v.category).sum ≤ 8) (hk : k + 1 ≤ Y.rm.cells ∧ n + N ≤ Y.rm.slots)
    (h : ∀ x r9, V Y q L (.ref r9 :: st) (mnew M x) (k + 1) (n + N) (cont x r9) emb) : V Y pc L (.ref r :: st) M k n ((cln M N r).bind fun x => (alc M).bind (cont x)) emb := by
  subst hp
  refine V_bind fun x hx => ?_
  refine V_bind fun r9 hr => ?_
  obtain ⟨hm, rfl⟩ := alc_of hr
  unfold cln at hx
  split at hx
  · rename_i n0 f he
    cases hg : (Nat.ble n0 N && (List.range n0).all (fun i => fits .byte (.int (f i)))) with
    | false => rw [hg] at hx; cases hx
    | true =>
      rw [hg] at hx
      simp only [cond_true] at hx
      cases hx
      simp only [Bool.and_eq_true, List.all_eq_true, List.mem_range] at hg
      have hN := Nat.le_of_ble_eq_true hg.1
      have h := V_w (Nat.le_refl _) (Nat.add_le_add_left hN n) (h (.inl (2, n0, .inl f)) M.2.1)
      intro a ha G hG p e s m args below meth c H locs ls F hW hS hl'
      obtain ⟨cA, g1, g2⟩ := hW.arr he
      have g3 : H[G.r r]? = some (vp_cell cA (n0, .inl f)) := g2 0 _ rfl
      refine wx_clone F.1 F.2.1 (F.2.2.1.trans hl'.1.symm) F.own (F.U hl) (F.U hsame) (F.U hnat) (F.U hinst) (F.U hsel) (F.T hG hcl rfl) g3 ((F.Kt hG g1).2 0 _ rfl).1 (va_nm_byte ((F.Kt hG g1).2 0 _ rfl).2) hg.2 hfr.1 (by rw [sum_cat]; omega) hk.1 (Nat.le_trans (Nat.add_le_add_left hN _) hk.2) hd fun H1 z1 d1 o1 => ?_
      have h2 := h a ha G hG p e s m args below meth c H1 locs ls F (hW.new hm (c := .inl (2, n0, .inl f)) ⟨cA, g1, d1⟩ z1 o1) (hS.grow (by omega) o1) hl'
      have e3 : (Value.ref M.2.1 :: st).map (cr_v G.r) = .ref H.size :: st.map (cr_v G.r) := by
        show Value.ref (G.r M.2.1) :: _ = _
        rw [(hW.top hm).2]
      rw [e3] at h2
      exact h2
  · cases hx
/-- a cast of bytes to what they are -/
def isBy (M : Mem) (v : Nat) : Bool := match M.1 v with
  | some (.inl (2, _)) => true
  | _ => false
theorem isBy_of {M : Mem} {v : Nat} (h : isBy M v = true) : ∃ x, M.1 v = some (.inl (2, x)) := by
  unfold isBy at h
  split at h
  · rename_i x he
    exact ⟨x, he⟩
  · cases h
theorem V_castB {r idx : Nat} (hl : Cond.classLink Y.own idx "[B" ∈ cr_U) (hd : decode Y.cc pc = .ok (.checkcast idx, 3)) (hp : pc + 3 = q) (h : V Y q L (.ref r :: st) M k n comp emb) : V Y pc L (.ref r :: st) M k n (gd (isBy M r) comp) emb := by
  subst hp
  refine V_gd fun hv => ?_
  obtain ⟨x, hx⟩ := isBy_of hv
  intro a ha G hG p e s m args below meth c H locs ls F hW hS hl'
  obtain ⟨cA, g1, g2⟩ := hW.arr hx
  exact va_castA F.1 F.2.1 F.own (F.U hl) g2 0 rfl (va_nm_byte ((F.Kt hG g1).2 0 _ rfl).2) hd (h a ha G hG p e s m args below meth c H locs ls F hW hS hl')
/-- behind a caught throw: some next ref is free, whichever it is -/
theorem V_any {B : Nat} (hB : ∃ c : PC, M.1 B = some c) (h : ∀ j, B < j → V Y pc L st (M.1, j, M.2.2) k n comp emb) : V Y pc L st M k n comp emb := by
  intro a ha G hG p e s m args below meth c H locs ls F hW hS hl'
  obtain ⟨c0, hc0⟩ := hB
  obtain ⟨b1, b2⟩ := hW.2.2 B c0 hc0
  have b3 := b2.lt
  rw [Gx.r_hi b1] at b3
  have b4 := hW.1.1
  exact h (H.size + 100 - G.b) (by omega) a ha G hG p e s m args below meth c H locs ls F ⟨hW.1, fun _ => by show G.b + (H.size + 100 - G.b) = _; omega, hW.2.2⟩ hS hl'
end JR
