/-! OWN ROWS over V: memory, calls, ends -/
theorem cr_Ut {w : Cond} (h : w ∈ cr_U) : w ∈ lw_tbl ∧ goodWord w = true := List.mem_filter.mp h
theorem cr_Uof {w : Cond} (h : w ∈ lw_tbl) (g : goodWord w = true) : w ∈ cr_U := List.mem_filter.mpr ⟨h, g⟩
theorem ws_of {Y : MI} {w : Cond} (h : w ∈ cr_U) : w ∈ Y.ws := List.mem_cons_of_mem _ h
theorem gin_of {Y : MI} {ws : List Cond} (h : ∀ w ∈ ws, w ∈ cr_U) : GoodIn Y.ws ws := fun w hw => ⟨ws_of (h w hw), good_of_word (cr_Ut (h w hw)).2⟩
def cls_chk : Bool := vwCl.all (fun q => (u_ws q.1 q.2.1 q.2.2).all (fun w => decide (w ∈ lw_tbl) && goodWord w))
set_option maxRecDepth 100000 in
theorem cls_chk_ok : cls_chk = true := by decide +kernel
theorem cls_in {ci : Nat} {C : String} {T : u_T} {N : Nat} (hc : vwCl[ci]? = some (C, T, N)) : ∀ w ∈ u_ws C T N, w ∈ cr_U := by
  intro w hw
  have h1 := List.all_eq_true.mp cls_chk_ok _ (List.mem_of_getElem? hc)
  have h2 := List.all_eq_true.mp h1 w hw
  rw [Bool.and_eq_true, decide_eq_true_eq] at h2
  exact cr_Uof h2.1 h2.2
theorem cls_nm {ci : Nat} {C : String} {T : u_T} {N : Nat} (hc : vwCl[ci]? = some (C, T, N)) : (∀ a, a < N → ∀ b, b < N → a ≠ b → (T a).2.1 ≠ (T b).2.1) ∧ ∃ ty0 : Nat → FieldType, ∀ k, k < N → parseFieldDescriptor (T k).2.2.1 = some (ty0 k) := by
  match ci, hc with
  | 0, hc => cases hc; exact ⟨nmX0, _, tyX0_ok⟩
  | 1, hc => cases hc; exact ⟨nmX1, _, tyX1_ok⟩
  | 2, hc => cases hc; exact ⟨nmX2, _, tyX2_ok⟩
  | 3, hc => cases hc; exact ⟨nmX4, _, tyX4_ok⟩
  | 4, hc => cases hc; exact ⟨nmX5, _, tyX5_ok⟩
  | 5, hc => cases hc; exact ⟨nmX6, _, tyX6_ok⟩
  | 6, hc => cases hc; exact ⟨nmX7, _, tyX7_ok⟩
  | 7, hc => cases hc; exact ⟨nmX8, _, tyX8_ok⟩
  | 8, hc => cases hc; exact ⟨nmX9, _, tyX9_ok⟩
  | 9, hc => cases hc; exact ⟨nmX10, _, tyX10_ok⟩
  | 10, hc => cases hc; exact ⟨nmX11, _, tyX11_ok⟩
  | 11, hc => cases hc; exact ⟨nmJ0, _, tyJ0_ok⟩
  | 12, hc => cases hc; exact ⟨nmJ4, _, tyJ4_ok⟩
  | k + 13, hc => simp [vwCl] at hc
section FRM
variable {G : Gx} {Y : MI} {p : Program} {s : State} {m : MethodId} {args : Array Value} {meth : Method} {c : Code}
theorem frm.own (F : frm G Y p s m args meth c) : s.vm.findClass Y.own = some m.cls := F.2.2.2.1
theorem frm.ws (F : frm G Y p s m args meth c) : ∀ w ∈ Y.ws, w.before args s = true := F.2.2.2.2.1
theorem frm.U (F : frm G Y p s m args meth c) {w : Cond} (h : w ∈ cr_U) : w.before args s = true := F.ws w (ws_of h)
theorem frm.ret (F : frm G Y p s m args meth c) : meth.sig.returnType = Y.ret := F.2.2.2.2.2.1
theorem frm.locks (F : frm G Y p s m args meth c) : meth.locks = false := F.2.2.2.2.2.2.1
theorem frm.tab (F : frm G Y p s m args meth c) : Y.hh ≠ lawH → c.exceptionTable.toList = tableOf Y.hh := F.2.2.2.2.2.2.2.1
theorem lawH_ne {hh : List (Nat × Nat × Nat × Nat)} (h : hh = []) : hh ≠ lawH := by rw [h]; exact fun z => nomatch z
theorem frm.name (F : frm G Y p s m args meth c) : Y.y.name ≠ "law" → meth.name = Y.y.name := F.2.2.2.2.2.2.2.2.1
theorem frm.warm (F : frm G Y p s m args meth c) : G.s.WarmedH s.vm := F.2.2.2.2.2.2.2.2.2.1
theorem frm.old (F : frm G Y p s m args meth c) : G.b ≤ s.heap.size ∧ ∀ q : Nat, q < G.b → s.heap[q]? = G.s.heap[q]? := F.2.2.2.2.2.2.2.2.2.2
theorem frm.K (F : frm G Y p s m args meth c) (hG : g_ok G) : va_K G.D vwCl [] s := va_K.moved F.warm.alike hG.2.2.1
theorem frm.Kt (F : frm G Y p s m args meth c) (hG : g_ok G) {cA : ClassId} {ty : FieldType} (h : ArrOfT G.s cA ty ∧ va_RA G.s cA ty) : va_K G.D vwCl [(cA, ty)] s :=
  ⟨(F.K hG).1, fun k q hk => by
    match k, hk with
    | 0, hk => cases hk; exact ⟨arrOfT_moved F.warm.alike h.1, h.2.moved F.warm.alike⟩
    | k + 1, hk => simp at hk⟩
theorem frm.A (F : frm G Y p s m args meth c) : ∀ q, s.heap.size ≤ q → G.A q := fun _ h => Nat.le_trans F.old.1 h
end FRM
theorem Gx.r_hi {G : Gx} {r : Nat} (h : 100 ≤ r) : G.r r = G.b + (r - 100) := by
  show cr_r _ _ r = _
  rw [cr_r, if_neg (by omega)]
theorem Gx.r_A {G : Gx} {r : Nat} (h : 100 ≤ r) : G.A (G.r r) := by
  show G.b ≤ G.r r
  rw [Gx.r_hi h]; omega
def mset (M : Mem) (r : Nat) (c : PC) : Mem := (fun j => if j = r then some c else M.1 j, M.2)
theorem cellAt.kept {G : Gx} {H H1 : Heap} {a : Nat} {c : PC} (h : cellAt G H a c) (hq : H1[a]? = H[a]?) : cellAt G H1 a c := by
  cases c with
  | inl x => obtain ⟨cA, h1, h2⟩ := h; exact ⟨cA, h1, h2.kept hq⟩
  | inr x => obtain ⟨ci, fs⟩ := x; exact va_at.kept (q := (a, .inr (ci, fs.map (cr_v G.r)))) h hq
theorem cellAt.lt {G : Gx} {H : Heap} {a : Nat} {c : PC} (h : cellAt G H a c) : a < H.size := by
  cases c with
  | inl x => obtain ⟨cA, h1, h2⟩ := h; exact h2.lt
  | inr x => obtain ⟨ci, fs⟩ := x; exact va_at.lt (q := (a, .inr (ci, fs.map (cr_v G.r)))) h
theorem WR.set {G : Gx} {H H1 : Heap} {M : Mem} {r : Nat} {c0 c : PC} (h : WR G H M) (h0 : M.1 r = some c0) (hc : cellAt G H1 (G.r r) c) (hz : H1.size = H.size) (oq : ∀ q, q ≠ G.r r → H1[q]? = H[q]?) : WR G H1 (mset M r c) := by
  obtain ⟨⟨w1, w2, w5⟩, w3, w4⟩ := h
  have hr := (w4 r c0 h0).1
  refine ⟨⟨by rw [hz]; exact w1, fun q hq => ?_, w5⟩, by rw [hz]; exact w3, fun j e hj => ?_⟩
  · rw [oq q (fun e => ?_)]
    · exact w2 q hq
    · rw [Gx.r_hi hr] at e; omega
  · by_cases hjr : j = r
    · subst hjr
      rw [mset] at hj
      dsimp only at hj
      rw [if_pos rfl] at hj
      cases hj
      exact ⟨hr, hc⟩
    · rw [mset] at hj
      dsimp only at hj
      rw [if_neg hjr] at hj
      obtain ⟨g1, g2⟩ := w4 j e hj
      refine ⟨g1, g2.kept (oq _ (fun z => hjr ?_))⟩
      rw [Gx.r_hi g1, Gx.r_hi hr] at z
      omega
theorem WR.obj {G : Gx} {H : Heap} {M : Mem} {r ci : Nat} {fs : List Value} (h : WR G H M) (h0 : M.1 r = some (.inr (ci, fs))) : va_P G.D vwCl [(G.r r, .inr (ci, fs.map (cr_v G.r)))] H := by
  intro k q hk
  match k, hk with
  | 0, hk => cases hk; exact (h.2.2 r _ h0).2
  | k + 1, hk => simp at hk
theorem WR.arr {G : Gx} {H : Heap} {M : Mem} {r t : Nat} {x : vp_A} (h : WR G H M) (h0 : M.1 r = some (.inl (t, x))) : ∃ cA : ClassId, (ArrOfT G.s cA (tyL t) ∧ va_RA G.s cA (tyL t)) ∧ va_P G.D vwCl [(G.r r, .inl (cA, cr_a G.r x))] H := by
  obtain ⟨cA, h1, h2⟩ := (h.2.2 r _ h0).2
  refine ⟨cA, h1, fun k q hk => ?_⟩
  match k, hk with
  | 0, hk => cases hk; exact h2
  | k + 1, hk => simp at hk
def flk (own : String) (idx : Nat) (f : String × String × String × Bool) : Prop := Cond.fieldLink own idx f.1 f.2.1 f.2.2.1 ∈ cr_U ∨ ∃ host : String, Cond.fieldLinkNest own idx f.1 f.2.1 f.2.2.1 host ∈ lw_tbl
/-- words that last: the good ones, and some that the kit brings along one by one -/
def cr_wk (w : Cond) : Bool := goodWord w || (match w with | .castable _ _ => true | .fieldLinkNest _ _ _ _ _ _ => true | .declares _ => true | _ => false)
theorem frm.T {G : Gx} {Y : MI} {p : Program} {s : State} {m : MethodId} {args : Array Value} {meth : Method} {c : Code} (F : frm G Y p s m args meth c) (hG : g_ok G) {w : Cond} (h : w ∈ lw_tbl) (hk : cr_wk w = true) : w.before args s = true := by
  by_cases hg : goodWord w = true
  · exact F.U (cr_Uof h hg)
  · have h0 := hG.2.1 w h
    cases w with
    | castable C T => exact va_Nw.use rfl (va_Nw.warmC F.warm (va_Nw.of rfl h0))
    | fieldLinkNest a i b n d host => exact va_Nw.use rfl (va_Nw.warmF F.warm (va_Nw.of rfl h0))
    | declares x => exact va_Nw.use rfl (va_Nw.warmD F.warm (va_Nw.of rfl h0))
    | _ =>
      simp only [cr_wk, Bool.or_false] at hk
      exact absurd hk hg
def vI : Value → Option Int32 | .int x => some x | _ => none
def vJ : Value → Option Int64 | .long x => some x | _ => none
def vR : Value → Option Nat | .ref x => some x | _ => none
def vQ : Value → Option (Option Nat) | .ref x => some (some x) | .null => some none | _ => none
def vZ : Value → Option Bool | .int x => if x = 0 then some false else if x = 1 then some true else none | _ => none
def gV (M : Mem) (ci kf r : Nat) : Option Value := match M.1 r with
  | some (.inr (c, fs)) => if c = ci then fs[kf]? else none
  | _ => none
def gI (M : Mem) (ci kf r : Nat) : Option Int32 := (gV M ci kf r).bind vI
def gJ (M : Mem) (ci kf r : Nat) : Option Int64 := (gV M ci kf r).bind vJ
def gR (M : Mem) (ci kf r : Nat) : Option Nat := (gV M ci kf r).bind vR
def gQ (M : Mem) (ci kf r : Nat) : Option (Option Nat) := (gV M ci kf r).bind vQ
def gZ (M : Mem) (ci kf r : Nat) : Option Bool := (gV M ci kf r).bind vZ
def pV (M : Mem) (ci kf r : Nat) (v : Value) : Option Mem := match M.1 r with
  | some (.inr (c, fs)) => if c = ci ∧ kf < fs.length then some (mset M r (.inr (c, fs.set kf v))) else none
  | _ => none
def inR (i : Int32) (n : Nat) : Bool := !(decide (i < 0)) && decide (i.toNatClampNeg < n)
theorem inR_of {i : Int32} {n : Nat} (h : inR i n = true) : vp_in i n := by
  rw [inR, Bool.and_eq_true, Bool.not_eq_true', decide_eq_false_iff_not, decide_eq_true_eq] at h
  intro z
  rcases z with z | z
  · exact h.1 z
  · omega
def aI (M : Mem) (t r : Nat) (i : Int32) : Option Int32 := match M.1 r with
  | some (.inl (t', n, .inl f)) => if t' = t ∧ inR i n = true then some (f i.toNatClampNeg) else none
  | _ => none
def aZ (M : Mem) (t r : Nat) (i : Int32) : Option Bool := (aI M t r i).bind fun x => vZ (.int x)
def aJ (M : Mem) (t r : Nat) (i : Int32) : Option Int64 := match M.1 r with
  | some (.inl (t', n, .inr (.inl f))) => if t' = t ∧ inR i n = true then some (f i.toNatClampNeg) else none
  | _ => none
def aD (M : Mem) (t r : Nat) (i : Int32) : Option UInt64 := match M.1 r with
  | some (.inl (t', n, .inr (.inr (.inr (.inl f))))) => if t' = t ∧ inR i n = true then some (f i.toNatClampNeg) else none
  | _ => none
def aQ (M : Mem) (t r : Nat) (i : Int32) : Option (Option Nat) := match M.1 r with
  | some (.inl (t', n, .inr (.inr (.inr (.inr f))))) => if t' = t ∧ inR i n = true then some (f i.toNatClampNeg) else none
  | _ => none
def aL (M : Mem) (r : Nat) : Option Int32 := match M.1 r with
  | some (.inl (_, n, _)) => some (Int32.ofNat n)
  | _ => none
def sI (M : Mem) (t r : Nat) (i x : Int32) : Option Mem := match M.1 r with
  | some (.inl (t', n, .inl f)) => if t' = t ∧ inR i n = true then some (mset M r (.inl (t', n, .inl (upd f i.toNatClampNeg x)))) else none
  | _ => none
def sJ (M : Mem) (t r : Nat) (i : Int32) (x : Int64) : Option Mem := match M.1 r with
  | some (.inl (t', n, .inr (.inl f))) => if t' = t ∧ inR i n = true then some (mset M r (.inl (t', n, .inr (.inl (vp_updL f i.toNatClampNeg x))))) else none
  | _ => none
def sD (M : Mem) (t r : Nat) (i : Int32) (x : UInt64) : Option Mem := match M.1 r with
  | some (.inl (t', n, .inr (.inr (.inr (.inl f))))) => if t' = t ∧ inR i n = true then some (mset M r (.inl (t', n, .inr (.inr (.inr (.inl (vf_upd f i.toNatClampNeg x))))))) else none
  | _ => none
def sQ (M : Mem) (t r : Nat) (i : Int32) (x : Option Nat) : Option Mem := match M.1 r with
  | some (.inl (t', n, .inr (.inr (.inr (.inr f))))) => if t' = t ∧ inR i n = true then some (mset M r (.inl (t', n, .inr (.inr (.inr (.inr (va_up f i.toNatClampNeg x))))))) else none
  | _ => none
def isO (M : Mem) (ci r : Nat) : Bool := match M.1 r with
  | some (.inr (c, _)) => Nat.beq c ci
  | _ => false
/-- a method's receiver is an object of its class -/
def ob {τ : Type} (M : Mem) (ci r : Nat) (x : Option τ) : Option τ := bif isO M ci r then x else none
theorem isO_of {M : Mem} {ci r : Nat} (h : isO M ci r = true) : ∃ fs, M.1 r = some (.inr (ci, fs)) := by
  unfold isO at h
  split at h
  · rename_i c fs he
    rw [Nat.beq_eq] at h
    subst h
    exact ⟨fs, he⟩
  · cases h
theorem ob_of {τ : Type} {M : Mem} {ci r : Nat} {x : Option τ} {y : τ} (h : ob M ci r x = some y) : isO M ci r = true ∧ x = some y := by
  unfold ob at h
  cases hi : isO M ci r with
  | true => rw [hi] at h; exact ⟨rfl, h⟩
  | false => rw [hi] at h; cases h
