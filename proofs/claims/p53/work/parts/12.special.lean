/-! OWN ROWS: special ones -/
theorem ao_5 : ∀ G : Gx, g_ok G → ∀ U : State, G.s.WarmedH U.vm → va_AO "MailSessions$Box" U := fun _ hG _ hW => va_AO.moved hW.alike (va_AO.of (hG.2.1 (.arrayOver (.object "MailSessions$Box")) (List.mem_of_getElem? (i := 87) (by decide +kernel))))
theorem ao_6 : ∀ G : Gx, g_ok G → ∀ U : State, G.s.WarmedH U.vm → va_AO "MailSessions$Session" U := fun _ hG _ hW => va_AO.moved hW.alike (va_AO.of (hG.2.1 (.arrayOver (.object "MailSessions$Session")) (List.mem_of_getElem? (i := 132) (by decide +kernel))))
theorem ao_7 : ∀ G : Gx, g_ok G → ∀ U : State, G.s.WarmedH U.vm → va_AO "MailSessions$State" U := fun _ hG _ hW => va_AO.moved hW.alike (va_AO.of (hG.2.1 (.arrayOver (.object "MailSessions$State")) (List.mem_of_getElem? (i := 199) (by decide +kernel))))
theorem ao_8 : ∀ G : Gx, g_ok G → ∀ U : State, G.s.WarmedH U.vm → va_AO "MailSessions$Keyword" U := fun _ hG _ hW => va_AO.moved hW.alike (va_AO.of (hG.2.1 (.arrayOver (.object "MailSessions$Keyword")) (List.mem_of_getElem? (i := 251) (by decide +kernel))))
section FRS
variable {G : Gx} {Y : MI} {p : Program} {s : State} {m : MethodId} {args : Array Value} {meth : Method} {c : Code}
theorem frm.Z (F : frm G Y p s m args meth c) {C n d : String} {v : Value} (h : va_Z C n d v G.A G.s G.s.heap) : va_Z C n d v G.A s s.heap := (va_Z.moved F.warm.alike h).kept F.kept
theorem frm.Zq (F : frm G Y p s m args meth c) {C n d : String} (h : va_Zq C n d G.A G.s G.s.heap) : va_Zq C n d G.A s s.heap := (va_Zq.moved F.warm.alike h).kept F.kept
theorem frm.OF (F : frm G Y p s m args meth c) {o n d : String} {v : Value} {t : Nat} (h : va_OF o n d v t G.A G.s G.s.heap) : va_OF o n d v t G.A s s.heap := (va_OF.moved F.warm.alike h).kept F.kept
theorem frm.O (F : frm G Y p s m args meth c) {o : String} {t : Nat} (h : va_O o t G.A G.s G.s.heap) : va_O o t G.A s s.heap := (va_O.moved F.warm.alike h).kept F.kept
theorem frm.Tb (F : frm G Y p s m args meth c) {ty : FieldType} {t N : Nat} {f : Nat → Value} (h : va_T ty t N f G.A G.s G.s.heap) : va_T ty t N f G.A s s.heap := (va_T.moved F.warm.alike h).kept F.kept
end FRS
theorem Gx.r_lo {G : Gx} {r : Nat} (h : r < 100) : G.r r = G.ad r := by
  show cr_r _ _ r = _
  rw [cr_r, if_pos h]
theorem g_x {G : Gx} (hG : g_ok G) : g_ext G := hG.2.2.2.2.2.2.2
theorem inR_mk {i : Int32} {n : Nat} (h : vp_in i n) : inR i n = true := by
  unfold vp_in at h
  unfold inR
  simp only [not_or, Int32.not_lt] at h
  simp [h.1, Nat.not_le.mp h.2]
section SP
variable {τ : Type} {Y Y2 : MI} {pc q q2 : Nat} {L L' : List (Nat × Value)} {st : List Value} {M : Mem} {k n : Nat} {comp c1 c2 : Option τ} {emb : τ → Out}
theorem V_gets {C nm ds : String} {v : Value} {idx : Nat} (hZ : ∀ G : Gx, g_ok G → va_Z C nm ds (cr_v G.r v) G.A G.s G.s.heap) (hl : flk Y.own idx (C, nm, ds, true)) (hd : decode Y.cc pc = .ok (.getstatic idx, 3)) (hp : pc + 3 = q) (h : V Y q L (v :: st) M k n comp emb) : V Y pc L st M k n comp emb := by
  subst hp
  intro a ha G hG p e s m args below meth c H locs ls F hW hS hl'
  have h2 := h a ha G hG p e s m args below meth c H locs ls F hW hS hl'
  rcases hl with w | ⟨host, w⟩
  · exact va_gets F.1 F.2.1 (F.Z (hZ G hG)) hS F.own (F.U w) (fun _ z => z) hd h2
  · exact va_getsN F.1 F.2.1 (F.Z (hZ G hG)) hS F.own (F.T hG w rfl) (fun _ z => z) hd h2
/-- the constants -/
theorem V_kw {i idx : Nat} (hi : i < 15) (hl : flk Y.own idx (kwT, kwName i, kwD, true)) (hd : decode Y.cc pc = .ok (.getstatic idx, 3)) (hp : pc + 3 = q) (h : V Y q L (.ref i :: st) M k n comp emb) : V Y pc L st M k n comp emb :=
  V_gets (v := .ref i) (fun G hG => by show va_Z _ _ _ (.ref (G.r i)) _ _ _; rw [Gx.r_lo (by omega)]; exact hG.2.2.2.2.2.2.1 i hi) hl hd hp h
theorem V_kwS {idx : Nat} (hl : flk Y.own idx (kwT, "KEYWORDS", "[LMailSessions$Keyword;", true)) (hd : decode Y.cc pc = .ok (.getstatic idx, 3)) (hp : pc + 3 = q) (h : V Y q L (.ref 40 :: st) M k n comp emb) : V Y pc L st M k n comp emb :=
  V_gets (v := .ref 40) (fun G hG => by show va_Z _ _ _ (.ref (G.r 40)) _ _ _; rw [Gx.r_lo (by omega)]; exact (g_x hG).2.1.1) hl hd hp h
def kFlag (i : Nat) : Option Int32 := if i < 15 then some (kwFlag i) else none
theorem V_kFlag {r idx : Nat} {host : String} {cont : Int32 → Option τ} (hl : Cond.fieldLinkNest Y.own idx kwT "flag" "I" host ∈ lw_tbl) (hd : decode Y.cc pc = .ok (.getfield idx, 3)) (hp : pc + 3 = q) (h : ∀ x, V Y q L (.int x :: st) M k n (cont x) emb) : V Y pc L (.ref r :: st) M k n ((kFlag r).bind cont) emb := by
  subst hp
  refine V_bind fun x hx => ?_
  unfold kFlag at hx
  split at hx
  · rename_i hr
    cases hx
    intro a ha G hG p e s m args below meth c H locs ls F hW hS hl'
    obtain ⟨cf, k9, i9, f9, cell, h1, h2, h3, h4, h5, h6⟩ := (F.OF ((g_x hG).1 r hr).2.1).kept hS.2.1
    exact va_Wgetf F.1 F.2.1 F.own (F.T hG hl rfl) h1 h2 (a := G.r r) (cell := cell) (by rw [Gx.r_lo (by omega)]; exact h3) h4 h5 rfl rfl hd (h (kwFlag r) a ha G hG p e s m args below meth c H locs ls F hW hS hl')
  · cases hx
/-- a field of a constant that nobody writes -/
theorem V_getO {r idx : Nat} {o nm ds : String} {v : Value} (hr : r < 100) (hO : ∀ G : Gx, g_ok G → va_OF o nm ds (cr_v G.r v) (G.ad r) G.A G.s G.s.heap) (hl : Cond.fieldLink Y.own idx o nm ds ∈ cr_U) (hd : decode Y.cc pc = .ok (.getfield idx, 3)) (hp : pc + 3 = q) (h : V Y q L (v :: st) M k n comp emb) : V Y pc L (.ref r :: st) M k n comp emb := by
  subst hp
  intro a ha G hG p e s m args below meth c H locs ls F hW hS hl'
  show W _ _ _ _ _ _ _ _ _ _ _ _ _ _ _ (F0 m pc ls (.ref (G.r r) :: _))
  rw [Gx.r_lo hr]
  exact vk_getf F.1 F.2.1 (F.OF (hO G hG)) hS F.own (F.U hl) (fun _ z => z) hd (h a ha G hG p e s m args below meth c H locs ls F hW hS hl')
def kWord (i : Nat) : Option Nat := if i < 15 then some (20 + i) else none
theorem V_kWord {r idx : Nat} {cont : Nat → Option τ} (hl : Cond.fieldLink Y.own idx kwT "word" "Ljava/lang/String;" ∈ cr_U) (hd : decode Y.cc pc = .ok (.getfield idx, 3)) (hp : pc + 3 = q) (h : ∀ x, V Y q L (.ref x :: st) M k n (cont x) emb) : V Y pc L (.ref r :: st) M k n ((kWord r).bind cont) emb := by
  refine V_bind fun x hx => ?_
  unfold kWord at hx
  split at hx
  · rename_i hr
    cases hx
    exact V_getO (by omega) (fun G hG => by show va_OF _ _ _ (.ref (G.r (20 + r))) _ _ _ _; rw [Gx.r_lo (by omega)]; exact ((g_x hG).1 r hr).2.2) hl hd hp (h _)
  · cases hx
/-- the table of constants -/
def kTab (r : Nat) (i : Int32) : Option Nat := if r = 40 ∧ inR i 15 = true then some i.toNatClampNeg else none
theorem V_kTab {r : Nat} {i : Int32} {cont : Nat → Option τ} (hd : decode Y.cc pc = .ok (.aaload, 1)) (hp : pc + 1 = q) (h : ∀ x, V Y q L (.ref x :: st) M k n (cont x) emb) : V Y pc L (.int i :: .ref r :: st) M k n ((kTab r i).bind cont) emb := by
  subst hp
  refine V_bind fun x hx => ?_
  unfold kTab at hx
  split at hx
  · rename_i hr
    obtain ⟨rfl, hr⟩ := hr
    cases hx
    have hin := inR_of hr
    have hlt : i.toNatClampNeg < 15 := Nat.not_le.mp fun z => hin (Or.inr z)
    intro a ha G hG p e s m args below meth c H locs ls F hW hS hl'
    show W _ _ _ _ _ _ _ _ _ _ _ _ _ _ _ (F0 m pc ls (.int i :: .ref (G.r 40) :: _))
    rw [Gx.r_lo (by omega)]
    refine vb_tq F.1 F.2.1 (F.Tb (g_x hG).2.1.2) hS hin (v := .ref (G.r i.toNatClampNeg)) (by rw [Gx.r_lo (by omega)]) hd ?_
    exact h _ a ha G hG p e s m args below meth c H locs ls F hW hS hl'
  · cases hx
theorem V_kTabL (hd : decode Y.cc pc = .ok (.arraylength, 1)) (hp : pc + 1 = q) (h : V Y q L (.int 15 :: st) M k n comp emb) : V Y pc L (.ref 40 :: st) M k n comp emb := by
  subst hp
  intro a ha G hG p e s m args below meth c H locs ls F hW hS hl'
  show W _ _ _ _ _ _ _ _ _ _ _ _ _ _ _ (F0 m pc ls (.ref (G.r 40) :: _))
  rw [Gx.r_lo (by omega)]
  exact va_tlen F.1 F.2.1 (F.Tb (g_x hG).2.1.2) hS (v := 15) rfl hd (h a ha G hG p e s m args below meth c H locs ls F hW hS hl')
/-- the script -/
def sC (M : Mem) (r : Nat) (i : Int32) : Option Int32 := if r = 42 ∧ inR i M.2.2.1 = true then some (M.2.2.2 i.toNatClampNeg) else none
theorem V_sC {r : Nat} {i : Int32} {cont : Int32 → Option τ} (hd : decode Y.cc pc = .ok (.iaload, 1)) (hp : pc + 1 = q) (h : ∀ x, V Y q L (.int x :: st) M k n (cont x) emb) : V Y pc L (.int i :: .ref r :: st) M k n ((sC M r i).bind cont) emb := by
  subst hp
  refine V_bind fun x hx => ?_
  unfold sC at hx
  split at hx
  · rename_i hr
    obtain ⟨rfl, hr⟩ := hr
    cases hx
    intro a ha G hG p e s m args below meth c H locs ls F hW hS hl'
    show W _ _ _ _ _ _ _ _ _ _ _ _ _ _ _ (F0 m pc ls (.int i :: .ref (G.r 42) :: _))
    rw [Gx.r_lo (by omega)]
    exact va_ti F.1 F.2.1 (F.Tb hW.1.2.2) hS (inR_of hr) rfl hd (h _ a ha G hG p e s m args below meth c H locs ls F hW hS hl')
  · cases hx
def sL (M : Mem) (r : Nat) : Option Int32 := if r = 42 then some (Int32.ofNat M.2.2.1) else none
theorem V_sL {r : Nat} {cont : Int32 → Option τ} (hd : decode Y.cc pc = .ok (.arraylength, 1)) (hp : pc + 1 = q) (h : ∀ x, V Y q L (.int x :: st) M k n (cont x) emb) : V Y pc L (.ref r :: st) M k n ((sL M r).bind cont) emb := by
  subst hp
  refine V_bind fun x hx => ?_
  unfold sL at hx
  split at hx
  case isFalse => cases hx
  rename_i hr
  subst hr
  cases hx
  intro a ha G hG p e s m args below meth c H locs ls F hW hS hl'
  show W _ _ _ _ _ _ _ _ _ _ _ _ _ _ _ (F0 m pc ls (.ref (G.r 42) :: _))
  rw [Gx.r_lo (by omega)]
  exact va_tlen F.1 F.2.1 (F.Tb hW.1.2.2) hS rfl hd (h _ a ha G hG p e s m args below meth c H locs ls F hW hS hl')
/-- comparing constants -/
def kq (x : Option Nat) : Bool := match x with
  | none => true
  | some i => decide (i < 15)
def acm {τ : Type} (x y : Option Nat) (A B : Option τ) : Option τ := bif kq x && kq y then (if x = y then A else B) else none
theorem acm_inj {G : Gx} (hG : g_ok G) {x y : Option Nat} (h : (kq x && kq y) = true) : x.map G.r = y.map G.r ↔ x = y := by
  rw [Bool.and_eq_true] at h
  cases x with
  | none => cases y <;> simp
  | some i => cases y with
    | none => simp
    | some j =>
      have hi : i < 15 := of_decide_eq_true h.1
      have hj : j < 15 := of_decide_eq_true h.2
      simp only [Option.map_some, Option.some.injEq]
      rw [Gx.r_lo (by omega), Gx.r_lo (by omega)]
      exact ⟨fun e => hG.2.2.2.2.2.1 i j hi hj e, fun e => by rw [e]⟩
theorem V_acmp_eq {x y : Option Nat} {off : Int} (hd : decode Y.cc pc = .ok (.if_acmp .eq off, 3)) (hp : (pc : Int) + off = (q : Int)) (hp2 : pc + 3 = q2) (ht : V Y q L st M k n c1 emb) (hf : V Y q2 L st M k n c2 emb) : V Y pc L (va_rf y :: va_rf x :: st) M k n (acm x y c1 c2) emb := by
  subst hp2
  intro a ha G hG p e s m args below meth c H locs ls F hW hS hl'
  unfold acm at ha
  cases hk : (kq x && kq y) with
  | false => rw [hk] at ha; cases ha
  | true =>
    rw [hk] at ha
    simp only [cond_true] at ha
    show W _ _ _ _ _ _ _ _ _ _ _ _ _ _ _ (F0 m pc ls (cr_v G.r (va_rf y) :: cr_v G.r (va_rf x) :: _))
    rw [cr_rf, cr_rf]
    have hi := acm_inj hG hk
    refine lv_acmp_eq F.1 F.2.1 hd hp (fun z => ?_) (fun z => ?_)
    · rw [if_pos (hi.mp z)] at ha
      exact ht a ha G hG p e s m args below meth c H locs ls F hW hS hl'
    · rw [if_neg (fun w => z (hi.mpr w))] at ha
      exact hf a ha G hG p e s m args below meth c H locs ls F hW hS hl'
theorem V_acmp_ne {x y : Option Nat} {off : Int} (hd : decode Y.cc pc = .ok (.if_acmp .ne off, 3)) (hp : (pc : Int) + off = (q : Int)) (hp2 : pc + 3 = q2) (ht : V Y q L st M k n c2 emb) (hf : V Y q2 L st M k n c1 emb) : V Y pc L (va_rf y :: va_rf x :: st) M k n (acm x y c1 c2) emb := by
  subst hp2
  intro a ha G hG p e s m args below meth c H locs ls F hW hS hl'
  unfold acm at ha
  cases hk : (kq x && kq y) with
  | false => rw [hk] at ha; cases ha
  | true =>
    rw [hk] at ha
    simp only [cond_true] at ha
    show W _ _ _ _ _ _ _ _ _ _ _ _ _ _ _ (F0 m pc ls (cr_v G.r (va_rf y) :: cr_v G.r (va_rf x) :: _))
    rw [cr_rf, cr_rf]
    have hi := acm_inj hG hk
    refine lv_acmp_ne F.1 F.2.1 hd hp (fun z => ?_) (fun z => ?_)
    · rw [if_neg (fun w => z (hi.mpr w))] at ha
      exact ht a ha G hG p e s m args below meth c H locs ls F hW hS hl'
    · rw [if_pos (hi.mp z)] at ha
      exact hf a ha G hG p e s m args below meth c H locs ls F hW hS hl'
/-- storing constants -/
def kwn {τ : Type} (x : Option Nat) (c : Option τ) : Option τ := bif kq x then c else none
theorem V_kastore {r : Nat} {x : Option Nat} {i : Int32} {cont : Mem → Option τ} (hd : decode Y.cc pc = .ok (.aastore, 1)) (hp : pc + 1 = q) (h : ∀ M1, V Y q L st M1 k n (cont M1) emb) : V Y pc L (va_rf x :: .int i :: .ref r :: st) M k n (kwn x ((sQ M 8 r i x).bind cont)) emb := by
  subst hp
  cases hk : kq x with
  | false => unfold kwn; rw [hk]; exact V_none
  | true =>
  unfold kwn
  rw [hk]
  simp only [cond_true]
  refine V_bind fun M1 hx => ?_
  unfold sQ at hx
  split at hx
  · rename_i t' nn f he
    split at hx
    · rename_i hcc
      obtain ⟨rfl, hi⟩ := hcc
      cases hx
      intro a ha G hG p e s m args below meth c H locs ls F hW hS hl'
      obtain ⟨cA, g1, g2⟩ := hW.arr he
      have g3 := g2 0 _ rfl
      have hK := F.Kt hG g1
      have hin := inR_of hi
      show W _ _ _ _ _ _ _ _ _ _ _ _ _ _ _ (F0 m pc ls (cr_v G.r (va_rf x) :: .int i :: .ref (G.r r) :: _))
      rw [cr_rf]
      have fin : ∀ H1 : Heap, H1[G.r r]? = some (vp_cell cA (nn, .inr (.inr (.inr (.inr (va_up (fun j => (f j).map G.r) i.toNatClampNeg (x.map G.r))))))) → H1.size = H.size → (∀ q, q ≠ G.r r → H1[q]? = H[q]?) → ∀ kk, W p G.l e Y.rm s m args below meth c H1 (locs ++ [⟨G.r r, kk⟩]) k n (vx_MQ below (QcV G (emb a)) (XcV G (emb a)) args s Y.rm.cells Y.rm.slots G.A) (F0 m (pc + 1) ls (st.map (cr_v G.r))) := by
        intro H1 e1 z oq kk
        refine h _ a ha G hG p e s m args below meth c H1 _ ls F (hW.set he ⟨cA, g1, ?_⟩ z oq) (hS.put z oq (Gx.r_A (hW.2.2 r _ he).1)) hl'
        show H1[G.r r]? = some (vp_cell _ _)
        rw [e1]
        show some (vp_cell cA _) = some (vp_cell cA (nn, .inr (.inr (.inr (.inr (fun j => (va_up f i.toNatClampNeg x j).map G.r))))))
        have e9 : va_up (fun j => (f j).map G.r) i.toNatClampNeg (x.map G.r) = fun j => (va_up f i.toNatClampNeg x j).map G.r := by
          funext j
          by_cases hj : j = i.toNatClampNeg
          · simp [va_up, hj]
          · simp [va_up, hj]
        rw [e9]
      cases x with
      | none =>
        refine va_WaastN (C := kwT) F.1 F.2.1 g3 ((hK.2 0 _ rfl).1 nn (fun j => va_rf ((f j).map G.r))) (fun h => by cases h) (by show ¬ (i < 0 ∨ (arrV _ _ _).slots.size ≤ _); rw [arrV_size]; exact hin) rfl rfl hd fun H1 e1 z oq => fin H1 ?_ z oq _
        rw [e1]
        show some ((vp_cell cA (nn, .inr (.inr (.inr (.inr (fun j => (f j).map G.r)))))).setSlot _ _) = _
        rw [vp_cell_q, vp_cell_q, arrV_store]
        congr 2
        funext j
        by_cases hj : j = i.toNatClampNeg
        · subst hj
          simp [updV, va_up, va_rf]
        · simp [updV, va_up, hj]
      | some v =>
        have hv : v < 15 := of_decide_eq_true hk
        obtain ⟨cellV, v1, v2, v3, v4⟩ := (F.O ((g_x hG).1 v hv).1).kept hS.2.1
        have hRA := (hK.2 0 _ rfl).2
        dsimp only at hRA
        obtain ⟨kA, comp', k1, k2, k3, -⟩ := hRA
        have hcomp : comp' = cellV.cls := Option.some.inj (k3.symm.trans v3)
        subst hcomp
        obtain ⟨kC, hkC, -⟩ := Vm.findClass_spec v3
        refine W.aast F.1 F.2.1 g3 (fun q h => by cases h) (fun h => by cases h) k1 k2 rfl hkC ⟨fun z => hin (Or.inl z), by show _ < (arrV _ _ _).slots.size; rw [arrV_size]; exact Nat.not_le.mp fun z => hin (Or.inr z)⟩ (by rw [Gx.r_lo (by omega)]; exact v1) (fun q h => by rw [h] at v2; cases v2) hkC (va_asg _ _) rfl rfl hd fun H1 e1 z oq => fin H1 ?_ z oq _
        rw [e1]
        show some ((vp_cell cA (nn, .inr (.inr (.inr (.inr (fun j => (f j).map G.r)))))).setSlot _ _) = _
        rw [vp_cell_q, vp_cell_q, arrV_store]
        congr 2
        funext j
        by_cases hj : j = i.toNatClampNeg
        · subst hj
          simp [updV, va_up, va_rf]
        · simp [updV, va_up, hj]
    · cases hx
  · cases hx
/-- switches -/
theorem V_tsIn {x c : Int32} {dflt lo hi off : Int} {offs : Array Int} {len : Nat} (hx : x = c) (hd : decode Y.cc pc = .ok (.tableswitch dflt lo hi offs, len)) (h1 : ¬ c.toInt < lo) (h2 : ¬ hi < c.toInt) (ho : offs[(c.toInt - lo).toNat]? = some off) (hp : (pc : Int) + off = (q : Int)) (h : V Y q L st M k n comp emb) : V Y pc L (.int x :: st) M k n comp emb := by
  subst hx
  exact fun a ha G hG p e s m args below meth c H locs ls F hW hS hl => lv_tableIn F.1 F.2.1 hd h1 h2 ho hp (h a ha G hG p e s m args below meth c H locs ls F hW hS hl)
theorem V_tsOut {x : Int32} {dflt lo hi : Int} {offs : Array Int} {len : Nat} (hx : x.toInt < lo ∨ hi < x.toInt) (hd : decode Y.cc pc = .ok (.tableswitch dflt lo hi offs, len)) (hp : (pc : Int) + dflt = (q : Int)) (h : V Y q L st M k n comp emb) : V Y pc L (.int x :: st) M k n comp emb :=
  fun a ha G hG p e s m args below meth c H locs ls F hW hS hl => lv_tableOut F.1 F.2.1 hd hx hp (h a ha G hG p e s m args below meth c H locs ls F hW hS hl)
/-- Math.min -/
def imin (x y : Int32) : Int32 := if y < x then y else x
theorem V_min {x y : Int32} {idx : Nat} (hl : Cond.methodLink Y.own idx Lib.Math.min.name ∈ cr_U) (hs : Cond.static Lib.Math.min.name ∈ cr_U) (hi : Cond.initialized "java/lang/Math" ∈ cr_U) (hc : Cond.code Lib.Math.min.name Lib.Math.min.code 2 (some .int) ∈ cr_U) (hd : decode Y.cc pc = .ok (.invokestatic idx, 3)) (hp : pc + 3 = q) (hrm : (1 ≤ Y.rm.frames ∧ (st.map fun v => v.category).sum + 13 ≤ Y.rm.locals) ∧ k ≤ Y.rm.cells ∧ n ≤ Y.rm.slots) (h : V Y q L (.int (imin x y) :: st) M k n comp emb) : V Y pc L (.int y :: .int x :: st) M k n comp emb := by
  subst hp
  intro a ha G hG p e s m args below meth c H locs ls F hW hS hl'
  have hcat : ((st.map (cr_v G.r)).map fun v => v.category).sum = (st.map fun v => v.category).sum := by
    rw [List.map_map]
    congr 1
    exact List.map_congr_left fun v _ => cr_cat _ _
  exact va_mmin F.1 F.2.1 (F.2.2.1.trans hl'.1.symm) F.own (F.U hl) (F.U hs) (F.U hi) (F.U hc) hrm.1.1 (by rw [hcat]; exact hrm.1.2) hrm.2.1 hrm.2.2 hd (h a ha G hG p e s m args below meth c H locs ls F hW hS hl')
/-- string constants -/
theorem V_ldcs {i idx : Nat} (hi : i < 14) (hx : lsIdx i = idx) (ho : Y.own = "MailSessionsLaw") (hd : decode Y.cc pc = .ok (.ldc idx, 2)) (hp : pc + 2 = q) (h : V Y q L (.ref (43 + i) :: st) M k n comp emb) : V Y pc L st M k n comp emb := by
  subst hp
  subst hx
  intro a ha G hG p e s m args below meth c H locs ls F hW hS hl'
  have h0 := ((g_x hG).2.2.2.1.1 i hi).1
  have h1 : vk_R Y.own (lsIdx i) (lsTx i) (G.ad (43 + i)) s := by rw [ho]; exact h0.warm F.warm
  have h2 := h a ha G hG p e s m args below meth c H locs ls F hW hS hl'
  have e1 : (Value.ref (43 + i) :: st).map (cr_v G.r) = .ref (G.ad (43 + i)) :: st.map (cr_v G.r) := by
    show Value.ref (G.r (43 + i)) :: _ = _
    rw [Gx.r_lo (by omega)]
  rw [e1] at h2
  intro T hT X
  obtain ⟨t, a1, b1⟩ := h2 T hT X
  exact ⟨t, X.ldcString F.1 F.own (text := lsTx i) (a := G.ad (43 + i)) h1.1 h1.2 (g := F0 m pc ls (st.map (cr_v G.r))) rfl (by rw [F.2.1]; exact hd) t a1, b1⟩
/-- a call on a constant object -/
theorem V_callO {σ : Type} {f : Option σ} {emb2 : σ → Out} {cont : σ → Option τ} {As stk : List Value} {b idx np : Nat} {C : String}
    (hK : K Y2 (.ref b :: As) M f emb2) (hob : ∀ G, g_ok G → va_O C (G.r b) G.A G.s G.s.heap) (hok : mOK Y2 np) (hin : Cond.instanceMethod Y2.y ∈ cr_U) (hsel : Cond.selects C Y2.y Y2.y ∈ cr_U) (hcls : Y2.y.cls = C) (hl : Cond.methodLink Y.own idx Y2.y ∈ cr_U) (hrm : rmOK Y Y2 k n)
    (hd : decode Y.cc pc = .ok (.invokevirtual idx, 3)) (hp : pc + 3 = q) (hn : As.length = np) (hstk : stk = As.reverse ++ .ref b :: st) (hcat : (st.map fun v => v.category).sum ≤ 8)
    (hret : ∀ x v M1, f = some x → emb2 x = (.inl v, M1) → V Y q L (v.toList ++ st) M1 (k + Y2.rm.cells) (n + Y2.rm.slots) (cont x) emb)
    (hthr : ∀ x E M1, f = some x → emb2 x = (.inr E, M1) → ∀ y, cont x = some y → Y.hh = [] ∧ emb y = (.inr E, M1)) : V Y pc L stk M k n (f.bind cont) emb := by
  subst hp
  refine V_run (Y2 := Y2) (av := .ref b :: As) (idx := idx) (free := fun _ => True) (fun x hx G hG p e s m args below meth c H locs ls F hW hS hl' => ?_) hret (fun x E M1 h1 h2 y h3 => ⟨(hthr x E M1 h1 h2 y h3).1, (hthr x E M1 h1 h2 y h3).2, hrm.2.1, hrm.2.2⟩)
  have hKx := hK x hx G hG
  have hmap : (Value.ref b :: As).map (cr_v G.r) = .ref (G.r b) :: As.map (cr_v G.r) := rfl
  rw [hmap] at hKx ⊢
  have hgood : ∀ w ∈ wsV Y.own idx C Y2.y Y2.ws, w ∈ cr_U := by
    intro w hw
    unfold wsV at hw
    rcases List.mem_append.mp hw with hw | hw
    · simp only [List.mem_cons, List.not_mem_nil, or_false] at hw
      rcases hw with rfl | rfl | rfl | rfl
      · exact hl
      · exact hin
      · exact hsel
      · rw [← hcls]; exact hok.2.2.1
    · exact ws_inU hok w hw
  obtain ⟨cell, v1, v2, v3, -⟩ := (F.O (hob G hG)).kept hS.2.1
  refine vx_runV (As := As.map (cr_v G.r)) (rest := st.map (cr_v G.r)) (n := np) (C := C) (cc := Y.cc) (nL := Y.nL) (own := Y.own) (Ts := Y.ws) ⟨F.1, F.2.1, F.2.2.1, F.own, F.ws⟩ hKx (cwV np F.ws (gin_of hgood) (ws_ofY hok.1) rfl rfl ⟨hcls, hok.2.2.2.2.1, hok.2.2.2.2.2.1, hok.2.2.2.2.2.2⟩ hrm.1)
    ⟨K_blind, ⟨cell, v1, v2, v3⟩, fun U hU hWm => ⟨rfl, State.WarmedH.trans F.warm hWm, by rw [hU]; exact hW⟩⟩ rfl (by rw [List.length_map]; exact hn) hl'.1 ?_ (lv_room ?_) hd hrm.2
  · show stk.map (cr_v G.r) = _
    rw [hstk, List.map_append, List.map_reverse]
    rfl
  · rw [List.map_map]
    have : (fun v : Value => v.category) ∘ cr_v G.r = fun v => v.category := funext fun v => cr_cat _ _
    rw [this]
    exact hcat
/-- what comes back narrow -/
theorem W_nret {p : Program} {l : Launch} {e : Env} {R : Room} {s : State} {m : MethodId} {args : Array Value} {below : List Frame} {meth : Method} {c : Code} {H : Heap} {locs : List Loc} {cells slots : Nat} {cc : ByteArray} {Qc : Array Value → State → Outcome → State → Prop} {free : Addr → Prop} {v : Int32} {ty : FieldType} (hexec : p.tables.exec = Jvm.exec) (hb : c.code = cc) (hr : meth.sig.returnType = some ty) (hty : ty = .byte ∨ ty = .char) (hn : narrow ty (.int v) = .int v)
    (hq : ∀ t : State, t.heap = H → s.WarmedH t.vm → Qc args s (.returned (some (.int v))) t) (hf : ∀ q ∈ locs, free q.base)
    {pc : Nat} {ls : Array Slot} (hdg : decode cc pc = .ok (.ireturn, 1)) (hlocks : meth.locks = false) : W p l e R s m args below meth c H locs cells slots (MQ below Qc args s cells slots free) (F0 m pc ls [.int v]) := by
  intro T hT X
  obtain ⟨fs, hret, hrun, hended, hW, hframe⟩ := X.leave (v := some (.int v)) (fun h => by rw [hr] at h; cases h)
  have hmeth' : T.vm.method? m = some meth := X.method'
  refine ⟨T.setFrames fs, ?_, .returned (some (.int v)), hrun, hended, hq _ hT hW, locs, ⟨⟨_, rfl⟩, hW, hframe⟩, hf⟩
  rcases hty with rfl | rfl
  · jvm_step X.here [X.here.top, hexec, hb, hdg, hmeth', hr, hn]
    (try refine ⟨rfl, ?_⟩); (try refine ⟨rfl, ?_⟩)
    first | (intro acts; rw [hret _ acts rfl rfl rfl]) | rw [hret _ _ rfl rfl rfl]
    exact Steps.refl _
  · jvm_step X.here [X.here.top, hexec, hb, hdg, hmeth', hr, hn]
    (try refine ⟨rfl, ?_⟩); (try refine ⟨rfl, ?_⟩)
    first | (intro acts; rw [hret _ acts rfl rfl rfl]) | rw [hret _ _ rfl rfl rfl]
    exact Steps.refl _
theorem V_nret {x : τ} {v : Int32} {ty : FieldType} (hd : decode Y.cc pc = .ok (.ireturn, 1)) (hr : Y.ret = some ty) (hty : ty = .byte ∨ ty = .char) (hn : narrow ty (.int v) = .int v) (hx : emb x = (.inl (some (.int v)), M)) (hk : k ≤ Y.rm.cells ∧ n ≤ Y.rm.slots) : V Y pc L [.int v] M k n (some x) emb := by
  intro a ha G hG p e s m args below meth c H locs ls F hW hS hl
  cases ha
  exact W.widen hk.1 hk.2 (vx_ret (W_nret F.1 F.2.1 (F.ret.trans hr) hty hn (fun t ht hw => ⟨⟨_, by rw [hx], rfl⟩, by rw [hx, ht]; exact hW, hS.F ht⟩) hS.2.2 hd F.locks))
end SP
