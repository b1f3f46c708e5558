section VM
variable {τ : Type} {Y : MI} {pc q : Nat} {L L' : List (Nat × Value)} {st : List Value} {M : Mem} {k n : Nat} {comp : Option τ} {emb : τ → Out}
theorem V_bind {σ : Type} {o : Option σ} {cont : σ → Option τ} (h : ∀ x, o = some x → V Y pc L st M k n (cont x) emb) : V Y pc L st M k n (o.bind cont) emb := by
  cases o with
  | none => exact fun a ha => nomatch ha
  | some x => exact h x rfl
theorem gV_of {M : Mem} {ci kf r : Nat} {v : Value} (h : gV M ci kf r = some v) : ∃ fs, M.1 r = some (.inr (ci, fs)) ∧ fs[kf]? = some v := by
  unfold gV at h
  split at h
  · rename_i c fs he
    split at h
    · rename_i hc
      subst hc
      exact ⟨fs, he, h⟩
    · cases h
  · cases h
theorem V_getV {idx ci kf r N : Nat} {C : String} {T : u_T} {v : Value} (hd : decode Y.cc pc = .ok (.getfield idx, 3)) (hp : pc + 3 = q) (hc : vwCl[ci]? = some (C, T, N)) (hk : kf < N) (hl : flk Y.own idx (T kf)) (hm : gV M ci kf r = some v) (h : V Y q L (v :: st) M k n comp emb) : V Y pc L (.ref r :: st) M k n comp emb := by
  subst hp
  obtain ⟨fs, h1, h2⟩ := gV_of hm
  intro a ha G hG p e s m args below meth c H locs ls F hW hS hl'
  have hv : (fs.map (cr_v G.r))[kf]? = some (cr_v G.r v) := by rw [List.getElem?_map, h2]; rfl
  rcases hl with w | ⟨host, w⟩
  · exact va_get F.1 F.2.1 F.ws (fun w hw => ws_of (cls_in hc w hw)) F.own (F.K hG) (hW.obj h1) 0 rfl hc kf hk (F.U w) (fun _ z => z) hv hd (h a ha G hG p e s m args below meth c H locs ls F hW hS hl')
  · exact va_getN F.1 F.2.1 F.ws (fun w hw => ws_of (cls_in hc w hw)) F.own (F.K hG) (hW.obj h1) 0 rfl hc kf hk (F.T hG w rfl) (fun _ z => z) hv hd (h a ha G hG p e s m args below meth c H locs ls F hW hS hl')
theorem V_getI {idx ci kf r N : Nat} {C : String} {T : u_T} {cont : Int32 → Option τ} (hd : decode Y.cc pc = .ok (.getfield idx, 3)) (hp : pc + 3 = q) (hc : vwCl[ci]? = some (C, T, N)) (hk : kf < N) (hl : flk Y.own idx (T kf)) (h : ∀ x, V Y q L (.int x :: st) M k n (cont x) emb) : V Y pc L (.ref r :: st) M k n ((gI M ci kf r).bind cont) emb := by
  refine V_bind fun x hx => ?_
  obtain ⟨v, h1, h2⟩ := Option.bind_eq_some_iff.mp hx
  cases v <;> simp [vI] at h2
  subst h2
  exact V_getV hd hp hc hk hl h1 (h _)
theorem V_getJ {idx ci kf r N : Nat} {C : String} {T : u_T} {cont : Int64 → Option τ} (hd : decode Y.cc pc = .ok (.getfield idx, 3)) (hp : pc + 3 = q) (hc : vwCl[ci]? = some (C, T, N)) (hk : kf < N) (hl : flk Y.own idx (T kf)) (h : ∀ x, V Y q L (.long x :: st) M k n (cont x) emb) : V Y pc L (.ref r :: st) M k n ((gJ M ci kf r).bind cont) emb := by
  refine V_bind fun x hx => ?_
  obtain ⟨v, h1, h2⟩ := Option.bind_eq_some_iff.mp hx
  cases v <;> simp [vJ] at h2
  subst h2
  exact V_getV hd hp hc hk hl h1 (h _)
theorem V_getR {idx ci kf r N : Nat} {C : String} {T : u_T} {cont : Nat → Option τ} (hd : decode Y.cc pc = .ok (.getfield idx, 3)) (hp : pc + 3 = q) (hc : vwCl[ci]? = some (C, T, N)) (hk : kf < N) (hl : flk Y.own idx (T kf)) (h : ∀ x, V Y q L (.ref x :: st) M k n (cont x) emb) : V Y pc L (.ref r :: st) M k n ((gR M ci kf r).bind cont) emb := by
  refine V_bind fun x hx => ?_
  obtain ⟨v, h1, h2⟩ := Option.bind_eq_some_iff.mp hx
  cases v <;> simp [vR] at h2
  subst h2
  exact V_getV hd hp hc hk hl h1 (h _)
theorem V_getQ {idx ci kf r N : Nat} {C : String} {T : u_T} {cont : Option Nat → Option τ} (hd : decode Y.cc pc = .ok (.getfield idx, 3)) (hp : pc + 3 = q) (hc : vwCl[ci]? = some (C, T, N)) (hk : kf < N) (hl : flk Y.own idx (T kf)) (h : ∀ x, V Y q L (va_rf x :: st) M k n (cont x) emb) : V Y pc L (.ref r :: st) M k n ((gQ M ci kf r).bind cont) emb := by
  refine V_bind fun x hx => ?_
  obtain ⟨v, h1, h2⟩ := Option.bind_eq_some_iff.mp hx
  cases v <;> simp [vQ] at h2
  · subst h2
    exact V_getV hd hp hc hk hl h1 (h _)
  · subst h2
    exact V_getV hd hp hc hk hl h1 (h _)
theorem V_getZ {idx ci kf r N : Nat} {C : String} {T : u_T} {cont : Bool → Option τ} (hd : decode Y.cc pc = .ok (.getfield idx, 3)) (hp : pc + 3 = q) (hc : vwCl[ci]? = some (C, T, N)) (hk : kf < N) (hl : flk Y.own idx (T kf)) (h : ∀ x, V Y q L (.int (b2i x) :: st) M k n (cont x) emb) : V Y pc L (.ref r :: st) M k n ((gZ M ci kf r).bind cont) emb := by
  refine V_bind fun x hx => ?_
  obtain ⟨v, h1, h2⟩ := Option.bind_eq_some_iff.mp hx
  cases v with
  | int i =>
    unfold vZ at h2
    dsimp only at h2
    split at h2
    · rename_i h0
      subst h0; cases h2
      exact V_getV hd hp hc hk hl h1 (h false)
    · split at h2
      · rename_i h0
        subst h0; cases h2
        exact V_getV hd hp hc hk hl h1 (h true)
      · cases h2
  | _ => simp [vZ] at h2
theorem pV_of {M M1 : Mem} {ci kf r : Nat} {v : Value} (h : pV M ci kf r v = some M1) : ∃ fs, M.1 r = some (.inr (ci, fs)) ∧ kf < fs.length ∧ M1 = mset M r (.inr (ci, fs.set kf v)) := by
  unfold pV at h
  split at h
  · rename_i c fs he
    split at h
    · rename_i hc
      obtain ⟨rfl, hl⟩ := hc
      cases h
      exact ⟨fs, he, hl, rfl⟩
    · cases h
  · cases h
theorem va_S.put1 {A : Nat → Prop} {H0 H H1 : Heap} {locs : List Loc} {a k : Nat} (h : va_S A H0 H locs) (z : H1.size = H.size) (oq : ∀ q : Nat, q ≠ a → H1[q]? = H[q]?) (ha : A a) : va_S A H0 H1 (locs ++ [⟨a, k⟩]) := h.put z oq ha
theorem cr_obj {G : Gx} {H1 : Heap} {a ci kf : Nat} {C : String} {T : u_T} {N : Nat} {fs : List Value} {v : Value} {cell : Cell} {iS : Nat → Nat} (hc : vwCl[ci]? = some (C, T, N)) (hiS : G.D.2 ci = iS) (hap : ∀ x y, x < N → y < N → x ≠ y → iS x ≠ iS y) (hk : kf < N) (hl : kf < fs.length)
    (q2 : cell.cls = G.D.1 ci) (q3 : cell.vm = .none) (q4 : ∀ k, k < N → cell.slots[iS k]? = some (vp_V (fs.map (cr_v G.r)) k)) (e1 : H1[a]? = some (cell.setSlot (iS kf) (cr_v G.r v))) : cellAt G H1 a (.inr (ci, fs.set kf v)) := by
  subst hiS
  show va_at G.D vwCl (a, .inr (ci, (fs.set kf v).map (cr_v G.r))) H1
  rw [List.map_set]
  exact ⟨_, hc, t_OB.to (V := updV (vp_V (fs.map (cr_v G.r))) kf (cr_v G.r v)) ⟨_, e1, q2, q3, t_set q4 hap hk _⟩ (fun j _ => vp_updV_set (by rw [List.length_map]; exact hl) _ j)⟩
theorem V_putV {idx ci kf r N : Nat} {C : String} {T : u_T} {v : Value} {M1 : Mem} {ty : FieldType} (hd : decode Y.cc pc = .ok (.putfield idx, 3)) (hp : pc + 3 = q) (hc : vwCl[ci]? = some (C, T, N)) (hk : kf < N) (hl : flk Y.own idx (T kf)) (hfin : (T kf).2.2.2 = false) (ht : parseFieldDescriptor (T kf).2.2.1 = some ty) (hn : ∀ f, narrow ty (cr_v f v) = cr_v f v) (hfit : ∀ f, fits ty (cr_v f v) = true)
    (hm : pV M ci kf r v = some M1) (h : V Y q L st M1 k n comp emb) : V Y pc L (v :: .ref r :: st) M k n comp emb := by
  subst hp
  obtain ⟨fs, h1, h2, rfl⟩ := pV_of hm
  intro a ha G hG p e s m args below meth c H locs ls F hW hS hl'
  obtain ⟨hnm, ty0, hty⟩ := cls_nm hc
  have hts := F.ws
  have hin : ∀ w ∈ u_ws C T N, w ∈ Y.ws := fun w hw => ws_of (cls_in hc w hw)
  have hK := F.K hG
  have hap := va_apart (own := Y.own) hts hin ty0 hty hnm hK hc
  obtain ⟨r', hr', cell, q1, q2, q3, q4⟩ := hW.obj h1 0 _ rfl
  have hr : r' = (C, T, N) := Option.some.inj (hr'.symm.trans hc)
  subst hr
  obtain ⟨hSl, hfc, kC, hkC, hkind⟩ := hK.1 ci _ hc
  obtain ⟨cf, kf', fi, f, hi, hsl⟩ := hSl kf hk
  have hlay := hts _ (hin _ (u_in_lay hk))
  unfold u_lay at hlay
  rw [if_neg (by rw [hfin]; decide)] at hlay
  have hst := (u_facts hfc hkC (u_lays hts hin hk) hi).1
  have h6 := u_store hfc hkC hkind hlay hi ht (hn G.r) (hfit G.r)
  have fin : ∀ H' : Heap, H'[G.r r]? = some (cell.setSlot f.slot (cr_v G.r v)) → H'.size = H.size → (∀ q, q ≠ G.r r → H'[q]? = H[q]?) → W p G.l e Y.rm s m args below meth c H' (locs ++ [⟨G.r r, f.slot⟩]) k n (vx_MQ below (QcV G (emb a)) (XcV G (emb a)) args s Y.rm.cells Y.rm.slots G.A) (F0 m (pc + 3) ls (st.map (cr_v G.r))) := by
    intro H' e1 e2 e3
    rw [hsl] at e1
    exact h a ha G hG p e s m args below meth c H' _ ls F (hW.set h1 (cr_obj hc rfl hap hk h2 q2 q3 q4 e1) e2 e3) (hS.put e2 e3 (Gx.r_A (hW.2.2 r _ h1).1)) hl'
  have hsz : f.slot < cell.slots.size := by rw [hsl]; exact k2_hasslot (q4 kf hk)
  rcases hl with w | ⟨host, w⟩
  · exact W.putK F.1 F.2.1 (f := f) ⟨F.own, F.U w, ⟨_, _, _, hi⟩, hst⟩ (by rw [q2]; exact h6) q1 q3 hsz rfl rfl hd fin
  · exact va_WputK F.1 F.2.1 (f := f) F.own (F.T hG w rfl) hi hst (by rw [q2]; exact h6) q1 q3 hsz rfl rfl hd fin
theorem V_putF {idx ci kf r N : Nat} {C : String} {T : u_T} {v : Value} {M1 : Mem} {ty : FieldType} (hd : decode Y.cc pc = .ok (.putfield idx, 3)) (hp : pc + 3 = q) (hc : vwCl[ci]? = some (C, T, N)) (hk : kf < N) (hl : Cond.fieldLink Y.own idx (T kf).1 (T kf).2.1 (T kf).2.2.1 ∈ cr_U) (hfin : (T kf).2.2.2 = true) (hini : Y.y.name = "<init>") (hdecl : (T kf).1 = Y.own) (ht : parseFieldDescriptor (T kf).2.2.1 = some ty) (hn : ∀ f, narrow ty (cr_v f v) = cr_v f v) (hfit : ∀ f, fits ty (cr_v f v) = true)
    (hm : pV M ci kf r v = some M1) (h : V Y q L st M1 k n comp emb) : V Y pc L (v :: .ref r :: st) M k n comp emb := by
  subst hp
  obtain ⟨fs, h1, h2, rfl⟩ := pV_of hm
  intro a ha G hG p e s m args below meth c H locs ls F hW hS hl'
  obtain ⟨hnm, ty0, hty⟩ := cls_nm hc
  have hts := F.ws
  have hin : ∀ w ∈ u_ws C T N, w ∈ Y.ws := fun w hw => ws_of (cls_in hc w hw)
  have hK := F.K hG
  have hap := va_apart (own := Y.own) hts hin ty0 hty hnm hK hc
  obtain ⟨r', hr', cell, q1, q2, q3, q4⟩ := hW.obj h1 0 _ rfl
  have hr : r' = (C, T, N) := Option.some.inj (hr'.symm.trans hc)
  subst hr
  obtain ⟨hSl, hfc, kC, hkC, hkind⟩ := hK.1 ci _ hc
  obtain ⟨cf, kf', fi, f, hi, hsl⟩ := hSl kf hk
  have hlay := hts _ (hin _ (u_in_lay hk))
  unfold u_lay at hlay
  rw [if_pos hfin] at hlay
  have hst := (u_facts hfc hkC (u_lays hts hin hk) hi).1
  have hcf : m.cls = cf := by
    obtain ⟨_, _, c', _, _, _, -, -, hf', -, -, -, hown2, -⟩ := Cond.laysFinal_spec hlay
    have e1 : c' = cf := by have := hi.symm.trans hf'; simp at this; exact this.1.symm
    rw [hdecl] at hown2
    rw [← e1]; exact Option.some.inj (F.own.symm.trans hown2)
  have h6 := u_fits hfc hkC hkind (Or.inr hlay) hi ht (hn G.r) (hfit G.r)
  refine W.putFinK F.1 F.2.1 F.own (F.U hl) hi hst hcf ((F.name (by rw [hini]; decide)).trans hini) (by rw [q2]; exact h6) q1 q3 (by rw [hsl]; exact k2_hasslot (q4 kf hk)) rfl rfl hd fun H' e1 e2 e3 => ?_
  rw [hsl] at e1
  exact h a ha G hG p e s m args below meth c H' _ ls F (hW.set h1 (cr_obj hc rfl hap hk h2 q2 q3 q4 e1) e2 e3) (hS.put e2 e3 (Gx.r_A (hW.2.2 r _ h1).1)) hl'
theorem nar_b2i (b : Bool) : narrow .boolean (.int (b2i b)) = .int (b2i b) := by cases b <;> rfl
theorem fit_b2i (b : Bool) : fits .boolean (.int (b2i b)) = true := by cases b <;> rfl
theorem V_putI {idx ci kf r N : Nat} {C : String} {T : u_T} {v : Int32} {cont : Mem → Option τ} (hd : decode Y.cc pc = .ok (.putfield idx, 3)) (hp : pc + 3 = q) (hc : vwCl[ci]? = some (C, T, N)) (hk : kf < N) (hl : flk Y.own idx (T kf)) (hfin : (T kf).2.2.2 = false) (ht : parseFieldDescriptor (T kf).2.2.1 = some .int) (h : ∀ M1, V Y q L st M1 k n (cont M1) emb) : V Y pc L (.int v :: .ref r :: st) M k n ((pV M ci kf r (.int v)).bind cont) emb :=
  V_bind fun M1 hm => V_putV hd hp hc hk hl hfin ht (fun _ => rfl) (fun _ => rfl) hm (h M1)
theorem V_putZ {idx ci kf r N : Nat} {C : String} {T : u_T} {v : Bool} {cont : Mem → Option τ} (hd : decode Y.cc pc = .ok (.putfield idx, 3)) (hp : pc + 3 = q) (hc : vwCl[ci]? = some (C, T, N)) (hk : kf < N) (hl : flk Y.own idx (T kf)) (hfin : (T kf).2.2.2 = false) (ht : parseFieldDescriptor (T kf).2.2.1 = some .boolean) (h : ∀ M1, V Y q L st M1 k n (cont M1) emb) : V Y pc L (.int (b2i v) :: .ref r :: st) M k n ((pV M ci kf r (.int (b2i v))).bind cont) emb :=
  V_bind fun M1 hm => V_putV hd hp hc hk hl hfin ht (fun _ => nar_b2i v) (fun _ => fit_b2i v) hm (h M1)
theorem V_putJ {idx ci kf r N : Nat} {C : String} {T : u_T} {v : Int64} {cont : Mem → Option τ} (hd : decode Y.cc pc = .ok (.putfield idx, 3)) (hp : pc + 3 = q) (hc : vwCl[ci]? = some (C, T, N)) (hk : kf < N) (hl : flk Y.own idx (T kf)) (hfin : (T kf).2.2.2 = false) (ht : parseFieldDescriptor (T kf).2.2.1 = some .long) (h : ∀ M1, V Y q L st M1 k n (cont M1) emb) : V Y pc L (.long v :: .ref r :: st) M k n ((pV M ci kf r (.long v)).bind cont) emb :=
  V_bind fun M1 hm => V_putV hd hp hc hk hl hfin ht (fun _ => rfl) (fun _ => rfl) hm (h M1)
theorem V_putR {idx ci kf r N : Nat} {C : String} {T : u_T} {v : Nat} {ty : FieldType} {cont : Mem → Option τ} (hd : decode Y.cc pc = .ok (.putfield idx, 3)) (hp : pc + 3 = q) (hc : vwCl[ci]? = some (C, T, N)) (hk : kf < N) (hl : flk Y.own idx (T kf)) (hfin : (T kf).2.2.2 = false) (ht : parseFieldDescriptor (T kf).2.2.1 = some ty) (hn : ∀ a : Nat, narrow ty (.ref a) = .ref a) (hfit : ∀ a : Nat, fits ty (.ref a) = true) (h : ∀ M1, V Y q L st M1 k n (cont M1) emb) : V Y pc L (.ref v :: .ref r :: st) M k n ((pV M ci kf r (.ref v)).bind cont) emb :=
  V_bind fun M1 hm => V_putV hd hp hc hk hl hfin ht (fun _ => hn _) (fun _ => hfit _) hm (h M1)
theorem V_putQ {idx ci kf r N : Nat} {C : String} {T : u_T} {v : Option Nat} {ty : FieldType} {cont : Mem → Option τ} (hd : decode Y.cc pc = .ok (.putfield idx, 3)) (hp : pc + 3 = q) (hc : vwCl[ci]? = some (C, T, N)) (hk : kf < N) (hl : flk Y.own idx (T kf)) (hfin : (T kf).2.2.2 = false) (ht : parseFieldDescriptor (T kf).2.2.1 = some ty) (hn : ∀ a : Option Nat, narrow ty (va_rf a) = va_rf a) (hfit : ∀ a : Option Nat, fits ty (va_rf a) = true) (h : ∀ M1, V Y q L st M1 k n (cont M1) emb) : V Y pc L (va_rf v :: .ref r :: st) M k n ((pV M ci kf r (va_rf v)).bind cont) emb := by
  refine V_bind fun M1 hm => ?_
  cases v with
  | none => exact V_putV hd hp hc hk hl hfin ht (fun _ => hn none) (fun _ => hfit none) hm (h M1)
  | some v => exact V_putV hd hp hc hk hl hfin ht (fun f => hn (some (f v))) (fun f => hfit (some (f v))) hm (h M1)
theorem V_putFR {idx ci kf r N : Nat} {C : String} {T : u_T} {v : Nat} {ty : FieldType} {cont : Mem → Option τ} (hd : decode Y.cc pc = .ok (.putfield idx, 3)) (hp : pc + 3 = q) (hc : vwCl[ci]? = some (C, T, N)) (hk : kf < N) (hl : Cond.fieldLink Y.own idx (T kf).1 (T kf).2.1 (T kf).2.2.1 ∈ cr_U) (hfin : (T kf).2.2.2 = true) (hini : Y.y.name = "<init>") (hdecl : (T kf).1 = Y.own) (ht : parseFieldDescriptor (T kf).2.2.1 = some ty) (hn : ∀ a : Nat, narrow ty (.ref a) = .ref a) (hfit : ∀ a : Nat, fits ty (.ref a) = true) (h : ∀ M1, V Y q L st M1 k n (cont M1) emb) : V Y pc L (.ref v :: .ref r :: st) M k n ((pV M ci kf r (.ref v)).bind cont) emb :=
  V_bind fun M1 hm => V_putF hd hp hc hk hl hfin hini hdecl ht (fun _ => hn _) (fun _ => hfit _) hm (h M1)
-- arrays
theorem aI_of {M : Mem} {t r : Nat} {i x : Int32} (h : aI M t r i = some x) : ∃ nn f, M.1 r = some (.inl (t, nn, .inl f)) ∧ vp_in i nn ∧ x = f i.toNatClampNeg := by
  unfold aI at h
  split at h
  · rename_i t' nn f he
    split at h
    · rename_i hc
      obtain ⟨rfl, hi⟩ := hc
      cases h
      exact ⟨nn, f, he, inR_of hi, rfl⟩
    · cases h
  · cases h
theorem V_iaload {r : Nat} {i : Int32} {cont : Int32 → Option τ} (hd : decode Y.cc pc = .ok (.iaload, 1)) (hp : pc + 1 = q) (h : ∀ x, V Y q L (.int x :: st) M k n (cont x) emb) : V Y pc L (.int i :: .ref r :: st) M k n ((aI M 0 r i).bind cont) emb := by
  subst hp
  refine V_bind fun x hx => ?_
  obtain ⟨nn, f, h1, h2, rfl⟩ := aI_of hx
  intro a ha G hG p e s m args below meth c H locs ls F hW hS hl'
  obtain ⟨cA, g1, g2⟩ := hW.arr h1
  exact va_iald F.1 F.2.1 (F.Kt hG g1) g2 0 0 rfl rfl h2 hd (h _ a ha G hG p e s m args below meth c H locs ls F hW hS hl')
theorem V_baload {r : Nat} {i : Int32} {cont : Int32 → Option τ} (hd : decode Y.cc pc = .ok (.baload, 1)) (hp : pc + 1 = q) (h : ∀ x, V Y q L (.int x :: st) M k n (cont x) emb) : V Y pc L (.int i :: .ref r :: st) M k n ((aI M 2 r i).bind cont) emb := by
  subst hp
  refine V_bind fun x hx => ?_
  obtain ⟨nn, f, h1, h2, rfl⟩ := aI_of hx
  intro a ha G hG p e s m args below meth c H locs ls F hW hS hl'
  obtain ⟨cA, g1, g2⟩ := hW.arr h1
  exact va_bald F.1 F.2.1 (F.Kt hG g1) g2 0 0 rfl rfl h2 hd (h _ a ha G hG p e s m args below meth c H locs ls F hW hS hl')
theorem vZ_of {x : Int32} {b : Bool} (h : vZ (.int x) = some b) : x = b2i b := by
  unfold vZ at h
  dsimp only at h
  split at h
  · rename_i h0; cases h; exact h0
  · split at h
    · rename_i h0; cases h; exact h0
    · cases h
theorem V_zaload {r : Nat} {i : Int32} {cont : Bool → Option τ} (hd : decode Y.cc pc = .ok (.baload, 1)) (hp : pc + 1 = q) (h : ∀ x, V Y q L (.int (b2i x) :: st) M k n (cont x) emb) : V Y pc L (.int i :: .ref r :: st) M k n ((aZ M 3 r i).bind cont) emb := by
  subst hp
  refine V_bind fun b hb => ?_
  obtain ⟨x, hx, hz⟩ := Option.bind_eq_some_iff.mp hb
  obtain ⟨nn, f, h1, h2, rfl⟩ := aI_of hx
  have hz := vZ_of hz
  intro a ha G hG p e s m args below meth c H locs ls F hW hS hl'
  obtain ⟨cA, g1, g2⟩ := hW.arr h1
  refine va_zald F.1 F.2.1 (F.Kt hG g1) g2 0 0 rfl rfl h2 hd ?_
  rw [hz]
  exact h _ a ha G hG p e s m args below meth c H locs ls F hW hS hl'
theorem V_laload {r : Nat} {i : Int32} {cont : Int64 → Option τ} (hd : decode Y.cc pc = .ok (.laload, 1)) (hp : pc + 1 = q) (h : ∀ x, V Y q L (.long x :: st) M k n (cont x) emb) : V Y pc L (.int i :: .ref r :: st) M k n ((aJ M 1 r i).bind cont) emb := by
  subst hp
  refine V_bind fun x hx => ?_
  unfold aJ at hx
  split at hx
  · rename_i t' nn f he
    split at hx
    · rename_i hc
      obtain ⟨rfl, hi⟩ := hc
      cases hx
      intro a ha G hG p e s m args below meth c H locs ls F hW hS hl'
      obtain ⟨cA, g1, g2⟩ := hW.arr he
      exact va_lald F.1 F.2.1 (F.Kt hG g1) g2 0 0 rfl rfl (inR_of hi) hd (h _ a ha G hG p e s m args below meth c H locs ls F hW hS hl')
    · cases hx
  · cases hx
theorem V_daload {r : Nat} {i : Int32} {cont : UInt64 → Option τ} (hd : decode Y.cc pc = .ok (.daload, 1)) (hp : pc + 1 = q) (h : ∀ x, V Y q L (.double x :: st) M k n (cont x) emb) : V Y pc L (.int i :: .ref r :: st) M k n ((aD M 4 r i).bind cont) emb := by
  subst hp
  refine V_bind fun x hx => ?_
  unfold aD at hx
  split at hx
  · rename_i t' nn f he
    split at hx
    · rename_i hc
      obtain ⟨rfl, hi⟩ := hc
      cases hx
      intro a ha G hG p e s m args below meth c H locs ls F hW hS hl'
      obtain ⟨cA, g1, g2⟩ := hW.arr he
      exact va_dald F.1 F.2.1 (F.Kt hG g1) g2 0 0 rfl rfl (inR_of hi) hd (h _ a ha G hG p e s m args below meth c H locs ls F hW hS hl')
    · cases hx
  · cases hx
theorem cr_rf (f : Nat → Nat) (x : Option Nat) : cr_v f (va_rf x) = va_rf (x.map f) := by cases x <;> rfl
theorem V_aaload {r t : Nat} {C : String} {i : Int32} {cont : Option Nat → Option τ} (hd : decode Y.cc pc = .ok (.aaload, 1)) (hp : pc + 1 = q) (ht : tyL t = .object C) (h : ∀ x, V Y q L (va_rf x :: st) M k n (cont x) emb) : V Y pc L (.int i :: .ref r :: st) M k n ((aQ M t r i).bind cont) emb := by
  subst hp
  refine V_bind fun x hx => ?_
  unfold aQ at hx
  split at hx
  · rename_i t' nn f he
    split at hx
    · rename_i hc
      obtain ⟨rfl, hi⟩ := hc
      cases hx
      intro a ha G hG p e s m args below meth c H locs ls F hW hS hl'
      obtain ⟨cA, g1, g2⟩ := hW.arr he
      rw [ht] at g1
      refine va_aldq F.1 F.2.1 (F.Kt hG g1) g2 0 0 rfl rfl (inR_of hi) hd ?_
      have h2 := h _ a ha G hG p e s m args below meth c H locs ls F hW hS hl'
      rw [List.map_cons, cr_rf] at h2
      exact h2
    · cases hx
  · cases hx
theorem V_arraylength {r : Nat} {cont : Int32 → Option τ} (hd : decode Y.cc pc = .ok (.arraylength, 1)) (hp : pc + 1 = q) (h : ∀ x, V Y q L (.int x :: st) M k n (cont x) emb) : V Y pc L (.ref r :: st) M k n ((aL M r).bind cont) emb := by
  subst hp
  refine V_bind fun x hx => ?_
  unfold aL at hx
  split at hx
  · rename_i t' nn d he
    cases hx
    intro a ha G hG p e s m args below meth c H locs ls F hW hS hl'
    obtain ⟨cA, g1, g2⟩ := hW.arr he
    refine va_alen F.1 F.2.1 (F.Kt hG g1) g2 0 0 rfl rfl ?_ hd (h _ a ha G hG p e s m args below meth c H locs ls F hW hS hl')
    rcases d with f | f | f | f | f <;> rfl
  · cases hx
end VM
