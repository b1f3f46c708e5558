/-! PURE: a step of the law -/
def Blk : Type := (Nat → Nat → Nat → Nat → Nat → Int32 → Mem → Option (Bool × Mem)) → Nat → Nat → Nat → Nat → Nat → Int32 → Mem → Option (Bool × Mem)
def Step (b : Blk) : Prop := ∀ (rc : Nat → Nat → Nat → Nat → Nat → Int32 → Mem → Option (Bool × Mem)) (c k L : Nat) (xs : Nat → Int32) (M : Mem), c ≤ 600 → k + 7 ≤ L → L ≤ 3584 → M.2.2 = (L, xs) → Rel c M → ∃ M', b rc 42 100 716 728 729 (nI k) M = rc 42 100 716 728 729 (nI k + 7) M' ∧ M'.2.2 = (L, xs) ∧ Rel (c + 1) M'
theorem sc_at {M : Mem} {L : Nat} {xs : Nat → Int32} (h : M.2.2 = (L, xs)) {k i : Nat} (hi : k + i < L) (hL : L ≤ 3584) : sC M 42 (nI k + nI i) = some (xs (k + i)) := by
  have h1 : M.2.2.1 = L := by rw [h]
  have h2 : M.2.2.2 = xs := by rw [h]
  unfold sC
  rw [h1, h2, nI_add, if_pos ⟨rfl, inR_n hi (by omega)⟩, nI_clamp (by omega)]
theorem fin_L {t b : Int32} {M3 : Mem} {z : Option (Bool × Mem)} (e4 : t = 0 → aJ M3 1 728 0 = some (Int32.toInt64 b)) :
    (if t = 0 then ((aJ M3 1 728 0).bind fun x26 => if (lg_cmp x26 (Int32.toInt64 b)) = 0 then z else some (false, M3)) else z) = z := by
  by_cases e : t = 0
  · rw [if_pos e, e4 e]
    exact if_pos ((lg_cmp_eq _ _).mpr rfl)
  · rw [if_neg e]
section
variable {M : Mem} {R : Rs} {I O : List Int32} {S : St} {K : Nat → St} {B : Nat → Bool} {C : Nat} {H : Nat → St} {N : List Nt} {E : Er} {c : Nat}
theorem Both.go {fX : Option ((Int32 ⊕ String) × Mem)} {gX : Mem → Option (Int32 × Mem)} {hs : List (String × Int32)} (hrA : rA M 716 R) (hA : Aux M) (b : Both fX gX M R hs c E) :
    ∃ t M2 v M3, bH hs fX (fun x1 M2 => (sJ M2 1 728 0 (Int32.toInt64 x1)).bind fun M3 => some (0, M3)) = some (t, M2) ∧ M2.2.2 = M.2.2 ∧ gX M2 = some (v, M3) ∧ f_X12_thrown 716 M3 = some t ∧ (t = 0 → aJ M3 1 728 0 = some (Int32.toInt64 v)) ∧ M3.2.2 = M.2.2 ∧ Rel c M3 := by
  obtain ⟨t, v, I', O', S', K', B', C', H', N', hC, hR, hW⟩ := b
  obtain ⟨M2, b, M3, x⟩ := case_L hrA hA hC hR hW
  exact ⟨t, M2, b, M3, x⟩
theorem Both.old {fX : Option ((Int32 ⊕ String) × Mem)} {gX : Mem → Option (Int32 × Mem)} {hs : List (String × Int32)} (w : okW c I O S K B C H N) (x : ∃ t v, ClsO fX M hs t v (fun M1 => Cls M1 I O S K B C H N E) ∧ ∀ M2, RefO (gX (ov M2 716 R)) M2 t v (fun R' => Ref R' I O S K B C H N E)) : Both fX gX M R hs (c + 1) E := by
  obtain ⟨t, v, hC, hR⟩ := x
  exact ⟨t, v, I, O, S, K, B, C, H, N, hC, hR, w.up (Nat.le_succ c)⟩
theorem BothN.go {fX gX : Mem → Option (Int32 × Mem)} (hrA : rA M 716 R) (hA : Aux M) (b : BothN fX gX M R c) : ∃ v M2 M3, fX M = some (v, M2) ∧ gX M2 = some (v, M3) ∧ M3.2.2 = M.2.2 ∧ Rel c M3 := by
  obtain ⟨v, I', O', S', K', B', C', H', N', E', hC, hR, hW⟩ := b
  obtain ⟨M2, M3, x⟩ := case_N hrA hA hC hR hW
  exact ⟨v, M2, M3, x⟩
/-- a question that never throws and changes nothing but the reference's code -/
theorem ask_go {v : Int32} {gX : Mem → Option (Int32 × Mem)} (hrA : rA M 716 R) (hA : Aux M) (h : Cls M I O S K B C H N E) (hr : Ref R I O S K B C H N E) (w : okW c I O S K B C H N) (e : ∀ M2, gX (ov M2 716 R) = some (v, ov M2 716 (rsS R 0 0))) : ∃ M3, gX M = some (v, M3) ∧ M3.2.2 = M.2.2 ∧ Rel (c + 1) M3 := by
  have e3 := e M
  have r1 : ov M 716 R = M := hrA
  rw [r1] at e3
  exact ⟨ov M 716 (rsS R 0 0), e3, rfl, rsS R 0 0, I, O, S, K, B, C, H, N, E, rA.ov M 716 _, h.sm (ov_same M _), hr.t 0, w.up (Nat.le_succ c), hA.ov _⟩
end
