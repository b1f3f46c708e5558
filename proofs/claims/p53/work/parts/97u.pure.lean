/-! PURE: notice, outputByte, isCurrent, unseen, mean -/
def BothG {α : Type} (fX : Option ((α ⊕ String) × Mem)) (gX : Mem → Option (α × Mem)) (M : Mem) (R : Rs) (hs : List (String × Int32)) (c : Nat) (Q : α → Prop) : Prop :=
  ∃ t v I' O' S' K' B' C' H' N' E', (∃ o M1, fX = some (o, M1) ∧ off M M1 100 616 ∧ Cls M1 I' O' S' K' B' C' H' N' E' ∧ ((o = .inl v ∧ t = 0 ∧ Q v) ∨ ∃ Ex, o = .inr Ex ∧ hFind Ex hs = some t ∧ t ≠ 0)) ∧
    (∀ M2, ∃ b R', gX (ov M2 716 R) = some (b, ov M2 716 R') ∧ R'.1 0 = t ∧ (t = 0 → b = v) ∧ Ref R' I' O' S' K' B' C' H' N' E') ∧ okW c I' O' S' K' B' C' H' N'
def nn32 (x : UInt32) : Prop := x &&& 0x7fffffff ≤ 0x7f800000
def nn64 (x : UInt64) : Prop := x &&& 0x7fffffffffffffff ≤ 0x7ff0000000000000
/-- what floats give -/
def FLq : Prop := (∀ a b : Int32, 0 < b.toInt → b.toInt < 1000 → nn32 (FP.fdiv (FP.i2f a) (FP.i2f b))) ∧ (∀ a b : Int32, 0 < b.toInt → nn64 (FP.ddiv (FP.i2d a) (FP.i2d b))) ∧ (∀ x, nn32 x → nn64 (FP.f2d x)) ∧ ∀ x, nn64 x → FP.dcmp x x = some .eq
section
variable {M : Mem} {m : Nat} {R : Rs} {I O : List Int32} {S : St} {K : Nat → St} {B : Nat → Bool} {C : Nat} {H : Nat → St} {N : List Nt} {E : Er} {c : Nat}
theorem BothG.rd {α : Type} {fX : Option ((α ⊕ String) × Mem)} {gX : Mem → Option (α × Mem)} {hs : List (String × Int32)} {Q : α → Prop} {v : α} (h : Cls M I O S K B C H N E) (hr : Ref R I O S K B C H N E) (w : okW c I O S K B C H N)
    (e1 : fX = some (.inl v, M)) (q : Q v) (e4 : ∀ M2, gX (ov M2 716 R) = some (v, ov M2 716 (rsS R 0 0))) : BothG fX gX M R hs (c + 1) Q :=
  ⟨0, v, I, O, S, K, B, C, H, N, E, ⟨_, M, e1, off.rf _ _ _, h, .inl ⟨rfl, rfl, q⟩⟩, fun M2 => ⟨v, _, e4 M2, rsS_at _ _ _, fun _ => rfl, hr.t 0⟩, w.up (Nat.le_succ c)⟩
theorem BothG.ofJ {fX : Option ((Int64 ⊕ String) × Mem)} {gX : Mem → Option (Int64 × Mem)} {hs : List (String × Int32)} (h : BothJ fX gX M R hs c) : BothG fX gX M R hs c (fun _ => True) := by
  obtain ⟨t, v, I', O', S', K', B', C', H', N', E', ⟨o, M1, a1, a2, a3, a4⟩, b, w⟩ := h
  exact ⟨t, v, I', O', S', K', B', C', H', N', E', ⟨o, M1, a1, a2, a3, a4.imp (fun z => ⟨z.1, z.2, trivial⟩) id⟩, b, w⟩
theorem ng_map (f : Nt → Int32) {k : Nat} (hk : k < N.length) : (N.map f).getD k 0 = f (ng N k) := by
  simp [ng, List.getD_eq_getElem?_getD, List.getElem?_map, List.getElem?_eq_getElem hk]
end
