/-! PURE: noop, startIdle, stopIdle -/
section
variable {M : Mem} {m : Nat} {R : Rs} {I O : List Int32} {S : St} {K : Nat → St} {B : Nat → Bool} {C : Nat} {H : Nat → St} {N : List Nt} {E : Er} {c : Nat}
/-- both sides of a command -/
def Both (fX : Option ((Int32 ⊕ String) × Mem)) (gX : Mem → Option (Int32 × Mem)) (M : Mem) (R : Rs) (hs : List (String × Int32)) (c : Nat) (E : Er) : Prop :=
  ∃ t v I' O' S' K' B' C' H' N', ClsO fX M hs t v (fun M1 => Cls M1 I' O' S' K' B' C' H' N' E) ∧ (∀ M2, RefO (gX (ov M2 716 R)) M2 t v (fun R' => Ref R' I' O' S' K' B' C' H' N' E)) ∧ okW c I' O' S' K' B' C' H' N'
theorem Both.no {fX : Option ((Int32 ⊕ String) × Mem)} {gX : Mem → Option (Int32 × Mem)} {hs : List (String × Int32)} {Ex : String} {t : Int32} (h : Cls M I O S K B C H N E) (hr : Ref R I O S K B C H N E) (w : okW c I O S K B C H N)
    (e1 : fX = some (.inr Ex, mskip M)) (e2 : hFind Ex hs = some t) (e3 : t ≠ 0) (e4 : ∀ M2, gX (ov M2 716 R) = some (0, ov M2 716 (rsS R 0 t))) : Both fX gX M R hs (c + 1) E :=
  ⟨t, 0, I, O, S, K, B, C, H, N, ClsO.th e1 e2 e3 h.skip, fun M2 => RefO.rd (e4 M2) (fun z => absurd z e3) (hr.t t), w.up (by omega)⟩
theorem Both.yes {fX : Option ((Int32 ⊕ String) × Mem)} {gX : Mem → Option (Int32 × Mem)} {hs : List (String × Int32)} {v : Int32} {M1 : Mem} {S0 S3 : St} {N3 : List Nt} (hr : Ref R I O S K B C H N E) (w : okW c I O S K B C H N)
    (e1 : fX = some (.inl v, M1)) (o1 : off M M1 100 616) (c1 : Cls M1 I O S3 K B (upC C) (push S0 H) N3 E) (g : agr S0 S) (s3 : okS (c + 1) S3) (n3 : N3.length ≤ 244 ∧ ∀ x ∈ N3, okNt x)
    (e4 : ∀ M2, ∃ R2, gX (ov M2 716 R) = some (v, ov M2 716 R2) ∧ kpC (rsS R 0 0) R2 ∧ rep (rowf R2) S3 ∧ hsR R2 (upC C) (push S H) ∧ ntR R2 N3) : Both fX gX M R hs (c + 1) E := by
  refine ⟨0, v, I, O, S3, K, B, upC C, push S0 H, N3, ⟨.inl v, M1, e1, o1, c1, .inl ⟨v, rfl, rfl, rfl⟩⟩, fun M2 => ?_, okW_fin w g s3 n3⟩
  obtain ⟨R2, f2, k2, q1, q2, q3⟩ := e4 M2
  obtain ⟨z1, z2⟩ := ref_fin hr k2 q1 q2 q3 g
  exact ⟨v, R2, f2, z1, fun _ => rfl, z2⟩
theorem cls_setI (h : Cls M I O S K B C H N E) {k : Nat} (hk : k < stM S) (v : Bool) : ∃ M', pV M 6 3 (sesR 105 k) (.int (b2i v)) = some M' ∧ Cls M' I O (setSx S k (idS (stS S k) v)) K B C H N E ∧ off M M' 100 616 := by
  have hk4 := h.s.m4
  obtain ⟨M2, e2, x2, o2⟩ := sA.pI (h.sx hk) v
  have s2 := h.s.setS (k := k) (by omega) (b := idS (stS S k) v) x2 (fun q _ _ q3 => o2.2 q (by omega))
  have o2' : off M M2 105 59 := o2.wide (by unfold sesR; omega) (by unfold sesR; omega)
  exact ⟨M2, e2, h.mS s2 o2', o2'.wide (by omega) (by omega)⟩
theorem setSx_idi (S : St) (k : Nat) (x y : Sx) : stS (setSx (setSx S k x) k y) k = y := va_up_s _ _ _
end
