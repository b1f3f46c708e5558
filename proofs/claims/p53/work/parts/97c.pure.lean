/-! PURE: noop, startIdle, stopIdle -/
section
variable {M : Mem} {m : Nat} {R : Rs} {I O : List Int32} {S : St} {K : Nat → St} {B : Nat → Bool} {C : Nat} {H : Nat → St} {N : List Nt} {E : Er} {c : Nat}
theorem cls_setI (h : Cls M I O S K B C H N E) {k : Nat} (hk : k < stM S) (v : Bool) : ∃ M', pV M 6 3 (sesR 105 k) (.int (b2i v)) = some M' ∧ Cls M' I O (setSx S k (idS (stS S k) v)) K B C H N E ∧ off M M' 100 616 := by
  have hk4 := h.s.m4
  obtain ⟨M2, e2, x2, o2⟩ := sA.pI (h.sx hk) v
  have s2 := h.s.setS (k := k) (by omega) (b := idS (stS S k) v) x2 (fun q _ _ q3 => o2.2 q (by omega))
  have o2' : off M M2 105 59 := o2.wide (by unfold sesR; omega) (by unfold sesR; omega)
  exact ⟨M2, e2, h.mS s2 o2', o2'.wide (by omega) (by omega)⟩
theorem setSx_idi (S : St) (k : Nat) (x y : Sx) : stS (setSx (setSx S k x) k y) k = y := va_up_s _ _ _
end
