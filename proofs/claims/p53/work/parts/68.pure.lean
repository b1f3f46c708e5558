/-! PURE: the reference, telling -/
theorem stS_set (S : St) (s : Nat) (a : Sx) : stS (setSx S s a) s = a := va_up_s _ _ _
theorem setSx_id (S : St) (s : Nat) : setSx S s (stS S s) = S := by
  unfold setSx
  refine Prod.ext rfl (Prod.ext rfl (Prod.ext rfl (Prod.ext rfl (funext fun j => ?_))))
  show va_up (stS S) s (stS S s) j = stS S j
  by_cases e : j = s
  · rw [e, va_up_s]
  · rw [va_up_n _ _ e]
theorem cset0 (cn : List Int32) (j : Nat) : cn.set j (cn.getD j 0 + nI 0) = cn := by
  refine ext_getD (by simp) (fun i hi => ?_)
  rw [List.length_set] at hi
  by_cases e : i = j
  · subst e
    simp [List.getD_eq_getElem?_getD, hi, nI_0]
  · simp [List.getD_eq_getElem?_getD, List.getElem?_set_ne (Ne.symm e)]
theorem nI_1add (k : Nat) : (1 : Int32) + nI k = nI (1 + k) := nI_add 1 k
def setEs (s : Sx) (es : List En) (cn : List Int32) : Sx := (s.1, sxB s, sxR s, sxI s, sxH s, es, cn)
section
variable {M : Mem} {m : Nat}
variable {R : Rs} {S : St}
end
