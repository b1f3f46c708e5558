/-! PURE: the reference, what changes boxes and sessions -/
def lvS (s : Sx) : Sx := (s.1, -1, false, sxI s, 0, [], sxC s)
theorem setBx_setBx (S : St) (b : Nat) (x y : Bx) : setBx (setBx S b x) b y = setBx S b y := by
  unfold setBx
  refine Prod.ext rfl (Prod.ext rfl (Prod.ext rfl (Prod.ext (funext fun j => ?_) rfl)))
  show va_up (va_up (stB S) b x) b y j = va_up (stB S) b y j
  by_cases e : j = b
  · rw [e, va_up_s, va_up_s]
  · rw [va_up_n _ _ e, va_up_n _ _ e, va_up_n _ _ e]
theorem stB_set (S : St) (b : Nat) (x : Bx) : stB (setBx S b x) b = x := va_up_s _ _ _
theorem setBx_id (S : St) (b : Nat) : setBx S b (stB S b) = S := by
  unfold setBx
  refine Prod.ext rfl (Prod.ext rfl (Prod.ext rfl (Prod.ext (funext fun j => ?_) rfl)))
  show va_up (stB S) b (stB S b) j = stB S j
  by_cases e : j = b
  · rw [e, va_up_s]
  · rw [va_up_n _ _ e]
section
variable {M : Mem} {m : Nat} {R : Rs} {S : St}
/-- all its messages: as the class enters it, where the uids ascend from 1 on -/
def ascU : Int32 → Ms → Prop
  | _, [] => True
  | hi, x :: t => hi < mU x ∧ ascU (mU x) t
/-- a box's messages become others -/
def setMs (b : Bx) (ms : Ms) : Bx := (b.1, b.2.1, ms)
theorem mg_set {ms : Ms} {j k : Nat} (hj : j < ms.length) (f : Int32) : mg (setF ms j f) k = if k = j then mP (mg ms j) f else mg ms k := by
  simp only [mg, setF, List.getD_eq_getElem?_getD]
  by_cases e : k = j
  · subst e
    rw [if_pos rfl]
    simp [hj]
  · rw [if_neg e, List.getElem?_set_ne (Ne.symm e)]
/-! messages that go -/
end
