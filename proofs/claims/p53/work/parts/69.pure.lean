/-! PURE: the reference, telling, the rest -/
section
variable {M : Mem} {m : Nat} {R : Rs} {S : St}
theorem tlS_none (al : Bool) (me : Int32) {s : Sx} (h : sxE s = []) : tlS al me [] s = (s, []) := by
  have e2 : (sxC s).set 1 ((sxC s).getD 1 0 + nI 0) = sxC s := cset0 _ _
  have e3 : (sxC s).set 2 ((sxC s).getD 2 0 + nI 0) = sxC s := cset0 _ _
  cases al with
  | false =>
    show ((s.1, sxB s, sxR s, sxI s, (nw (sxH s) (cE [] (sxE s)) []).1, (nw (sxH s) (cE [] (sxE s)) []).2, wC ((sxC s).set 2 ((sxC s).getD 2 0 + nI ((sxE s).countP (chg [])))) (cE [] (sxE s)) (nw (sxH s) (cE [] (sxE s)) []).2), [] ++ (cN [] me 1 (sxE s) ++ wN me (cE [] (sxE s)) (nw (sxH s) (cE [] (sxE s)) []).2)) = _
    rw [h]
    show ((s.1, sxB s, sxR s, sxI s, sxH s, ([] : List En), (sxC s).set 2 ((sxC s).getD 2 0 + nI 0)), ([] : List Nt)) = _
    rw [e3, ← h]; rfl
  | true =>
    have : tlS true me [] s = ((s.1, sxB s, sxR s, sxI s, sxH s, ([] : List En), ((sxC s).set 1 ((sxC s).getD 1 0 + nI 0)).set 2 (((sxC s).set 1 ((sxC s).getD 1 0 + nI 0)).getD 2 0 + nI 0)), ([] : List Nt)) := by
      unfold tlS tlG
      rw [h]; rfl
    rw [this, e2, e3, ← h]; rfl
def okAll (S : St) : Prop := ∀ k, k < stM S → okV S (stS S k) ∧ (sxC (stS S k)).length = 5
theorem tlS_C (al : Bool) (me : Int32) (ms : Ms) (s : Sx) : (sxC (tlS al me ms s).1).length = (sxC s).length := by
  show (wC _ _ _).length = _
  unfold wC
  have : (tlG al me ms (sxE s) (sxC s)).2.1.length = (sxC s).length := by
    cases al with
    | false => rfl
    | true => exact List.length_set
  split
  · rw [List.length_set, this]
  · rw [List.length_set, List.length_set, this]
end
