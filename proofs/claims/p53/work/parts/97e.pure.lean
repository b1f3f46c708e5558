/-! PURE: select, close, deliver, setLimit -/
section
variable {M : Mem} {m : Nat} {R : Rs} {I O : List Int32} {S : St} {K : Nat → St} {B : Nat → Bool} {C : Nat} {H : Nat → St} {N : List Nt} {E : Er} {c : Nat}
theorem tlI_M : ∀ (n k : Nat) (S : St) (ns : List Nt), stM (tlI n k (S, ns)).1 = stM S := by
  intro n
  induction n with
  | zero => intro k S ns; rfl
  | succ n ih =>
    intro k S ns
    have hs : tlI (n + 1) k (S, ns) = tlI n (k + 1) (if sxI (stS S k) = true then (setSx S k (tlK true S k).1, ns ++ (tlK true S k).2) else (S, ns)) := rfl
    rw [hs]
    by_cases e : sxI (stS S k) = true
    · rw [if_pos e, ih]; rfl
    · rw [if_neg e, ih]
def seS (s : Sx) (b : Nat) (rd : Bool) (ms : Ms) : Sx := (s.1, nI b, rd, sxI s, (nw 0 [] ms).1, (nw 0 [] ms).2, sxC s)
theorem okE_sel (h : okS c S) (hc : c ≤ 1000) {b : Nat} (hb : b < stN S) {s : Sx} (hs : okE S s) (rd : Bool) : okE S (seS s b rd (stB S b).2.2) := by
  have h3 := h.2.1.1
  obtain ⟨⟨n, n1, n2, n3⟩, hM, hl⟩ := h.2.2.1 b hb
  obtain ⟨k1, k2, k3⟩ := nw_ok (nx := (stB S b).2.1) (stB S b).2.2 0 [] okEs_0 (by rw [n1]; exact n_pos n2 (by omega)) (fun x hx => (hM.2 x hx).1)
  have hne : ¬ (nI b = -1) := by rw [nI_m1 (by omega)]; exact id
  refine ⟨⟨.inr ⟨b, hb, rfl⟩, fun z => absurd z hne⟩, hs.2.1, k3 (Nat.zero_le _), k1, fun b' hb' z => ?_⟩
  have z : nI b = nI b' := z
  obtain rfl : b = b' := (nI_eq (by omega) (by omega)).mp z
  exact k2
theorem okE_lv {s : Sx} (h3 : stN S ≤ 3) (hs : okE S s) : okE S (lvS s) := by
  refine ⟨⟨.inl rfl, fun _ => rfl⟩, hs.2.1, Nat.zero_le _, okEs_0, fun b hb z => ?_⟩
  have z : (-1 : Int32) = nI b := z
  exact absurd z.symm (by rw [nI_m1 (by omega)]; exact id)
theorem okS.idlOk (h : okS c S) : okS c (tlI (stM S) 0 (S, [])).1 ∧ (tlI (stM S) 0 (S, [])).2.length ≤ 244 ∧ ∀ x ∈ (tlI (stM S) 0 (S, [])).2, okNt x := by
  obtain ⟨h1, h2⟩ := tlI_ok (stM S) 0 S [] h (by omega) (fun x hx => nomatch hx)
  exact ⟨h1, h.idle244, h2⟩
end
