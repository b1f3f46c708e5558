/-! PURE, p53: the law's digest of all that can be read -/
section
variable {I O : List Int32} {S : St} {K : Nat → St} {B : Nat → Bool} {C : Nat} {H : Nat → St} {N : List Nt} {E : Er} {c : Nat}
theorem boxOf_loop (ok : okS c S) {b : Nat} (hb : b < stN S) : ∀ (d k fu : Nat) (h : Int64), d + k = (stB S b).2.2.length → d < fu → ∃ v, ∀ M, Cls M I O S K B C H N E → f_L_boxOf_11 fu 100 (nI b) h (nI k) M = some (.inl v, M) := by
  have hl : (stB S b).2.2.length ≤ 30 := (ok.2.2.1 b hb).2.2
  intro d
  induction d with
  | zero =>
    intro k fu h hd hf
    obtain ⟨fu, rfl⟩ : ∃ x, fu = x + 1 := ⟨fu - 1, by omega⟩
    refine ⟨h, fun M hM => ?_⟩
    simp only [f_L_boxOf_11, q_box0 hM hb, bX, bso]
    rw [if_pos (by rw [leT rfl rfl (show (stB S b).2.2.length ≤ k by omega) (by omega)]; trivial)]
  | succ d ih =>
    intro k fu h hd hf
    obtain ⟨fu, rfl⟩ : ∃ x, fu = x + 1 := ⟨fu - 1, by omega⟩
    have hk : k < (stB S b).2.2.length := by omega
    obtain ⟨v, hv⟩ := ih (k + 1) fu ((31 * ((31 * ((31 * h) + (Int32.toInt64 (mU (mg (stB S b).2.2 k))))) + (Int32.toInt64 (mS (mg (stB S b).2.2 k))))) + (Int32.toInt64 (mF (mg (stB S b).2.2 k)))) (by omega) (by omega)
    refine ⟨v, fun M hM => ?_⟩
    obtain ⟨m0, m1, m2⟩ := q_msg hM hb hk
    simp only [f_L_boxOf_11, q_box0 hM hb, bX, bso]
    rw [if_neg (by rw [leF rfl rfl hk (by omega)]; exact id)]
    simp only [m0, m1, m2, bX, bso, nI_1]
    exact hv M hM
theorem boxOf_e (ok : okS c S) {b : Nat} (hb : b < stN S) : ∃ v, ∀ M, Cls M I O S K B C H N E → f_L_boxOf 100 (nI b) M = some (.inl v, M) := by
  have hl : (stB S b).2.2.length ≤ 30 := (ok.2.2.1 b hb).2.2
  obtain ⟨v, hv⟩ := boxOf_loop (I := I) (O := O) (K := K) (B := B) (C := C) (H := H) (N := N) (E := E) ok hb (stB S b).2.2.length 0 31 (Int32.toInt64 (stB S b).2.1) (by omega) (by omega)
  refine ⟨v, fun M hM => ?_⟩
  simp only [f_L_boxOf, q_box1 hM hb, bX, bso]
  exact hv M hM
theorem acc_loop {s : Nat} (hs : s < stM S) : ∀ (d k fu : Nat) (h : Int64), d + k = 5 → d < fu → ∃ v, ∀ M, Cls M I O S K B C H N E → f_L_viewOf_85 fu 100 (nI s) h (nI k) M = some (.inl v, M) := by
  intro d
  induction d with
  | zero =>
    intro k fu h hd hf
    obtain ⟨fu, rfl⟩ : ∃ x, fu = x + 1 := ⟨fu - 1, by omega⟩
    refine ⟨h, fun M hM => ?_⟩
    simp only [f_L_viewOf_85]
    rw [if_pos (by rw [leT (x := 5) (a := 5) rfl rfl (show 5 ≤ k by omega) (by omega)]; trivial)]
  | succ d ih =>
    intro k fu h hd hf
    obtain ⟨fu, rfl⟩ : ∃ x, fu = x + 1 := ⟨fu - 1, by omega⟩
    have hk : k < 5 := by omega
    obtain ⟨v, hv⟩ := ih (k + 1) fu ((1000003 * h) + (Int32.toInt64 ((sxC (stS S s)).getD k 0))) (by omega) (by omega)
    refine ⟨v, fun M hM => ?_⟩
    simp only [f_L_viewOf_85]
    rw [if_neg (by rw [leF (x := 5) (a := 5) rfl rfl hk (by omega)]; exact id)]
    simp only [q_acc hM hs hk, bX, bso, nI_1]
    exact hv M hM
theorem viewOf_loop (ok : okS c S) {s : Nat} (hs : s < stM S) : ∀ (d k fu : Nat) (h : Int64), d + k = (sxE (stS S s)).length → d < fu → ∃ v, ∀ M, Cls M I O S K B C H N E → f_L_viewOf_35 fu 100 (nI s) h (nI (k + 1)) M = some (.inl v, M) := by
  have hl : (sxE (stS S s)).length ≤ 60 := (ok.2.2.2 s hs).2.2.1
  intro d
  induction d with
  | zero =>
    intro k fu h hd hf
    obtain ⟨fu, rfl⟩ : ∃ x, fu = x + 1 := ⟨fu - 1, by omega⟩
    obtain ⟨v, hv⟩ := acc_loop (I := I) (O := O) (K := K) (B := B) (C := C) (H := H) (N := N) (E := E) hs 5 0 6 h (by omega) (by omega)
    refine ⟨v, fun M hM => ?_⟩
    simp only [f_L_viewOf_35, (q_ses hM ok hs).2.2.2.1, bX, bso]
    rw [if_pos (by rw [ltT rfl rfl (show (sxE (stS S s)).length < k + 1 by omega) (by omega)]; trivial)]
    simp only [f_L_viewOf_82]
    exact hv M hM
  | succ d ih =>
    intro k fu h hd hf
    obtain ⟨fu, rfl⟩ : ∃ x, fu = x + 1 := ⟨fu - 1, by omega⟩
    have hk : k < (sxE (stS S s)).length := by omega
    obtain ⟨v, hv⟩ := ih (k + 1) fu ((31 * ((31 * h) + (Int32.toInt64 (eU (eg (sxE (stS S s)) k))))) + (Int32.toInt64 (eT (eg (sxE (stS S s)) k)))) (by omega) (by omega)
    refine ⟨v, fun M hM => ?_⟩
    have q := q_ent hM ok hs hk
    simp only [f_L_viewOf_35, (q_ses hM ok hs).2.2.2.1, bX, bso]
    rw [if_neg (by rw [ltF rfl rfl (show k + 1 ≤ (sxE (stS S s)).length by omega) (by omega)]; exact id)]
    simp only [q.1, q.2.1, bX, bso, nI_1]
    exact hv M hM
theorem viewOf_e (ok : okS c S) {s : Nat} (hs : s < stM S) : ∃ v, ∀ M, Cls M I O S K B C H N E → f_L_viewOf 100 (nI s) M = some (.inl v, M) := by
  have hl : (sxE (stS S s)).length ≤ 60 := (ok.2.2.2 s hs).2.2.1
  obtain ⟨v, hv⟩ := viewOf_loop (I := I) (O := O) (K := K) (B := B) (C := C) (H := H) (N := N) (E := E) ok hs (sxE (stS S s)).length 0 61 ((31 * ((31 * (Int32.toInt64 (sxB (stS S s)))) + (Int32.toInt64 (b2i (sxR (stS S s)))))) + (Int32.toInt64 (b2i (sxI (stS S s))))) (by omega) (by omega)
  refine ⟨v, fun M hM => ?_⟩
  have q := q_ses hM ok hs
  simp only [f_L_viewOf, q.1, q.2.1, q.2.2.1, bX, bso]
  exact hv M hM
theorem all_ses (ok : okS c S) : ∀ (d s fu : Nat) (h : Int64), d + s = stM S → d < fu → ∃ v, ∀ M, Cls M I O S K B C H N E → f_L_all_38 fu 100 h (nI s) M = some (.inl v, M) := by
  have h4 := ok.2.1.2
  intro d
  induction d with
  | zero =>
    intro k fu h hd hf
    obtain ⟨fu, rfl⟩ : ∃ x, fu = x + 1 := ⟨fu - 1, by omega⟩
    refine ⟨h, fun M hM => ?_⟩
    simp only [f_L_all_38, q_prop1 hM, bX, bso]
    rw [if_pos (by rw [leT rfl rfl (show stM S ≤ k by omega) (by omega)]; trivial)]
  | succ d ih =>
    intro k fu h hd hf
    obtain ⟨fu, rfl⟩ : ∃ x, fu = x + 1 := ⟨fu - 1, by omega⟩
    have hk : k < stM S := by omega
    obtain ⟨x, hx⟩ := viewOf_e (I := I) (O := O) (K := K) (B := B) (C := C) (H := H) (N := N) (E := E) ok hk
    obtain ⟨v, hv⟩ := ih (k + 1) fu ((1000003 * h) + x) (by omega) (by omega)
    refine ⟨v, fun M hM => ?_⟩
    simp only [f_L_all_38, q_prop1 hM, bX, bso]
    rw [if_neg (by rw [leF rfl rfl hk (by omega)]; exact id)]
    simp only [hx M hM, bX, bso, nI_1]
    exact hv M hM
theorem all_box (ok : okS c S) : ∀ (d s fu : Nat) (h : Int64), d + s = stN S → d < fu → ∃ v, ∀ M, Cls M I O S K B C H N E → f_L_all_9 fu 100 h (nI s) M = some (.inl v, M) := by
  have h3 := ok.2.1.1
  have h4 := ok.2.1.2
  intro d
  induction d with
  | zero =>
    intro k fu h hd hf
    obtain ⟨fu, rfl⟩ : ∃ x, fu = x + 1 := ⟨fu - 1, by omega⟩
    obtain ⟨v, hv⟩ := all_ses (I := I) (O := O) (K := K) (B := B) (C := C) (H := H) (N := N) (E := E) ok (stM S) 0 5 h (by omega) (by omega)
    refine ⟨v, fun M hM => ?_⟩
    simp only [f_L_all_9, q_prop0 hM, bX, bso]
    rw [if_pos (by rw [leT rfl rfl (show stN S ≤ k by omega) (by omega)]; trivial)]
    simp only [f_L_all_36]
    exact hv M hM
  | succ d ih =>
    intro k fu h hd hf
    obtain ⟨fu, rfl⟩ : ∃ x, fu = x + 1 := ⟨fu - 1, by omega⟩
    have hk : k < stN S := by omega
    obtain ⟨x, hx⟩ := boxOf_e (I := I) (O := O) (K := K) (B := B) (C := C) (H := H) (N := N) (E := E) ok hk
    obtain ⟨v, hv⟩ := ih (k + 1) fu ((1000003 * h) + x) (by omega) (by omega)
    refine ⟨v, fun M hM => ?_⟩
    simp only [f_L_all_9, q_prop0 hM, bX, bso]
    rw [if_neg (by rw [leF rfl rfl hk (by omega)]; exact id)]
    simp only [hx M hM, bX, bso, nI_1]
    exact hv M hM
theorem all_e (ok : okS c S) : ∃ v, ∀ M, Cls M I O S K B C H N E → f_L_all 100 M = some (.inl v, M) := by
  have h3 := ok.2.1.1
  obtain ⟨v, hv⟩ := all_box (I := I) (O := O) (K := K) (B := B) (C := C) (H := H) (N := N) (E := E) ok (stN S) 0 4 (Int32.toInt64 (stL S)) (by omega) (by omega)
  refine ⟨v, fun M hM => ?_⟩
  simp only [f_L_all, q_prop2 hM, bX, bso]
  exact hv M hM
end
