/-! PURE: boxes change; select, close, expunge, deliver, setLimit -/
theorem ascU_iff : ∀ (ms : Ms) (lo : Int32), ascU lo ms ↔ (∀ u ∈ ms.map mU, lo < u) ∧ (ms.map mU).Pairwise (fun a b => a < b) := by
  intro ms
  induction ms with
  | nil => intro lo; exact ⟨fun _ => ⟨fun u hu => (nomatch hu), List.Pairwise.nil⟩, fun _ => trivial⟩
  | cons x t ih =>
    intro lo
    rw [List.map_cons, List.pairwise_cons]
    constructor
    · intro h
      obtain ⟨h1, h2⟩ := (ih (mU x)).mp h.2
      refine ⟨fun u hu => ?_, h1, h2⟩
      rcases List.mem_cons.mp hu with rfl | hu
      · exact h.1
      · exact Int32.lt_trans h.1 (h1 u hu)
    · intro ⟨h1, h2, h3⟩
      exact ⟨h1 _ List.mem_cons_self, (ih (mU x)).mpr ⟨h2, h3⟩⟩
theorem okM_iff (nx : Int32) (ms : Ms) : okM nx ms ↔ ((∀ u ∈ ms.map mU, (0 : Int32) < u) ∧ (ms.map mU).Pairwise (fun a b => a < b)) ∧ (∀ u ∈ ms.map mU, u < nx) ∧ ∀ s ∈ ms.map mS, 0 ≤ s := by
  unfold okM
  rw [ascU_iff]
  constructor
  · intro ⟨h1, h2⟩
    refine ⟨h1, fun u hu => ?_, fun s hs => ?_⟩
    · obtain ⟨x, hx, rfl⟩ := List.mem_map.mp hu; exact (h2 x hx).1
    · obtain ⟨x, hx, rfl⟩ := List.mem_map.mp hs; exact (h2 x hx).2
  · intro ⟨h1, h2, h3⟩
    exact ⟨h1, fun x hx => ⟨h2 _ (List.mem_map.mpr ⟨x, hx, rfl⟩), h3 _ (List.mem_map.mpr ⟨x, hx, rfl⟩)⟩⟩
theorem okM_map {nx : Int32} {ms ms' : Ms} (h : okM nx ms) (e1 : ms'.map mU = ms.map mU) (e2 : ms'.map mS = ms.map mS) : okM nx ms' := by
  rw [okM_iff] at h ⊢
  rw [e1, e2]; exact h
theorem okM_sub {nx : Int32} {ms ms' : Ms} (h : okM nx ms) (s : ms'.Sublist ms) : okM nx ms' := by
  obtain ⟨h1, h2⟩ := h
  obtain ⟨a1, a2⟩ := (ascU_iff _ _).mp h1
  refine ⟨(ascU_iff _ _).mpr ⟨fun u hu => a1 u ((s.map mU).subset hu), a2.sublist (s.map mU)⟩, fun x hx => h2 x (s.subset hx)⟩
theorem okS.setB {c c' : Nat} {S : St} (h : okS c S) (hc : c ≤ c') {b : Nat} {X : Bx} (hX : okBx c' X) (hn : (stB S b).2.1 ≤ X.2.1) : okS c' (setBx S b X) := by
  refine ⟨h.1, h.2.1, fun j hj => ?_, fun k hk => ?_⟩
  · show okBx c' (va_up (stB S) b X j)
    by_cases e : j = b
    · rw [e, va_up_s]; exact hX
    · rw [va_up_n _ _ e]; exact (h.2.2.1 j hj).up hc
  · obtain ⟨h1, h2, h3, h4, h5⟩ := h.2.2.2 k hk
    refine ⟨h1, h2, h3, h4, fun j hj z => ?_⟩
    show sxH (stS S k) < (va_up (stB S) b X j).2.1
    by_cases e : j = b
    · subst e
      rw [va_up_s]; exact Int32.lt_of_lt_of_le (h5 j hj z) hn
    · rw [va_up_n _ _ e]; exact h5 j hj z
theorem okS.setM {c : Nat} {S : St} (h : okS c S) {b : Nat} (hb : b < stN S) {ms' : Ms} (hM : okM (stB S b).2.1 ms') (hl : ms'.length ≤ 30) : okS c (setBx S b (setMs (stB S b) ms')) :=
  h.setB (Nat.le_refl c) ⟨(h.2.2.1 b hb).1, hM, hl⟩ (Int32.le_refl _)
theorem keepD_sub (f l : Int32) (ms : Ms) : (keepD f l ms).Sublist ms := List.filter_sublist ..
theorem okS.del {c : Nat} {S : St} (h : okS c S) {b : Nat} (hb : b < stN S) (f l : Int32) : okS c (setBx S b (setMs (stB S b) (keepD f l (stB S b).2.2))) :=
  h.setM hb (okM_sub (h.2.2.1 b hb).2.1 (keepD_sub f l _)) (Nat.le_trans (keepD_sub f l _).length_le (h.2.2.1 b hb).2.2)
theorem keepD_0 {nx : Int32} {ms : Ms} (h : okM nx ms) : keepD 1 nx ms = keepD 0 2147483647 ms := by
  unfold keepD
  refine List.filter_congr (fun x hx => ?_)
  have hp : (0 : Int32) < mU x := (ascU_pw ms 0 h.1).1 x hx
  have hn := (h.2 x hx).1
  have h1 : ¬ (mU x < 0) := fun z => Int32.lt_irrefl (Int32.lt_trans z hp)
  have h2 : ¬ (mU x < 1) := fun z => by
    have hp' := Int32.lt_iff_toInt_lt.mp hp
    have z' := Int32.lt_iff_toInt_lt.mp z
    have e0 : (0 : Int32).toInt = 0 := by decide
    have e1 : (1 : Int32).toInt = 1 := by decide
    omega
  have h3 : ¬ (nx < mU x) := fun z => Int32.lt_irrefl (Int32.lt_trans z hn)
  have h4 : ¬ ((2147483647 : Int32) < mU x) := fun z => by
    have z' := Int32.lt_iff_toInt_lt.mp z
    have e1 : (2147483647 : Int32).toInt = 2147483647 := by decide
    have h5 := Int32.toInt_lt (mU x)
    omega
  unfold delq
  rw [decide_eq_false h1, decide_eq_false h2, decide_eq_false h3, decide_eq_false h4]
theorem nodup3 : True := trivial
section
variable {M : Mem} {m : Nat} {R : Rs} {I O : List Int32} {S : St} {K : Nat → St} {B : Nat → Bool} {C : Nat} {H : Nat → St} {N : List Nt} {E : Er} {c : Nat}
theorem Cls.box {M' : Mem} (h : Cls M I O S K B C H N E) {b : Nat} (hb : b < stN S) {X : Bx} (x : bxA M' (boxR 105 b) X) (o : off M M' (boxR 105 b) 7) : Cls M' I O (setBx S b X) K B C H N E ∧ off M M' 100 616 := by
  have h3 := h.s.n3
  have s2 := h.s.setB (k := b) (by omega) (b := X) x (fun q _ _ q3 => o.2 q q3)
  have o2 : off M M' 105 59 := o.wide (by unfold boxR; omega) (by unfold boxR; omega)
  exact ⟨h.mS s2 o2, o2.wide (by omega) (by omega)⟩
theorem Cls.ses {M' : Mem} (h : Cls M I O S K B C H N E) {k : Nat} (hk : k < stM S) {X : Sx} (x : sxA M' (sesR 105 k) X) (o : off M M' (sesR 105 k) 7) : Cls M' I O (setSx S k X) K B C H N E ∧ off M M' 100 616 := by
  have h4 := h.s.m4
  have s2 := h.s.setS (k := k) (by omega) (b := X) x (fun q _ _ q3 => o.2 q q3)
  have o2 : off M M' 105 59 := o.wide (by unfold sesR; omega) (by unfold sesR; omega)
  exact ⟨h.mS s2 o2, o2.wide (by omega) (by omega)⟩
theorem cls_del (h : Cls M I O S K B C H N E) {b : Nat} (hb : b < stN S) (f l : Int32) : ∃ M', f_X0_removeDeleted (boxR 105 b) f l M = some (nI ((stB S b).2.2.length - (keepD f l (stB S b).2.2).length), M') ∧ Cls M' I O (setBx S b (setMs (stB S b) (keepD f l (stB S b).2.2))) K B C H N E ∧ off M M' 100 616 := by
  obtain ⟨M1, e1, x1, o1⟩ := X0_removeDeleted_e (h.bx hb) f l
  obtain ⟨c1, o2⟩ := h.box hb (X := setMs (stB S b) (keepD f l (stB S b).2.2)) x1 o1
  exact ⟨M1, e1, c1, o2⟩
end
