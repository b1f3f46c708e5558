/-! THE FLOAT FACTS (part 11f) AND THE START -/
theorem flq : FLq := ⟨fun a b h0 h1 => fq_32 h0 h1, fun a b h0 => fq_64 h0, fun x h => f2d_64 h, fun x h => dself h⟩
theorem whole_start {p : Program} {e : Env} {s : State} {m : MethodId} {below : List Frame} {meth : Method} {c : Code} (l : Launch) (hflags : l.flags = flags0) {b L : Nat} {xs : Nat → Int32} (hL : L ≤ 3584) (C0 : lw_At p s m meth c b L xs) : W p l e room_1 s m #[Value.ref b] below meth c s.heap [] 0 0 (lw_Z below #[Value.ref b] s) (entryFrame m ([Value.ref b] : List Value).toArray 9) := whole_of flq l hflags hL C0
