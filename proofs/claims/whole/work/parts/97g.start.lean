/-! THE START -/
theorem whole_start (l : Launch) {p : Program} {e : Env} {s : State} {m : MethodId} {below : List Frame} {meth : Method} {c : Code} {b L : Nat} {xs0 : Nat → Int32} (hL : L ≤ 3072) (C0 : lw_At p s m meth c b L xs0) : W p l e room_1 s m #[Value.ref b] below meth c s.heap [] 0 0 (lw_Z below #[Value.ref b] s) (entryFrame m ([Value.ref b] : List Value).toArray 4) := by
  obtain ⟨F, S', h, hN⟩ := law_runs (L := L) (x := fun j => (xs0 j.toNat).toInt) hL (fun j h0 h1 => r32 _)
  exact law_met l hL C0 (F := F) (d := 100) (x := fun j => (xs0 j.toNat).toInt) (fun j hj => rfl) (by omega) h hN
