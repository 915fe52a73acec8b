set_option maxHeartbeats 8000000 in
set_option maxRecDepth 100000 in
theorem whole_start {p : Program} {e : Env} {s : State} {m : MethodId} {below : List Frame} {meth : Method} {c : Code} (l : Launch) (hflags : l.flags = flags0) {b L : Nat} {xs : Nat → Int32} (hL : L ≤ 3584) (C0 : lw_At p s m meth c b L xs) : W p l e room_1 s m #[Value.ref b] below meth c s.heap [] 0 0 (lw_Z below #[Value.ref b] s) (entryFrame m ([Value.ref b] : List Value).toArray 4) := by
  obtain ⟨sin0, h1, h2⟩ := sin_ok
  exact whole_start_open (Rel := RelAll) l hL C0 1000 h1 hsT_write hsT_wipe hsT_fault hsT_cave hsT_leg hsT_measure hsT_take hsT_read hsT_fall hsT_undo hsT_laid hsT_miss hsT_evened hsT_rest hsT_squares hsT_ask hsT_widest hsT_come hsT_must hsT_judge hsT_see hsT_unsee hsT_which hsT_share hsT_falls hsT_seed hsT_drawn hsT_keep hsT_again hsT_count (start_ok h2)
