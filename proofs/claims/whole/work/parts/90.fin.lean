/-! the start, and the walk of the law -/
theorem Rl_start : Rl tr_x0 tr_m0 := by
  refine ⟨⟨1, fun _ => -9, ⟨⟨Or.inl rfl, ⟨by omega, by omega, fun c hc => ⟨Or.inl rfl, fun _ => rfl⟩⟩, rfl, fun c hc => ?_⟩, ⟨Or.inr (Or.inl rfl), ⟨by omega, by omega, fun c hc => ⟨Or.inl rfl, fun _ => rfl⟩⟩, rfl, fun c hc => ?_⟩⟩, 0, fun _ _ => -9, by omega, rfl, rfl, rfl, fun k hk => by omega⟩, ⟨0, fun _ => 0, ⟨by omega, fun k hk => by omega⟩, ⟨rfl, fun k hk => by omega⟩, rfl, fun k hk => by omega⟩, fun s hs => ⟨rfl, Or.inl rfl⟩, ⟨0, by omega, rfl, rfl, fun k hk => by omega⟩, rfl⟩
  · show tr_fl (-9) 36 c = iI (-9)
    unfold tr_fl
    rw [if_pos hc]
    rfl
  · show upd (fun _ => 0) 0 1 (1 + c) = iI (cvn (-9))
    unfold upd
    rw [if_neg (by omega)]
    rfl
theorem whole_start {p : Program} {e : Env} {s : State} {m : MethodId} {below : List Frame} {meth : Method} {c : Code} (l : Launch) (hflags : l.flags = flags0) {b L : Nat} {xs : Nat → Int32} (hL : L ≤ 3072) (C0 : lw_At p s m meth c b L xs) : W p l e room_1 s m #[Value.ref b] below meth c s.heap [] 0 0 (lw_Z below #[Value.ref b] s) (entryFrame m ([Value.ref b] : List Value).toArray 4) :=
  whole_open ⟨s_write, s_wipe, s_fault, s_net, s_about, s_minutes, s_put, s_cut, s_time, s_undo, s_pace, s_critical, s_departs, s_spare, s_late, s_dies, s_best, s_judge, s_share, s_see, s_unsee, s_began, s_dropped, s_seed, s_drawn, s_keep, s_again⟩ Rl_start hL C0
