/-! from the law's entry to its end -/
theorem sims : Sims Inv := ⟨s_cut, s_use, s_drop, s_newLine, s_addTray, s_closeShelves, s_letter, s_sign, s_tray, s_shelf, s_at, s_street, s_whole, s_rule, s_takenBy, s_costOf, s_oldest, s_greatestGap, s_type, s_clearCommands, s_runCommands, s_undo, s_digest, s_none⟩
theorem whole_start {p : Program} {e : Env} {s : State} {m : MethodId} {below : List Frame} {meth : Method} {c : Code} (l : Launch) (hflags : l.flags = flags0) {b L : Nat} {xs : Nat → Int32} (hL : L ≤ 2560) (C0 : lw_At p s m meth c b L xs) : W p l e room_1 s m #[Value.ref b] below meth c s.heap [] 0 0 (lw_Z below #[Value.ref b] s) (entryFrame m ([Value.ref b] : List Value).toArray 7) := law_start l hflags hL C0 Inv Inv0 sims
theorem last_89z : True := trivial
