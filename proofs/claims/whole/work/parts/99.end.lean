-- the end: every call keeps the relation
theorem sim_all : SimP Rl := by
  intro k hk a σ τ h
  match k, hk with
  | 0, _ => exact sim_chair h (a 1) (a 2) (a 3) (a 4) (a 5)
  | 1, _ => exact sim_floor h (a 1) (a 2)
  | 2, _ => exact sim_column h (a 1) (a 2)
  | 3, _ => exact sim_feed h (a 1) (a 2) (a 3) (a 4) (a 5)
  | 4, _ => exact sim_law h (a 1)
  | 5, _ => exact sim_orders h (a 1)
  | 6, _ => exact sim_signals h (a 1) (a 2)
  | 7, _ => exact sim_watches h (a 1)
  | 8, _ => exact sim_tried h (a 1) (a 2)
  | 9, _ => exact sim_chairIs h (a 1) (a 2) (a 3)
  | 10, _ => exact sim_sees h (a 1) (a 2)
  | 11, _ => exact sim_toSee h (a 1) (a 2) (a 3)
  | 12, _ => exact sim_overTrees h (a 1)
  | 13, _ => exact sim_hidden h (a 1)
  | 14, _ => exact sim_capture h (a 1) (a 2) (a 3)
  | 15, _ => exact sim_whenIn h (a 1) (a 2) (a 3)
  | 16, _ => exact sim_first h (a 1) (a 2)
  | 17, _ => exact sim_loses h (a 1) (a 2)
  | 18, _ => exact sim_lasts h (a 1) (a 2) (a 3)
  | 19, _ => exact sim_glasses h (a 1)
  | 20, _ => exact sim_march h (a 1)
  | 21, _ => exact sim_ridge h (a 1)
  | 22, _ => exact sim_answered h
  | 23, _ => exact sim_inCommon h (a 1)
  | 24, _ => exact sim_beat h (a 1)
  | 25, _ => exact sim_lamps h (a 1) (a 2)
  | 26, _ => exact sim_bridge h (a 1) (a 2) (a 3) (a 4)
  | 27, _ => exact sim_parrots h (a 1) (a 2) (a 3)
  | 28, _ => exact sim_ants h (a 1) (a 2)
  | 29, _ => exact sim_seed h (a 1)
  | 30, _ => exact sim_keep h
  | 31, _ => exact sim_undo h
  | 32, _ => exact sim_check h (a 1) (a 2)
  | 33, _ => exact sim_count h (a 1)
  | k + 34, hk => exact absurd hk (by omega)
theorem whole_start {p : Program} {e : Env} {s : State} {m : MethodId} {below : List Frame} {meth : Method} {c : Code} (l : Launch) (hflags : l.flags = flags0) {b L : Nat} {xs : Nat → Int32} (hL : L ≤ 3072) (C0 : lw_At p s m meth c b L xs) : W p l e room_1 s m #[Value.ref b] below meth c s.heap [] 0 0 (lw_Z below #[Value.ref b] s) (entryFrame m ([Value.ref b] : List Value).toArray 4) := whole_of sim_all Rl_0 l hL C0
