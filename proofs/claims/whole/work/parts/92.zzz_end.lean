/-! the first state, all the steps, and the walk from the entry -/
theorem MB_00 : MB (upd (fun _ => 0) (3 : Int32).toNatClampNeg 60) 0 B00 := by
  intro j hj
  rw [Nat.zero_add]
  unfold B00 upd
  have e : (3 : Int32).toNatClampNeg = 3 := by decide
  rw [e]
  by_cases h : j = 3
  · rw [if_pos h, if_pos h]; rfl
  · rw [if_neg h, if_neg h]; rfl
theorem so_00 : ∀ k, k < 4 → (upd (upd (upd (upd (fun _ => 0) (0 : Int32).toNatClampNeg (-1)) (1 : Int32).toNatClampNeg (-1)) (2 : Int32).toNatClampNeg (-1)) (3 : Int32).toNatClampNeg (-1) : Nat → Int32) k = -1 := by
  intro k hk
  match k, hk with
  | 0, _ => rfl
  | 1, _ => rfl
  | 2, _ => rfl
  | 3, _ => rfl
theorem init_ok : InitOK Rel0 := by
  obtain ⟨cc, f1, f2, f3⟩ := fillI (show 12 < 2 ^ 31 by decide) (fun _ => 0) 3
  refine ⟨0, 0, 0, 60, 0, 0, 0, cc, ?_, ⟨B00, WF_00, MB_00, ?_⟩, ⟨0, by omega, rfl, rfl, fun j hj => absurd hj (by omega)⟩, ⟨rfl, rfl⟩, fun k hk => Or.inl ⟨rfl, so_00 k hk⟩, fun i _ => Or.inl ⟨rfl, rfl⟩⟩
  · unfold fX1_clear
    rw [f1, bd1_some]
  · refine ⟨rfl, rfl, rfl, rfl, rfl, rfl, ⟨0, fun _ => 0, rfl, by omega, ⟨fun i hi => absurd hi (by omega), fun i j _ hj => absurd hj (by omega), fun a b hab hb ht => absurd hb (b00_0 _)⟩, fun i hi => absurd hi (by omega)⟩, fun w hw => absurd hw (b00_0 _), fun k hk => absurd hk (b00_4 _)⟩
theorem step_all : StepAll Rel0 := ⟨st_feed, st_court, st_fault, st_window, st_cross, st_pair, st_may, st_tie, st_cut, st_knot, st_tieAll, st_pass, st_damp, st_gust, st_best, st_hears, st_overhears, st_needs, st_openHours, st_part, st_parts, st_stay, st_brace, st_both, st_renewed, st_exchange, st_missing, st_together, st_shut, st_web, st_more, st_calls, st_echo, st_explained, st_numbers, st_write, st_copy, st_image, st_restore, st_count⟩
theorem whole_start {p : Program} {e : Env} {s : State} {m : MethodId} {below : List Frame} {meth : Method} {c : Code} (l : Launch) {b L : Nat} {xs : Nat → Int32} (hL : L ≤ 3072) (C0 : lw_At p s m meth c b L xs) : W p l e room_1 s m #[Value.ref b] below meth c s.heap [] 0 0 (lw_Z below #[Value.ref b] s) (entryFrame m ([Value.ref b] : List Value).toArray 4) :=
  start_open l Rel0 step_all init_ok hL C0
