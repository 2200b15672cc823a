/-! ===== all begins ===== -/
theorem z0 {c : Nat} (h : ovX c = []) (k : Nat) : σ0.1 c k = 0 := by
  show ovI (ovX c) k = 0
  rw [h]
  rfl
theorem zN {c : Nat} (h : ovX c = [(3, .int (-1)), (2, .int (-1)), (1, .int (-1)), (0, .int (-1))]) (s : Nat) (hs : s < 4) : σ0.1 c s = -1 := by
  show ovI (ovX c) s = -1
  rw [h]
  match s, hs with
  | 0, _ => rfl
  | 1, _ => rfl
  | 2, _ => rfl
  | 3, _ => rfl
  | s + 4, h => exact absurd h (by omega)
theorem core0 {th sg am mem ev pa P : Nat → Int32} {T W : Nat → Nat → Int32} (t0 : T 0 0 = 0) (t1 : T 0 1 = 0) (w0 : W 0 0 = 0) (w4 : W 0 4 = 0) : CORE 0 th sg am mem 0 0 ev pa T W P :=
  ⟨⟨by omega, fun i hi => absurd hi (by omega)⟩, ⟨t0, fun i hi => absurd hi (by omega), 0, by omega, t1, fun i hi => absurd hi (by omega), fun k hk => absurd hk (by omega)⟩, ⟨fun i hi => absurd hi (by omega), by omega, fun e he => absurd he (by omega)⟩, ⟨w0, w4, fun e he => absurd he (by omega), fun i hi => absurd hi (by omega), fun i hi => absurd hi (by omega), fun i hi => absurd hi (by omega), fun i hi => absurd hi (by omega), fun i hi => absurd hi (by omega)⟩, fun s i hs => absurd hs (by omega), by omega⟩
theorem rel0 : Rel σ0 := by
  refine ⟨⟨0, 0, 0, z0 rfl 0, z0 rfl 19, z0 rfl 25, core0 (z0 (c := 3) rfl 0) (z0 (c := 3) rfl 1) (z0 (c := 45) rfl 0) (z0 (c := 45) rfl 4), rfl, rfl, rfl⟩, ⟨⟨0, by omega, z0 rfl 1, z0 rfl 4, fun j hj => absurd hj (by omega)⟩, ⟨(z0 rfl 2).trans (z0 rfl 10).symm, (z0 rfl 3).trans (z0 rfl 11).symm⟩, ⟨0, by omega, z0 rfl 10, z0 rfl 43, fun j _ => (z0 rfl j).trans (z0 rfl j).symm⟩, ⟨fun s hs => ⟨(zN rfl s hs).trans (zN rfl s hs).symm, Or.inl (zN rfl s hs), (z0 rfl s).trans (z0 rfl s).symm, 0, by omega, z0 rfl s⟩, fun k hk => ?_⟩, fun s hs => Or.inl ⟨z0 rfl s, zN rfl s hs⟩, ⟨0, by omega, z0 rfl 3, z0 rfl 54, fun j hj => absurd hj (by omega)⟩⟩, (z0 rfl 6).trans (z0 rfl 56).symm, Or.inl (z0 rfl 56)⟩
  rw [z0 (c := 84) rfl k]
  rfl
theorem ops : OPS Rel := ⟨op_feed, op_read, op_fault, op_named, op_thing, op_value, op_at, op_flow, op_run, op_begin, op_change, op_event, op_sum, op_moves, op_reached, op_rings, op_ring, op_rest, op_swing, op_pull, op_best, op_miss, op_fit, op_prove, op_row, op_alterRow, op_judge, op_sheet, op_put, op_item, op_shelf, op_taken, op_act, op_trace, op_many, op_keep, op_back⟩
