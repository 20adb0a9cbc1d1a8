/-! PURE 37: the beginning; all steps -/
theorem rel_u0 : Rel u0 := by
  have z : ∀ r, (r ≠ 0 ∧ r ≠ 1 ∧ r ≠ 2 ∧ r ≠ 20) → ∀ k, u0.1 r k = 0 := fun r hr k => by
    show (if k = 3 ∧ (r = 0 ∨ r = 1 ∨ r = 2 ∨ r = 20) then (10 : Int32) else 0) = 0
    rw [if_neg (by omega)]
  have y : ∀ r, (r = 0 ∨ r = 20) → ∀ k, u0.1 r k = if k = 3 then 10 else 0 := fun r hr k => by
    show (if k = 3 ∧ (r = 0 ∨ r = 1 ∨ r = 2 ∨ r = 20) then (10 : Int32) else 0) = _
    by_cases h : k = 3
    · rw [if_pos (by omega), if_pos h]
    · rw [if_neg (by omega), if_neg h]
  have g : ∀ k, k ≠ 3 → u0.1 20 k = 0 := fun k hk => by rw [y 20 (Or.inr rfl), if_neg hk]
  refine ⟨?_, ⟨0, 0, 10, 0, 0, ⟨g 0 (by decide), by omega, g 1 (by decide), by omega, ?_, by omega, ⟨0, by omega, g 5 (by decide)⟩, ⟨0, by omega, g 6 (by decide)⟩, fun c hc => by omega, fun q hq => by omega⟩, g 2 (by decide), by omega, g 4 (by decide), by omega⟩, fun k _ => ?_, Or.inl ⟨z 9 (by decide) 0, z 25 (by decide) 0⟩, ⟨0, by omega, z 7 (by decide) 0, z 25 (by decide) 1, fun k hk => by omega⟩, fun i hi => ⟨?_, ?_, Or.inl (z 27 (by decide) i), ⟨0, by omega, z 28 (by decide) i⟩, fun k _ => rfl⟩⟩
  · funext k
    rw [y 0 (Or.inl rfl), y 20 (Or.inr rfl)]
  · rw [y 20 (Or.inr rfl), if_pos rfl]
    rfl
  · rw [z 3 (by decide), z 24 (by decide)]
  · rw [z (10 + i) (by omega), z 27 (by decide)]
  · rw [z (10 + i) (by omega), z 28 (by decide)]
theorem steps_all : Steps41 Rel :=
  ⟨st_calendar, st_of, st_set, st_turn, st_as, st_date, st_law, st_pilgrim, st_about, st_mind, st_drink, st_bathe, st_days, st_now, st_on, st_well, st_next, st_agree, st_row, st_meet, st_both, st_trust, st_truth, st_cure, st_kind, st_begin, st_power, st_feed, st_wipe, st_spring, st_sheet, st_write, st_copy, st_lays, st_book, st_read, st_image, st_undo, st_tear, st_count, st_status⟩
theorem whole_start {p : Program} {e : Env} {s : State} {m : MethodId} {below : List Frame} {meth : Method} {c : Code} (l : Launch) (_ : l.flags = flags0) {b L : Nat} {xs : Nat → Int32} (hL : L ≤ 3072) (C0 : lw_At p s m meth c b L xs) : W p l e room_1 s m #[Value.ref b] below meth c s.heap [] 0 0 (lw_Z below #[Value.ref b] s) (entryFrame m ([Value.ref b] : List Value).toArray 4) := whole_from rel_u0 steps_all l hL C0
