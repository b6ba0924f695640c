/-! ALL CALLS -/
theorem law_ok : LawOK Inv := ⟨inv0, st_pin, st_move, st_hold, st_rod, st_put, st_count, st_pinTold, st_rodTold, st_motion, st_stress, st_stiff, st_tight, st_load, st_carry, st_force, st_gives, st_could, st_body, st_plan, st_cheapest, st_tray, st_forge, st_status⟩
