/-! the relation, for the law's loop -/
theorem rel_ops : Ops Rel := ⟨op_find, op_set, op_told, op_feed, op_text, op_force, op_beep, op_walk, op_plough, op_found, op_years, op_soonest, op_strips, op_better, op_order, op_pot, op_came, op_dots, op_thick, op_judge, op_unseen, op_left, op_drawn, op_odds, op_image, op_back, op_count, op_sheet, op_cell, op_copy, op_finds, op_taken⟩
theorem rel_0 : Rel mhC0 mhM0 := rel_start
