/-! ALL CALLS AGREE -/
theorem agree_RR : Agree RR :=
  ⟨ag_write, ag_erase, ag_fault, ag_desk, ag_number, ag_of2, ag_unit, ag_set, ag_add, ag_times, ag_turn, ag_divide, ag_common, ag_undo, ag_keep, ag_back, ag_divides, ag_nearest, ag_steps, ag_mate, ag_factor, ag_prime, ag_list, ag_squares, ag_turned, ag_rank, ag_tally, ag_load, ag_work, ag_latest, ag_drop, ag_count⟩
