/-! all calls -/
theorem ops_all : Ops := ⟨op_harbour, op_ofPerson, op_train, op_learn, op_game, op_shy, op_fetch, op_season, op_safe, op_sure, op_common, op_pairs, op_orders, op_drops, op_reading, op_back, op_strengths, op_feints, op_kinds, op_odds, op_sheet, op_lose, op_put, op_cell, op_copy, op_tell, op_wave, op_as, op_trace, op_fault, op_many⟩
theorem pure_law {L : Nat} {xs : Nat → Int32} (hL : L ≤ 3072) : ∃ g, fL_law L xs [] = some (1, g) := pure_of ops_all Inv_0 hL
