set_option maxRecDepth 100000 in
theorem qd_X10_at : lw_tbl[1101]? = some (.code yX10_init cX10_init 1 none) := by rfl
theorem qd_X10_init : x_in (.code yX10_init cX10_init 1 none) := ⟨List.mem_of_getElem? qd_X10_at, Or.inl rfl⟩
