set_option maxRecDepth 100000 in
theorem tb_allgood : (tables_1.filter (fun w => !goodWord w)).length = 12 := by decide +kernel
