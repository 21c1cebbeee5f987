set_option maxRecDepth 100000 in
theorem ok_law18 : (List.range 30).all (fun i => mi_lawB (540 + i)) = true := by decide +kernel
set_option maxRecDepth 100000 in
theorem ok_law19 : (List.range 30).all (fun i => mi_lawB (570 + i)) = true := by decide +kernel
