set_option maxRecDepth 100000 in
theorem ok_law4 : (List.range 30).all (fun i => mi_lawB (120 + i)) = true := by decide +kernel
set_option maxRecDepth 100000 in
theorem ok_law5 : (List.range 30).all (fun i => mi_lawB (150 + i)) = true := by decide +kernel
set_option maxRecDepth 100000 in
theorem ok_law6 : (List.range 30).all (fun i => mi_lawB (180 + i)) = true := by decide +kernel
