set_option maxRecDepth 100000 in
theorem ok_law11 : (List.range 30).all (fun i => mi_lawB (330 + i)) = true := by decide +kernel
set_option maxRecDepth 100000 in
theorem ok_law12 : (List.range 30).all (fun i => mi_lawB (360 + i)) = true := by decide +kernel
set_option maxRecDepth 100000 in
theorem ok_law13 : (List.range 30).all (fun i => mi_lawB (390 + i)) = true := by decide +kernel
