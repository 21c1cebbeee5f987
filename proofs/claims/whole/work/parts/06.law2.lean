set_option maxRecDepth 100000 in
theorem ok_law7 : (List.range 30).all (fun i => mi_lawB (210 + i)) = true := by decide +kernel
set_option maxRecDepth 100000 in
theorem ok_law8 : (List.range 30).all (fun i => mi_lawB (240 + i)) = true := by decide +kernel
set_option maxRecDepth 100000 in
theorem ok_law9 : (List.range 30).all (fun i => mi_lawB (270 + i)) = true := by decide +kernel
set_option maxRecDepth 100000 in
theorem ok_law10 : (List.range 30).all (fun i => mi_lawB (300 + i)) = true := by decide +kernel
