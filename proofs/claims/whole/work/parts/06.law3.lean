set_option maxRecDepth 100000 in
theorem ok_law14 : (List.range 30).all (fun i => mi_lawB (420 + i)) = true := by decide +kernel
set_option maxRecDepth 100000 in
theorem ok_law15 : (List.range 30).all (fun i => mi_lawB (450 + i)) = true := by decide +kernel
set_option maxRecDepth 100000 in
theorem ok_law16 : (List.range 30).all (fun i => mi_lawB (480 + i)) = true := by decide +kernel
set_option maxRecDepth 100000 in
theorem ok_law17 : (List.range 30).all (fun i => mi_lawB (510 + i)) = true := by decide +kernel
