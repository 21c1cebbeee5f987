def mi_lawB (pc : Nat) : Bool := match m_law.2.2[pc]? with
  | some (some q) => mi_okB "MappingChaseLaw" code 4 false pc q
  | _ => true
set_option maxRecDepth 100000 in
theorem ok_law0 : (List.range 30).all (fun i => mi_lawB (0 + i)) = true := by decide +kernel
set_option maxRecDepth 100000 in
theorem ok_law1 : (List.range 30).all (fun i => mi_lawB (30 + i)) = true := by decide +kernel
set_option maxRecDepth 100000 in
theorem ok_law2 : (List.range 30).all (fun i => mi_lawB (60 + i)) = true := by decide +kernel
set_option maxRecDepth 100000 in
theorem ok_law3 : (List.range 30).all (fun i => mi_lawB (90 + i)) = true := by decide +kernel
