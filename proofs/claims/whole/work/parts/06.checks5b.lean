set_option maxRecDepth 100000 in
theorem ok_Mo_satisfied : mi_mOkB k_Mo_satisfied m_Mo_satisfied = true := by decide +kernel
set_option maxRecDepth 100000 in
theorem ok_Mo_begin : mi_mOkB k_Mo_begin m_Mo_begin = true := by decide +kernel
set_option maxRecDepth 100000 in
theorem ok_Mo_fits : mi_mOkB k_Mo_fits m_Mo_fits = true := by decide +kernel
set_option maxRecDepth 100000 in
theorem ok_Mo_give : mi_mOkB k_Mo_give m_Mo_give = true := by decide +kernel
set_option maxRecDepth 100000 in
theorem ok_Mo_equate : mi_mOkB k_Mo_equate m_Mo_equate = true := by decide +kernel
set_option maxRecDepth 100000 in
theorem ok_Mo_sameTold : mi_mOkB k_Mo_sameTold m_Mo_sameTold = true := by decide +kernel
set_option maxRecDepth 100000 in
theorem ok_Mo_replace : mi_mOkB k_Mo_replace m_Mo_replace = true := by decide +kernel
set_option maxRecDepth 100000 in
theorem ok_Mo_add : mi_mOkB k_Mo_add m_Mo_add = true := by decide +kernel
