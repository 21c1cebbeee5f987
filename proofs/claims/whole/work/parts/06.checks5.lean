set_option maxRecDepth 100000 in
theorem ok_Mo_edgesOf : mi_mOkB k_Mo_edgesOf m_Mo_edgesOf = true := by decide +kernel
set_option maxRecDepth 100000 in
theorem ok_Mo_bodyAt : mi_mOkB k_Mo_bodyAt m_Mo_bodyAt = true := by decide +kernel
set_option maxRecDepth 100000 in
theorem ok_Mo_inHead : mi_mOkB k_Mo_inHead m_Mo_inHead = true := by decide +kernel
set_option maxRecDepth 100000 in
theorem ok_Mo_position : mi_mOkB k_Mo_position m_Mo_position = true := by decide +kernel
set_option maxRecDepth 100000 in
theorem ok_Mo_headAt : mi_mOkB k_Mo_headAt m_Mo_headAt = true := by decide +kernel
set_option maxRecDepth 100000 in
theorem ok_Mo_start : mi_mOkB k_Mo_start m_Mo_start = true := by decide +kernel
set_option maxRecDepth 100000 in
theorem ok_Mo_step : mi_mOkB k_Mo_step m_Mo_step = true := by decide +kernel
set_option maxRecDepth 100000 in
theorem ok_Mo_next : mi_mOkB k_Mo_next m_Mo_next = true := by decide +kernel
set_option maxRecDepth 100000 in
theorem ok_Mo_holds : mi_mOkB k_Mo_holds m_Mo_holds = true := by decide +kernel
set_option maxRecDepth 100000 in
theorem ok_Mo_satisfied : mi_mOkB k_Mo_satisfied m_Mo_satisfied = true := by decide +kernel
set_option maxRecDepth 100000 in
theorem ok_Mo_begin : mi_mOkB k_Mo_begin m_Mo_begin = true := by decide +kernel
set_option maxRecDepth 100000 in
theorem ok_Mo_fits : mi_mOkB k_Mo_fits m_Mo_fits = true := by decide +kernel
set_option maxRecDepth 100000 in
theorem ok_Mo_give : mi_mOkB k_Mo_give m_Mo_give = true := by decide +kernel
set_option maxRecDepth 100000 in
theorem ok_Mo_equate : mi_mOkB k_Mo_equate m_Mo_equate = true := by decide +kernel
set_option maxRecDepth 100000 in
theorem ok_Mo_sameTold : mi_mOkB k_Mo_sameTold m_Mo_sameTold = true := by decide +kernel
set_option maxRecDepth 100000 in
theorem ok_Mo_replace : mi_mOkB k_Mo_replace m_Mo_replace = true := by decide +kernel
set_option maxRecDepth 100000 in
theorem ok_Mo_add : mi_mOkB k_Mo_add m_Mo_add = true := by decide +kernel
set_option maxRecDepth 100000 in
theorem ok_Mo_generate : mi_mOkB k_Mo_generate m_Mo_generate = true := by decide +kernel
set_option maxRecDepth 100000 in
theorem ok_Mo_occurs : mi_mOkB k_Mo_occurs m_Mo_occurs = true := by decide +kernel
