set_option maxRecDepth 100000 in
theorem ok_Mo_edgesOf : mi_mOkB k_Mo_edgesOf m_Mo_edgesOf = true := by decide +kernel
set_option maxRecDepth 100000 in
theorem ok_Mo_bodyAt : mi_mOkB k_Mo_bodyAt m_Mo_bodyAt = true := by decide +kernel
set_option maxRecDepth 100000 in
theorem ok_Mo_inHead : mi_mOkB k_Mo_inHead m_Mo_inHead = true := by decide +kernel
set_option maxRecDepth 100000 in
theorem ok_Mo_position : mi_mOkB k_Mo_position m_Mo_position = true := by decide +kernel
set_option maxRecDepth 100000 in
theorem ok_Mo_headAt : mi_mOkB k_Mo_headAt m_Mo_headAt = true := by decide +kernel
set_option maxRecDepth 100000 in
theorem ok_Mo_start : mi_mOkB k_Mo_start m_Mo_start = true := by decide +kernel
set_option maxRecDepth 100000 in
theorem ok_Mo_step : mi_mOkB k_Mo_step m_Mo_step = true := by decide +kernel
set_option maxRecDepth 100000 in
theorem ok_Mo_next : mi_mOkB k_Mo_next m_Mo_next = true := by decide +kernel
set_option maxRecDepth 100000 in
theorem ok_Mo_holds : mi_mOkB k_Mo_holds m_Mo_holds = true := by decide +kernel
