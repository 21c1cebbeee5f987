set_option maxRecDepth 100000 in
theorem ok_Mo_run : mi_mOkB k_Mo_run m_Mo_run = true := by decide +kernel
set_option maxRecDepth 100000 in
theorem ok_Mo_reset : mi_mOkB k_Mo_reset m_Mo_reset = true := by decide +kernel
set_option maxRecDepth 100000 in
theorem ok_Mo_state : mi_mOkB k_Mo_state m_Mo_state = true := by decide +kernel
set_option maxRecDepth 100000 in
theorem ok_Mo_size : mi_mOkB k_Mo_size m_Mo_size = true := by decide +kernel
set_option maxRecDepth 100000 in
theorem ok_Mo_at : mi_mOkB k_Mo_at m_Mo_at = true := by decide +kernel
set_option maxRecDepth 100000 in
theorem ok_Mo_nulls : mi_mOkB k_Mo_nulls m_Mo_nulls = true := by decide +kernel
set_option maxRecDepth 100000 in
theorem ok_Mo_fold : mi_mOkB k_Mo_fold m_Mo_fold = true := by decide +kernel
set_option maxRecDepth 100000 in
theorem ok_Mo_leavesOut : mi_mOkB k_Mo_leavesOut m_Mo_leavesOut = true := by decide +kernel
set_option maxRecDepth 100000 in
theorem ok_Mo_keeps : mi_mOkB k_Mo_keeps m_Mo_keeps = true := by decide +kernel
set_option maxRecDepth 100000 in
theorem ok_Mo_answers : mi_mOkB k_Mo_answers m_Mo_answers = true := by decide +kernel
set_option maxRecDepth 100000 in
theorem ok_Mo_findCertain : mi_mOkB k_Mo_findCertain m_Mo_findCertain = true := by decide +kernel
set_option maxRecDepth 100000 in
theorem ok_Mo_answer : mi_mOkB k_Mo_answer m_Mo_answer = true := by decide +kernel
