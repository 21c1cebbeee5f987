set_option maxRecDepth 100000 in
theorem ok_Mo_fold : mi_mOkB k_Mo_fold m_Mo_fold = true := by decide +kernel
set_option maxRecDepth 100000 in
theorem ok_Mo_leavesOut : mi_mOkB k_Mo_leavesOut m_Mo_leavesOut = true := by decide +kernel
set_option maxRecDepth 100000 in
theorem ok_Mo_keeps : mi_mOkB k_Mo_keeps m_Mo_keeps = true := by decide +kernel
set_option maxRecDepth 100000 in
theorem ok_Mo_answers : mi_mOkB k_Mo_answers m_Mo_answers = true := by decide +kernel
set_option maxRecDepth 100000 in
theorem ok_Mo_findCertain : mi_mOkB k_Mo_findCertain m_Mo_findCertain = true := by decide +kernel
set_option maxRecDepth 100000 in
theorem ok_Mo_answer : mi_mOkB k_Mo_answer m_Mo_answer = true := by decide +kernel
