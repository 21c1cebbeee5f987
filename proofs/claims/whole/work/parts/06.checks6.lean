set_option maxRecDepth 100000 in
theorem ok_Mo_run : mi_mOkB k_Mo_run m_Mo_run = true := by decide +kernel
set_option maxRecDepth 100000 in
theorem ok_Mo_reset : mi_mOkB k_Mo_reset m_Mo_reset = true := by decide +kernel
set_option maxRecDepth 100000 in
theorem ok_Mo_state : mi_mOkB k_Mo_state m_Mo_state = true := by decide +kernel
set_option maxRecDepth 100000 in
theorem ok_Mo_size : mi_mOkB k_Mo_size m_Mo_size = true := by decide +kernel
set_option maxRecDepth 100000 in
theorem ok_Mo_at : mi_mOkB k_Mo_at m_Mo_at = true := by decide +kernel
set_option maxRecDepth 100000 in
theorem ok_Mo_nulls : mi_mOkB k_Mo_nulls m_Mo_nulls = true := by decide +kernel
