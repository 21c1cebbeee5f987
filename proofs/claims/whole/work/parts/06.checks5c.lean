set_option maxRecDepth 100000 in
theorem ok_Mo_generate : mi_mOkB k_Mo_generate m_Mo_generate = true := by decide +kernel
