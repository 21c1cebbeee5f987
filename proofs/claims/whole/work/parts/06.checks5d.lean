set_option maxRecDepth 100000 in
theorem ok_Mo_occurs : mi_mOkB k_Mo_occurs m_Mo_occurs = true := by decide +kernel
