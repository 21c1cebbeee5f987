set_option maxRecDepth 100000 in
theorem ok_Mo_body : mi_mOkB k_Mo_body m_Mo_body = true := by decide +kernel
set_option maxRecDepth 100000 in
theorem ok_Mo_isAtom : mi_mOkB k_Mo_isAtom m_Mo_isAtom = true := by decide +kernel
set_option maxRecDepth 100000 in
theorem ok_Mo_head : mi_mOkB k_Mo_head m_Mo_head = true := by decide +kernel
set_option maxRecDepth 100000 in
theorem ok_Mo_pair : mi_mOkB k_Mo_pair m_Mo_pair = true := by decide +kernel
set_option maxRecDepth 100000 in
theorem ok_Mo_close : mi_mOkB k_Mo_close m_Mo_close = true := by decide +kernel
set_option maxRecDepth 100000 in
theorem ok_Mo_faultOfDraft : mi_mOkB k_Mo_faultOfDraft m_Mo_faultOfDraft = true := by decide +kernel
set_option maxRecDepth 100000 in
theorem ok_Mo_inBody : mi_mOkB k_Mo_inBody m_Mo_inBody = true := by decide +kernel
set_option maxRecDepth 100000 in
theorem ok_Mo_drop : mi_mOkB k_Mo_drop m_Mo_drop = true := by decide +kernel
set_option maxRecDepth 100000 in
theorem ok_Mo_fact : mi_mOkB k_Mo_fact m_Mo_fact = true := by decide +kernel
set_option maxRecDepth 100000 in
theorem ok_Mo_isSource : mi_mOkB k_Mo_isSource m_Mo_isSource = true := by decide +kernel
set_option maxRecDepth 100000 in
theorem ok_Mo_place : mi_mOkB k_Mo_place m_Mo_place = true := by decide +kernel
set_option maxRecDepth 100000 in
theorem ok_Mo_put : mi_mOkB k_Mo_put m_Mo_put = true := by decide +kernel
set_option maxRecDepth 100000 in
theorem ok_Mo_take : mi_mOkB k_Mo_take m_Mo_take = true := by decide +kernel
set_option maxRecDepth 100000 in
theorem ok_Mo_acyclic : mi_mOkB k_Mo_acyclic m_Mo_acyclic = true := by decide +kernel
