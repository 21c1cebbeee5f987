set_option maxRecDepth 100000 in
theorem ok_MC_acyclic : mi_mOkB k_MC_acyclic m_MC_acyclic = true := by decide +kernel
set_option maxRecDepth 100000 in
theorem ok_Gr_clear : mi_mOkB k_Gr_clear m_Gr_clear = true := by decide +kernel
set_option maxRecDepth 100000 in
theorem ok_Gr_addEdges : mi_mOkB k_Gr_addEdges m_Gr_addEdges = true := by decide +kernel
set_option maxRecDepth 100000 in
theorem ok_Gr_freePositions : mi_mOkB k_Gr_freePositions m_Gr_freePositions = true := by decide +kernel
set_option maxRecDepth 100000 in
theorem ok_Ru_isFree : mi_mOkB k_Ru_isFree m_Ru_isFree = true := by decide +kernel
set_option maxRecDepth 100000 in
theorem ok_At_positionsOf : mi_mOkB k_At_positionsOf m_At_positionsOf = true := by decide +kernel
set_option maxRecDepth 100000 in
theorem ok_Gr_addEdgesFrom : mi_mOkB k_Gr_addEdgesFrom m_Gr_addEdgesFrom = true := by decide +kernel
set_option maxRecDepth 100000 in
theorem ok_Gr_hasSpecialCycle : mi_mOkB k_Gr_hasSpecialCycle m_Gr_hasSpecialCycle = true := by decide +kernel
set_option maxRecDepth 100000 in
theorem ok_Gr_closeEdges : mi_mOkB k_Gr_closeEdges m_Gr_closeEdges = true := by decide +kernel
set_option maxRecDepth 100000 in
theorem ok_MC_start : mi_mOkB k_MC_start m_MC_start = true := by decide +kernel
set_option maxRecDepth 100000 in
theorem ok_St_clearTargets : mi_mOkB k_St_clearTargets m_St_clearTargets = true := by decide +kernel
set_option maxRecDepth 100000 in
theorem ok_Re_clear : mi_mOkB k_Re_clear m_Re_clear = true := by decide +kernel
set_option maxRecDepth 100000 in
theorem ok_MC_step : mi_mOkB k_MC_step m_MC_step = true := by decide +kernel
set_option maxRecDepth 100000 in
theorem ok_MC_chaseOnce : mi_mOkB k_MC_chaseOnce m_MC_chaseOnce = true := by decide +kernel
set_option maxRecDepth 100000 in
theorem ok_Se_forgetValues : mi_mOkB k_Se_forgetValues m_Se_forgetValues = true := by decide +kernel
set_option maxRecDepth 100000 in
theorem ok_Ru_settledBy : mi_mOkB k_Ru_settledBy m_Ru_settledBy = true := by decide +kernel
set_option maxRecDepth 100000 in
theorem ok_Se_findUnsatisfied : mi_mOkB k_Se_findUnsatisfied m_Se_findUnsatisfied = true := by decide +kernel
set_option maxRecDepth 100000 in
theorem ok_Se_isSatisfied : mi_mOkB k_Se_isSatisfied m_Se_isSatisfied = true := by decide +kernel
set_option maxRecDepth 100000 in
theorem ok_Se_knownAreFacts : mi_mOkB k_Se_knownAreFacts m_Se_knownAreFacts = true := by decide +kernel
set_option maxRecDepth 100000 in
theorem ok_Se_firstValue : mi_mOkB k_Se_firstValue m_Se_firstValue = true := by decide +kernel
set_option maxRecDepth 100000 in
theorem ok_Se_secondValue : mi_mOkB k_Se_secondValue m_Se_secondValue = true := by decide +kernel
set_option maxRecDepth 100000 in
theorem ok_Se_isFact : mi_mOkB k_Se_isFact m_Se_isFact = true := by decide +kernel
set_option maxRecDepth 100000 in
theorem ok_Se_canHold : mi_mOkB k_Se_canHold m_Se_canHold = true := by decide +kernel
set_option maxRecDepth 100000 in
theorem ok_Se_allowedValues : mi_mOkB k_Se_allowedValues m_Se_allowedValues = true := by decide +kernel
set_option maxRecDepth 100000 in
theorem ok_Se_allowedBy : mi_mOkB k_Se_allowedBy m_Se_allowedBy = true := by decide +kernel
set_option maxRecDepth 100000 in
theorem ok_MC_makeEqual : mi_mOkB k_MC_makeEqual m_MC_makeEqual = true := by decide +kernel
set_option maxRecDepth 100000 in
theorem ok_St_replaceOne : mi_mOkB k_St_replaceOne m_St_replaceOne = true := by decide +kernel
set_option maxRecDepth 100000 in
theorem ok_St_replaceAll : mi_mOkB k_St_replaceAll m_St_replaceAll = true := by decide +kernel
set_option maxRecDepth 100000 in
theorem ok_Re_addRow : mi_mOkB k_Re_addRow m_Re_addRow = true := by decide +kernel
set_option maxRecDepth 100000 in
theorem ok_MC_makeFacts : mi_mOkB k_MC_makeFacts m_MC_makeFacts = true := by decide +kernel
