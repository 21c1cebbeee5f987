set_option maxRecDepth 100000 in
theorem ok_Se_nameFree : mi_mOkB k_Se_nameFree m_Se_nameFree = true := by decide +kernel
set_option maxRecDepth 100000 in
theorem ok_St_targetValues : mi_mOkB k_St_targetValues m_St_targetValues = true := by decide +kernel
set_option maxRecDepth 100000 in
theorem ok_MC_bitAt : mi_mOkB k_MC_bitAt m_MC_bitAt = true := by decide +kernel
set_option maxRecDepth 100000 in
theorem ok_St_targetCount : mi_mOkB k_St_targetCount m_St_targetCount = true := by decide +kernel
set_option maxRecDepth 100000 in
theorem ok_Se_countMissing : mi_mOkB k_Se_countMissing m_Se_countMissing = true := by decide +kernel
set_option maxRecDepth 100000 in
theorem ok_Se_isSameAsEarlier : mi_mOkB k_Se_isSameAsEarlier m_Se_isSameAsEarlier = true := by decide +kernel
set_option maxRecDepth 100000 in
theorem ok_Se_addFacts : mi_mOkB k_Se_addFacts m_Se_addFacts = true := by decide +kernel
set_option maxRecDepth 100000 in
theorem ok_MC_outcome : mi_mOkB k_MC_outcome m_MC_outcome = true := by decide +kernel
set_option maxRecDepth 100000 in
theorem ok_MC_run : mi_mOkB k_MC_run m_MC_run = true := by decide +kernel
set_option maxRecDepth 100000 in
theorem ok_MC_reset : mi_mOkB k_MC_reset m_MC_reset = true := by decide +kernel
set_option maxRecDepth 100000 in
theorem ok_MC_state : mi_mOkB k_MC_state m_MC_state = true := by decide +kernel
set_option maxRecDepth 100000 in
theorem ok_MC_size : mi_mOkB k_MC_size m_MC_size = true := by decide +kernel
set_option maxRecDepth 100000 in
theorem ok_MC_at : mi_mOkB k_MC_at m_MC_at = true := by decide +kernel
set_option maxRecDepth 100000 in
theorem ok_Re_factAt : mi_mOkB k_Re_factAt m_Re_factAt = true := by decide +kernel
set_option maxRecDepth 100000 in
theorem ok_In_bitCount : mi_mOkB k_In_bitCount m_In_bitCount = true := by decide +kernel
set_option maxRecDepth 100000 in
theorem ok_MC_nulls : mi_mOkB k_MC_nulls m_MC_nulls = true := by decide +kernel
set_option maxRecDepth 100000 in
theorem ok_MC_fold : mi_mOkB k_MC_fold m_MC_fold = true := by decide +kernel
set_option maxRecDepth 100000 in
theorem ok_Fo_findMap : mi_mOkB k_Fo_findMap m_Fo_findMap = true := by decide +kernel
set_option maxRecDepth 100000 in
theorem ok_Fo_tellFrom : mi_mOkB k_Fo_tellFrom m_Fo_tellFrom = true := by decide +kernel
set_option maxRecDepth 100000 in
theorem ok_Fo_losesNull : mi_mOkB k_Fo_losesNull m_Fo_losesNull = true := by decide +kernel
set_option maxRecDepth 100000 in
theorem ok_Fo_imageOf : mi_mOkB k_Fo_imageOf m_Fo_imageOf = true := by decide +kernel
set_option maxRecDepth 100000 in
theorem ok_Fo_keepsSoFar : mi_mOkB k_Fo_keepsSoFar m_Fo_keepsSoFar = true := by decide +kernel
set_option maxRecDepth 100000 in
theorem ok_Re_row : mi_mOkB k_Re_row m_Re_row = true := by decide +kernel
set_option maxRecDepth 100000 in
theorem ok_Re_column : mi_mOkB k_Re_column m_Re_column = true := by decide +kernel
set_option maxRecDepth 100000 in
theorem ok_MC_answers : mi_mOkB k_MC_answers m_MC_answers = true := by decide +kernel
set_option maxRecDepth 100000 in
theorem ok_Se_certainSeconds : mi_mOkB k_Se_certainSeconds m_Se_certainSeconds = true := by decide +kernel
set_option maxRecDepth 100000 in
theorem ok_MC_answer : mi_mOkB k_MC_answer m_MC_answer = true := by decide +kernel
set_option maxRecDepth 100000 in
theorem ok_Mo_init : mi_mOkB k_Mo_init m_Mo_init = true := by decide +kernel
set_option maxRecDepth 100000 in
theorem ok_Mo_opn : mi_mOkB k_Mo_opn m_Mo_opn = true := by decide +kernel
