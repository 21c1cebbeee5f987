theorem ok_law_len : m_law.2.2.length ≤ 600 := by decide +kernel
theorem mi_chunk {k n : Nat} (h : (List.range 30).all (fun i => mi_lawB (k + i)) = true) (h1 : k ≤ n) (h2 : n < k + 30) : mi_lawB n = true := by
  have := List.all_eq_true.mp h (n - k) (List.mem_range.mpr (by omega))
  rw [show k + (n - k) = n by omega] at this
  exact this
theorem ok_law (pc : Nat) (h : pc < m_law.2.2.length) : mi_lawB pc = true := by
  have hl := ok_law_len
  by_cases h0 : pc < 30
  · exact mi_chunk ok_law0 (by omega) (by omega)
  by_cases h1 : pc < 60
  · exact mi_chunk ok_law1 (by omega) (by omega)
  by_cases h2 : pc < 90
  · exact mi_chunk ok_law2 (by omega) (by omega)
  by_cases h3 : pc < 120
  · exact mi_chunk ok_law3 (by omega) (by omega)
  by_cases h4 : pc < 150
  · exact mi_chunk ok_law4 (by omega) (by omega)
  by_cases h5 : pc < 180
  · exact mi_chunk ok_law5 (by omega) (by omega)
  by_cases h6 : pc < 210
  · exact mi_chunk ok_law6 (by omega) (by omega)
  by_cases h7 : pc < 240
  · exact mi_chunk ok_law7 (by omega) (by omega)
  by_cases h8 : pc < 270
  · exact mi_chunk ok_law8 (by omega) (by omega)
  by_cases h9 : pc < 300
  · exact mi_chunk ok_law9 (by omega) (by omega)
  by_cases h10 : pc < 330
  · exact mi_chunk ok_law10 (by omega) (by omega)
  by_cases h11 : pc < 360
  · exact mi_chunk ok_law11 (by omega) (by omega)
  by_cases h12 : pc < 390
  · exact mi_chunk ok_law12 (by omega) (by omega)
  by_cases h13 : pc < 420
  · exact mi_chunk ok_law13 (by omega) (by omega)
  by_cases h14 : pc < 450
  · exact mi_chunk ok_law14 (by omega) (by omega)
  by_cases h15 : pc < 480
  · exact mi_chunk ok_law15 (by omega) (by omega)
  by_cases h16 : pc < 510
  · exact mi_chunk ok_law16 (by omega) (by omega)
  by_cases h17 : pc < 540
  · exact mi_chunk ok_law17 (by omega) (by omega)
  by_cases h18 : pc < 570
  · exact mi_chunk ok_law18 (by omega) (by omega)
  exact mi_chunk ok_law19 (by omega) (by omega)
def mi_allFrom (off : Nat) (l : List mi_M) : Prop := ∀ i M, l[i]? = some M → mi_mOkB (off + i) M = true
theorem mi_an (off : Nat) : mi_allFrom off [] := fun i M h => by simp at h
theorem mi_ac {off : Nat} {a : mi_M} {l : List mi_M} (h : mi_mOkB off a = true) (t : mi_allFrom (off + 1) l) : mi_allFrom off (a :: l) := by
  intro i M hi
  cases i with
  | zero =>
    rw [List.getElem?_cons_zero] at hi
    cases hi
    exact h
  | succ i =>
    rw [List.getElem?_cons_succ] at hi
    have := t i M hi
    rw [show off + (i + 1) = off + 1 + i by omega]
    exact this
set_option maxRecDepth 100000 in
theorem mi_all : mi_allFrom 0 mi_P := mi_ac ok_MC_init (mi_ac ok_St_init (mi_ac ok_Re_init (mi_ac ok_Se_init (mi_ac ok_Fo_init (mi_ac ok_Gr_init (mi_ac ok_Ru_init (mi_ac ok_At_init (mi_ac ok_MC_opn (mi_ac ok_Ru_begin (mi_ac ok_MC_body (mi_ac ok_MC_isAtom (mi_ac ok_MC_isRelation (mi_ac ok_MC_isVariable (mi_ac ok_At_add (mi_ac ok_MC_head (mi_ac ok_MC_pair (mi_ac ok_Ru_setPair (mi_ac ok_MC_close (mi_ac ok_Ru_faultInside (mi_ac ok_At_countSources (mi_ac ok_At_isSourceAtom (mi_ac ok_At_relationOf (mi_ac ok_MC_isSource (mi_ac ok_At_hasVariable (mi_ac ok_At_firstOf (mi_ac ok_At_secondOf (mi_ac ok_MC_keepQuery (mi_ac ok_MC_keepDependency (mi_ac ok_MC_drop (mi_ac ok_MC_fact (mi_ac ok_MC_isConstant (mi_ac ok_Re_has (mi_ac ok_MC_isValue (mi_ac ok_MC_isIn (mi_ac ok_St_sourceCount (mi_ac ok_Re_add (mi_ac ok_MC_take (mi_ac ok_Re_remove (mi_ac ok_MC_acyclic (mi_ac ok_Gr_clear (mi_ac ok_Gr_addEdges (mi_ac ok_Gr_freePositions (mi_ac ok_Ru_isFree (mi_ac ok_At_positionsOf (mi_ac ok_Gr_addEdgesFrom (mi_ac ok_Gr_hasSpecialCycle (mi_ac ok_Gr_closeEdges (mi_ac ok_MC_start (mi_ac ok_St_clearTargets (mi_ac ok_Re_clear (mi_ac ok_MC_step (mi_ac ok_MC_chaseOnce (mi_ac ok_Se_forgetValues (mi_ac ok_Ru_settledBy (mi_ac ok_Se_findUnsatisfied (mi_ac ok_Se_isSatisfied (mi_ac ok_Se_knownAreFacts (mi_ac ok_Se_firstValue (mi_ac ok_Se_secondValue (mi_ac ok_Se_isFact (mi_ac ok_Se_canHold (mi_ac ok_Se_allowedValues (mi_ac ok_Se_allowedBy (mi_ac ok_MC_makeEqual (mi_ac ok_St_replaceOne (mi_ac ok_St_replaceAll (mi_ac ok_Re_addRow (mi_ac ok_MC_makeFacts (mi_ac ok_Se_nameFree (mi_ac ok_St_targetValues (mi_ac ok_MC_bitAt (mi_ac ok_St_targetCount (mi_ac ok_Se_countMissing (mi_ac ok_Se_isSameAsEarlier (mi_ac ok_Se_addFacts (mi_ac ok_MC_outcome (mi_ac ok_MC_run (mi_ac ok_MC_reset (mi_ac ok_MC_state (mi_ac ok_MC_size (mi_ac ok_MC_at (mi_ac ok_Re_factAt (mi_ac ok_In_bitCount (mi_ac ok_MC_nulls (mi_ac ok_MC_fold (mi_ac ok_Fo_findMap (mi_ac ok_Fo_tellFrom (mi_ac ok_Fo_losesNull (mi_ac ok_Fo_imageOf (mi_ac ok_Fo_keepsSoFar (mi_ac ok_Re_row (mi_ac ok_Re_column (mi_ac ok_MC_answers (mi_ac ok_Se_certainSeconds (mi_ac ok_MC_answer (mi_ac ok_Mo_init (mi_ac ok_Mo_opn (mi_ac ok_Mo_body (mi_ac ok_Mo_isAtom (mi_ac ok_Mo_head (mi_ac ok_Mo_pair (mi_ac ok_Mo_close (mi_ac ok_Mo_faultOfDraft (mi_ac ok_Mo_inBody (mi_ac ok_Mo_drop (mi_ac ok_Mo_fact (mi_ac ok_Mo_isSource (mi_ac ok_Mo_place (mi_ac ok_Mo_put (mi_ac ok_Mo_take (mi_ac ok_Mo_acyclic (mi_ac ok_Mo_edgesOf (mi_ac ok_Mo_bodyAt (mi_ac ok_Mo_inHead (mi_ac ok_Mo_position (mi_ac ok_Mo_headAt (mi_ac ok_Mo_start (mi_ac ok_Mo_step (mi_ac ok_Mo_next (mi_ac ok_Mo_holds (mi_ac ok_Mo_satisfied (mi_ac ok_Mo_begin (mi_ac ok_Mo_fits (mi_ac ok_Mo_give (mi_ac ok_Mo_equate (mi_ac ok_Mo_sameTold (mi_ac ok_Mo_replace (mi_ac ok_Mo_add (mi_ac ok_Mo_generate (mi_ac ok_Mo_occurs (mi_ac ok_Mo_run (mi_ac ok_Mo_reset (mi_ac ok_Mo_state (mi_ac ok_Mo_size (mi_ac ok_Mo_at (mi_ac ok_Mo_nulls (mi_ac ok_Mo_fold (mi_ac ok_Mo_leavesOut (mi_ac ok_Mo_keeps (mi_ac ok_Mo_answers (mi_ac ok_Mo_findCertain (mi_ac ok_Mo_answer (mi_an _)))))))))))))))))))))))))))))))))))))))))))))))))))))))))))))))))))))))))))))))))))))))))))))))))))))))))))))))))))))))))))))))))))))))))))))))
theorem mi_mOk {k : Nat} {M : mi_M} (h : mi_mOkB k M = true) : ∃ y code np, mi_nm[k]? = some (y, code, np) ∧ Cond.code y code M.2.1 M.1 ∈ mi_good ∧ plainName y.cls = true ∧ y.cls ≠ "java/lang/invoke/MethodHandle" ∧ y.cls ≠ "java/lang/invoke/VarHandle" ∧ (parseMethodDescriptor y.desc).map (fun d => d.parameters.length) = some np ∧ M.2.1 + 19 ≤ mi_KK ∧ (y.name = "<init>" → M.1 = none) ∧ (∀ pc q, M.2.2[pc]? = some (some q) → mi_okB y.cls code M.2.1 (decide (y.name = "<init>")) pc q = true) := by
  unfold mi_mOkB at h
  split at h
  · rename_i y code np hn
    simp only [Bool.and_eq_true, decide_eq_true_eq, List.all_eq_true, List.mem_range, Bool.or_eq_true, Bool.not_eq_true', decide_eq_false_iff_not] at h
    obtain ⟨⟨⟨⟨⟨⟨⟨h1, h2⟩, h3⟩, h4⟩, h5⟩, h6⟩, h7⟩, h8⟩ := h
    refine ⟨y, code, np, hn, mi_in_good h1, h2, h3, h4, h5, h6, fun q => h7.resolve_left (fun z => z q), fun pc q hq => ?_⟩
    have := h8 pc (List.getElem?_eq_some_iff.mp hq).1
    rw [hq] at this
    exact this
  · cases h
theorem mi_nmOk_all : mi_nmOk mi_P := by
  intro k M h
  have hk := mi_all k M h
  rw [Nat.zero_add] at hk
  obtain ⟨y, code, np, h1, h2, h3, h4, h5, h6, h7, -, h8⟩ := mi_mOk hk
  exact ⟨y, code, np, h1, h2, h3, h4, h5, h6, h7, h8⟩
theorem mi_iniOk (a : Nat) (q : MethodName × ByteArray × Nat) (M : mi_M) (hq : mi_nm[a]? = some q) (hn : q.1.name = "<init>") (h : mi_P[a]? = some M) : M.1 = none := by
  have hk := mi_all a M h
  rw [Nat.zero_add] at hk
  obtain ⟨y, code, np, h1, -, -, -, -, -, -, h7, -⟩ := mi_mOk hk
  rw [hq] at h1
  cases h1
  exact h7 hn
