/-! the tables are as code and tables have them: by computing -/
def mi_mOkB (k : Nat) (M : mi_M) : Bool := match mi_nm[k]? with
  | some (y, code, np) => mi_in (.code y code M.2.1 M.1) && plainName y.cls && decide (y.cls ≠ "java/lang/invoke/MethodHandle") && decide (y.cls ≠ "java/lang/invoke/VarHandle") && decide ((parseMethodDescriptor y.desc).map (fun d => d.parameters.length) = some np) && decide (M.2.1 + 19 ≤ mi_KK) && (!decide (y.name = "<init>") || decide (M.1 = none)) && (List.range M.2.2.length).all (fun pc => match M.2.2[pc]? with
    | some (some q) => mi_okB y.cls code M.2.1 (decide (y.name = "<init>")) pc q
    | _ => true)
  | none => false
def mi_cOkB (a : Nat) : Bool := match mi_cl[a]? with
  | some (C, T, N) => (u_ws C T N).all mi_in && (List.range N).all (fun k => decide (parseFieldDescriptor (T k).2.2.1 = some (mi_ft a k))) && (List.range N).all (fun x => (List.range N).all (fun y => decide (x = y) || decide ((T x).2.1 ≠ (T y).2.1))) && (List.range N).all (fun k => decide (defaultValue (mi_ft a k) = vp_V (mi_dflt a) k)) && decide ((mi_dflt a).length = N) && (List.range N).all (fun k => decide (vp_V (mi_dflt a) k = .int 0) || decide (vp_V (mi_dflt a) k = .null))
  | none => false
set_option maxRecDepth 100000 in
theorem ok_cl : (List.range 9).all mi_cOkB = true := by decide +kernel
theorem mi_clOk_all : mi_clOk := by
  intro a C T N h
  have ha : a < 9 := by
    have := (List.getElem?_eq_some_iff.mp h).1
    exact this
  have hb := List.all_eq_true.mp ok_cl a (List.mem_range.mpr ha)
  unfold mi_cOkB at hb
  rw [h] at hb
  simp only [Bool.and_eq_true, List.all_eq_true, List.mem_range, decide_eq_true_eq, Bool.or_eq_true] at hb
  obtain ⟨⟨⟨⟨⟨h1, h2⟩, h3⟩, h4⟩, h5⟩, h6⟩ := hb
  exact ⟨fun w hw => mi_in_good (h1 w hw), h2, fun x hx y hy hxy => (h3 x hx y hy).resolve_left hxy, h4, h5, h6⟩
set_option maxRecDepth 100000 in
theorem ok_MC_init : mi_mOkB k_MC_init m_MC_init = true := by decide +kernel
set_option maxRecDepth 100000 in
theorem ok_St_init : mi_mOkB k_St_init m_St_init = true := by decide +kernel
set_option maxRecDepth 100000 in
theorem ok_Re_init : mi_mOkB k_Re_init m_Re_init = true := by decide +kernel
set_option maxRecDepth 100000 in
theorem ok_Se_init : mi_mOkB k_Se_init m_Se_init = true := by decide +kernel
set_option maxRecDepth 100000 in
theorem ok_Fo_init : mi_mOkB k_Fo_init m_Fo_init = true := by decide +kernel
set_option maxRecDepth 100000 in
theorem ok_Gr_init : mi_mOkB k_Gr_init m_Gr_init = true := by decide +kernel
set_option maxRecDepth 100000 in
theorem ok_Ru_init : mi_mOkB k_Ru_init m_Ru_init = true := by decide +kernel
set_option maxRecDepth 100000 in
theorem ok_At_init : mi_mOkB k_At_init m_At_init = true := by decide +kernel
set_option maxRecDepth 100000 in
theorem ok_MC_opn : mi_mOkB k_MC_opn m_MC_opn = true := by decide +kernel
set_option maxRecDepth 100000 in
theorem ok_Ru_begin : mi_mOkB k_Ru_begin m_Ru_begin = true := by decide +kernel
set_option maxRecDepth 100000 in
theorem ok_MC_body : mi_mOkB k_MC_body m_MC_body = true := by decide +kernel
set_option maxRecDepth 100000 in
theorem ok_MC_isAtom : mi_mOkB k_MC_isAtom m_MC_isAtom = true := by decide +kernel
set_option maxRecDepth 100000 in
theorem ok_MC_isRelation : mi_mOkB k_MC_isRelation m_MC_isRelation = true := by decide +kernel
set_option maxRecDepth 100000 in
theorem ok_MC_isVariable : mi_mOkB k_MC_isVariable m_MC_isVariable = true := by decide +kernel
set_option maxRecDepth 100000 in
theorem ok_At_add : mi_mOkB k_At_add m_At_add = true := by decide +kernel
set_option maxRecDepth 100000 in
theorem ok_MC_head : mi_mOkB k_MC_head m_MC_head = true := by decide +kernel
set_option maxRecDepth 100000 in
theorem ok_MC_pair : mi_mOkB k_MC_pair m_MC_pair = true := by decide +kernel
set_option maxRecDepth 100000 in
theorem ok_Ru_setPair : mi_mOkB k_Ru_setPair m_Ru_setPair = true := by decide +kernel
set_option maxRecDepth 100000 in
theorem ok_MC_close : mi_mOkB k_MC_close m_MC_close = true := by decide +kernel
set_option maxRecDepth 100000 in
theorem ok_Ru_faultInside : mi_mOkB k_Ru_faultInside m_Ru_faultInside = true := by decide +kernel
set_option maxRecDepth 100000 in
theorem ok_At_countSources : mi_mOkB k_At_countSources m_At_countSources = true := by decide +kernel
set_option maxRecDepth 100000 in
theorem ok_At_isSourceAtom : mi_mOkB k_At_isSourceAtom m_At_isSourceAtom = true := by decide +kernel
set_option maxRecDepth 100000 in
theorem ok_At_relationOf : mi_mOkB k_At_relationOf m_At_relationOf = true := by decide +kernel
set_option maxRecDepth 100000 in
theorem ok_MC_isSource : mi_mOkB k_MC_isSource m_MC_isSource = true := by decide +kernel
set_option maxRecDepth 100000 in
theorem ok_At_hasVariable : mi_mOkB k_At_hasVariable m_At_hasVariable = true := by decide +kernel
set_option maxRecDepth 100000 in
theorem ok_At_firstOf : mi_mOkB k_At_firstOf m_At_firstOf = true := by decide +kernel
set_option maxRecDepth 100000 in
theorem ok_At_secondOf : mi_mOkB k_At_secondOf m_At_secondOf = true := by decide +kernel
set_option maxRecDepth 100000 in
theorem ok_MC_keepQuery : mi_mOkB k_MC_keepQuery m_MC_keepQuery = true := by decide +kernel
set_option maxRecDepth 100000 in
theorem ok_MC_keepDependency : mi_mOkB k_MC_keepDependency m_MC_keepDependency = true := by decide +kernel
set_option maxRecDepth 100000 in
theorem ok_MC_drop : mi_mOkB k_MC_drop m_MC_drop = true := by decide +kernel
set_option maxRecDepth 100000 in
theorem ok_MC_fact : mi_mOkB k_MC_fact m_MC_fact = true := by decide +kernel
set_option maxRecDepth 100000 in
theorem ok_MC_isConstant : mi_mOkB k_MC_isConstant m_MC_isConstant = true := by decide +kernel
set_option maxRecDepth 100000 in
theorem ok_Re_has : mi_mOkB k_Re_has m_Re_has = true := by decide +kernel
set_option maxRecDepth 100000 in
theorem ok_MC_isValue : mi_mOkB k_MC_isValue m_MC_isValue = true := by decide +kernel
set_option maxRecDepth 100000 in
theorem ok_MC_isIn : mi_mOkB k_MC_isIn m_MC_isIn = true := by decide +kernel
set_option maxRecDepth 100000 in
theorem ok_St_sourceCount : mi_mOkB k_St_sourceCount m_St_sourceCount = true := by decide +kernel
set_option maxRecDepth 100000 in
theorem ok_Re_add : mi_mOkB k_Re_add m_Re_add = true := by decide +kernel
set_option maxRecDepth 100000 in
theorem ok_MC_take : mi_mOkB k_MC_take m_MC_take = true := by decide +kernel
set_option maxRecDepth 100000 in
theorem ok_Re_remove : mi_mOkB k_Re_remove m_Re_remove = true := by decide +kernel
