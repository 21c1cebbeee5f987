/-! WHAT THE SMALL MACHINE ANSWERS, THE MACHINE ANSWERS. B: where its cells begin; b: the script's cell; ca: the array types' numbers. -/
def mi_tr (B b : Nat) : Value → Value
  | .int x => .int x
  | .ref k => .ref (B + k)
  | .retAddr _ => .ref b
  | _ => .null
theorem mi_tr_cat (B b : Nat) (v : Value) : (mi_tr B b v).category = 1 := by cases v <;> rfl
def mi_tE (B b : Nat) (ca : Nat → ClassId) : va_E → va_E
  | .inr (c, fs) => .inr (c, fs.map (mi_tr B b))
  | .inl (t, n, .inl f) => .inl (ca t, n, .inl f)
  | .inl (t, n, .inr (.inl f)) => .inl (ca t, n, .inr (.inl f))
  | .inl (t, n, .inr (.inr (.inl f))) => .inl (ca t, n, .inr (.inr (.inl f)))
  | .inl (t, n, .inr (.inr (.inr (.inl f)))) => .inl (ca t, n, .inr (.inr (.inr (.inl f))))
  | .inl (t, n, .inr (.inr (.inr (.inr g)))) => .inl (ca t, n, .inr (.inr (.inr (.inr (fun j => (g j).map (fun k => B + k))))))
def mi_ws (B b : Nat) (ca : Nat → ClassId) (w : mi_H) : va_W := w.mapIdx (fun k e => (B + k, mi_tE B b ca e))
def mi_es : va_E → Nat
  | .inr (_, fs) => fs.length
  | .inl (_, n, _) => n
def mi_sz (w : mi_H) : Nat := (w.map mi_es).sum
theorem mi_ws_get {B b : Nat} {ca : Nat → ClassId} {w : mi_H} {k : Nat} {e : va_E} (h : w[k]? = some e) : (mi_ws B b ca w)[k]? = some (B + k, mi_tE B b ca e) := by
  simp [mi_ws, List.getElem?_mapIdx, h]
theorem mi_ws_of {B b : Nat} {ca : Nat → ClassId} {w : mi_H} {k : Nat} {q : Nat × va_E} (h : (mi_ws B b ca w)[k]? = some q) : ∃ e, w[k]? = some e ∧ q = (B + k, mi_tE B b ca e) := by
  simp only [mi_ws, List.getElem?_mapIdx, Option.map_eq_some_iff] at h
  obtain ⟨e, h1, h2⟩ := h
  exact ⟨e, h1, h2.symm⟩
theorem mi_ws_set {B b : Nat} {ca : Nat → ClassId} (w : mi_H) (k : Nat) (e : va_E) : (mi_ws B b ca w).set k (B + k, mi_tE B b ca e) = mi_ws B b ca (w.set k e) := by
  apply List.ext_getElem?
  intro i
  simp only [mi_ws, List.getElem?_set, List.getElem?_mapIdx, List.length_mapIdx]
  by_cases h : k = i
  · subst h
    by_cases hk : k < w.length
    · simp [hk]
    · simp [hk]
  · simp [h]
theorem mi_ws_push {B b : Nat} {ca : Nat → ClassId} (w : mi_H) (e : va_E) : mi_ws B b ca (w ++ [e]) = mi_ws B b ca w ++ [(B + w.length, mi_tE B b ca e)] := by
  simp [mi_ws, List.mapIdx_append]
theorem mi_ws_D {B b : Nat} {ca : Nat → ClassId} (w : mi_H) : va_D (fun q => B ≤ q) (mi_ws B b ca w) := by
  refine ⟨fun i j x y hi hj hxy => ?_, fun k q hk => ?_⟩
  · obtain ⟨e1, -, rfl⟩ := mi_ws_of hi
    obtain ⟨e2, -, rfl⟩ := mi_ws_of hj
    simp at hxy
    exact hxy
  · obtain ⟨e1, -, rfl⟩ := mi_ws_of hk
    exact Nat.le_add_right B k
theorem mi_sz_push (w : mi_H) (e : va_E) : mi_sz (w ++ [e]) = mi_sz w + mi_es e := by simp [mi_sz]
theorem mi_sz_set {w : mi_H} {k : Nat} {e e' : va_E} (h : w[k]? = some e) (he : mi_es e' = mi_es e) : mi_sz (w.set k e') = mi_sz w := by
  have hw : (w.set k e').map mi_es = w.map mi_es := by
    apply List.ext_getElem?
    intro i
    simp only [List.getElem?_map, List.getElem?_set]
    by_cases hi : k = i
    · subst hi
      obtain ⟨hk, hk2⟩ := List.getElem?_eq_some_iff.mp h
      simp [hk, he, hk2]
    · simp [hi]
  simp [mi_sz, hw]
/-! locals -/
def mi_ll (B b : Nat) (L : mi_L) : List (Nat × Value) := (List.range L.length).filterMap (fun j => match L[j]? with
  | some (some v) => some (j, mi_tr B b v)
  | _ => none)
theorem mi_ll_in {B b : Nat} {L : mi_L} {q : Nat × Value} : q ∈ mi_ll B b L ↔ ∃ v, L[q.1]? = some (some v) ∧ q.2 = mi_tr B b v := by
  unfold mi_ll
  rw [List.mem_filterMap]
  constructor
  · rintro ⟨j, -, h⟩
    split at h
    · rename_i v hv
      cases h
      exact ⟨v, hv, rfl⟩
    · cases h
  · rintro ⟨v, h1, h2⟩
    refine ⟨q.1, List.mem_range.mpr (List.getElem?_eq_some_iff.mp h1).1, ?_⟩
    rw [h1]
    show some (q.1, mi_tr B b v) = some q
    rw [← h2]
def mi_has (B b : Nat) (ls : Array Slot) (nL : Nat) (L : mi_L) : Prop := lv_has ls nL (mi_ll B b L) ∧ L.length = nL
theorem mi_has_get {B b nL : Nat} {ls : Array Slot} {L : mi_L} (h : mi_has B b ls nL L) {j : Nat} {v : Value} (hj : L[j]? = some (some v)) : ls[j]? = some (.val (mi_tr B b v)) := h.1.2.2 (j, _) (mi_ll_in.mpr ⟨v, hj, rfl⟩)
theorem mi_has_set {B b nL : Nat} {ls : Array Slot} {L : mi_L} {i : Nat} {v : Value} (hL : L.length = nL) (h : lv_has ls nL ((i, mi_tr B b v) :: (mi_ll B b L).filter (fun q => !(q.1 == i) && !(q.1 + 1 == i && q.2.category == 2)))) : mi_has B b ls nL (L.set i (some v)) := by
  refine ⟨⟨h.1, h.2.1, fun q hq => h.2.2 q ?_⟩, by rw [List.length_set, hL]⟩
  obtain ⟨x, h1, h2⟩ := mi_ll_in.mp hq
  rw [List.getElem?_set] at h1
  by_cases hi : i = q.1
  · rw [if_pos hi] at h1
    split at h1
    · cases h1
      exact List.mem_cons.mpr (Or.inl (by rw [← h2, hi]))
    · cases h1
  · rw [if_neg hi] at h1
    refine List.mem_cons_of_mem _ (List.mem_filter.mpr ⟨mi_ll_in.mpr ⟨x, h1, h2⟩, ?_⟩)
    have : ¬ q.1 = i := fun z => hi z.symm
    simp [this, h2, mi_tr_cat]
theorem mi_lgsl (B b : Nat) (as : List Value) : lg_sl (as.map (mi_tr B b)) = as.map (fun v => .val (mi_tr B b v)) := by
  induction as with
  | nil => rfl
  | cons v r ih =>
    have e : lg_sl ((v :: r).map (mi_tr B b)) = (if (mi_tr B b v).category = 2 then [.val (mi_tr B b v), .second] else [.val (mi_tr B b v)]) ++ lg_sl (r.map (mi_tr B b)) := by simp [lg_sl]
    rw [e, ih, mi_tr_cat]
    rfl
theorem mi_args (B b : Nat) : ∀ (as : List Value) (i : Nat) (q : Nat × Value), (∃ j v, as[j]? = some v ∧ q = (i + j, mi_tr B b v)) → q ∈ lv_args i (as.map (mi_tr B b))
  | [], i, q, h => by
    obtain ⟨j, v, h1, -⟩ := h
    simp at h1
  | v :: r, i, q, h => by
    obtain ⟨j, u, h1, h2⟩ := h
    have e : lv_args i ((v :: r).map (mi_tr B b)) = (i, mi_tr B b v) :: lv_args (i + 1) (r.map (mi_tr B b)) := by
      simp only [List.map_cons, lv_args, mi_tr_cat]
      rfl
    rw [e]
    cases j with
    | zero =>
      rw [List.getElem?_cons_zero] at h1
      cases h1
      exact List.mem_cons.mpr (Or.inl h2)
    | succ j =>
      rw [List.getElem?_cons_succ] at h1
      exact List.mem_cons_of_mem _ (mi_args B b r (i + 1) q ⟨j, u, h1, by rw [h2]; congr 1; omega⟩)
theorem mi_has_ent {B b nL : Nat} {as : List Value} (h : as.length ≤ nL) (m : MethodId) : ∃ ls, entryFrame m (as.map (mi_tr B b)).toArray nL = F0 m 0 ls [] ∧ mi_has B b ls nL (mi_ent nL as) := by
  have hlen : (lg_sl (as.map (mi_tr B b))).length ≤ nL := by rw [mi_lgsl, List.length_map]; exact h
  have hl := lv_entry (as.map (mi_tr B b)) hlen
  refine ⟨_, lg_entry_eq m _ nL, ⟨⟨hl.1, hl.2.1, fun q hq => hl.2.2 q ?_⟩, ?_⟩⟩
  · obtain ⟨v, h1, h2⟩ := mi_ll_in.mp hq
    refine mi_args B b as 0 q ⟨q.1, v, ?_, by rw [Nat.zero_add, ← h2]⟩
    unfold mi_ent at h1
    by_cases hq1 : q.1 < as.length
    · rw [List.getElem?_append_left (by rw [List.length_map]; exact hq1), List.getElem?_map] at h1
      cases ha : as[q.1]? with
      | none => rw [ha] at h1; cases h1
      | some u => rw [ha] at h1; cases h1; rfl
    · rw [List.getElem?_append_right (by rw [List.length_map]; omega), List.getElem?_replicate] at h1
      split at h1 <;> cases h1
  · unfold mi_ent
    rw [List.length_append, List.length_map, List.length_replicate]
    omega
/-! the words that calls hand on -/
def mi_isGood (w : Cond) : Bool := (w.onTables && w.keeps) || (match w with
  | .arrayClass _ => true
  | _ => false)
def mi_isNest (w : Cond) : Bool := match w with
  | .fieldLinkNest _ _ _ _ _ _ => true
  | .methodLinkNest _ _ _ _ => true
  | _ => false
def mi_good : List Cond := lw_tbl.filter mi_isGood
def mi_nest : List Cond := lw_tbl.filter mi_isNest
def mi_in (w : Cond) : Bool := mi_isGood w && decide (w ∈ lw_tbl)
def mi_inN (w : Cond) : Bool := mi_isNest w && decide (w ∈ lw_tbl)
theorem mi_in_good {w : Cond} (h : mi_in w = true) : w ∈ mi_good := by
  simp only [mi_in, Bool.and_eq_true, decide_eq_true_eq] at h
  exact List.mem_filter.mpr ⟨h.2, h.1⟩
theorem mi_inN_nest {w : Cond} (h : mi_inN w = true) : w ∈ mi_nest := by
  simp only [mi_inN, Bool.and_eq_true, decide_eq_true_eq] at h
  exact List.mem_filter.mpr ⟨h.2, h.1⟩
theorem mi_good_ok {w : Cond} (h : w ∈ mi_good) : (w.onTables && w.keeps) = true ∨ ∃ ty, w = .arrayClass ty := by
  have h2 := (List.mem_filter.mp h).2
  unfold mi_isGood at h2
  rw [Bool.or_eq_true] at h2
  rcases h2 with h2 | h2
  · exact Or.inl h2
  · split at h2
    · exact Or.inr ⟨_, rfl⟩
    · cases h2
theorem mi_nest_warm {w : Cond} (h : w ∈ mi_nest) {s U : State} (hW : s.WarmedH U.vm) (hZ : va_Nw w s) : va_Nw w U := by
  have h2 := (List.mem_filter.mp h).2
  unfold mi_isNest at h2
  split at h2
  · exact va_Nw.warmF hW hZ
  · exact va_Nw.warmM hW hZ
  · cases h2
theorem mi_nest_on {w : Cond} (h : w ∈ mi_nest) : w.onTables = true := by
  have h2 := (List.mem_filter.mp h).2
  unfold mi_isNest at h2
  split at h2
  · rfl
  · rfl
  · cases h2
def mi_tys (ca : Nat → ClassId) : List (ClassId × FieldType) := (List.range mi_nty).map (fun t => (ca t, mi_ty t))
theorem mi_tys_at {ca : Nat → ClassId} {t : Nat} (h : t < mi_nty) : (mi_tys ca)[t]? = some (ca t, mi_ty t) := by
  simp [mi_tys, List.getElem?_map, List.getElem?_range h]
/-- what a state's tables say -/
def mi_Kx (D : va_G) (ca : Nat → ClassId) (b : Nat) (X : mi_X) (U : State) : Prop := va_K D mi_cl (mi_tys ca) U ∧ (∀ w ∈ mi_nest, va_Nw w U) ∧ (∀ t, 2 ≤ t → t < mi_nty → va_AO (mi_cn t) U) ∧ va_X b X.1 X.2 U U.heap
theorem mi_Kx.warm {D : va_G} {ca : Nat → ClassId} {b : Nat} {X : mi_X} {s U : State} (h : mi_Kx D ca b X s) (hW : s.WarmedH U.vm) (hb : U.heap[b]? = s.heap[b]?) : mi_Kx D ca b X U :=
  ⟨va_K.moved hW.alike h.1, fun w hw => mi_nest_warm hw hW (h.2.1 w hw), fun t h1 h2 => va_AO.moved hW.alike (h.2.2.1 t h1 h2), va_X.moved hW.alike (va_X.kept h.2.2.2 hb)⟩
theorem mi_Kx.blind {D : va_G} {ca : Nat → ClassId} {b : Nat} {X : mi_X} {U : State} (h : mi_Kx D ca b X U) (g : JFrame) (mk : MethodId) (a : Array Value) : mi_Kx D ca b X (U.calling g mk a) :=
  ⟨va_K.moved (u := U) (U := U.calling g mk a) (Vm.Alike.refl U.vm) h.1, fun w hw => va_Nw.same (mi_nest_on hw) (u := U) (U := U.calling g mk a) rfl (h.2.1 w hw), fun t h1 h2 => va_AO.moved (u := U) (U := U.calling g mk a) (Vm.Alike.refl U.vm) (h.2.2.1 t h1 h2), va_X.moved (u := U) (U := U.calling g mk a) (Vm.Alike.refl U.vm) h.2.2.2⟩
/-- a frame's constants -/
def mi_Fx (p : Program) (s : State) (m : MethodId) (args : Array Value) (c : Code) (D : va_G) (ca : Nat → ClassId) (B b : Nat) (X : mi_X) (own : String) (cc : ByteArray) (nL : Nat) : Prop :=
  p.tables.exec = Jvm.exec ∧ c.code = cc ∧ c.maxLocals = nL ∧ s.vm.findClass own = some m.cls ∧ (∀ w ∈ mi_good, w.before args s = true) ∧ mi_Kx D ca b X s ∧ b < B ∧ B ≤ s.heap.size
def mi_J (s : State) (D : va_G) (ca : Nat → ClassId) (B b : Nat) (w : mi_H) (H : Heap) (locs : List Loc) : Prop := va_P D mi_cl (mi_ws B b ca w) H ∧ va_S (fun q => B ≤ q) s.heap H locs ∧ H.size = B + w.length
def mi_At (p : Program) (l : Launch) (e : Env) (R : Room) (s : State) (m : MethodId) (args : Array Value) (below : List Frame) (meth : Method) (c : Code) (Q : State → Prop) (D : va_G) (ca : Nat → ClassId) (B b nL n0 z0 : Nat) (f : mi_F) : Prop :=
  ∀ (H : Heap) (locs : List Loc) (ls : Array Slot), mi_J s D ca B b f.2.2.2 H locs → mi_has B b ls nL f.2.1 → W p l e R s m args below meth c H locs (f.2.2.2.length - n0) (mi_sz f.2.2.2 - z0) Q (F0 m f.1 ls (f.2.2.1.map (mi_tr B b)))
/-- a method's contract, at these arguments and this heap -/
def mi_rm (d : Nat) (w w' : mi_H) : Room := { frames := d + 1, cells := w'.length - w.length, slots := mi_sz w' - mi_sz w, locals := (d + 1) * mi_KK }
def mi_Pre (D : va_G) (ca : Nat → ClassId) (B b : Nat) (X : mi_X) (w : mi_H) (U : State) : Prop := va_P D mi_cl (mi_ws B b ca w) U.heap ∧ U.heap.size = B + w.length ∧ mi_Kx D ca b X U
def mi_Qc (D : va_G) (ca : Nat → ClassId) (B b : Nat) (r : Option Value) (w' : mi_H) : Array Value → State → Outcome → State → Prop := fun _ st oc t => oc = .returned (r.map (mi_tr B b)) ∧ va_P D mi_cl (mi_ws B b ca w') t.heap ∧ t.heap.size = B + w'.length ∧ va_F (fun q => B ≤ q) st t
def mi_wsM (y : MethodName) (code : ByteArray) (M : mi_M) : List Cond := .code y code M.2.1 M.1 :: mi_good
def mi_Con (l : Launch) (D : va_G) (ca : Nat → ClassId) (B b : Nat) (X : mi_X) (P : List mi_M) (k d : Nat) (as : List Value) (w : mi_H) (r : Option Value) (w' : mi_H) : Prop :=
  ∀ (y : MethodName) (code : ByteArray) (np : Nat) (M : mi_M), mi_nm[k]? = some (y, code, np) → P[k]? = some M → Met l y (mi_wsM y code M) (mi_rm d w w') (va_Pc (as.map (mi_tr B b)) (mi_Pre D ca B b X w)) (mi_Qc D ca B b r w') (w'.length - w.length) (mi_sz w' - mi_sz w) (fun q => B ≤ q)
/-! a table's entry is as the code and the tables have it -/
def mi_len (i : Instr) : Nat := match i with
  | .bipush _ => 2
  | .sipush _ => 3
  | .ldc _ => 2
  | .ldc_w _ => 3
  | .iload _ => 2
  | .aload _ => 2
  | .istore _ => 2
  | .astore _ => 2
  | .iinc _ _ => 3
  | .goto _ => 3
  | .ifCond _ _ => 3
  | .if_icmp _ _ => 3
  | .getfield _ => 3
  | .putfield _ => 3
  | .new _ => 3
  | .newarray _ => 2
  | .anewarray _ => 3
  | .invokestatic _ => 3
  | .invokevirtual _ => 3
  | .invokespecial _ => 3
  | _ => 1
def mi_isSw (i : Instr) : Bool := match i with
  | .tableswitch _ _ _ _ => true
  | _ => false
/-- a field's link: its own, or a nest mate's -/
def mi_okF (own : String) (x a b : Nat) : Bool := match mi_cl[a]? with
  | some (C, T, N) => decide (b < N) && decide ((T b).1 = C) && mi_in (.fieldLink own x C (T b).2.1 (T b).2.2.1)
  | none => false
def mi_okFN (own : String) (x a b : Nat) : Bool := match mi_cl[a]? with
  | some (C, T, N) => decide (b < N) && decide ((T b).1 = C) && mi_hosts.any (fun h => mi_inN (.fieldLinkNest own x C (T b).2.1 (T b).2.2.1 h))
  | none => false
def mi_fin (a b : Nat) : Bool := match mi_cl[a]? with
  | some (_, T, _) => (T b).2.2.2
  | none => true
def mi_isOwn (own : String) (a : Nat) : Bool := match mi_cl[a]? with
  | some (C, _, _) => decide (C = own)
  | none => false
def mi_okM (own : String) (x a : Nat) (np : Nat) : Bool := match mi_nm[a]? with
  | some (y, _, n) => decide (n = np) && mi_in (.initialized y.cls) && (mi_in (.methodLink own x y) || mi_hosts.any (fun h => mi_inN (.methodLinkNest own x y h)))
  | none => false
def mi_okL (own : String) (nL : Nat) (ini : Bool) (pc : Nat) (i : Instr) (a b : Nat) (v : Int32) : Bool := match i with
  | .iconst x => decide (Int32.ofInt x = v)
  | .bipush x => decide ((Int8.ofInt x).toInt32 = v)
  | .sipush x => decide ((Int16.ofInt x).toInt32 = v)
  | .ldc x => mi_in (.constant own x v)
  | .ldc_w x => mi_in (.constant own x v)
  | .iload_n k => decide ((k : Nat) = a)
  | .iload k => decide (k = a)
  | .aload_n k => decide ((k : Nat) = a)
  | .aload k => decide (k = a)
  | .istore_n k => decide ((k : Nat) = a) && decide (a < nL)
  | .istore k => decide (k = a) && decide (a < nL)
  | .astore_n k => decide ((k : Nat) = a) && decide (a < nL)
  | .astore k => decide (k = a) && decide (a < nL)
  | .iinc k x => decide (k = a) && decide (a < nL) && decide (Int32.ofInt x = v)
  | .goto o => decide ((pc : Int) + o = (a : Int))
  | .ifCond _ o => decide ((pc : Int) + o = (a : Int))
  | .if_icmp _ o => decide ((pc : Int) + o = (a : Int))
  | .tableswitch d _ _ os => decide (0 ≤ (pc : Int) + d) && os.toList.all (fun o => decide (0 ≤ (pc : Int) + o))
  | .getfield x => mi_okF own x a b || mi_okFN own x a b
  | .putfield x => (mi_okF own x a b && (!mi_fin a b || (ini && mi_isOwn own a))) || (mi_okFN own x a b && !mi_fin a b)
  | .new x => match mi_cl[a]? with
    | some (C, _, N) => mi_in (.classLink own x C) && mi_in (.instantiable C N) && mi_in (.initialized C) && decide ((mi_dflt a).length = N)
    | none => false
  | .newarray t => (decide (a = 0) && decide (t = .int) && mi_in (.arrayClass .int)) || (decide (a = 1) && decide (t = .boolean) && mi_in (.arrayClass .boolean))
  | .anewarray x => decide (2 ≤ a) && decide (a < mi_nty) && mi_in (.classLink own x (mi_cn a))
  | .invokestatic x => if b = 99 then mi_in (.methodLink own x arraycopyName) && mi_in (.native arraycopyName) && mi_in (.static arraycopyName) && mi_in (.initialized "java/lang/System") else if b = 98 then mi_in (.methodLink own x Lib.Math.max.name) && mi_in (.static Lib.Math.max.name) && mi_in (.initialized "java/lang/Math") && mi_in (.code Lib.Math.max.name Lib.Math.max.code 2 (some .int)) else if b = 97 then mi_in (.methodLink own x Lib.Math.min.name) && mi_in (.static Lib.Math.min.name) && mi_in (.initialized "java/lang/Math") && mi_in (.code Lib.Math.min.name Lib.Math.min.code 2 (some .int)) else mi_okM own x a b && (match mi_nm[a]? with
    | some (y, _, _) => mi_in (.static y)
    | none => false)
  | .invokevirtual x => mi_okM own x a b && (match mi_nm[a]? with
    | some (y, _, _) => mi_in (.instanceMethod y) && mi_in (.selects y.cls y y) && (match mi_cl[mi_mc a]? with
      | some (C, _, _) => decide (C = y.cls)
      | none => false)
    | none => false)
  | .invokespecial x => if b = 99 then mi_in (.methodLink own x objectInit) && mi_in (.instanceMethod objectInit) && mi_in (.code objectInit ⟨#[0xb1]⟩ 1 none) else mi_okM own x a b && (match mi_nm[a]? with
    | some (y, _, _) => mi_in (.instanceMethod y) && decide (y.name = "<init>")
    | none => false)
  | _ => true
def mi_okB (own : String) (cc : ByteArray) (nL : Nat) (ini : Bool) (pc : Nat) (q : mi_I) : Bool := decide (decode cc pc = .ok (q.1, q.2.1 - pc)) && (mi_isSw q.1 || decide (q.2.1 = pc + mi_len q.1)) && mi_okL own nL ini pc q.1 q.2.2.1 q.2.2.2.1 q.2.2.2.2
/-- the classes' tables are in order -/
def mi_clOk : Prop := ∀ (a : Nat) (C : String) (T : u_T) (N : Nat), mi_cl[a]? = some (C, T, N) → (∀ w ∈ u_ws C T N, w ∈ mi_good) ∧ (∀ k, k < N → parseFieldDescriptor (T k).2.2.1 = some (mi_ft a k)) ∧ (∀ x, x < N → ∀ y, y < N → x ≠ y → (T x).2.1 ≠ (T y).2.1) ∧ (∀ k, k < N → defaultValue (mi_ft a k) = vp_V (mi_dflt a) k) ∧ ((mi_dflt a).length = N) ∧ (∀ k, k < N → vp_V (mi_dflt a) k = .int 0 ∨ vp_V (mi_dflt a) k = .null)
section MiSound
variable {p : Program} {l : Launch} {e : Env} {R : Room} {s : State} {m : MethodId} {args : Array Value} {below : List Frame} {meth : Method} {c : Code} {Q : State → Prop} {D : va_G} {ca : Nat → ClassId} {B b : Nat} {X : mi_X} {own : String} {cc : ByteArray} {nL n0 z0 : Nat} {H : Heap} {locs : List Loc} {cells slots : Nat} {w w' : mi_H}
theorem mi_J.put {o : Nat} {e' : va_E} {H1 : Heap} {locs1 : List Loc} (J : mi_J s D ca B b w H locs) (hP : va_P D mi_cl ((mi_ws B b ca w).set o (B + o, mi_tE B b ca e')) H1) (hS : va_S (fun q => B ≤ q) s.heap H1 locs1) (hz : H1.size = H.size) : mi_J s D ca B b (w.set o e') H1 locs1 :=
  ⟨by rw [← mi_ws_set]; exact hP, hS, by rw [hz, J.2.2, List.length_set]⟩
theorem mi_called {pc : Nat} {ls : Array Slot} {st0 rest : List Value} {mc ms : Nat} {r : Option Value} {a0 : Array Value} (hr : va_Run p l e R s m args below meth c H locs cells slots mc ms (F0 m pc ls st0) rest (mi_Qc D ca B b r w' a0) (fun q => B ≤ q)) (J : mi_J s D ca B b w H locs)
    (kk : ∀ (H1 : Heap) (locs1 : List Loc), mi_J s D ca B b w' H1 locs1 → W p l e R s m args below meth c H1 locs1 (cells + mc) (slots + ms) Q (F0 m (pc + 3) ls ((r.map (mi_tr B b)).toList ++ rest))) : W p l e R s m args below meth c H locs cells slots Q (F0 m pc ls st0) := by
  intro T hT Xs
  obtain ⟨v, st₀, t, T', Lc, h0, X', hL, e1, e2, ⟨hv, hP, hz, hF⟩, st⟩ := hr T hT Xs
  have hv : v = r.map (mi_tr B b) := Outcome.returned.inj hv
  subst hv
  obtain ⟨hF1, hF2⟩ := hF
  rw [h0] at hF1 hF2
  obtain ⟨J1, J2, J3⟩ := J
  obtain ⟨t2, a1, b1⟩ := kk T'.heap (locs ++ Lc) ⟨by rw [e1]; exact hP, ⟨Nat.le_trans J2.1 (by rw [e1]; exact hF1), fun q h1 h2 => by rw [e1, hF2 q (Nat.lt_of_lt_of_le h1 J2.1) h2]; exact J2.2.1 q h1 h2, fun q hq => by
      rcases List.mem_append.mp hq with h | h
      · exact J2.2.2 q h
      · exact hL q h⟩, by rw [e1]; exact hz⟩ T' rfl X'
  exact ⟨t2, st t2 a1, b1⟩
theorem mi_At_t {q : Prop} [Decidable q] {t f : Nat} {L : mi_L} {st : List Value} (h : mi_At p l e R s m args below meth c Q D ca B b nL n0 z0 (if q then t else f, L, st, w)) (hq : q) : mi_At p l e R s m args below meth c Q D ca B b nL n0 z0 (t, L, st, w) := by
  rw [if_pos hq] at h
  exact h
theorem mi_At_f {q : Prop} [Decidable q] {t f : Nat} {L : mi_L} {st : List Value} (h : mi_At p l e R s m args below meth c Q D ca B b nL n0 z0 (if q then t else f, L, st, w)) (hq : ¬ q) : mi_At p l e R s m args below meth c Q D ca B b nL n0 z0 (f, L, st, w) := by
  rw [if_neg hq] at h
  exact h
theorem mi_dec {i : Instr} {n a k : Nat} {v : Int32} {ini : Bool} {pc : Nat} (ok : mi_okB own cc nL ini pc (i, n, a, k, v) = true) (hs : mi_isSw i = false) : decode cc pc = .ok (i, mi_len i) ∧ n = pc + mi_len i ∧ mi_okL own nL ini pc i a k v = true := by
  simp only [mi_okB, hs, Bool.false_or, Bool.and_eq_true, decide_eq_true_eq] at ok
  obtain ⟨⟨h1, h2⟩, h3⟩ := ok
  refine ⟨?_, h2, h3⟩
  rw [h1, h2, Nat.add_sub_cancel_left]
theorem mi_fit_tr {ty : FieldType} {y : Value} (h : mi_fit ty y = true) : narrow ty (mi_tr B b y) = mi_tr B b y ∧ fits ty (mi_tr B b y) = true := by
  unfold mi_fit at h
  split at h
  · exact ⟨rfl, rfl⟩
  · rename_i x
    simp only [Bool.or_eq_true, beq_iff_eq] at h
    rcases h with rfl | rfl
    · exact ⟨(show narrow .boolean (.int 0) = .int 0 by decide), (show fits .boolean (.int 0) = true by decide)⟩
    · exact ⟨(show narrow .boolean (.int 1) = .int 1 by decide), (show fits .boolean (.int 1) = true by decide)⟩
  · exact ⟨rfl, rfl⟩
  · exact ⟨rfl, rfl⟩
  · exact ⟨rfl, rfl⟩
  · exact ⟨rfl, rfl⟩
  · cases h
theorem mi_put {ini : Bool} (hini : ini = true → meth.name = "<init>") (F : mi_Fx p s m args c D ca B b X own cc nL) (hC : mi_clOk) (J : mi_J s D ca B b w H locs) {ls : Array Slot} {pc x o ci k : Nat} {fs : List Value} {y : Value} {rest : List Value} {v : Int32} (hw : w[o]? = some (.inr (ci, fs))) (hlen : k < fs.length) (hfit : mi_fit (mi_ft ci k) y = true) (h2 : mi_okL own nL ini pc (.putfield x) ci k v = true) (hd : decode cc pc = .ok (.putfield x, 3))
    (kk : ∀ (H1 : Heap) (locs1 : List Loc), mi_J s D ca B b (w.set o (.inr (ci, fs.set k y))) H1 locs1 → W p l e R s m args below meth c H1 locs1 cells slots Q (F0 m (pc + 3) ls rest)) : W p l e R s m args below meth c H locs cells slots Q (F0 m pc ls (mi_tr B b y :: .ref (B + o) :: rest)) := by
  obtain ⟨hx, hb, hml, hown, hts, hK, hbB, hB⟩ := id F
  have he := mi_ws_get (B := B) (b := b) (ca := ca) hw
  obtain ⟨hn, hft⟩ := mi_fit_tr (B := B) (b := b) hfit
  obtain ⟨r, hc, cell, q1, q2, q3, q4⟩ := J.1 o _ he
  obtain ⟨C, T, N⟩ := r
  obtain ⟨hin, hty, hnm, -, -, -⟩ := hC ci C T N hc
  have hap := va_apart (own := own) hts hin (mi_ft ci) hty hnm hK.1 hc
  obtain ⟨hS, hfc, kC, hkC, hkind⟩ := hK.1.1 ci _ hc
  have hk : k < N := by
    simp only [mi_okL, mi_okF, mi_okFN, hc, Bool.or_eq_true, Bool.and_eq_true, decide_eq_true_eq] at h2
    rcases h2 with h2 | h2
    · exact h2.1.1.1
    · exact h2.1.1.1
  obtain ⟨cf, kf, fi, f, hi, hsl⟩ := hS k hk
  have hst := (u_facts hfc hkC (u_lays hts hin hk) hi).1
  have hlay := hts _ (hin _ (u_in_lay hk))
  unfold u_lay at hlay
  have fin : ∀ H' : Heap, H'[B + o]? = some (cell.setSlot f.slot (mi_tr B b y)) → H'.size = H.size → (∀ q, q ≠ B + o → H'[q]? = H[q]?) → W p l e R s m args below meth c H' (locs ++ [⟨B + o, f.slot⟩]) cells slots Q (F0 m (pc + 3) ls rest) := by
    intro H' e1 e2 e3
    rw [hsl] at e1 ⊢
    refine kk H' _ ⟨?_, J.2.1.put e2 e3 ((mi_ws_D w).2 o _ he), by rw [e2, J.2.2, List.length_set]⟩
    rw [← mi_ws_set]
    refine J.1.set (mi_ws_D w) he ⟨_, hc, t_OB.to (V := updV (vp_V (fs.map (mi_tr B b))) k (mi_tr B b y)) ⟨_, e1, q2, q3, t_set q4 hap hk _⟩ (fun j _ => ?_)⟩ e3
    rw [vp_updV_set (by rw [List.length_map]; exact hlen), ← List.map_set]
  simp only [mi_okL, mi_okF, mi_okFN, mi_fin, mi_isOwn, hc, Bool.or_eq_true, Bool.and_eq_true, decide_eq_true_eq, Bool.not_eq_true', List.any_eq_true] at h2
  rcases h2 with ⟨⟨⟨-, h4⟩, h5⟩, h6 | ⟨h6, h7⟩⟩ | ⟨⟨⟨-, h4⟩, host, -, h5⟩, h6⟩
  · rw [if_neg (by rw [h6]; decide)] at hlay
    have h8 := u_store hfc hkC hkind hlay hi (hty k hk) hn hft
    rw [h4] at hi
    exact W.putK hx hb (f := f) ⟨hown, hts _ (mi_in_good h5), ⟨_, _, _, hi⟩, hst⟩ (by rw [q2]; exact h8) q1 q3 (by rw [hsl]; exact k2_hasslot (q4 k hk)) rfl rfl hd fin
  · by_cases hff : (T k).2.2.2 = true
    · rw [if_pos hff] at hlay
      have hcf : m.cls = cf := by
        obtain ⟨_, _, c', _, _, _, -, -, hf', -, -, -, hown2, -⟩ := Cond.laysFinal_spec hlay
        have e1 : c' = cf := by have := hi.symm.trans hf'; simp at this; exact this.1.symm
        rw [h4, h7] at hown2
        rw [← e1]; exact Option.some.inj (hown.symm.trans hown2)
      have h8 := u_fits hfc hkC hkind (Or.inr hlay) hi (hty k hk) hn hft
      rw [h4] at hi
      exact W.putFinK hx hb hown (hts _ (mi_in_good h5)) hi hst hcf (hini h6) (by rw [q2]; exact h8) q1 q3 (by rw [hsl]; exact k2_hasslot (q4 k hk)) rfl rfl hd fin
    · rw [if_neg hff] at hlay
      have h8 := u_store hfc hkC hkind hlay hi (hty k hk) hn hft
      rw [h4] at hi
      exact W.putK hx hb (f := f) ⟨hown, hts _ (mi_in_good h5), ⟨_, _, _, hi⟩, hst⟩ (by rw [q2]; exact h8) q1 q3 (by rw [hsl]; exact k2_hasslot (q4 k hk)) rfl rfl hd fin
  · rw [if_neg (by rw [h6]; decide)] at hlay
    have h8 := u_store hfc hkC hkind hlay hi (hty k hk) hn hft
    rw [h4] at hi
    exact va_WputK hx hb (f := f) hown (va_Nw.use (mi_nest_on (mi_inN_nest h5)) (hK.2.1 _ (mi_inN_nest h5))) hi hst (by rw [q2]; exact h8) q1 q3 (by rw [hsl]; exact k2_hasslot (q4 k hk)) rfl rfl hd fin
theorem mi_ast (F : mi_Fx p s m args c D ca B b X own cc nL) (J : mi_J s D ca B b w H locs) {ls : Array Slot} {pc o n : Nat} {f : Nat → Int32} {j x : Int32} {rest : List Value} (hw : w[o]? = some (.inl (0, n, .inl f))) (hin : ¬ (j < 0 ∨ n ≤ j.toNatClampNeg)) (hd : decode cc pc = .ok (.iastore, 1))
    (kk : ∀ (H1 : Heap) (locs1 : List Loc), mi_J s D ca B b (w.set o (.inl (0, n, .inl (upd f j.toNatClampNeg x)))) H1 locs1 → W p l e R s m args below meth c H1 locs1 cells slots Q (F0 m (pc + 1) ls rest)) : W p l e R s m args below meth c H locs cells slots Q (F0 m pc ls (.int x :: .int j :: .ref (B + o) :: rest)) := by
  obtain ⟨hx, hb, hml, hown, hts, hK, hbB, hB⟩ := id F
  have he := mi_ws_get (B := B) (b := b) (ca := ca) hw
  refine W.iast hx hb (J.1 o _ he) ((hK.1.2 0 _ (mi_tys_at mi_nty0)).1 n (fun j => .int (f j))) (fun q => by cases q) (by show ¬ (j < 0 ∨ (arrV _ _ _).slots.size ≤ _); rw [arrV_size]; exact hin) rfl rfl hd fun H1 e1 z oq => ?_
  refine kk H1 _ ⟨?_, J.2.1.put z oq ((mi_ws_D w).2 o _ he), by rw [z, J.2.2, List.length_set]⟩
  rw [← mi_ws_set]
  refine J.1.set (mi_ws_D w) he ?_ oq
  show H1[B + o]? = some (vp_cell _ _)
  rw [e1]
  show some ((arrV _ _ _).setSlot _ _) = _
  rw [arrV_store]
  show some (arrV (ca 0) n (updV (fun j => .int (f j)) j.toNatClampNeg (.int x))) = some (arrV (ca 0) n (fun q => .int (upd f j.toNatClampNeg x q)))
  refine congrArg some (congrArg (arrV (ca 0) n) (funext fun q => ?_))
  by_cases hq : q = j.toNatClampNeg
  · subst hq
    simp [updV, upd]
  · simp [updV, upd, hq]
theorem mi_zst (F : mi_Fx p s m args c D ca B b X own cc nL) (J : mi_J s D ca B b w H locs) {ls : Array Slot} {pc o n : Nat} {f : Nat → Int32} {j x : Int32} {rest : List Value} (hw : w[o]? = some (.inl (1, n, .inl f))) (hin : ¬ (j < 0 ∨ n ≤ j.toNatClampNeg)) (hd : decode cc pc = .ok (.bastore, 1))
    (kk : ∀ (H1 : Heap) (locs1 : List Loc), mi_J s D ca B b (w.set o (.inl (1, n, .inl (upd f j.toNatClampNeg (x &&& 1))))) H1 locs1 → W p l e R s m args below meth c H1 locs1 cells slots Q (F0 m (pc + 1) ls rest)) : W p l e R s m args below meth c H locs cells slots Q (F0 m pc ls (.int x :: .int j :: .ref (B + o) :: rest)) := by
  obtain ⟨hx, hb, hml, hown, hts, hK, hbB, hB⟩ := id F
  have he := mi_ws_get (B := B) (b := b) (ca := ca) hw
  have h1 := (hK.1.2 1 _ (mi_tys_at mi_nty1)).1 n (fun j => .int (f j))
  rw [mi_ty1] at h1
  refine W.zast hx hb (J.1 o _ he) h1 (fun q => by cases q) (by show ¬ (j < 0 ∨ (arrV _ _ _).slots.size ≤ _); rw [arrV_size]; exact hin) rfl rfl hd fun H1 e1 z oq => ?_
  refine kk H1 _ ⟨?_, J.2.1.put z oq ((mi_ws_D w).2 o _ he), by rw [z, J.2.2, List.length_set]⟩
  rw [← mi_ws_set]
  refine J.1.set (mi_ws_D w) he ?_ oq
  show H1[B + o]? = some (vp_cell _ _)
  rw [e1]
  show some ((arrV _ _ _).setSlot _ _) = _
  rw [arrV_store]
  show some (arrV (ca 1) n (updV (fun j => .int (f j)) j.toNatClampNeg (.int (x &&& 1)))) = some (arrV (ca 1) n (fun q => .int (upd f j.toNatClampNeg (x &&& 1) q)))
  refine congrArg some (congrArg (arrV (ca 1) n) (funext fun q => ?_))
  by_cases hq : q = j.toNatClampNeg
  · subst hq
    simp [updV, upd, narrow]
  · simp [updV, upd, hq]
theorem mi_sumn (rest : List Value) : ((rest.map (mi_tr B b)).map fun v => v.category).sum = rest.length := by
  induction rest with
  | nil => rfl
  | cons x r ih => simp only [List.map_cons, List.sum_cons, ih, mi_tr_cat, List.length_cons]; omega
theorem mi_sum8 {rest : List Value} (h : rest.length ≤ 8) : ((rest.map (mi_tr B b)).map fun v => v.category).sum ≤ 8 := by
  rw [mi_sumn]
  exact h
theorem mi_copy (F : mi_Fx p s m args c D ca B b X own cc nL) (hR : 1 ≤ R.frames ∧ mi_KK ≤ R.locals) (J : mi_J s D ca B b w H locs) {ls : Array Slot} (hl : ls.size = nL) {pc x o q k0 k1 : Nat} {f g : Nat → Int32} {sp dp n : Int32} {rest : List Value} (hq : w[q]? = some (.inl (0, k0, .inl f))) (ho : w[o]? = some (.inl (0, k1, .inl g))) (h1 : ¬ sp < 0) (h2 : ¬ dp < 0) (h3 : ¬ n < 0) (h4 : sp.toNatClampNeg + n.toNatClampNeg ≤ k0) (h5 : dp.toNatClampNeg + n.toNatClampNeg ≤ k1) (hr : rest.length ≤ 8)
    (hlink : (Cond.methodLink own x arraycopyName).before args s = true) (hnat : (Cond.native arraycopyName).before args s = true) (hstat : (Cond.static arraycopyName).before args s = true) (hsys : (Cond.initialized "java/lang/System").before args s = true) (hd : decode cc pc = .ok (.invokestatic x, 3))
    (kk : ∀ (H1 : Heap) (locs1 : List Loc), mi_J s D ca B b (w.set o (.inl (0, k1, .inl (va_cpy f g sp.toNatClampNeg dp.toNatClampNeg n.toNatClampNeg)))) H1 locs1 → W p l e R s m args below meth c H1 locs1 cells slots Q (F0 m (pc + 3) ls (rest.map (mi_tr B b)))) : W p l e R s m args below meth c H locs cells slots Q (F0 m pc ls (.int n :: .int dp :: .ref (B + o) :: .int sp :: .ref (B + q) :: rest.map (mi_tr B b))) := by
  obtain ⟨hx, hb, hml, hown, hts, hK, hbB, hB⟩ := id F
  have nn : ∀ z : Int32, ¬ z < 0 → z.toInt = (z.toNatClampNeg : Int) := by
    intro z hz
    have hz0 : (0 : Int) ≤ z.toInt := by
      have := Int32.not_lt.mp hz
      simpa using Int32.le_iff_toInt_le.mp this
    show z.toInt = ((z.toInt.toNat : Nat) : Int)
    omega
  have hs8 := mi_sum8 (B := B) (b := b) hr
  have hKK := mi_KKc
  intro T hT Xs
  have he := mi_ws_get (B := B) (b := b) (ca := ca) ho
  have hc0 : H[B + q]? = some (vp_cell (ca 0) (k0, .inl f)) := J.1 q _ (mi_ws_get hq)
  have hc1 : H[B + o]? = some (vp_cell (ca 0) (k1, .inl g)) := J.1 o _ he
  obtain ⟨-, c0, hk0, cm0, hkk0⟩ := (hK.1.2 0 _ (mi_tys_at mi_nty0)).1 k0 (fun j => .int (f j))
  obtain ⟨vm', X', step⟩ := Xs.arraycopy hx hown hlink hnat hstat hsys (src := B + q) (dst := B + o) (cs := vp_cell (ca 0) (k0, .inl f)) (cd := vp_cell (ca 0) (k1, .inl g)) (srcPos := sp) (destPos := dp) (n := n) (by rw [hT]; exact hc0) (by rw [hT]; exact hc1)
    (fun _ h => by cases h) (fun _ h => by cases h) (fun h => by cases h) (fun h => by cases h) hk0 hk0 hkk0 hkk0 (show ((refKind FieldType.int != refKind FieldType.int) || (!refKind FieldType.int && FieldType.int != FieldType.int)) = false by decide) h1 h2 h3
    (by rw [nn sp h1, nn n h3]; show ¬ _ > ((arrV (ca 0) k0 (fun j => .int (f j))).slots.size : Int); rw [arrV_size]; omega)
    (by rw [nn dp h2, nn n h3]; show ¬ _ > ((arrV (ca 0) k1 (fun j => .int (g j))).slots.size : Int); rw [arrV_size]; omega)
    (fun vm₁ _ i hi => by
      have e : (vp_cell (ca 0) (k0, .inl f)).slots.getD (sp.toNatClampNeg + i) .null = .int (f (sp.toNatClampNeg + i)) := by
        show (arrV (ca 0) k0 (fun j => .int (f j))).slots.getD _ _ = _
        rw [Array.getD_eq_getD_getElem?, arrV_read _ _ (by omega)]
        rfl
      refine ⟨?_, ?_⟩
      · rw [e]
        rfl
      · rw [e]
        exact trivial)
    (g := F0 m pc ls (.int n :: .int dp :: .ref (B + o) :: .int sp :: .ref (B + q) :: rest.map (mi_tr B b))) rfl (by rw [hml]; exact hl) (rest := rest.map (mi_tr B b)) rfl (by rw [hb]; exact hd) hR.1 (by show 2 * 0 + _ + _ ≤ _; omega)
  have e1 : copied (vp_cell (ca 0) (k0, .inl f)) (vp_cell (ca 0) (k1, .inl g)) sp dp n = vp_cell (ca 0) (k1, .inl (va_cpy f g sp.toNatClampNeg dp.toNatClampNeg n.toNatClampNeg)) := va_copied (fun z => .int z) (ca 0) (ca 0) f g h4
  rw [e1] at X' step
  have hlt : B + o < H.size := (Array.getElem?_eq_some_iff.mp hc1).1
  have hheap : ((T.setVm vm').setCell (B + o) (vp_cell (ca 0) (k1, .inl (va_cpy f g sp.toNatClampNeg dp.toNatClampNeg n.toNatClampNeg)))).heap = H.setIfInBounds (B + o) (vp_cell (ca 0) (k1, .inl (va_cpy f g sp.toNatClampNeg dp.toNatClampNeg n.toNatClampNeg))) := by rw [← hT]; rfl
  have oq : ∀ z : Nat, z ≠ B + o → (H.setIfInBounds (B + o) (vp_cell (ca 0) (k1, .inl (va_cpy f g sp.toNatClampNeg dp.toNatClampNeg n.toNatClampNeg))))[z]? = H[z]? := fun z hz => by simp [Array.getElem?_setIfInBounds, Ne.symm hz]
  obtain ⟨t, a1, b1⟩ := kk _ _ ⟨by
      rw [← mi_ws_set]
      exact J.1.set (mi_ws_D w) he (show (H.setIfInBounds (B + o) _)[B + o]? = some _ by simp [Array.getElem?_setIfInBounds, hlt]) oq, ⟨by simp; exact J.2.1.1, fun z g1 g2 => by
      rw [oq z (fun e => g2 (by rw [e]; exact Nat.le_add_right B o))]
      exact J.2.1.2.1 z g1 g2, fun z hz => by
      rcases List.mem_append.mp hz with h | h
      · exact J.2.1.2.2 z h
      · obtain ⟨y, -, hy⟩ := List.mem_map.mp h
        rw [← hy]
        exact Nat.le_add_right B o⟩, by simp; exact J.2.2⟩ _ hheap X'
  exact ⟨t, step t a1, b1⟩
theorem mi_rf (o : Option Nat) : va_rf (o.map (fun k => B + k)) = mi_tr B b (va_rf o) := by cases o <;> rfl
theorem mi_aast (F : mi_Fx p s m args c D ca B b X own cc nL) (J : mi_J s D ca B b w H locs) {ls : Array Slot} {pc o n t x ci : Nat} {g : Nat → Option Nat} {fs : List Value} {j : Int32} {rest : List Value} (hw : w[o]? = some (.inl (t, n, .inr (.inr (.inr (.inr g)))))) (hv : w[x]? = some (.inr (ci, fs))) (h2 : 2 ≤ t) (ht : t < mi_nty) (hci : mi_comp t = ci) (hin : ¬ (j < 0 ∨ n ≤ j.toNatClampNeg)) (hd : decode cc pc = .ok (.aastore, 1))
    (kk : ∀ (H1 : Heap) (locs1 : List Loc), mi_J s D ca B b (w.set o (.inl (t, n, .inr (.inr (.inr (.inr (va_up g j.toNatClampNeg (some x)))))))) H1 locs1 → W p l e R s m args below meth c H1 locs1 cells slots Q (F0 m (pc + 1) ls rest)) : W p l e R s m args below meth c H locs cells slots Q (F0 m pc ls (.ref (B + x) :: .int j :: .ref (B + o) :: rest)) := by
  obtain ⟨hx, hb, hml, hown, hts, hK, hbB, hB⟩ := id F
  have he := mi_ws_get (B := B) (b := b) (ca := ca) hw
  have hlt : j.toNatClampNeg < n := Nat.not_le.mp fun q => hin (Or.inr q)
  have h0 : ¬ j < 0 := fun q => hin (Or.inl q)
  obtain ⟨r', hr', cellV, g1, g2, g3, -⟩ := J.1 x _ (mi_ws_get hv)
  obtain ⟨TT, NN, hcn⟩ := mi_cnOk t h2 ht
  rw [hci] at hcn
  have hcls := (hK.1.1 ci _ hcn).2
  have hra := (hK.1.2 t _ (mi_tys_at ht)).2
  rw [mi_ty2 t h2 ht] at hra
  obtain ⟨kA, comp, k1, k2, k3, -⟩ := hra
  have hcomp : comp = D.1 ci := Option.some.inj (k3.symm.trans hcls.1)
  subst hcomp
  obtain ⟨kC, hkC, -⟩ := hcls.2
  refine W.aast hx hb (J.1 o _ he) (fun q h => by cases h) (fun h => by cases h) k1 k2 rfl hkC ⟨h0, by show _ < (arrV _ _ _).slots.size; rw [arrV_size]; exact hlt⟩ g1 (fun q h => by rw [g3] at h; cases h) (by rw [g2]; exact hkC) (by rw [g2]; exact va_assign hcls) rfl rfl hd fun H1 e1 z oq => ?_
  refine kk H1 _ ⟨?_, J.2.1.put z oq ((mi_ws_D w).2 o _ he), by rw [z, J.2.2, List.length_set]⟩
  rw [← mi_ws_set]
  refine J.1.set (mi_ws_D w) he ?_ oq
  show H1[B + o]? = some (vp_cell _ _)
  rw [e1]
  show some ((arrV _ _ _).setSlot _ _) = _
  rw [arrV_store]
  show some (arrV (ca t) n (updV (fun j => va_rf ((g j).map (fun k => B + k))) j.toNatClampNeg (.ref (B + x)))) = some (arrV (ca t) n (fun q => va_rf ((va_up g j.toNatClampNeg (some x) q).map (fun k => B + k))))
  refine congrArg some (congrArg (arrV (ca t) n) (funext fun q => ?_))
  by_cases hq : q = j.toNatClampNeg
  · subst hq
    simp [updV, va_up, va_rf]
  · simp [updV, va_up, hq]
/-- a new cell, the next one -/
theorem mi_J.push {e' : va_E} {H1 : Heap} (J : mi_J s D ca B b w H locs) (hat : va_at D mi_cl (B + w.length, mi_tE B b ca e') H1) (hz : H1.size = B + w.length + 1) (ho : ∀ q, q < B + w.length → H1[q]? = H[q]?) : mi_J s D ca B b (w ++ [e']) H1 locs := by
  obtain ⟨J1, J2, J3⟩ := J
  refine ⟨?_, ⟨Nat.le_trans J2.1 (by omega), fun x h1 h2 => (ho x (Nat.lt_of_lt_of_le h1 (by rw [← J3]; exact J2.1))).trans (J2.2.1 x h1 h2), J2.2.2⟩, by rw [hz, List.length_append]; rfl⟩
  rw [mi_ws_push]
  refine (J1.kept (fun k q hq => ho q.1 (by rw [← J3]; exact (J1 k q hq).lt))).app (fun k x hx => ?_)
  have hk : k < 1 := (List.getElem?_eq_some_iff.mp hx).1
  rw [show k = 0 by omega] at hx
  cases hx
  exact hat
theorem mi_new (F : mi_Fx p s m args c D ca B b X own cc nL) (hC : mi_clOk) (J : mi_J s D ca B b w H locs) {ls : Array Slot} {pc x a k : Nat} {v : Int32} {ini : Bool} {rest : List Value} (h2 : mi_okL own nL ini pc (.new x) a k v = true) (hd : decode cc pc = .ok (.new x, 3)) (hcells : cells + 1 ≤ R.cells) (hslots : slots + (mi_dflt a).length ≤ R.slots)
    (kk : ∀ (H1 : Heap), mi_J s D ca B b (w ++ [.inr (a, mi_dflt a)]) H1 locs → W p l e R s m args below meth c H1 locs (cells + 1) (slots + (mi_dflt a).length) Q (F0 m (pc + 3) ls (.ref (B + w.length) :: rest))) : W p l e R s m args below meth c H locs cells slots Q (F0 m pc ls rest) := by
  obtain ⟨hx, hb, hml, hown, hts, hK, hbB, hB⟩ := id F
  simp only [mi_okL] at h2
  split at h2
  · rename_i C T N hc
    simp only [Bool.and_eq_true, decide_eq_true_eq] at h2
    obtain ⟨⟨⟨h3, h4⟩, h5⟩, h6⟩ := h2
    obtain ⟨hin, hty, hnm, hdf, -, hd0⟩ := hC a C T N hc
    have hKn := hK.1.1 a _ hc
    rw [h6] at hslots kk
    refine W.newcK hx hb hown (hts _ (mi_in_good h3)) (hts _ (mi_in_good h4)) (hts _ (mi_in_good h5)) rfl hd hcells hslots hKn.2.1 J.2.2 fun H1 kC hkC e1 z1 o1 => ?_
    refine kk H1 (J.push ⟨_, hc, (u_born (mi_ft a) hts hin hKn hkC e1 hty).to (fun j hj => ?_)⟩ z1 o1)
    have hl : j < (mi_dflt a).length := by rw [h6]; exact hj
    rw [hdf j hj]
    have e2 : vp_V ((mi_dflt a).map (mi_tr B b)) j = mi_tr B b (vp_V (mi_dflt a) j) := by simp [vp_V, List.getD_eq_getElem?_getD, List.getElem?_map, List.getElem?_eq_getElem hl]
    rw [e2]
    rcases hd0 j hj with q | q <;> rw [q] <;> rfl
  · cases h2
theorem mi_newa (F : mi_Fx p s m args c D ca B b X own cc nL) (J : mi_J s D ca B b w H locs) {ls : Array Slot} {pc a k : Nat} {t : ArrayType} {v : Int32} {ini : Bool} {j : Int32} {rest : List Value} (h2 : mi_okL own nL ini pc (.newarray t) a k v = true) (hd : decode cc pc = .ok (.newarray t, 2)) (hj : ¬ (j < 0 ∨ 100000 ≤ j.toNatClampNeg)) (hcells : cells + 1 ≤ R.cells) (hslots : slots + j.toNatClampNeg ≤ R.slots)
    (kk : ∀ (H1 : Heap), mi_J s D ca B b (w ++ [.inl (a, j.toNatClampNeg, .inl (fun _ => 0))]) H1 locs → W p l e R s m args below meth c H1 locs (cells + 1) (slots + j.toNatClampNeg) Q (F0 m (pc + 2) ls (.ref (B + w.length) :: rest))) : W p l e R s m args below meth c H locs cells slots Q (F0 m pc ls (.int j :: rest)) := by
  obtain ⟨hx, hb, hml, hown, hts, hK, hbB, hB⟩ := id F
  have h0 : ¬ j < 0 := fun q => hj (Or.inl q)
  have h1 : j.toNatClampNeg < 100000 := Nat.not_le.mp fun q => hj (Or.inr q)
  simp only [mi_okL, Bool.or_eq_true, Bool.and_eq_true, decide_eq_true_eq] at h2
  rcases h2 with ⟨⟨rfl, rfl⟩, h3⟩ | ⟨⟨rfl, rfl⟩, h3⟩
  · refine va_newaK hx hb (atype := .int) (hts _ (mi_in_good h3)) rfl hd rfl h0 rfl (by show _ * 4 ≤ _; omega) hcells hslots J.2.2 fun H1 cA e1 z1 o1 hAr hNm => ?_
    have hca : cA = ca 0 := Option.some.inj (hNm.symm.trans (by have q := (hK.1.2 0 _ (mi_tys_at mi_nty0)).2; rw [mi_ty0] at q; exact q))
    subst hca
    exact kk H1 (J.push e1 z1 o1)
  · refine va_newaK hx hb (atype := .boolean) (hts _ (mi_in_good h3)) rfl hd rfl h0 rfl (by show _ * 1 ≤ _; omega) hcells hslots J.2.2 fun H1 cA e1 z1 o1 hAr hNm => ?_
    have hca : cA = ca 1 := Option.some.inj (hNm.symm.trans (by have q := (hK.1.2 1 _ (mi_tys_at mi_nty1)).2; rw [mi_ty1] at q; exact q))
    subst hca
    exact kk H1 (J.push e1 z1 o1)
theorem mi_anew (F : mi_Fx p s m args c D ca B b X own cc nL) (J : mi_J s D ca B b w H locs) {ls : Array Slot} {pc x a k : Nat} {v : Int32} {ini : Bool} {j : Int32} {rest : List Value} (h2 : mi_okL own nL ini pc (.anewarray x) a k v = true) (hd : decode cc pc = .ok (.anewarray x, 3)) (hj : ¬ (j < 0 ∨ 100000 ≤ j.toNatClampNeg)) (hcells : cells + 1 ≤ R.cells) (hslots : slots + j.toNatClampNeg ≤ R.slots)
    (kk : ∀ (H1 : Heap), mi_J s D ca B b (w ++ [.inl (a, j.toNatClampNeg, .inr (.inr (.inr (.inr (fun _ => none)))))]) H1 locs → W p l e R s m args below meth c H1 locs (cells + 1) (slots + j.toNatClampNeg) Q (F0 m (pc + 3) ls (.ref (B + w.length) :: rest))) : W p l e R s m args below meth c H locs cells slots Q (F0 m pc ls (.int j :: rest)) := by
  obtain ⟨hx, hb, hml, hown, hts, hK, hbB, hB⟩ := id F
  have h0 : ¬ j < 0 := fun q => hj (Or.inl q)
  have h1 : j.toNatClampNeg < 100000 := Nat.not_le.mp fun q => hj (Or.inr q)
  simp only [mi_okL, Bool.and_eq_true, decide_eq_true_eq] at h2
  obtain ⟨⟨h3, h4⟩, h5⟩ := h2
  refine W.anew hx hb hown (hts _ (mi_in_good h5)) (va_AO.use (hK.2.2.1 a h3 h4)) rfl hd rfl h0 (by omega) hcells hslots fun cA kA comp f1 f2 f3 f4 => ?_
  have hra := (hK.1.2 a _ (mi_tys_at h4)).2
  rw [mi_ty2 a h3 h4] at hra
  obtain ⟨kA', comp', k1, k2, k3, k4⟩ := hra
  have hca : cA = ca a := Option.some.inj (f1.symm.trans k4)
  subst hca
  have hz : H.size = B + w.length := J.2.2
  rw [hz]
  refine kk _ (J.push ?_ (by rw [Array.size_push, hz]) (fun q hq => by rw [Array.getElem?_push, if_neg (by omega)]))
  show (H.push _)[B + w.length]? = some (vp_cell _ _)
  rw [← hz, Array.getElem?_push_size, arrV_new]
  rfl
theorem mi_good_in {y : MethodName} {code : ByteArray} {M : mi_M} (hc : Cond.code y code M.2.1 M.1 ∈ mi_good) : ∀ q ∈ mi_wsM y code M, q ∈ mi_good ∧ ((q.onTables && q.keeps) = true ∨ ∃ ty, q = .arrayClass ty) := by
  intro q hq
  rcases List.mem_cons.mp hq with h | h
  · rw [h]; exact ⟨hc, mi_good_ok hc⟩
  · exact ⟨h, mi_good_ok h⟩
theorem mi_blind (as : List Value) : FrameBlind (va_Pc (as.map (mi_tr B b)) (mi_Pre D ca B b X w)) := by
  intro a U g mk q
  obtain ⟨h1, h2, h3, h4⟩ := q
  exact ⟨h1, h2, h3, h4.blind g mk a⟩
theorem mi_preU (F : mi_Fx p s m args c D ca B b X own cc nL) (J : mi_J s D ca B b w H locs) (as : List Value) : ∀ U : State, U.heap = H → s.WarmedH U.vm → va_Pc (as.map (mi_tr B b)) (mi_Pre D ca B b X w) (as.map (mi_tr B b)).toArray U := by
  obtain ⟨hx, hb, hml, hown, hts, hK, hbB, hB⟩ := id F
  intro U hU hW
  exact ⟨rfl, by rw [hU]; exact J.1, by rw [hU]; exact J.2.2, hK.warm hW (by rw [hU]; exact J.2.1.2.1 b (Nat.lt_of_lt_of_le hbB hB) (Nat.not_le.mpr hbB))⟩
/-- every method of the table: its code is among the words, its name is plain, its parameters are counted -/
def mi_nmOk (P : List mi_M) : Prop := ∀ (k : Nat) (M : mi_M), P[k]? = some M → ∃ y code np, mi_nm[k]? = some (y, code, np) ∧ Cond.code y code M.2.1 M.1 ∈ mi_good ∧ plainName y.cls = true ∧ y.cls ≠ "java/lang/invoke/MethodHandle" ∧ y.cls ≠ "java/lang/invoke/VarHandle" ∧ (parseMethodDescriptor y.desc).map (fun d => d.parameters.length) = some np ∧ M.2.1 + 19 ≤ mi_KK ∧ (∀ pc q, M.2.2[pc]? = some (some q) → mi_okB y.cls code M.2.1 (decide (y.name = "<init>")) pc q = true)
def mi_calOk (l : Launch) (R : Room) (D : va_G) (ca : Nat → ClassId) (B b : Nat) (X : mi_X) (P : List mi_M) (cal : mi_C) : Prop := ∀ k as w r w', cal k as w = some (r, w') → w.length ≤ w'.length ∧ mi_sz w ≤ mi_sz w' ∧ ∃ d M, P[k]? = some M ∧ d + 2 ≤ R.frames ∧ (d + 2) * mi_KK ≤ R.locals ∧ mi_Con l D ca B b X P k d as w r w'
theorem mi_split {st : List Value} {k o : Nat} (h : st[k]? = some (.ref o)) : st = st.take k ++ .ref o :: st.drop (k + 1) ∧ (st.take (k + 1)).reverse = .ref o :: (st.take k).reverse ∧ (st.take k).length = k := by
  obtain ⟨hk, he⟩ := List.getElem?_eq_some_iff.mp h
  refine ⟨?_, ?_, by rw [List.length_take]; omega⟩
  · rw [← he, List.getElem_cons_drop, List.take_append_drop]
  · rw [List.take_add_one, h]
    simp
theorem mi_par {y : MethodName} {np k : Nat} (hpar : (parseMethodDescriptor y.desc).map (fun d => d.parameters.length) = some np) (h : np = k) : ∀ sig, parseMethodDescriptor y.desc = some sig → k = sig.parameters.length := by
  intro sig h2
  rw [h2] at hpar
  rw [← h]
  exact (Option.some.inj hpar).symm
theorem mi_callV {P : List mi_M} {cal : mi_C} (F : mi_Fx p s m args c D ca B b X own cc nL) (hN : mi_nmOk P) (hcal : mi_calOk l R D ca B b X P cal) (J : mi_J s D ca B b w H locs) {ls : Array Slot} (hl : ls.size = nL) {pc x a k : Nat} {v : Int32} {ini : Bool} {st : List Value} {r : Option Value} {o ci : Nat} {fs : List Value} (h2 : mi_okL own nL ini pc (.invokevirtual x) a k v = true) (hd : decode cc pc = .ok (.invokevirtual x, 3)) (ho : st[k]? = some (.ref o)) (hw : w[o]? = some (.inr (ci, fs))) (hci : ci = mi_mc a) (hlen : st.length ≤ k + 9) (hc : cal a (st.take (k + 1)).reverse w = some (r, w')) (hcells : cells + (w'.length - w.length) ≤ R.cells) (hslots : slots + (mi_sz w' - mi_sz w) ≤ R.slots)
    (kk : ∀ (H1 : Heap) (locs1 : List Loc), mi_J s D ca B b w' H1 locs1 → W p l e R s m args below meth c H1 locs1 (cells + (w'.length - w.length)) (slots + (mi_sz w' - mi_sz w)) Q (F0 m (pc + 3) ls ((r.map (mi_tr B b)).toList ++ (st.drop (k + 1)).map (mi_tr B b)))) : W p l e R s m args below meth c H locs cells slots Q (F0 m pc ls (st.map (mi_tr B b))) := by
  obtain ⟨hx, hb, hml, hown, hts, hK, hbB, hB⟩ := id F
  obtain ⟨hg1, hg2, d, M, hP, hfr, hlo, hcon⟩ := hcal _ _ _ _ _ hc
  obtain ⟨y, code, np, hnm, hcode, hpl, hmh, hvh, hpar, hKK, hok⟩ := hN a M hP
  have hM := hcon y code np M hnm hP
  obtain ⟨e1, e2, e3⟩ := mi_split ho
  have hp := mi_preU F J (st.take (k + 1)).reverse
  rw [e2, List.map_cons] at hM hp
  have hlo2 : 8 + (M.2.1 + 11) + (d + 1) * mi_KK ≤ R.locals := by
    have e : (d + 2) * mi_KK = (d + 1) * mi_KK + mi_KK := Nat.succ_mul (d + 1) mi_KK
    omega
  have hbl := mi_blind (D := D) (ca := ca) (B := B) (b := b) (X := X) (w := w) (.ref o :: (st.take k).reverse)
  rw [List.map_cons] at hbl
  have hst : st.map (mi_tr B b) = ((st.take k).reverse.map (mi_tr B b)).reverse ++ .ref (B + o) :: (st.drop (k + 1)).map (mi_tr B b) := by
    conv => lhs; rw [e1]
    rw [List.map_append, List.map_cons, List.map_reverse, List.reverse_reverse]
    rfl
  have hW : (((st.drop (k + 1)).map (mi_tr B b)).map (fun v => v.category)).sum ≤ 8 := mi_sum8 (by rw [List.length_drop]; omega)
  simp only [mi_okL, mi_okM, hnm, Bool.and_eq_true, Bool.or_eq_true, decide_eq_true_eq, List.any_eq_true] at h2
  obtain ⟨⟨⟨h3, h4⟩, h5⟩, ⟨h6, h7⟩, h8⟩ := h2
  have hcc : ∃ T N, mi_cl[ci]? = some (y.cls, T, N) := by
    rw [hci]
    split at h8
    · rename_i C T N hq
      exact ⟨T, N, by rw [hq, of_decide_eq_true h8]⟩
    · cases h8
  obtain ⟨T, N, hcc⟩ := hcc
  have hrecv := va_recv hK.1 J.1 hcc (mi_ws_get (B := B) (b := b) (ca := ca) hw)
  rw [hst]
  rcases h5 with h5 | ⟨host, -, h5⟩
  · exact mi_called (va_runV (n := k) (As := (st.take k).reverse.map (mi_tr B b)) (rest := (st.drop (k + 1)).map (mi_tr B b)) ⟨hx, hb, hml, hown, hts⟩ hM ⟨⟨rfl, rfl, hfr, hlo2, pay_in hts (mi_good_in hcode), List.mem_cons_self, hts _ hcode, hts _ (mi_in_good h4), ⟨hmh, hvh⟩, mi_par hpar h3, hts _ (mi_in_good h5)⟩, hts _ (mi_in_good h6), hts _ (mi_in_good h7)⟩ ⟨hbl, hrecv, hp⟩ rfl (by rw [List.length_map, List.length_reverse, e3]) hl rfl (lv_room hW) hd ⟨hcells, hslots⟩) J kk
  · exact mi_called (va_runVN (n := k) (As := (st.take k).reverse.map (mi_tr B b)) (rest := (st.drop (k + 1)).map (mi_tr B b)) ⟨hx, hb, hml, hown, hts⟩ hM ⟨⟨⟨rfl, rfl, hfr, hlo2, pay_in hts (mi_good_in hcode), List.mem_cons_self⟩, hts _ hcode, hts _ (mi_in_good h4), ⟨hmh, hvh⟩, mi_par hpar h3, va_Nw.use (mi_nest_on (mi_inN_nest h5)) (hK.2.1 _ (mi_inN_nest h5))⟩, hts _ (mi_in_good h6), hts _ (mi_in_good h7)⟩ ⟨hbl, hrecv, hp⟩ rfl (by rw [List.length_map, List.length_reverse, e3]) hl rfl (lv_room hW) hd ⟨hcells, hslots⟩) J kk
theorem mi_callI {P : List mi_M} {cal : mi_C} (F : mi_Fx p s m args c D ca B b X own cc nL) (hN : mi_nmOk P) (hcal : mi_calOk l R D ca B b X P cal) (J : mi_J s D ca B b w H locs) {ls : Array Slot} (hl : ls.size = nL) {pc x a k : Nat} {v : Int32} {ini : Bool} {st : List Value} {r : Option Value} {o : Nat} (hk9 : ¬ k = 99) (h2 : mi_okL own nL ini pc (.invokespecial x) a k v = true) (hd : decode cc pc = .ok (.invokespecial x, 3)) (ho : st[k]? = some (.ref o)) (hlen : st.length ≤ k + 9) (hc : cal a (st.take (k + 1)).reverse w = some (r, w')) (hret : ∀ M, P[a]? = some M → M.1 = none) (hcells : cells + (w'.length - w.length) ≤ R.cells) (hslots : slots + (mi_sz w' - mi_sz w) ≤ R.slots)
    (kk : ∀ (H1 : Heap) (locs1 : List Loc), mi_J s D ca B b w' H1 locs1 → W p l e R s m args below meth c H1 locs1 (cells + (w'.length - w.length)) (slots + (mi_sz w' - mi_sz w)) Q (F0 m (pc + 3) ls ((r.map (mi_tr B b)).toList ++ (st.drop (k + 1)).map (mi_tr B b)))) : W p l e R s m args below meth c H locs cells slots Q (F0 m pc ls (st.map (mi_tr B b))) := by
  obtain ⟨hx, hb, hml, hown, hts, hK, hbB, hB⟩ := id F
  obtain ⟨hg1, hg2, d, M, hP, hfr, hlo, hcon⟩ := hcal _ _ _ _ _ hc
  obtain ⟨y, code, np, hnm, hcode, hpl, hmh, hvh, hpar, hKK, hok⟩ := hN a M hP
  have hM := hcon y code np M hnm hP
  obtain ⟨e1, e2, e3⟩ := mi_split ho
  have hp := mi_preU F J (st.take (k + 1)).reverse
  rw [e2, List.map_cons] at hM hp
  have hlo2 : 8 + (M.2.1 + 11) + (d + 1) * mi_KK ≤ R.locals := by
    have e : (d + 2) * mi_KK = (d + 1) * mi_KK + mi_KK := Nat.succ_mul (d + 1) mi_KK
    omega
  have hbl := mi_blind (D := D) (ca := ca) (B := B) (b := b) (X := X) (w := w) (.ref o :: (st.take k).reverse)
  rw [List.map_cons] at hbl
  have hst : st.map (mi_tr B b) = ((st.take k).reverse.map (mi_tr B b)).reverse ++ .ref (B + o) :: (st.drop (k + 1)).map (mi_tr B b) := by
    conv => lhs; rw [e1]
    rw [List.map_append, List.map_cons, List.map_reverse, List.reverse_reverse]
    rfl
  have hW : (((st.drop (k + 1)).map (mi_tr B b)).map (fun v => v.category)).sum ≤ 8 := mi_sum8 (by rw [List.length_drop]; omega)
  simp only [mi_okL, hk9, if_false, mi_okM, hnm, Bool.and_eq_true, Bool.or_eq_true, decide_eq_true_eq, List.any_eq_true] at h2
  obtain ⟨⟨⟨h3, h4⟩, h5⟩, h6, h7⟩ := h2
  have hr0 : M.1 = none := hret M hP
  have hcw : Cond.code y code M.2.1 none ∈ mi_wsM y code M := by rw [← hr0]; exact List.mem_cons_self
  have hcg : Cond.code y code M.2.1 none ∈ mi_good := by rw [← hr0]; exact hcode
  rw [hst]
  rcases h5 with h5 | ⟨host, -, h5⟩
  · exact mi_called (va_runI (n := k) (As := (st.take k).reverse.map (mi_tr B b)) (rest := (st.drop (k + 1)).map (mi_tr B b)) ⟨hx, hb, hml, hown, hts⟩ hM ⟨⟨rfl, rfl, hfr, hlo2, pay_in hts (mi_good_in hcode), hcw, hts _ hcg, hts _ (mi_in_good h4), ⟨hmh, hvh⟩, mi_par hpar h3, hts _ (mi_in_good h5)⟩, h7, hts _ (mi_in_good h6)⟩ ⟨hbl, hp⟩ rfl (by rw [List.length_map, List.length_reverse, e3]) hl rfl (lv_room hW) hd ⟨hcells, hslots⟩) J kk
  · exact mi_called (va_runIN (n := k) (As := (st.take k).reverse.map (mi_tr B b)) (rest := (st.drop (k + 1)).map (mi_tr B b)) ⟨hx, hb, hml, hown, hts⟩ hM ⟨⟨⟨rfl, rfl, hfr, hlo2, pay_in hts (mi_good_in hcode), hcw⟩, hts _ hcg, hts _ (mi_in_good h4), ⟨hmh, hvh⟩, mi_par hpar h3, va_Nw.use (mi_nest_on (mi_inN_nest h5)) (hK.2.1 _ (mi_inN_nest h5))⟩, h7, hts _ (mi_in_good h6)⟩ ⟨hbl, hp⟩ rfl (by rw [List.length_map, List.length_reverse, e3]) hl rfl (lv_room hW) hd ⟨hcells, hslots⟩) J kk
theorem mi_callS {P : List mi_M} {cal : mi_C} (F : mi_Fx p s m args c D ca B b X own cc nL) (hN : mi_nmOk P) (hcal : mi_calOk l R D ca B b X P cal) (J : mi_J s D ca B b w H locs) {ls : Array Slot} (hl : ls.size = nL) {pc x a k : Nat} {v : Int32} {ini : Bool} {st : List Value} {r : Option Value} (hk9 : ¬ k = 99) (hk8 : ¬ k = 98) (hk7 : ¬ k = 97) (h2 : mi_okL own nL ini pc (.invokestatic x) a k v = true) (hd : decode cc pc = .ok (.invokestatic x, 3)) (ho : k ≤ st.length) (hlen : st.length ≤ k + 8) (hc : cal a (st.take k).reverse w = some (r, w')) (hcells : cells + (w'.length - w.length) ≤ R.cells) (hslots : slots + (mi_sz w' - mi_sz w) ≤ R.slots)
    (kk : ∀ (H1 : Heap) (locs1 : List Loc), mi_J s D ca B b w' H1 locs1 → W p l e R s m args below meth c H1 locs1 (cells + (w'.length - w.length)) (slots + (mi_sz w' - mi_sz w)) Q (F0 m (pc + 3) ls ((r.map (mi_tr B b)).toList ++ (st.drop k).map (mi_tr B b)))) : W p l e R s m args below meth c H locs cells slots Q (F0 m pc ls (st.map (mi_tr B b))) := by
  obtain ⟨hx, hb, hml, hown, hts, hK, hbB, hB⟩ := id F
  obtain ⟨hg1, hg2, d, M, hP, hfr, hlo, hcon⟩ := hcal _ _ _ _ _ hc
  obtain ⟨y, code, np, hnm, hcode, hpl, hmh, hvh, hpar, hKK, hok⟩ := hN a M hP
  have hM := hcon y code np M hnm hP
  have hp := mi_preU F J (st.take k).reverse
  have hlo2 : 8 + (M.2.1 + 11) + (d + 1) * mi_KK ≤ R.locals := by
    have e : (d + 2) * mi_KK = (d + 1) * mi_KK + mi_KK := Nat.succ_mul (d + 1) mi_KK
    omega
  have hbl := mi_blind (D := D) (ca := ca) (B := B) (b := b) (X := X) (w := w) (st.take k).reverse
  have hst : st.map (mi_tr B b) = ((st.take k).reverse.map (mi_tr B b)).reverse ++ (st.drop k).map (mi_tr B b) := by
    conv => lhs; rw [← List.take_append_drop k st]
    rw [List.map_append, List.map_reverse, List.reverse_reverse]
  have hW : (((st.drop k).map (mi_tr B b)).map (fun v => v.category)).sum ≤ 8 := mi_sum8 (by rw [List.length_drop]; omega)
  simp only [mi_okL, hk9, hk8, hk7, if_false, mi_okM, hnm, Bool.and_eq_true, Bool.or_eq_true, decide_eq_true_eq, List.any_eq_true] at h2
  obtain ⟨⟨⟨h3, h4⟩, h5⟩, h6⟩ := h2
  rw [hst]
  rcases h5 with h5 | ⟨host, -, h5⟩
  · exact mi_called (va_runS (n := k) (As := (st.take k).reverse.map (mi_tr B b)) (rest := (st.drop k).map (mi_tr B b)) ⟨hx, hb, hml, hown, hts⟩ hM ⟨⟨rfl, rfl, hfr, hlo2, pay_in hts (mi_good_in hcode), List.mem_cons_self, hts _ hcode, hts _ (mi_in_good h4), ⟨hmh, hvh⟩, mi_par hpar h3, hts _ (mi_in_good h5)⟩, hts _ (mi_in_good h6)⟩ ⟨hbl, hp⟩ rfl (by rw [List.length_map, List.length_reverse, List.length_take]; omega) hl rfl (lv_room hW) hd ⟨hcells, hslots⟩) J kk
  · exact mi_called (va_runSN (n := k) (As := (st.take k).reverse.map (mi_tr B b)) (rest := (st.drop k).map (mi_tr B b)) ⟨hx, hb, hml, hown, hts⟩ hM ⟨⟨⟨rfl, rfl, hfr, hlo2, pay_in hts (mi_good_in hcode), List.mem_cons_self⟩, hts _ hcode, hts _ (mi_in_good h4), ⟨hmh, hvh⟩, mi_par hpar h3, va_Nw.use (mi_nest_on (mi_inN_nest h5)) (hK.2.1 _ (mi_inN_nest h5))⟩, hts _ (mi_in_good h6), trivial⟩ ⟨hbl, hp⟩ rfl (by rw [List.length_map, List.length_reverse, List.length_take]; omega) hl rfl (lv_room hW) hd ⟨hcells, hslots⟩) J kk
theorem mi_ins_ok {P : List mi_M} {cal : mi_C} {ret : Option FieldType} {ini : Bool} (hini : ini = true → meth.name = "<init>") (F : mi_Fx p s m args c D ca B b X own cc nL) (hC : mi_clOk)
    (hN : mi_nmOk P) (hcal : mi_calOk l R D ca B b X P cal) (hI : ∀ (a : Nat) (q : MethodName × ByteArray × Nat) (M : mi_M), mi_nm[a]? = some q → q.1.name = "<init>" → P[a]? = some M → M.1 = none) (hR : 1 ≤ R.frames ∧ mi_KK ≤ R.locals)
    {i : Instr} {n a k : Nat} {v : Int32} {pc : Nat} {L : mi_L} {st : List Value} {f' : mi_F} (ok : mi_okB own cc nL ini pc (i, n, a, k, v) = true) (h0 : n0 ≤ w.length ∧ z0 ≤ mi_sz w) (h : mi_ins X cal ret i n a k v pc L st w = some (.inl f')) (hroom : f'.2.2.2.length - n0 ≤ R.cells ∧ mi_sz f'.2.2.2 - z0 ≤ R.slots)
    (kk : mi_At p l e R s m args below meth c Q D ca B b nL n0 z0 f') : mi_At p l e R s m args below meth c Q D ca B b nL n0 z0 (pc, L, st, w) := by
  obtain ⟨hx, hb, hml, hown, hts, hK, hbB, hB⟩ := id F
  intro H locs ls J hl
  have J : mi_J s D ca B b w H locs := J
  have hl : mi_has B b ls nL L := hl
  show W p l e R s m args below meth c H locs (w.length - n0) (mi_sz w - z0) Q (F0 m pc ls (st.map (mi_tr B b)))
  cases i with
  | iconst x =>
    obtain ⟨hd, rfl, h2⟩ := mi_dec ok rfl
    obtain rfl : _ = f' := Sum.inl.inj (Option.some.inj h)
    exact lv_iconst hx hb hd (of_decide_eq_true h2) (kk H locs ls J hl)
  | bipush x =>
    obtain ⟨hd, rfl, h2⟩ := mi_dec ok rfl
    obtain rfl : _ = f' := Sum.inl.inj (Option.some.inj h)
    exact lv_bipush hx hb hd (of_decide_eq_true h2) (kk H locs ls J hl)
  | sipush x =>
    obtain ⟨hd, rfl, h2⟩ := mi_dec ok rfl
    obtain rfl : _ = f' := Sum.inl.inj (Option.some.inj h)
    exact lv_sipush hx hb hd (of_decide_eq_true h2) (kk H locs ls J hl)
  | ldc x =>
    obtain ⟨hd, rfl, h2⟩ := mi_dec ok rfl
    obtain rfl : _ = f' := Sum.inl.inj (Option.some.inj h)
    exact lv_ldc hx hb hown (hts _ (mi_in_good h2)) hd (kk H locs ls J hl)
  | ldc_w x =>
    obtain ⟨hd, rfl, h2⟩ := mi_dec ok rfl
    obtain rfl : _ = f' := Sum.inl.inj (Option.some.inj h)
    exact lv_ldcw hx hb hown (hts _ (mi_in_good h2)) hd (kk H locs ls J hl)
  | aconst_null =>
    obtain ⟨hd, rfl, h2⟩ := mi_dec ok rfl
    obtain rfl : _ = f' := Sum.inl.inj (Option.some.inj h)
    exact lv_null hx hb hd (kk H locs ls J hl)
  | iload_n x =>
    obtain ⟨hd, rfl, h2⟩ := mi_dec ok rfl
    simp only [mi_ins] at h
    split at h
    · rename_i y hy
      obtain rfl := Sum.inl.inj (Option.some.inj h)
      exact lv_iload_n hx hb hd (of_decide_eq_true h2) (mi_has_get hl hy) (kk H locs ls J hl)
    · cases h
  | iload x =>
    obtain ⟨hd, rfl, h2⟩ := mi_dec ok rfl
    obtain rfl := (of_decide_eq_true h2 : x = a)
    simp only [mi_ins] at h
    split at h
    · rename_i y hy
      obtain rfl := Sum.inl.inj (Option.some.inj h)
      exact lv_iload hx hb hd (mi_has_get hl hy) (kk H locs ls J hl)
    · cases h
  | aload_n x =>
    obtain ⟨hd, rfl, h2⟩ := mi_dec ok rfl
    simp only [mi_ins] at h
    split at h
    · rename_i y hy
      obtain rfl := Sum.inl.inj (Option.some.inj h)
      exact lv_aload_n hx hb hd (of_decide_eq_true h2) (mi_has_get hl hy) (kk H locs ls J hl)
    · rename_i y hy
      obtain rfl := Sum.inl.inj (Option.some.inj h)
      exact lv_aload_n hx hb hd (of_decide_eq_true h2) (mi_has_get hl hy) (kk H locs ls J hl)
    · rename_i hy
      obtain rfl := Sum.inl.inj (Option.some.inj h)
      exact lv_aload_nN hx hb hd (of_decide_eq_true h2) (mi_has_get hl hy) (kk H locs ls J hl)
    · cases h
  | aload x =>
    obtain ⟨hd, rfl, h2⟩ := mi_dec ok rfl
    obtain rfl := (of_decide_eq_true h2 : x = a)
    simp only [mi_ins] at h
    split at h
    · rename_i y hy
      obtain rfl := Sum.inl.inj (Option.some.inj h)
      exact lv_aload hx hb hd (mi_has_get hl hy) (kk H locs ls J hl)
    · rename_i y hy
      obtain rfl := Sum.inl.inj (Option.some.inj h)
      exact lv_aload hx hb hd (mi_has_get hl hy) (kk H locs ls J hl)
    · rename_i hy
      obtain rfl := Sum.inl.inj (Option.some.inj h)
      exact lv_aloadN hx hb hd (mi_has_get hl hy) (kk H locs ls J hl)
    · cases h
  | istore_n x =>
    obtain ⟨hd, rfl, h2⟩ := mi_dec ok rfl
    simp only [mi_okL, Bool.and_eq_true, decide_eq_true_eq] at h2
    simp only [mi_ins] at h
    split at h
    · obtain rfl := Sum.inl.inj (Option.some.inj h)
      exact lv_istore_n hx hb hd h2.1 hl.1 h2.2 rfl (fun ls' hl' => kk H locs ls' J (mi_has_set hl.2 hl'))
    · cases h
  | istore x =>
    obtain ⟨hd, rfl, h2⟩ := mi_dec ok rfl
    simp only [mi_okL, Bool.and_eq_true, decide_eq_true_eq] at h2
    obtain ⟨rfl, h2⟩ := h2
    simp only [mi_ins] at h
    split at h
    · obtain rfl := Sum.inl.inj (Option.some.inj h)
      exact lv_istore hx hb hd hl.1 h2 rfl (fun ls' hl' => kk H locs ls' J (mi_has_set hl.2 hl'))
    · cases h
  | astore_n x =>
    obtain ⟨hd, rfl, h2⟩ := mi_dec ok rfl
    simp only [mi_okL, Bool.and_eq_true, decide_eq_true_eq] at h2
    simp only [mi_ins] at h
    split at h
    · rename_i y r
      obtain rfl := Sum.inl.inj (Option.some.inj h)
      exact lv_astore_n hx hb hd h2.1 hl.1 h2.2 rfl (fun ls' hl' => kk H locs ls' J (mi_has_set (v := .ref y) hl.2 hl'))
    · obtain rfl := Sum.inl.inj (Option.some.inj h)
      exact lv_astore_nN hx hb hd h2.1 hl.1 h2.2 rfl (fun ls' hl' => kk H locs ls' J (mi_has_set (v := .null) hl.2 hl'))
    · cases h
  | astore x =>
    obtain ⟨hd, rfl, h2⟩ := mi_dec ok rfl
    simp only [mi_okL, Bool.and_eq_true, decide_eq_true_eq] at h2
    obtain ⟨rfl, h2⟩ := h2
    simp only [mi_ins] at h
    split at h
    · rename_i y r
      obtain rfl := Sum.inl.inj (Option.some.inj h)
      exact lv_astore hx hb hd hl.1 h2 rfl (fun ls' hl' => kk H locs ls' J (mi_has_set (v := .ref y) hl.2 hl'))
    · obtain rfl := Sum.inl.inj (Option.some.inj h)
      exact lv_astoreN hx hb hd hl.1 h2 rfl (fun ls' hl' => kk H locs ls' J (mi_has_set (v := .null) hl.2 hl'))
    · cases h
  | iinc x y =>
    obtain ⟨hd, rfl, h2⟩ := mi_dec ok rfl
    simp only [mi_okL, Bool.and_eq_true, decide_eq_true_eq] at h2
    obtain ⟨⟨rfl, h2⟩, h3⟩ := h2
    simp only [mi_ins] at h
    split at h
    · rename_i z hz
      obtain rfl := Sum.inl.inj (Option.some.inj h)
      obtain ⟨j, hj⟩ := List.getElem?_of_mem (mi_ll_in.mpr ⟨.int z, hz, rfl⟩ : (x, mi_tr B b (.int z)) ∈ mi_ll B b L)
      exact lv_iinc hx hb hd hl.1 (k := j) hj (by rw [h3]) h2 rfl (fun ls' hl' => kk H locs ls' J (mi_has_set (v := .int (z + v)) hl.2 hl'))
    · cases h
  | iadd =>
    obtain ⟨hd, rfl, h2⟩ := mi_dec ok rfl
    simp only [mi_ins] at h
    split at h
    · obtain rfl := Sum.inl.inj (Option.some.inj h)
      exact lv_iadd hx hb hd (kk H locs ls J hl)
    · cases h
  | isub =>
    obtain ⟨hd, rfl, h2⟩ := mi_dec ok rfl
    simp only [mi_ins] at h
    split at h
    · obtain rfl := Sum.inl.inj (Option.some.inj h)
      exact lv_isub hx hb hd (kk H locs ls J hl)
    · cases h
  | imul =>
    obtain ⟨hd, rfl, h2⟩ := mi_dec ok rfl
    simp only [mi_ins] at h
    split at h
    · obtain rfl := Sum.inl.inj (Option.some.inj h)
      exact lv_imul hx hb hd (kk H locs ls J hl)
    · cases h
  | iand =>
    obtain ⟨hd, rfl, h2⟩ := mi_dec ok rfl
    simp only [mi_ins] at h
    split at h
    · obtain rfl := Sum.inl.inj (Option.some.inj h)
      exact lv_iand hx hb hd (kk H locs ls J hl)
    · cases h
  | ior =>
    obtain ⟨hd, rfl, h2⟩ := mi_dec ok rfl
    simp only [mi_ins] at h
    split at h
    · obtain rfl := Sum.inl.inj (Option.some.inj h)
      exact lv_ior hx hb hd (kk H locs ls J hl)
    · cases h
  | ixor =>
    obtain ⟨hd, rfl, h2⟩ := mi_dec ok rfl
    simp only [mi_ins] at h
    split at h
    · obtain rfl := Sum.inl.inj (Option.some.inj h)
      exact lv_ixor hx hb hd (kk H locs ls J hl)
    · cases h
  | ishl =>
    obtain ⟨hd, rfl, h2⟩ := mi_dec ok rfl
    simp only [mi_ins] at h
    split at h
    · obtain rfl := Sum.inl.inj (Option.some.inj h)
      exact lv_ishl hx hb hd (kk H locs ls J hl)
    · cases h
  | ishr =>
    obtain ⟨hd, rfl, h2⟩ := mi_dec ok rfl
    simp only [mi_ins] at h
    split at h
    · obtain rfl := Sum.inl.inj (Option.some.inj h)
      exact lv_ishr hx hb hd (kk H locs ls J hl)
    · cases h
  | idiv =>
    obtain ⟨hd, rfl, h2⟩ := mi_dec ok rfl
    simp only [mi_ins] at h
    split at h
    · split at h
      · cases h
      · rename_i hy
        obtain rfl := Sum.inl.inj (Option.some.inj h)
        exact lv_idiv hx hb hd hy (kk H locs ls J hl)
    · cases h
  | irem =>
    obtain ⟨hd, rfl, h2⟩ := mi_dec ok rfl
    simp only [mi_ins] at h
    split at h
    · split at h
      · cases h
      · rename_i hy
        obtain rfl := Sum.inl.inj (Option.some.inj h)
        exact lv_irem hx hb hd hy (kk H locs ls J hl)
    · cases h
  | ineg =>
    obtain ⟨hd, rfl, h2⟩ := mi_dec ok rfl
    simp only [mi_ins] at h
    split at h
    · obtain rfl := Sum.inl.inj (Option.some.inj h)
      exact lv_ineg hx hb hd (kk H locs ls J hl)
    · cases h
  | iushr =>
    obtain ⟨hd, rfl, h2⟩ := mi_dec ok rfl
    simp only [mi_ins] at h
    split at h
    · obtain rfl := Sum.inl.inj (Option.some.inj h)
      exact lv_iushr hx hb hd rfl (kk H locs ls J hl)
    · cases h
  | dup =>
    obtain ⟨hd, rfl, h2⟩ := mi_dec ok rfl
    simp only [mi_ins] at h
    split at h
    · obtain rfl := Sum.inl.inj (Option.some.inj h)
      exact lv_dup hx hb hd (mi_tr_cat B b _) (kk H locs ls J hl)
    · cases h
  | pop =>
    obtain ⟨hd, rfl, h2⟩ := mi_dec ok rfl
    simp only [mi_ins] at h
    split at h
    · obtain rfl := Sum.inl.inj (Option.some.inj h)
      exact lv_pop hx hb hd (mi_tr_cat B b _) (kk H locs ls J hl)
    · cases h
  | dup_x1 =>
    obtain ⟨hd, rfl, h2⟩ := mi_dec ok rfl
    simp only [mi_ins] at h
    split at h
    · obtain rfl := Sum.inl.inj (Option.some.inj h)
      exact lv_dup_x1 hx hb hd (mi_tr_cat B b _) (mi_tr_cat B b _) (kk H locs ls J hl)
    · cases h
  | dup_x2 =>
    obtain ⟨hd, rfl, h2⟩ := mi_dec ok rfl
    simp only [mi_ins] at h
    split at h
    · obtain rfl := Sum.inl.inj (Option.some.inj h)
      exact lv_dup_x2 hx hb hd (mi_tr_cat B b _) (mi_tr_cat B b _) (mi_tr_cat B b _) (kk H locs ls J hl)
    · cases h
  | dup2 =>
    obtain ⟨hd, rfl, h2⟩ := mi_dec ok rfl
    simp only [mi_ins] at h
    split at h
    · obtain rfl := Sum.inl.inj (Option.some.inj h)
      exact lv_dup2_11 hx hb hd (mi_tr_cat B b _) (mi_tr_cat B b _) (kk H locs ls J hl)
    · cases h
  | goto o =>
    obtain ⟨hd, rfl, h2⟩ := mi_dec ok rfl
    obtain rfl : _ = f' := Sum.inl.inj (Option.some.inj h)
    exact lv_goto hx hb hd (of_decide_eq_true h2) (kk H locs ls J hl)
  | ifCond q o =>
    obtain ⟨hd, rfl, h2⟩ := mi_dec ok rfl
    cases q with
    | eq =>
      simp only [mi_ins] at h
      split at h
      · obtain rfl := Sum.inl.inj (Option.some.inj h)
        exact lv_if_eq hx hb hd (of_decide_eq_true h2) (fun q => mi_At_t kk q H locs ls J hl) (fun q => mi_At_f kk q H locs ls J hl)
      · cases h
    | ne =>
      simp only [mi_ins] at h
      split at h
      · obtain rfl := Sum.inl.inj (Option.some.inj h)
        exact lv_if_ne hx hb hd (of_decide_eq_true h2) (fun q => mi_At_f kk q H locs ls J hl) (fun q => mi_At_t kk q H locs ls J hl)
      · cases h
    | lt =>
      simp only [mi_ins] at h
      split at h
      · obtain rfl := Sum.inl.inj (Option.some.inj h)
        exact lv_if_lt hx hb hd (of_decide_eq_true h2) (fun q => mi_At_t kk q H locs ls J hl) (fun q => mi_At_f kk q H locs ls J hl)
      · cases h
    | ge =>
      simp only [mi_ins] at h
      split at h
      · obtain rfl := Sum.inl.inj (Option.some.inj h)
        exact lv_if_ge hx hb hd (of_decide_eq_true h2) (fun q => mi_At_t kk q H locs ls J hl) (fun q => mi_At_f kk q H locs ls J hl)
      · cases h
    | gt =>
      simp only [mi_ins] at h
      split at h
      · obtain rfl := Sum.inl.inj (Option.some.inj h)
        exact lv_if_gt hx hb hd (of_decide_eq_true h2) (fun q => mi_At_t kk q H locs ls J hl) (fun q => mi_At_f kk q H locs ls J hl)
      · cases h
    | le =>
      simp only [mi_ins] at h
      split at h
      · obtain rfl := Sum.inl.inj (Option.some.inj h)
        exact lv_if_le hx hb hd (of_decide_eq_true h2) (fun q => mi_At_t kk q H locs ls J hl) (fun q => mi_At_f kk q H locs ls J hl)
      · cases h
  | if_icmp q o =>
    obtain ⟨hd, rfl, h2⟩ := mi_dec ok rfl
    cases q with
    | eq =>
      simp only [mi_ins] at h
      split at h
      · obtain rfl := Sum.inl.inj (Option.some.inj h)
        exact lv_icmp_eq hx hb hd (of_decide_eq_true h2) (fun q => mi_At_t kk q H locs ls J hl) (fun q => mi_At_f kk q H locs ls J hl)
      · cases h
    | ne =>
      simp only [mi_ins] at h
      split at h
      · obtain rfl := Sum.inl.inj (Option.some.inj h)
        exact lv_icmp_ne hx hb hd (of_decide_eq_true h2) (fun q => mi_At_f kk q H locs ls J hl) (fun q => mi_At_t kk q H locs ls J hl)
      · cases h
    | lt =>
      simp only [mi_ins] at h
      split at h
      · obtain rfl := Sum.inl.inj (Option.some.inj h)
        exact lv_icmp_lt hx hb hd (of_decide_eq_true h2) (fun q => mi_At_t kk q H locs ls J hl) (fun q => mi_At_f kk q H locs ls J hl)
      · cases h
    | ge =>
      simp only [mi_ins] at h
      split at h
      · obtain rfl := Sum.inl.inj (Option.some.inj h)
        exact lv_icmp_ge hx hb hd (of_decide_eq_true h2) (fun q => mi_At_t kk q H locs ls J hl) (fun q => mi_At_f kk q H locs ls J hl)
      · cases h
    | gt =>
      simp only [mi_ins] at h
      split at h
      · obtain rfl := Sum.inl.inj (Option.some.inj h)
        exact lv_icmp_gt hx hb hd (of_decide_eq_true h2) (fun q => mi_At_t kk q H locs ls J hl) (fun q => mi_At_f kk q H locs ls J hl)
      · cases h
    | le =>
      simp only [mi_ins] at h
      split at h
      · obtain rfl := Sum.inl.inj (Option.some.inj h)
        exact lv_icmp_le hx hb hd (of_decide_eq_true h2) (fun q => mi_At_t kk q H locs ls J hl) (fun q => mi_At_f kk q H locs ls J hl)
      · cases h
  | tableswitch dd lo hi os =>
    have hd : decode cc pc = .ok (.tableswitch dd lo hi os, n - pc) := by
      simp only [mi_okB, Bool.and_eq_true, decide_eq_true_eq] at ok
      exact ok.1.1
    have h2 : mi_okL own nL ini pc (.tableswitch dd lo hi os) a k v = true := by
      simp only [mi_okB, Bool.and_eq_true, decide_eq_true_eq] at ok
      exact ok.2
    simp only [mi_okL, Bool.and_eq_true, decide_eq_true_eq, List.all_eq_true] at h2
    simp only [mi_ins] at h
    split at h
    · rename_i x r
      split at h
      · rename_i hc
        obtain rfl := Sum.inl.inj (Option.some.inj h)
        exact lv_tableOut hx hb hd hc (by unfold mi_tgt; omega) (kk H locs ls J hl)
      · rename_i hc
        split at h
        · rename_i o ho
          obtain rfl := Sum.inl.inj (Option.some.inj h)
          have ho2 := h2.2 o (by rw [← Array.getElem?_toList] at ho; exact List.mem_of_getElem? ho)
          exact lv_tableIn hx hb hd (fun q => hc (Or.inl q)) (fun q => hc (Or.inr q)) ho (by unfold mi_tgt; omega) (kk H locs ls J hl)
        · cases h
    · cases h
  | getfield x =>
    obtain ⟨hd, rfl, h2⟩ := mi_dec ok rfl
    simp only [mi_ins] at h
    split at h
    · rename_i o r
      split at h
      · rename_i ci fs hw
        split at h
        · rename_i hca
          subst hca
          split at h
          · rename_i y hy
            obtain rfl := Sum.inl.inj (Option.some.inj h)
            have he := mi_ws_get (B := B) (b := b) (ca := ca) hw
            have hv : (fs.map (mi_tr B b))[k]? = some (mi_tr B b y) := by rw [List.getElem?_map, hy]; rfl
            simp only [mi_okL, Bool.or_eq_true] at h2
            rcases h2 with h2 | h2
            · unfold mi_okF at h2
              split at h2
              · rename_i C T N hc
                simp only [Bool.and_eq_true, decide_eq_true_eq] at h2
                obtain ⟨⟨h3, h4⟩, h5⟩ := h2
                exact va_get hx hb hts (hC _ _ _ _ hc).1 hown hK.1 J.1 o he hc k h3 (hts _ (mi_in_good h5)) (fun z hz => by rw [h4] at hz; exact hz) hv hd (kk H locs ls J hl)
              · cases h2
            · unfold mi_okFN at h2
              split at h2
              · rename_i C T N hc
                simp only [Bool.and_eq_true, decide_eq_true_eq, List.any_eq_true] at h2
                obtain ⟨⟨h3, h4⟩, host, -, h5⟩ := h2
                exact va_getN hx hb hts (hC _ _ _ _ hc).1 hown hK.1 J.1 o he hc k h3 (va_Nw.use (mi_nest_on (mi_inN_nest h5)) (hK.2.1 _ (mi_inN_nest h5))) (fun z hz => by rw [h4] at hz; exact hz) hv hd (kk H locs ls J hl)
              · cases h2
          · cases h
        · cases h
      · cases h
    · cases h
  | putfield x =>
    obtain ⟨hd, rfl, h2⟩ := mi_dec ok rfl
    simp only [mi_ins] at h
    split at h
    · rename_i y o r
      split at h
      · rename_i ci fs hw
        split at h
        · rename_i hq
          obtain ⟨rfl, hlen, hfit⟩ := hq
          obtain rfl := Sum.inl.inj (Option.some.inj h)
          refine mi_put hini F hC J hw hlen hfit h2 hd (fun H1 locs1 J1 => ?_)
          have k2 := kk H1 locs1 ls J1 hl
          simp only [List.length_set, mi_sz_set hw (e' := .inr (ci, fs.set k y)) (by simp [mi_es])] at k2
          exact k2
        · cases h
      · cases h
    · cases h
  | arraylength =>
    obtain ⟨hd, rfl, h2⟩ := mi_dec ok rfl
    simp only [mi_ins] at h
    split at h
    · rename_i o r
      split at h
      · rename_i t kn x hw
        split at h
        · rename_i ht
          obtain rfl := Sum.inl.inj (Option.some.inj h)
          have he := mi_ws_get (B := B) (b := b) (ca := ca) hw
          rcases x with f | f | f | f | f <;> exact va_alen hx hb hK.1 J.1 o t he (mi_tys_at ht) rfl hd (kk H locs ls J hl)
        · cases h
      · cases h
    · rename_i x r
      obtain rfl := Sum.inl.inj (Option.some.inj h)
      exact va_slen hx hb hK.2.2.2 (Nat.lt_of_lt_of_le hbB hB) (Nat.not_le.mpr hbB) J.2.1 hd (kk H locs ls J hl)
    · cases h
  | iastore =>
    obtain ⟨hd, rfl, h2⟩ := mi_dec ok rfl
    simp only [mi_ins] at h
    split at h
    · rename_i x j o r
      split at h
      · rename_i kn f hw
        split at h
        · cases h
        · rename_i hin
          obtain rfl := Sum.inl.inj (Option.some.inj h)
          refine mi_ast F J hw hin hd (fun H1 locs1 J1 => ?_)
          have k2 := kk H1 locs1 ls J1 hl
          simp only [List.length_set, mi_sz_set hw (e' := .inl (0, kn, .inl (upd f j.toNatClampNeg x))) rfl] at k2
          exact k2
      · cases h
    · cases h
  | iaload =>
    obtain ⟨hd, rfl, h2⟩ := mi_dec ok rfl
    simp only [mi_ins] at h
    split at h
    · rename_i j o r
      split at h
      · rename_i kn f hw
        split at h
        · cases h
        · rename_i hin
          obtain rfl := Sum.inl.inj (Option.some.inj h)
          exact va_iald hx hb hK.1 J.1 o 0 (mi_ws_get hw) (mi_tys_at mi_nty0) hin hd (kk H locs ls J hl)
      · cases h
    · rename_i j x r
      split at h
      · cases h
      · rename_i hin
        obtain rfl := Sum.inl.inj (Option.some.inj h)
        exact va_sld hx hb hK.2.2.2 (Nat.lt_of_lt_of_le hbB hB) (Nat.not_le.mpr hbB) J.2.1 hin hd (kk H locs ls J hl)
    · cases h
  | baload =>
    obtain ⟨hd, rfl, h2⟩ := mi_dec ok rfl
    simp only [mi_ins] at h
    split at h
    · rename_i j o r
      split at h
      · rename_i kn f hw
        split at h
        · cases h
        · rename_i hin
          obtain rfl := Sum.inl.inj (Option.some.inj h)
          exact va_zald hx hb hK.1 J.1 o 1 (mi_ws_get hw) (mi_tys_at mi_nty1) hin hd (kk H locs ls J hl)
      · cases h
    · cases h
  | bastore =>
    obtain ⟨hd, rfl, h2⟩ := mi_dec ok rfl
    simp only [mi_ins] at h
    split at h
    · rename_i x j o r
      split at h
      · rename_i kn f hw
        split at h
        · cases h
        · rename_i hin
          obtain rfl := Sum.inl.inj (Option.some.inj h)
          refine mi_zst F J hw hin hd (fun H1 locs1 J1 => ?_)
          have k2 := kk H1 locs1 ls J1 hl
          simp only [List.length_set, mi_sz_set hw (e' := .inl (1, kn, .inl (upd f j.toNatClampNeg (x &&& 1)))) rfl] at k2
          exact k2
      · cases h
    · cases h
  | aaload =>
    obtain ⟨hd, rfl, h2⟩ := mi_dec ok rfl
    simp only [mi_ins] at h
    split at h
    · rename_i j o r
      split at h
      · rename_i t kn g hw
        split at h
        · cases h
        · rename_i hin
          obtain rfl := Sum.inl.inj (Option.some.inj h)
          simp only [not_or, Nat.not_lt, Nat.not_le] at hin
          obtain ⟨i1, i2, i3, i4⟩ := hin
          have ht := mi_tys_at (ca := ca) i2
          rw [mi_ty2 t i1 i2] at ht
          refine va_aldq hx hb hK.1 J.1 o t (mi_ws_get hw) ht (fun q => q.elim i3 (fun z => Nat.not_le.mpr i4 z)) hd ?_
          have k2 := kk H locs ls J hl
          simp only [List.map_cons, ← mi_rf] at k2
          exact k2
      · cases h
    · cases h
  | aastore =>
    obtain ⟨hd, rfl, h2⟩ := mi_dec ok rfl
    simp only [mi_ins] at h
    split at h
    · rename_i x j o r
      split at h
      · rename_i t kn g ci fs hw hv
        split at h
        · cases h
        · rename_i hin
          obtain rfl := Sum.inl.inj (Option.some.inj h)
          simp only [not_or, Nat.not_lt, Nat.not_le, ne_eq, Decidable.not_not] at hin
          obtain ⟨i1, i2, i3, i4, i5⟩ := hin
          refine mi_aast F J hw hv i1 i2 i3 (fun q => q.elim i4 (fun z => Nat.not_le.mpr i5 z)) hd (fun H1 locs1 J1 => ?_)
          have k2 := kk H1 locs1 ls J1 hl
          simp only [List.length_set, mi_sz_set hw (e' := .inl (t, kn, .inr (.inr (.inr (.inr (va_up g j.toNatClampNeg (some x))))))) rfl] at k2
          exact k2
      · cases h
    · cases h
  | new x =>
    obtain ⟨hd, rfl, h2⟩ := mi_dec ok rfl
    obtain rfl : _ = f' := Sum.inl.inj (Option.some.inj h)
    simp only [List.length_append, mi_sz_push, mi_es, List.length_cons, List.length_nil] at hroom
    refine mi_new F hC J h2 hd (by omega) (by omega) (fun H1 J1 => ?_)
    have k2 := kk H1 locs ls J1 hl
    simp only [List.length_append, mi_sz_push, mi_es, List.length_cons, List.length_nil] at k2
    rw [show w.length - n0 + 1 = w.length + (0 + 1) - n0 by omega, show mi_sz w - z0 + (mi_dflt a).length = mi_sz w + (mi_dflt a).length - z0 by omega]
    exact k2
  | newarray x =>
    obtain ⟨hd, rfl, h2⟩ := mi_dec ok rfl
    simp only [mi_ins] at h
    split at h
    · rename_i j r
      split at h
      · cases h
      · rename_i hj
        obtain rfl := Sum.inl.inj (Option.some.inj h)
        simp only [List.length_append, mi_sz_push, mi_es, List.length_cons, List.length_nil] at hroom
        refine mi_newa F J h2 hd hj (by omega) (by omega) (fun H1 J1 => ?_)
        have k2 := kk H1 locs ls J1 hl
        simp only [List.length_append, mi_sz_push, mi_es, List.length_cons, List.length_nil] at k2
        rw [show w.length - n0 + 1 = w.length + (0 + 1) - n0 by omega, show mi_sz w - z0 + j.toNatClampNeg = mi_sz w + j.toNatClampNeg - z0 by omega]
        exact k2
    · cases h
  | anewarray x =>
    obtain ⟨hd, rfl, h2⟩ := mi_dec ok rfl
    simp only [mi_ins] at h
    split at h
    · rename_i j r
      split at h
      · cases h
      · rename_i hj
        obtain rfl := Sum.inl.inj (Option.some.inj h)
        simp only [List.length_append, mi_sz_push, mi_es, List.length_cons, List.length_nil] at hroom
        refine mi_anew F J h2 hd hj (by omega) (by omega) (fun H1 J1 => ?_)
        have k2 := kk H1 locs ls J1 hl
        simp only [List.length_append, mi_sz_push, mi_es, List.length_cons, List.length_nil] at k2
        rw [show w.length - n0 + 1 = w.length + (0 + 1) - n0 by omega, show mi_sz w - z0 + j.toNatClampNeg = mi_sz w + j.toNatClampNeg - z0 by omega]
        exact k2
    · cases h
  | invokevirtual x =>
    obtain ⟨hd, rfl, h2⟩ := mi_dec ok rfl
    simp only [mi_ins] at h
    split at h
    · rename_i o ho
      split at h
      · rename_i ci fs hw
        split at h
        · rename_i hq
          split at h
          · rename_i q hcl
            obtain rfl := Sum.inl.inj (Option.some.inj h)
            obtain ⟨r, w'⟩ := q
            have hg := hcal _ _ _ _ _ hcl
            simp only at hroom
            refine mi_callV F hN hcal J hl.1.1 h2 hd ho hw hq.1 hq.2 hcl (by omega) (by omega) (fun H1 locs1 J1 => ?_)
            have k2 := kk H1 locs1 ls J1 hl
            rw [show w.length - n0 + (w'.length - w.length) = w'.length - n0 by omega, show mi_sz w - z0 + (mi_sz w' - mi_sz w) = mi_sz w' - z0 by omega]
            simp only [List.map_append] at k2
            cases r <;> exact k2
          · cases h
        · cases h
      · cases h
    · cases h
  | invokespecial x =>
    obtain ⟨hd, rfl, h2⟩ := mi_dec ok rfl
    simp only [mi_ins] at h
    split at h
    · rename_i hk9
      split at h
      · rename_i o r
        split at h
        · rename_i hr8
          obtain rfl := Sum.inl.inj (Option.some.inj h)
          simp only [mi_okL, hk9, if_true, Bool.and_eq_true] at h2
          have hs8 := mi_sum8 (B := B) (b := b) hr8
          refine W.objInit hx hb hown (hts _ (mi_in_good h2.1.1)) (hts _ (mi_in_good h2.1.2)) (hts _ (mi_in_good h2.2)) rfl (by rw [hml]; exact hl.1.1) rfl hd hR.1 ?_ (kk H locs ls J hl)
          show 2 * 0 + _ + 12 ≤ _
          have := mi_KK20
          omega
        · cases h
      · cases h
    · rename_i hk9
      split at h
      · rename_i o ho
        split at h
        · rename_i hq
          split at h
          · rename_i q hcl
            obtain rfl := Sum.inl.inj (Option.some.inj h)
            obtain ⟨r, w'⟩ := q
            have hg := hcal _ _ _ _ _ hcl
            simp only at hroom
            refine mi_callI F hN hcal J hl.1.1 hk9 h2 hd ho hq hcl (fun M hM => ?_) (by omega) (by omega) (fun H1 locs1 J1 => ?_)
            · simp only [mi_okL, hk9, if_false, Bool.and_eq_true] at h2
              obtain ⟨-, h2⟩ := h2
              split at h2
              · rename_i y cd np hnm
                simp only [Bool.and_eq_true, decide_eq_true_eq] at h2
                exact hI a _ M hnm h2.2 hM
              · cases h2
            · have k2 := kk H1 locs1 ls J1 hl
              rw [show w.length - n0 + (w'.length - w.length) = w'.length - n0 by omega, show mi_sz w - z0 + (mi_sz w' - mi_sz w) = mi_sz w' - z0 by omega]
              simp only [List.map_append] at k2
              cases r <;> exact k2
          · cases h
        · cases h
      · cases h
  | invokestatic x =>
    obtain ⟨hd, rfl, h2⟩ := mi_dec ok rfl
    simp only [mi_ins] at h
    split at h
    · rename_i hk9
      split at h
      · rename_i kz dp o sp q r
        split at h
        · rename_i k0 f k1 g hwq hwo
          split at h
          · cases h
          · rename_i hin
            obtain rfl := Sum.inl.inj (Option.some.inj h)
            simp only [not_or, Nat.not_lt] at hin
            obtain ⟨i1, i2, i3, i4, i5, i6⟩ := hin
            simp only [mi_okL, hk9, if_true, Bool.and_eq_true] at h2
            refine mi_copy F hR J hl.1.1 hwq hwo i2 i3 i4 i5 i6 i1 (hts _ (mi_in_good h2.1.1.1)) (hts _ (mi_in_good h2.1.1.2)) (hts _ (mi_in_good h2.1.2)) (hts _ (mi_in_good h2.2)) hd (fun H1 locs1 J1 => ?_)
            have k2 := kk H1 locs1 ls J1 hl
            simp only [List.length_set, mi_sz_set hwo (e' := .inl (0, k1, .inl (va_cpy f g sp.toNatClampNeg dp.toNatClampNeg kz.toNatClampNeg))) rfl] at k2
            exact k2
        · cases h
      · cases h
    · rename_i hk9
      split at h
      · rename_i hk8
        split at h
        · rename_i y z r
          split at h
          · rename_i hr8
            obtain rfl := Sum.inl.inj (Option.some.inj h)
            simp only [mi_okL, hk8, if_true, if_false, Bool.and_eq_true, Nat.reduceEqDiff, reduceIte] at h2
            obtain ⟨⟨⟨m1, m2⟩, m3⟩, m4⟩ := h2
            have hs8 := mi_sum8 (B := B) (b := b) hr8
            have hKK := mi_KK20
            exact va_mmax (rest := r.map (mi_tr B b)) hx hb (by rw [hml]; exact hl.1.1.symm) hown (hts _ (mi_in_good m1)) (hts _ (mi_in_good m2)) (hts _ (mi_in_good m3)) (hts _ (mi_in_good m4)) hR.1 (by omega) hroom.1 hroom.2 hd (kk H locs ls J hl)
          · cases h
        · cases h
      · rename_i hk8
        split at h
        · rename_i hk7
          split at h
          · rename_i y z r
            split at h
            · rename_i hr8
              obtain rfl := Sum.inl.inj (Option.some.inj h)
              simp only [mi_okL, hk7, if_true, if_false, Bool.and_eq_true, Nat.reduceEqDiff, reduceIte] at h2
              obtain ⟨⟨⟨m1, m2⟩, m3⟩, m4⟩ := h2
              have hs8 := mi_sum8 (B := B) (b := b) hr8
              have hKK := mi_KK20
              exact va_mmin (rest := r.map (mi_tr B b)) hx hb (by rw [hml]; exact hl.1.1.symm) hown (hts _ (mi_in_good m1)) (hts _ (mi_in_good m2)) (hts _ (mi_in_good m3)) (hts _ (mi_in_good m4)) hR.1 (by omega) hroom.1 hroom.2 hd (kk H locs ls J hl)
            · cases h
          · cases h
        · rename_i hk7
          split at h
          · rename_i hq
            split at h
            · rename_i q hcl
              obtain rfl := Sum.inl.inj (Option.some.inj h)
              obtain ⟨r, w'⟩ := q
              have hg := hcal _ _ _ _ _ hcl
              simp only at hroom
              refine mi_callS F hN hcal J hl.1.1 hk9 hk8 hk7 h2 hd hq.1 hq.2 hcl (by omega) (by omega) (fun H1 locs1 J1 => ?_)
              have k2 := kk H1 locs1 ls J1 hl
              rw [show w.length - n0 + (w'.length - w.length) = w'.length - n0 by omega, show mi_sz w - z0 + (mi_sz w' - mi_sz w) = mi_sz w' - z0 by omega]
              simp only [List.map_append] at k2
              cases r <;> exact k2
            · cases h
          · cases h
  | ireturn =>
    exfalso
    simp only [mi_ins] at h
    split at h
    · split at h <;> cases h
    · cases h
  | areturn =>
    exfalso
    simp only [mi_ins] at h
    split at h <;> cases h
  | return_ =>
    exfalso
    simp only [mi_ins] at h
    split at h <;> cases h
  | _ => cases h
end MiSound
