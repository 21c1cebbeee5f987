/-! what the constructors leave -/
def nXi (i : Instr) : Bool := match i with
  | .arraylength => false
  | .iaload => false
  | _ => true
theorem mi_ins_X {X X' : mi_X} {cal : mi_C} {ret : Option FieldType} {i : Instr} {n a b : Nat} {v : Int32} {pc : Nat} {L : mi_L} {st : List Value} {w : mi_H} (h : nXi i = true) : mi_ins X cal ret i n a b v pc L st w = mi_ins X' cal ret i n a b v pc L st w := by
  cases i
  case arraylength => cases h
  case iaload => cases h
  case ifCond c o => cases c <;> rfl
  case if_icmp c o => cases c <;> rfl
  all_goals rfl
def nXm (M : mi_M) : Bool := M.2.2.all (fun o => match o with
  | some x => nXi x.1
  | none => true)
theorem mi_step_X {X X' : mi_X} {cal : mi_C} {M : mi_M} (hM : nXm M = true) (f : mi_F) : mi_step X cal M f = mi_step X' cal M f := by
  unfold mi_step
  cases e : M.2.2[f.1]? with
  | none => rfl
  | some o =>
    cases o with
    | none => rfl
    | some x =>
      obtain ⟨i, n, a, b, v⟩ := x
      unfold nXm at hM
      rw [List.all_eq_true] at hM
      exact mi_ins_X (hM _ (List.mem_of_getElem? e))
theorem mi_run_X {X X' : mi_X} {cal : mi_C} {M : mi_M} (hM : nXm M = true) : ∀ n (f : mi_F), mi_run X cal M n f = mi_run X' cal M n f
  | 0, _ => rfl
  | n + 1, f => by
    unfold mi_run
    rw [mi_step_X (X := X) (X' := X') hM f]
    split
    · exact mi_run_X hM n _
    · rfl
    · rfl
def mi_evK (X : mi_X) (P : List mi_M) (K : Nat → Bool) (n : Nat) : Nat → mi_C
  | 0 => fun _ _ _ => none
  | d + 1 => fun k as w => if K k = true then (match P[k]? with
    | some M => if as.length ≤ M.2.1 then mi_run X (mi_evK X P K n d) M n (0, mi_ent M.2.1 as, [], w) else none
    | none => none) else none
theorem evK_ev {X X' : mi_X} {P : List mi_M} {K : Nat → Bool} {n : Nat} (hK : ∀ k M, K k = true → P[k]? = some M → nXm M = true) : ∀ d k as w q, mi_evK X P K n d k as w = some q → mi_ev X' P n d k as w = some q
  | 0, _, _, _, _, h => by cases h
  | d + 1, k, as, w, q, h => by
    unfold mi_evK at h
    unfold mi_ev
    split at h
    · rename_i hk
      split at h
      · rename_i M hM
        split at h
        · rename_i hl
          simp only [hM, hl, if_true]
          rw [mi_run_X (X := X) (X' := X') (hK k M hk hM)] at h
          exact mi_run_mono (fun k as w q hq => evK_ev hK d k as w q hq) n n _ q (Nat.le_refl n) h
        · cases h
      · cases h
    · cases h
def iL : List Nat := [k_MC_init, k_St_init, k_Re_init, k_Se_init, k_Fo_init, k_Gr_init, k_Ru_init, k_At_init, k_Mo_init]
def iK (k : Nat) : Bool := iL.any (fun j => k == j)
def iLc : Bool := iL.all (fun k => match mi_P[k]? with
  | some M => nXm M
  | none => false)
theorem iL_ok : iLc = true := by decide +kernel
theorem iK_ok : ∀ k M, iK k = true → mi_P[k]? = some M → nXm M = true := by
  intro k M hk hM
  unfold iK at hk
  obtain ⟨j, hj, e⟩ := List.any_eq_true.mp hk
  have e : k = j := by simpa using e
  subst e
  have := List.all_eq_true.mp iL_ok k hj
  rw [hM] at this
  exact this
def iX : mi_X := (0, fun _ => 0)
def iA : Option (Option Value × mi_H) := mi_evK iX mi_P iK 400 6 k_MC_init [.ref 0] [.inr (0, mi_dflt 0)]
def iG (o : Option (Option Value × mi_H)) : mi_H := match o with
  | some q => q.2
  | none => []
def iN (o : Option (Option Value × mi_H)) : Bool := match o with
  | some (none, _) => true
  | _ => false
theorem iN_ok {o : Option (Option Value × mi_H)} (h : iN o = true) : o = some (none, iG o) := by
  unfold iN at h
  split at h
  · rfl
  · cases h
def iB : Option (Option Value × mi_H) := mi_evK iX mi_P iK 400 3 k_Mo_init [.ref 71] (iG iA ++ [.inr (8, mi_dflt 8)])
def ckO (w : mi_H) (o c : Nat) (vs : List Value) : Bool := match w[o]? with
  | some (.inr (c', fs)) => decide (c' = c) && decide (fs = vs)
  | _ => false
theorem ckO_ok {w : mi_H} {o c : Nat} {vs : List Value} (h : ckO w o c vs = true) : w[o]? = some (.inr (c, vs)) := by
  unfold ckO at h
  split at h
  · rename_i c' fs e
    rw [Bool.and_eq_true] at h
    rw [e, of_decide_eq_true h.1, of_decide_eq_true h.2]
  · cases h
def ckI (w : mi_H) (t o k : Nat) : Bool := match w[o]? with
  | some (.inl (t', k', .inl f)) => decide (t' = t) && decide (k' = k) && (List.range k).all (fun i => decide (f i = 0))
  | _ => false
theorem ckI_ok {w : mi_H} {t o k : Nat} (h : ckI w t o k = true) : ∃ f : Nat → Int32, w[o]? = some (.inl (t, k, .inl f)) ∧ ∀ i, i < k → f i = 0 := by
  unfold ckI at h
  split at h
  · rename_i t' k' f e
    rw [Bool.and_eq_true, Bool.and_eq_true, List.all_eq_true] at h
    refine ⟨f, by rw [e, of_decide_eq_true h.1.1, of_decide_eq_true h.1.2], fun i hi => of_decide_eq_true (h.2 i (List.mem_range.mpr hi))⟩
  · cases h
def ckQ (w : mi_H) (t o k : Nat) (g : Nat → Nat) : Bool := match w[o]? with
  | some (.inl (t', k', .inr (.inr (.inr (.inr f))))) => decide (t' = t) && decide (k' = k) && (List.range k).all (fun i => decide (f i = some (g i)))
  | _ => false
theorem ckQ_ok {w : mi_H} {t o k : Nat} {g : Nat → Nat} (h : ckQ w t o k g = true) : ∃ f : Nat → Option Nat, w[o]? = some (.inl (t, k, .inr (.inr (.inr (.inr f))))) ∧ ∀ i, i < k → f i = some (g i) := by
  unfold ckQ at h
  split at h
  · rename_i t' k' f e
    rw [Bool.and_eq_true, Bool.and_eq_true, List.all_eq_true] at h
    refine ⟨f, by rw [e, of_decide_eq_true h.1.1, of_decide_eq_true h.1.2], fun i hi => of_decide_eq_true (h.2 i (List.mem_range.mpr hi))⟩
  · cases h
def ckR (w : mi_H) (r : Nat) : Bool := ckO w r 6 [.ref (r + 1), .ref (r + 3), .int 0, .int 0, .int 0, .int 0] && (ckO w (r + 1) 7 [.ref (r + 2), .int 0] && (ckI w 0 (r + 2) 3 && (ckO w (r + 3) 7 [.ref (r + 4), .int 0] && ckI w 0 (r + 4) 3)))
def ckL (w : mi_H) (h : Nat) : Bool := ckO w h 2 [.ref (h + 1), .ref (h + 2), .int 0, .int 0, .int 0, .int 0] && (ckI w 0 (h + 1) 24 && ckI w 0 (h + 2) 24)
def iC (w : mi_H) : Bool := decide (w.length = 94) &&
  (ckO w 0 0 [.ref 1, .ref 23, .ref 25, .ref 27, .ref 30, .int 0, .ref 31, .int 0, .ref 36, .int 0, .int 0] &&
  (ckO w 1 1 [.ref 2, .ref 3, .ref 4] && (ckQ w 2 2 6 (fun i => 5 + 3 * i) && (ckI w 0 3 24 && (ckI w 0 4 24 && ((List.range 6).all (fun i => ckL w (5 + 3 * i)) &&
  (ckO w 23 3 [.ref 1, .ref 24] && (ckI w 0 24 4 && (ckO w 25 4 [.ref 1, .ref 26, .int 0, .int 0, .int 0] && (ckI w 0 26 24 &&
  (ckO w 27 5 [.ref 28, .ref 29] && (ckI w 0 28 8 && (ckI w 0 29 8 && (ckQ w 3 30 6 (fun i => 41 + 5 * i) && ((List.range 8).all (fun j => ckR w (31 + 5 * j)) &&
  (ckO w 71 8 [.ref 72, .ref 73, .ref 74, .int 0, .int 0, .ref 75, .ref 76, .ref 77, .ref 78, .ref 79, .ref 80, .ref 81, .ref 82, .ref 83, .ref 84, .ref 85, .int 0, .int 0, .int 0, .int 0, .ref 86, .ref 87, .ref 88, .ref 89, .ref 90, .ref 91, .ref 92, .ref 93] &&
  ((List.range 94).all (fun o => match szI o with
    | some k => ckI w 0 o k
    | none => true) && (List.range 94).all (fun o => match szB o with
    | some k => ckI w 1 o k
    | none => true))))))))))))))))))
theorem iA_ok : (iN iA && decide ((iG iA).length = 71)) = true := by decide +kernel
theorem iB_ok : (iN iB && iC (iG iB)) = true := by decide +kernel
/-- the state at the beginning -/
def S0 : sp_S := (fun _ _ _ => false, fun _ => (0, [], [], none), 0, false, false, 0)
theorem bt_0 {i : Nat} (h : i < 32) : bt 0 i = false := (bt_zero 0).mp rfl i h
theorem anyB_no : anyB (fun _ => false) = false := by decide
theorem ckL_ok {w : mi_H} {h : Nat} (q : ckL w h = true) : Rl w h (fun _ _ => false) := by
  unfold ckL at q
  rw [Bool.and_eq_true, Bool.and_eq_true] at q
  obtain ⟨rows, h1, r1⟩ := ckI_ok q.2.1
  obtain ⟨cols, h2, r2⟩ := ckI_ok q.2.2
  refine ⟨rows, cols, 0, 0, 0, 0, ckO_ok q.1, h1, h2, fun a b z => (by cases z), fun a b ha hb => ?_, fun a b hb ha => ?_, fun a ha => ?_, fun b hb => ?_, fun a ha => bt_0 ha, cnt_zero.symm⟩
  · rw [r1 a ha]
    exact bt_0 hb
  · rw [r2 b hb]
    exact bt_0 ha
  · rw [bt_0 ha, anyB_no]
  · rw [bt_0 hb, anyB_no]
theorem ckA_ok {w : mi_H} {o : Nat} (q1 : ckO w o 7 [.ref (o + 1), .int 0] = true) (q2 : ckI w 0 (o + 1) 3 = true) : At w o [] := by
  obtain ⟨f, h1, -⟩ := ckI_ok q2
  exact ⟨f, ckO_ok q1, h1, Nat.zero_le _, fun i q h => by simp at h⟩
theorem ckR_ok {w : mi_H} {r : Nat} (q : ckR w r = true) : Ru w r (0, [], [], none) := by
  unfold ckR at q
  rw [Bool.and_eq_true, Bool.and_eq_true, Bool.and_eq_true, Bool.and_eq_true] at q
  exact ⟨0, 0, ckO_ok q.1, ckA_ok q.2.1 q.2.2.1, ckA_ok q.2.2.2.1 q.2.2.2.2, by decide, Nat.zero_le _, fun v u h => by cases h⟩
def pl0 (i : Nat) : Nat := if i = 7 then 31 else if i = 6 then 36 else 41 + 5 * i
theorem pl0_inj : ∀ i, i < 8 → ∀ j, j < 8 → pl0 i = pl0 j → i = j := by decide
theorem iC_MC {w : mi_H} (h : iC w = true) : MC w S0 ∧ Md w S0 ∧ w.length = 94 := by
  unfold iC at h
  simp only [Bool.and_eq_true] at h
  obtain ⟨h0, h1, h2, h3, h4, h5, h6, h7, h8, h9, h10, h11, h12, h13, h14, h15, h16, h17, h18⟩ := h
  rw [List.all_eq_true] at h6 h15 h17 h18
  obtain ⟨f3, e3, -⟩ := ckI_ok h4
  obtain ⟨f4, e4, -⟩ := ckI_ok h5
  obtain ⟨f24, e24, z24⟩ := ckI_ok h8
  obtain ⟨f26, e26, z26⟩ := ckI_ok h10
  obtain ⟨f28, e28, z28⟩ := ckI_ok h12
  obtain ⟨f29, e29, z29⟩ := ckI_ok h13
  obtain ⟨g30, e30, z30⟩ := ckQ_ok h14
  refine ⟨⟨pl0, ckO_ok h1, ⟨⟨ckO_ok h2, ckQ_ok h3, ⟨f3, e3⟩, ⟨f4, e4⟩, fun i hi => ckL_ok (h6 i (List.mem_range.mpr hi))⟩, ⟨fun _ => some 0, ckO_ok h7, ⟨f24, e24, fun v hv => z24 v hv⟩, fun v x _ e => by cases e; decide⟩, ⟨fun _ => 0, fun _ => false, 0, false, f26, 0, ckO_ok h9, e26, fun v hv => ⟨z26 v hv, Nat.zero_lt_succ _⟩, fun v hv => bt_0 hv⟩, ⟨fun _ _ => false, fun _ _ => false, ckO_ok h11, f28, f29, e28, e29, fun p q hp hq => by rw [z28 p hp, z29 p hp]; exact ⟨bt_0 hq, bt_0 hq⟩⟩, ⟨g30, e30, fun i hi => ?_⟩, fun i hi => ⟨?_, ?_⟩, fun i j hi hj e => ?_⟩, Nat.zero_le _, Nat.zero_le _⟩, ?_, of_decide_eq_true h0⟩
  · rw [z30 i hi]
    unfold pl0
    rw [if_neg (by omega), if_neg (by omega)]
  · unfold pl0
    split
    · exact ⟨0, by omega, rfl⟩
    · split
      · exact ⟨1, by omega, rfl⟩
      · exact ⟨2 + i, by omega, by omega⟩
  · unfold pl0
    split
    · exact ckR_ok (h15 0 (List.mem_range.mpr (by omega)))
    · split
      · exact ckR_ok (h15 1 (List.mem_range.mpr (by omega)))
      · have := ckR_ok (h15 (2 + i) (List.mem_range.mpr (by omega)))
        rw [show 31 + 5 * (2 + i) = 41 + 5 * i by omega] at this
        exact this
  · exact pl0_inj i hi j hj e
  · refine ⟨fun o i => match w[o]? with
      | some (.inl (_, _, .inl f)) => f i
      | _ => 0, [], [], ⟨ckO_ok h16, fun o k hk => ?_, fun o k hk => ?_⟩, ⟨fun k q h => by simp at h, fun k q h => by simp at h, Nat.zero_le _, Nat.zero_le _, fun q h => by simp at h, fun q h => by simp at h, List.nodup_nil, List.nodup_nil, fun r x y _ => ⟨fun h => (by cases h), fun h => (by simp at h)⟩⟩, fun i hi => absurd hi (Nat.not_lt_zero i), fun h => (by cases h), fun h => (by cases h), Nat.zero_le _, Nat.zero_le _⟩
    · have ho := szI_in hk
      have := h17 o (List.mem_range.mpr (by omega))
      rw [hk] at this
      obtain ⟨f, e, -⟩ := ckI_ok this
      dsimp only
      rw [e]
    · have ho := szB_in hk
      have := h18 o (List.mem_range.mpr (by omega))
      rw [hk] at this
      obtain ⟨f, e, -⟩ := ckI_ok this
      dsimp only
      rw [e]
theorem ev_inits (X : mi_X) : mi_Ev X mi_P 6 k_MC_init [.ref 0] [.inr (0, mi_dflt 0)] none (iG iA) ∧ (iG iA).length = 71 ∧ mi_Ev X mi_P 3 k_Mo_init [.ref 71] (iG iA ++ [.inr (8, mi_dflt 8)]) none (iG iB) ∧ MC (iG iB) S0 ∧ Md (iG iB) S0 ∧ (iG iB).length = 94 := by
  have a := iA_ok
  have b := iB_ok
  rw [Bool.and_eq_true] at a b
  refine ⟨⟨400, evK_ev iK_ok 6 _ _ _ _ (iN_ok a.1)⟩, of_decide_eq_true a.2, ⟨400, evK_ev iK_ok 3 _ _ _ _ (iN_ok b.1)⟩, iC_MC b.2⟩
