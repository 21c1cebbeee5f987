/-! class Rule: what hinders closing; how many variables settle -/
def faultP (bo : List sp_A) (pr : Option (Nat × Nat)) : Int32 := match pr with
  | some (v, u) => if inB bo v = true ∧ inB bo u = true then 0 else -7
  | none => 0
def faultR (R : sp_R) : Int32 :=
  if R.2.1 = [] ∨ (R.1 = 0 ∧ R.2.2.1 = []) ∨ (R.1 ≠ 0 ∧ R.2.2.2 = none) then -4
  else if 0 < csn R.2.1 ∧ (R.1 ≠ 0 ∨ csn R.2.1 < R.2.1.length) then -5
  else if 0 < csn R.2.2.1 then -6
  else faultP R.2.1 R.2.2.2
theorem csn_le (as : List sp_A) : csn as ≤ as.length := List.countP_le_length
/-- how many variables, the least first, settle whether a match of a generator is satisfied -/
def stl (h b : List sp_A) : Nat → Nat
  | 0 => 0
  | n + 1 => if inB h n = true ∧ inB b n = true then n + 1 else stl h b n
theorem stl_le (h b : List sp_A) : ∀ n, stl h b n ≤ n
  | 0 => Nat.le_refl 0
  | n + 1 => by
    have := stl_le h b n
    unfold stl
    split <;> omega
section Rule
variable {X : mi_X} {w : mi_H}
theorem nI_z {n : Nat} (h : n < 2 ^ 31) : nI n = 0 ↔ n = 0 := by
  rw [← nI_0, nI_eq h (by decide)]
theorem ev_faultInside {r : Nat} {R : sp_R} (H : Ru w r R) : mi_Ev X mi_P 4 k_Ru_faultInside [.ref r] w (some (.int (faultR R))) w := by
  obtain ⟨kd, bo, he, pr⟩ := R
  obtain ⟨fi, se, h0, h1, h2, hk, hh, hp⟩ := H
  obtain ⟨f1, k1, -, l1, -⟩ := id h1
  obtain ⟨f2, k2, -, l2, -⟩ := id h2
  dsimp only at *
  have c1 := csn_le bo
  have c2 := csn_le he
  have zb : nI bo.length = 0 ↔ bo = [] := by rw [nI_z (by omega), List.length_eq_zero_iff]
  have zh : nI he.length = 0 ↔ he = [] := by rw [nI_z (by omega), List.length_eq_zero_iff]
  have zk : nI kd = 0 ↔ kd = 0 := nI_z (by omega)
  -- behind the first test
  have go4 : ¬ (bo = [] ∨ (kd = 0 ∧ he = []) ∨ (kd ≠ 0 ∧ pr = none)) → ∀ L1, mi_wp X mi_P 3 m_Ru_faultInside (40, [some (.ref r), L1], [], w) (fun q w1 => q = some (.int (faultR (kd, bo, he, pr))) ∧ w1 = w) := by
    intro hn L1
    have e1 : faultR (kd, bo, he, pr) = if 0 < csn bo ∧ (kd ≠ 0 ∨ csn bo < bo.length) then -5 else if 0 < csn he then -6 else faultP bo pr := if_neg hn
    -- behind the second
    have go2 : ¬ (0 < csn bo ∧ (kd ≠ 0 ∨ csn bo < bo.length)) → ∀ L1, mi_wp X mi_P 3 m_Ru_faultInside (73, [some (.ref r), L1], [], w) (fun q w1 => q = some (.int (faultR (kd, bo, he, pr))) ∧ w1 = w) := by
      intro hm L1
      rw [e1, if_neg hm]
      repeat (first | refine mi_s1 (fun _ => rfl) ?_ | refine mi_wgf rfl (by assumption) rfl ?_ | refine mi_wal rfl (by assumption) rfl (by omega) (by decide) ?_)
      refine mi_wcv rfl rfl (Nat.le_of_ble_eq_true rfl) k2 rfl (ev_countSources h2) ?_
      repeat (first | refine mi_s1 (fun _ => rfl) ?_ | refine mi_wgf rfl (by assumption) rfl ?_ | refine mi_wal rfl (by assumption) rfl (by omega) (by decide) ?_)
      refine mi_wif (fun z => ?_) (fun z => ?_)
      · have z : ¬ 0 < csn he := fun q => nI_nle q (by omega) z
        rw [if_neg z]
        repeat (first | refine mi_s1 (fun _ => rfl) ?_ | refine mi_wgf rfl (by assumption) rfl ?_ | refine mi_wal rfl (by assumption) rfl (by omega) (by decide) ?_)
        cases pr with
        | none =>
          refine mi_wif (fun _ => ?_) (fun q => absurd (show jb ((none : Option (Nat × Nat)).isSome = true) = 0 from rfl) q)
          repeat (first | refine mi_s1 (fun _ => rfl) ?_ | refine mi_wgf rfl (by assumption) rfl ?_ | refine mi_wal rfl (by assumption) rfl (by omega) (by decide) ?_)
          refine mi_r1 (fun _ => rfl) ?_
          exact ⟨rfl, rfl⟩
        | some p =>
          obtain ⟨v, u⟩ := p
          obtain ⟨rfl, rfl, hv, hu⟩ := hp v u rfl
          refine mi_wif (fun q => absurd q (fun z => absurd rfl (jb_0.mp z))) (fun _ => ?_)
          repeat (first | refine mi_s1 (fun _ => rfl) ?_ | refine mi_wgf rfl (by assumption) rfl ?_ | refine mi_wal rfl (by assumption) rfl (by omega) (by decide) ?_)
          refine mi_wcv rfl rfl (Nat.le_of_ble_eq_true rfl) k1 rfl ((ev_hasVariable h1 hv).up (by decide)) ?_
          repeat (first | refine mi_s1 (fun _ => rfl) ?_ | refine mi_wgf rfl (by assumption) rfl ?_ | refine mi_wal rfl (by assumption) rfl (by omega) (by decide) ?_)
          refine mi_wif (fun z1 => ?_) (fun z1 => ?_)
          · have ef : faultP bo (some (v, u)) = -7 := if_neg (fun q => jb_0.mp z1 q.1)
            rw [ef]
            repeat (first | refine mi_s1 (fun _ => rfl) ?_ | refine mi_wgf rfl (by assumption) rfl ?_ | refine mi_wal rfl (by assumption) rfl (by omega) (by decide) ?_)
            refine mi_r1 (fun _ => rfl) ?_
            exact ⟨rfl, rfl⟩
          · repeat (first | refine mi_s1 (fun _ => rfl) ?_ | refine mi_wgf rfl (by assumption) rfl ?_ | refine mi_wal rfl (by assumption) rfl (by omega) (by decide) ?_)
            refine mi_wcv rfl rfl (Nat.le_of_ble_eq_true rfl) k1 rfl ((ev_hasVariable h1 hu).up (by decide)) ?_
            repeat (first | refine mi_s1 (fun _ => rfl) ?_ | refine mi_wgf rfl (by assumption) rfl ?_ | refine mi_wal rfl (by assumption) rfl (by omega) (by decide) ?_)
            refine mi_wif (fun z2 => ?_) (fun z2 => ?_)
            · have ef : faultP bo (some (v, u)) = -7 := if_neg (fun q => jb_0.mp z2 q.2)
              rw [ef]
              repeat (first | refine mi_s1 (fun _ => rfl) ?_ | refine mi_wgf rfl (by assumption) rfl ?_ | refine mi_wal rfl (by assumption) rfl (by omega) (by decide) ?_)
              refine mi_r1 (fun _ => rfl) ?_
              exact ⟨rfl, rfl⟩
            · have ef : faultP bo (some (v, u)) = 0 := if_pos ⟨Decidable.not_not.mp (fun q => z1 (jb_0.mpr q)), Decidable.not_not.mp (fun q => z2 (jb_0.mpr q))⟩
              rw [ef]
              repeat (first | refine mi_s1 (fun _ => rfl) ?_ | refine mi_wgf rfl (by assumption) rfl ?_ | refine mi_wal rfl (by assumption) rfl (by omega) (by decide) ?_)
              refine mi_r1 (fun _ => rfl) ?_
              exact ⟨rfl, rfl⟩
      · have z : 0 < csn he := by
          rcases Nat.eq_zero_or_pos (csn he) with q | q
          · exact absurd (by rw [q]; decide) z
          · exact q
        rw [if_pos z]
        repeat (first | refine mi_s1 (fun _ => rfl) ?_ | refine mi_wgf rfl (by assumption) rfl ?_ | refine mi_wal rfl (by assumption) rfl (by omega) (by decide) ?_)
        refine mi_r1 (fun _ => rfl) ?_
        exact ⟨rfl, rfl⟩
    repeat (first | refine mi_s1 (fun _ => rfl) ?_ | refine mi_wgf rfl (by assumption) rfl ?_ | refine mi_wal rfl (by assumption) rfl (by omega) (by decide) ?_)
    refine mi_wcv rfl rfl (Nat.le_of_ble_eq_true rfl) k1 rfl (ev_countSources h1) ?_
    repeat (first | refine mi_s1 (fun _ => rfl) ?_ | refine mi_wgf rfl (by assumption) rfl ?_ | refine mi_wal rfl (by assumption) rfl (by omega) (by decide) ?_)
    refine mi_wif (fun z => ?_) (fun z => ?_)
    · exact go2 (fun q => nI_nle q.1 (by omega) z) _
    · have z : 0 < csn bo := by
        rcases Nat.eq_zero_or_pos (csn bo) with q | q
        · exact absurd (by rw [q]; decide) z
        · exact q
      repeat (first | refine mi_s1 (fun _ => rfl) ?_ | refine mi_wgf rfl (by assumption) rfl ?_ | refine mi_wal rfl (by assumption) rfl (by omega) (by decide) ?_)
      refine mi_wif (fun z2 => ?_) (fun z2 => ?_)
      · have z2 := zk.mp z2
        repeat (first | refine mi_s1 (fun _ => rfl) ?_ | refine mi_wgf rfl (by assumption) rfl ?_ | refine mi_wal rfl (by assumption) rfl (by omega) (by decide) ?_)
        refine mi_wif (fun z3 => ?_) (fun z3 => ?_)
        · exact go2 (fun q => q.2.elim (fun h => h z2) (fun h => nI_ge h (by omega) z3)) _
        · rw [e1, if_pos ⟨z, Or.inr (by
            rcases Nat.lt_or_ge (csn bo) bo.length with q | q
            · exact q
            · exact absurd (nI_le q (by omega)) z3)⟩]
          repeat (first | refine mi_s1 (fun _ => rfl) ?_ | refine mi_wgf rfl (by assumption) rfl ?_ | refine mi_wal rfl (by assumption) rfl (by omega) (by decide) ?_)
          refine mi_r1 (fun _ => rfl) ?_
          exact ⟨rfl, rfl⟩
      · rw [e1, if_pos ⟨z, Or.inl (fun q => z2 (zk.mpr q))⟩]
        repeat (first | refine mi_s1 (fun _ => rfl) ?_ | refine mi_wgf rfl (by assumption) rfl ?_ | refine mi_wal rfl (by assumption) rfl (by omega) (by decide) ?_)
        refine mi_r1 (fun _ => rfl) ?_
        exact ⟨rfl, rfl⟩
  have bad : (bo = [] ∨ (kd = 0 ∧ he = []) ∨ (kd ≠ 0 ∧ pr = none)) → ∀ L1, mi_wp X mi_P 3 m_Ru_faultInside (37, [some (.ref r), L1], [], w) (fun q w1 => q = some (.int (faultR (kd, bo, he, pr))) ∧ w1 = w) := by
    intro hn L1
    have e1 : faultR (kd, bo, he, pr) = -4 := if_pos hn
    rw [e1]
    repeat (first | refine mi_s1 (fun _ => rfl) ?_ | refine mi_wgf rfl (by assumption) rfl ?_ | refine mi_wal rfl (by assumption) rfl (by omega) (by decide) ?_)
    refine mi_r1 (fun _ => rfl) ?_
    exact ⟨rfl, rfl⟩
  refine mi_Ev.of (M := m_Ru_faultInside) rfl (Nat.le_of_ble_eq_true rfl) ?_
  repeat (first | refine mi_s1 (fun _ => rfl) ?_ | refine mi_wgf rfl (by assumption) rfl ?_ | refine mi_wal rfl (by assumption) rfl (by omega) (by decide) ?_)
  refine mi_wif (fun z => ?_) (fun z => ?_)
  · exact bad (Or.inl (zb.mp z)) _
  · have z : ¬ bo = [] := fun q => z (zb.mpr q)
    repeat (first | refine mi_s1 (fun _ => rfl) ?_ | refine mi_wgf rfl (by assumption) rfl ?_ | refine mi_wal rfl (by assumption) rfl (by omega) (by decide) ?_)
    refine mi_wif (fun z2 => ?_) (fun z2 => ?_)
    · have z2 := zk.mp z2
      repeat (first | refine mi_s1 (fun _ => rfl) ?_ | refine mi_wgf rfl (by assumption) rfl ?_ | refine mi_wal rfl (by assumption) rfl (by omega) (by decide) ?_)
      refine mi_wif (fun z3 => ?_) (fun z3 => ?_)
      · refine mi_s1 (fun _ => rfl) ?_
        exact bad (Or.inr (Or.inl ⟨z2, zh.mp z3⟩)) _
      · refine go4 ?_ _
        rintro (q | ⟨-, q⟩ | ⟨q, -⟩)
        · exact z q
        · exact z3 (zh.mpr q)
        · exact q z2
    · have z2 : ¬ kd = 0 := fun q => z2 (zk.mpr q)
      repeat (first | refine mi_s1 (fun _ => rfl) ?_ | refine mi_wgf rfl (by assumption) rfl ?_ | refine mi_wal rfl (by assumption) rfl (by omega) (by decide) ?_)
      refine mi_wif (fun z3 => ?_) (fun z3 => ?_)
      · refine bad (Or.inr (Or.inr ⟨z2, ?_⟩)) _
        have := jb_0.mp z3
        cases pr with
        | none => rfl
        | some p => exact absurd rfl this
      · refine go4 ?_ _
        rintro (q | ⟨q, -⟩ | ⟨-, q⟩)
        · exact z q
        · exact z2 q
        · exact z3 (jb_0.mpr (by rw [q]; decide))
theorem ev_settledBy_loop {r : Nat} {R : sp_R} (H : Ru w r R) : ∀ f m, m + f = 4 → mi_wp X mi_P 2 m_Ru_settledBy (25, [some (.ref r), some (.int (nI (stl R.2.2.1 R.2.1 m))), some (.int (nI m))], [], w) (fun q w1 => q = some (.int (nI (stl R.2.2.1 R.2.1 4))) ∧ w1 = w)
  | 0, m, hm => by
    have hm : m = 4 := by omega
    subst hm
    repeat (first | refine mi_s1 (fun _ => rfl) ?_ | refine mi_wgf rfl (by assumption) rfl ?_ | refine mi_wal rfl (by assumption) rfl (by omega) (by decide) ?_)
    refine mi_r1 (fun _ => rfl) ?_
    exact ⟨rfl, rfl⟩
  | f + 1, m, hm => by
    obtain ⟨fi, se, h0, h1, h2, -⟩ := id H
    obtain ⟨f1, k1, -⟩ := id h1
    obtain ⟨f2, k2, -⟩ := id h2
    have go : ∀ c, c = stl R.2.2.1 R.2.1 (m + 1) → mi_wp X mi_P 2 m_Ru_settledBy (56, [some (.ref r), some (.int (nI c)), some (.int (nI m))], [], w) (fun q w1 => q = some (.int (nI (stl R.2.2.1 R.2.1 4))) ∧ w1 = w) := by
      intro c hc
      subst hc
      refine mi_s1 (fun _ => rfl) ?_; refine mi_s1 (fun _ => rfl) ?_
      rw [show nI m + nI 1 = nI (m + 1) from nI_1 m]
      exact ev_settledBy_loop H f (m + 1) (by omega)
    repeat (first | refine mi_s1 (fun _ => rfl) ?_ | refine mi_wgf rfl (by assumption) rfl ?_ | refine mi_wal rfl (by assumption) rfl (by omega) (by decide) ?_)
    refine mi_wif (fun z => absurd z (nI_ge (a := m) (b := 4) (by omega) (by omega))) (fun _ => ?_)
    repeat (first | refine mi_s1 (fun _ => rfl) ?_ | refine mi_wgf rfl (by assumption) rfl ?_ | refine mi_wal rfl (by assumption) rfl (by omega) (by decide) ?_)
    refine mi_wcv rfl rfl (Nat.le_of_ble_eq_true rfl) k2 rfl (ev_hasVariable h2 (by omega)) ?_
    repeat (first | refine mi_s1 (fun _ => rfl) ?_ | refine mi_wgf rfl (by assumption) rfl ?_ | refine mi_wal rfl (by assumption) rfl (by omega) (by decide) ?_)
    refine mi_wif (fun z => ?_) (fun z => ?_)
    · exact go _ (if_neg (fun q => jb_0.mp z q.1)).symm
    · repeat (first | refine mi_s1 (fun _ => rfl) ?_ | refine mi_wgf rfl (by assumption) rfl ?_ | refine mi_wal rfl (by assumption) rfl (by omega) (by decide) ?_)
      refine mi_wcv rfl rfl (Nat.le_of_ble_eq_true rfl) k1 rfl (ev_hasVariable h1 (by omega)) ?_
      repeat (first | refine mi_s1 (fun _ => rfl) ?_ | refine mi_wgf rfl (by assumption) rfl ?_ | refine mi_wal rfl (by assumption) rfl (by omega) (by decide) ?_)
      refine mi_wif (fun z2 => ?_) (fun z2 => ?_)
      · exact go _ (if_neg (fun q => jb_0.mp z2 q.2)).symm
      · refine mi_s1 (fun _ => rfl) ?_; refine mi_s1 (fun _ => rfl) ?_; refine mi_s1 (fun _ => rfl) ?_; refine mi_s1 (fun _ => rfl) ?_
        rw [show nI m + nI 1 = nI (m + 1) from nI_1 m]
        exact go _ (if_pos ⟨Decidable.not_not.mp (fun q => z (jb_0.mpr q)), Decidable.not_not.mp (fun q => z2 (jb_0.mpr q))⟩).symm
/-- how many variables settle it -/
def stR (R : sp_R) : Nat := if R.1 = 0 then stl R.2.2.1 R.2.1 4 else match R.2.2.2 with
  | some (v, u) => 1 + max v u
  | none => 0
theorem ev_settledBy {r : Nat} {R : sp_R} (H : Ru w r R) (hc : R.1 ≠ 0 → R.2.2.2 ≠ none) : mi_Ev X mi_P 3 k_Ru_settledBy [.ref r] w (some (.int (nI (stR R)))) w := by
  obtain ⟨fi, se, h0, h1, h2, hk, hh, hp⟩ := id H
  refine mi_Ev.of (M := m_Ru_settledBy) rfl (Nat.le_of_ble_eq_true rfl) ?_
  repeat (first | refine mi_s1 (fun _ => rfl) ?_ | refine mi_wgf rfl (by assumption) rfl ?_ | refine mi_wal rfl (by assumption) rfl (by omega) (by decide) ?_)
  refine mi_wif (fun z => ?_) (fun z => ?_)
  · have z := (nI_z (by omega)).mp z
    have e : stR R = stl R.2.2.1 R.2.1 4 := if_pos z
    rw [e]
    refine mi_s1 (fun _ => rfl) ?_; refine mi_s1 (fun _ => rfl) ?_; refine mi_s1 (fun _ => rfl) ?_; refine mi_s1 (fun _ => rfl) ?_
    exact ev_settledBy_loop H 4 0 rfl
  · have z : ¬ R.1 = 0 := fun q => z ((nI_z (by omega)).mpr q)
    cases hq : R.2.2.2 with
    | none => exact absurd hq (hc z)
    | some p =>
      obtain ⟨v, u⟩ := p
      obtain ⟨rfl, rfl, hv, hu⟩ := hp v u hq
      have e : stR R = 1 + max v u := by
        unfold stR
        rw [if_neg z, hq]
      rw [e]
      repeat (first | refine mi_s1 (fun _ => rfl) ?_ | refine mi_wgf rfl (by assumption) rfl ?_ | refine mi_wal rfl (by assumption) rfl (by omega) (by decide) ?_)
      refine mi_r1 (fun _ => rfl) ?_
      refine ⟨?_, rfl⟩
      by_cases q : v < u
      · rw [if_pos (nI_lt q (by omega)), nI_add, Nat.max_eq_right (by omega)]
      · rw [if_neg (nI_nlt (by omega) (by omega)), nI_add, Nat.max_eq_left (by omega)]
end Rule
