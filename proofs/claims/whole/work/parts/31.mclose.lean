/-! the model: close -/
def op_fault (S : sp_S) : Int32 := if S.hd = true ∧ ((S.R 7).1 = 2 ∨ S.s = 0) then (if faultR (S.R 7) ≠ 0 then faultR (S.R 7) else if (S.R 7).1 ≠ 2 ∧ S.n = 6 then -8 else 0) else -3
theorem csn_drop {as : List sp_A} {i : Nat} {q : sp_A} (h : as[i]? = some q) : csn (as.take (i + 1)) = csn (as.take i) + (if q.1 < 2 then 1 else 0) := by
  have hi := (List.getElem?_eq_some_iff.mp h).1
  have e : as.take (i + 1) = as.take i ++ [q] := by
    rw [List.take_add_one, h]
    rfl
  unfold csn
  rw [e, List.countP_append]
  congr 1
  by_cases z : q.1 < 2
  · simp [z]
  · simp [z]
section MClose
variable {X : mi_X} {w : mi_H} {S : sp_S} {a : mo_a} {T : mo_T}
theorem mv_fault_src (HM : Mo w a T) {R : sp_R} (HR : Rm a 7 R) {Q : Option Value → mi_H → Prop} (kk : ∀ z, mi_wp X mi_P 1 m_Mo_faultOfDraft (124, [some (.ref 71), some (.int (nI (csn R.2.1))), z], [], w) Q) : ∀ f i, i + f = R.2.1.length → mi_wp X mi_P 1 m_Mo_faultOfDraft (86, [some (.ref 71), some (.int (nI (csn (R.2.1.take i)))), some (.int (nI (21 + i)))], [], w) Q
  | 0, i, hi => by
    obtain ⟨r1, r2, r3, r4, -⟩ := id HR
    repeat (first | refine mi_s1 (fun _ => rfl) ?_ | refine mi_wgf rfl HM.1 rfl ?_ | refine mi_wal rfl (HM.2.1 _ _ rfl) rfl (by omega) (by decide) ?_ | refine mi_wbl rfl (HM.2.2 _ _ rfl) rfl (by omega) (by decide) ?_)
    rw [r3, nI_add]
    refine mi_wif (fun _ => ?_) (fun z => absurd (nI_le (a := 21 + R.2.1.length) (b := 21 + i) (by omega) (by omega)) z)
    rw [show i = R.2.1.length by omega, List.take_length]
    exact kk _
  | f + 1, i, hi => by
    obtain ⟨r1, r2, r3, r4, r5, r6, r7, -⟩ := id HR
    obtain ⟨t, ht, -⟩ := drop_at (l := R.2.1) (i := i) (by omega)
    obtain ⟨e1, e2, e3, ok1, ok2, ok3⟩ := r7 i t ht
    have e1 : a 77 (21 + i) = nI t.1 := e1
    repeat (first | refine mi_s1 (fun _ => rfl) ?_ | refine mi_wgf rfl HM.1 rfl ?_ | refine mi_wal rfl (HM.2.1 _ _ rfl) rfl (by omega) (by decide) ?_ | refine mi_wbl rfl (HM.2.2 _ _ rfl) rfl (by omega) (by decide) ?_)
    rw [r3, nI_add]
    refine mi_wif (fun z => absurd z (nI_ge (a := 21 + i) (b := 21 + R.2.1.length) (by omega) (by omega))) (fun _ => ?_)
    have ih := mv_fault_src HM HR kk f (i + 1) (by omega)
    rw [csn_drop ht] at ih
    repeat (first | refine mi_s1 (fun _ => rfl) ?_ | refine mi_wgf rfl HM.1 rfl ?_ | refine mi_wal rfl (HM.2.1 _ _ rfl) rfl (by omega) (by decide) ?_ | refine mi_wbl rfl (HM.2.2 _ _ rfl) rfl (by omega) (by decide) ?_)
    rw [e1]
    refine mi_wif (fun z => ?_) (fun z => ?_)
    · have z : ¬ t.1 < 2 := fun q => nI_ge q (by decide) z
      rw [if_neg z, Nat.add_zero] at ih
      refine mi_s1 (fun _ => rfl) ?_; refine mi_s1 (fun _ => rfl) ?_; refine mi_s1 (fun _ => rfl) ?_; refine mi_s1 (fun _ => rfl) ?_
      rw [show nI (21 + i) + nI 1 = nI (21 + (i + 1)) from nI_1 (21 + i)]
      exact ih
    · have z : t.1 < 2 := by
        rcases Nat.lt_or_ge t.1 2 with q | q
        · exact q
        · exact absurd (nI_le q (by omega)) z
      rw [if_pos z] at ih
      refine mi_s1 (fun _ => rfl) ?_; refine mi_s1 (fun _ => rfl) ?_; refine mi_s1 (fun _ => rfl) ?_; refine mi_s1 (fun _ => rfl) ?_; refine mi_s1 (fun _ => rfl) ?_; refine mi_s1 (fun _ => rfl) ?_; refine mi_s1 (fun _ => rfl) ?_
      rw [show nI (21 + i) + nI 1 = nI (21 + (i + 1)) from nI_1 (21 + i), nI_add]
      exact ih
theorem mv_fault_head (HM : Mo w a T) {R : sp_R} (HR : Rm a 7 R) {Q : Option Value → mi_H → Prop} {z1 : Option Value} (kt0 : 0 < csn R.2.2.1 → Q (some (.int (-6))) w) (kf0 : csn R.2.2.1 = 0 → ∀ z, mi_wp X mi_P 1 m_Mo_faultOfDraft (188, [some (.ref 71), z1, z], [], w) Q) : ∀ f i, i + f = R.2.2.1.length → csn (R.2.2.1.take i) = 0 → mi_wp X mi_P 1 m_Mo_faultOfDraft (155, [some (.ref 71), z1, some (.int (nI (14 + i)))], [], w) Q
  | 0, i, hi, h0 => by
    obtain ⟨r1, r2, r3, r4, r5, r6, -⟩ := id HR
    repeat (first | refine mi_s1 (fun _ => rfl) ?_ | refine mi_wgf rfl HM.1 rfl ?_ | refine mi_wal rfl (HM.2.1 _ _ rfl) rfl (by omega) (by decide) ?_ | refine mi_wbl rfl (HM.2.2 _ _ rfl) rfl (by omega) (by decide) ?_)
    rw [r5, nI_add]
    refine mi_wif (fun _ => ?_) (fun z => absurd (nI_le (a := 14 + R.2.2.1.length) (b := 14 + i) (by omega) (by omega)) z)
    rw [show i = R.2.2.1.length by omega, List.take_length] at h0
    exact kf0 h0 _
  | f + 1, i, hi, h0 => by
    obtain ⟨r1, r2, r3, r4, r5, r6, r7, r8, -⟩ := id HR
    obtain ⟨t, ht, -⟩ := drop_at (l := R.2.2.1) (i := i) (by omega)
    obtain ⟨e1, e2, e3, ok1, ok2, ok3⟩ := r8 i t ht
    have e1 : a 81 (14 + i) = nI t.1 := e1
    repeat (first | refine mi_s1 (fun _ => rfl) ?_ | refine mi_wgf rfl HM.1 rfl ?_ | refine mi_wal rfl (HM.2.1 _ _ rfl) rfl (by omega) (by decide) ?_ | refine mi_wbl rfl (HM.2.2 _ _ rfl) rfl (by omega) (by decide) ?_)
    rw [r5, nI_add]
    refine mi_wif (fun z => absurd z (nI_ge (a := 14 + i) (b := 14 + R.2.2.1.length) (by omega) (by omega))) (fun _ => ?_)
    repeat (first | refine mi_s1 (fun _ => rfl) ?_ | refine mi_wgf rfl HM.1 rfl ?_ | refine mi_wal rfl (HM.2.1 _ _ rfl) rfl (by omega) (by decide) ?_ | refine mi_wbl rfl (HM.2.2 _ _ rfl) rfl (by omega) (by decide) ?_)
    rw [e1]
    refine mi_wif (fun z => ?_) (fun z => ?_)
    · have z : ¬ t.1 < 2 := fun q => nI_ge q (by decide) z
      refine mi_s1 (fun _ => rfl) ?_; refine mi_s1 (fun _ => rfl) ?_
      rw [show nI (14 + i) + nI 1 = nI (14 + (i + 1)) from nI_1 (14 + i)]
      refine mv_fault_head HM HR kt0 kf0 f (i + 1) (by omega) ?_
      rw [csn_drop ht, if_neg z, h0]
    · have z : t.1 < 2 := by
        rcases Nat.lt_or_ge t.1 2 with q | q
        · exact q
        · exact absurd (nI_le q (by omega)) z
      repeat (first | refine mi_s1 (fun _ => rfl) ?_ | refine mi_wgf rfl (by assumption) rfl ?_ | refine mi_wal rfl (by assumption) rfl (by omega) (by decide) ?_)
      refine mi_r1 (fun _ => rfl) ?_
      refine kt0 ?_
      unfold csn
      rw [List.countP_pos_iff]
      exact ⟨t, List.mem_of_getElem? ht, by simpa using z⟩
theorem mv_faultOfDraft (H : Md w S) : mi_Ev X mi_P 2 k_Mo_faultOfDraft [.ref 71] w (some (.int (op_fault S))) w := by
  obtain ⟨a, ls, lt, HM, HF, HR, H6, H7, hn, hs⟩ := id H
  have bad : ∀ L1 L2, ¬ (S.hd = true ∧ ((S.R 7).1 = 2 ∨ S.s = 0)) → mi_wp X mi_P 1 m_Mo_faultOfDraft (25, [some (.ref 71), L1, L2], [], w) (fun q w1 => q = some (.int (op_fault S)) ∧ w1 = w) := by
    intro L1 L2 h
    have e : op_fault S = -3 := if_neg h
    rw [e]
    repeat (first | refine mi_s1 (fun _ => rfl) ?_ | refine mi_wgf rfl (by assumption) rfl ?_ | refine mi_wal rfl (by assumption) rfl (by omega) (by decide) ?_)
    refine mi_r1 (fun _ => rfl) ?_
    exact ⟨rfl, rfl⟩
  have go : ∀ L1 L2, (S.hd = true ∧ ((S.R 7).1 = 2 ∨ S.s = 0)) → mi_wp X mi_P 1 m_Mo_faultOfDraft (28, [some (.ref 71), L1, L2], [], w) (fun q w1 => q = some (.int (op_fault S)) ∧ w1 = w) := by
    intro L1 L2 h
    have e : op_fault S = _ := if_pos h
    rw [e]
    clear e
    have R7 := H7 h.1
    generalize hR : S.R 7 = R at *
    obtain ⟨kd, bo, he, pr⟩ := R
    obtain ⟨r1, r2, r3, r4, r5, r6, r7, r8, r9, r10, r11, r12, r13⟩ := id R7
    dsimp only at *
    have c1 := csn_le bo
    have zb : nI bo.length = 0 ↔ bo = [] := by rw [nI_z (by omega), List.length_eq_zero_iff]
    have zh : nI he.length = 0 ↔ he = [] := by rw [nI_z (by omega), List.length_eq_zero_iff]
    have zk : nI kd = 0 ↔ kd = 0 := nI_z (by omega)
    have emp : (bo = [] ∨ (kd = 0 ∧ he = []) ∨ (kd ≠ 0 ∧ pr = none)) → ∀ L1 L2, mi_wp X mi_P 1 m_Mo_faultOfDraft (78, [some (.ref 71), L1, L2], [], w) (fun q w1 => q = some (.int (if faultR (kd, bo, he, pr) ≠ 0 then faultR (kd, bo, he, pr) else if kd ≠ 2 ∧ S.n = 6 then -8 else 0)) ∧ w1 = w) := by
      intro h L1 L2
      have e : faultR (kd, bo, he, pr) = -4 := if_pos h
      rw [e, if_pos (by decide)]
      repeat (first | refine mi_s1 (fun _ => rfl) ?_ | refine mi_wgf rfl (by assumption) rfl ?_ | refine mi_wal rfl (by assumption) rfl (by omega) (by decide) ?_)
      refine mi_r1 (fun _ => rfl) ?_
      exact ⟨rfl, rfl⟩
    -- behind the faults
    have fin : faultR (kd, bo, he, pr) = 0 → ∀ L1 L2, mi_wp X mi_P 1 m_Mo_faultOfDraft (233, [some (.ref 71), L1, L2], [], w) (fun q w1 => q = some (.int (if faultR (kd, bo, he, pr) ≠ 0 then faultR (kd, bo, he, pr) else if kd ≠ 2 ∧ S.n = 6 then -8 else 0)) ∧ w1 = w) := by
      intro h L1 L2
      rw [if_neg (fun q => q h)]
      repeat (first | refine mi_s1 (fun _ => rfl) ?_ | refine mi_wgf rfl HM.1 rfl ?_ | refine mi_wal rfl (HM.2.1 _ _ rfl) rfl (by omega) (by decide) ?_ | refine mi_wbl rfl (HM.2.2 _ _ rfl) rfl (by omega) (by decide) ?_)
      rw [r1]
      refine mi_wif (fun z => ?_) (fun z => ?_)
      · have z := (nI_eq (by omega) (by decide)).mp z
        rw [if_neg (fun q => q.1 z)]
        repeat (first | refine mi_s1 (fun _ => rfl) ?_ | refine mi_wgf rfl (by assumption) rfl ?_ | refine mi_wal rfl (by assumption) rfl (by omega) (by decide) ?_)
        refine mi_r1 (fun _ => rfl) ?_
        exact ⟨rfl, rfl⟩
      · have z : kd ≠ 2 := fun q => z (by rw [q])
        repeat (first | refine mi_s1 (fun _ => rfl) ?_ | refine mi_wgf rfl HM.1 rfl ?_ | refine mi_wal rfl (HM.2.1 _ _ rfl) rfl (by omega) (by decide) ?_ | refine mi_wbl rfl (HM.2.2 _ _ rfl) rfl (by omega) (by decide) ?_)
        refine mi_wif (fun z2 => ?_) (fun z2 => ?_)
        · have z2 : S.n = 6 := (nI_eq (a := S.n) (by omega) (by decide)).mp z2
          rw [if_pos ⟨z, z2⟩]
          repeat (first | refine mi_s1 (fun _ => rfl) ?_ | refine mi_wgf rfl (by assumption) rfl ?_ | refine mi_wal rfl (by assumption) rfl (by omega) (by decide) ?_)
          refine mi_r1 (fun _ => rfl) ?_
          exact ⟨rfl, rfl⟩
        · rw [if_neg (fun q => z2 (show nI S.n = nI 6 by rw [q.2]))]
          repeat (first | refine mi_s1 (fun _ => rfl) ?_ | refine mi_wgf rfl (by assumption) rfl ?_ | refine mi_wal rfl (by assumption) rfl (by omega) (by decide) ?_)
          refine mi_r1 (fun _ => rfl) ?_
          exact ⟨rfl, rfl⟩
    -- behind the heads
    have go3 : ¬ (bo = [] ∨ (kd = 0 ∧ he = []) ∨ (kd ≠ 0 ∧ pr = none)) → ¬ (0 < csn bo ∧ (kd ≠ 0 ∨ csn bo < bo.length)) → csn he = 0 → ∀ L1 L2, mi_wp X mi_P 1 m_Mo_faultOfDraft (188, [some (.ref 71), L1, L2], [], w) (fun q w1 => q = some (.int (if faultR (kd, bo, he, pr) ≠ 0 then faultR (kd, bo, he, pr) else if kd ≠ 2 ∧ S.n = 6 then -8 else 0)) ∧ w1 = w) := by
      intro h1 h2 h3 L1 L2
      have e : faultR (kd, bo, he, pr) = faultP bo pr := by
        unfold faultR
        rw [if_neg h1, if_neg h2, if_neg (show ¬ 0 < csn he by omega)]
      repeat (first | refine mi_s1 (fun _ => rfl) ?_ | refine mi_wgf rfl HM.1 rfl ?_ | refine mi_wal rfl (HM.2.1 _ _ rfl) rfl (by omega) (by decide) ?_ | refine mi_wbl rfl (HM.2.2 _ _ rfl) rfl (by omega) (by decide) ?_)
      rw [r1]
      refine mi_wif (fun z => ?_) (fun z => ?_)
      · have z := zk.mp z
        refine fin ?_ _ _
        rw [e, r12 z]
        rfl
      · have z : kd ≠ 0 := fun q => z (zk.mpr q)
        cases pr with
        | none => exact absurd (Or.inr (Or.inr ⟨z, rfl⟩)) h1
        | some p =>
        obtain ⟨v, u⟩ := p
        obtain ⟨hv, hu⟩ := r11 v u rfl
        have r9 : a 84 7 = nI v := r9
        have r10 : a 85 7 = nI u := r10
        have no : ¬ (inB bo v = true ∧ inB bo u = true) → ∀ L1 L2, mi_wp X mi_P 1 m_Mo_faultOfDraft (230, [some (.ref 71), L1, L2], [], w) (fun q w1 => q = some (.int (if faultR (kd, bo, he, some (v, u)) ≠ 0 then faultR (kd, bo, he, some (v, u)) else if kd ≠ 2 ∧ S.n = 6 then -8 else 0)) ∧ w1 = w) := by
          intro h L1 L2
          have e2 : faultP bo (some (v, u)) = -7 := if_neg h
          rw [e, e2, if_pos (by decide)]
          repeat (first | refine mi_s1 (fun _ => rfl) ?_ | refine mi_wgf rfl (by assumption) rfl ?_ | refine mi_wal rfl (by assumption) rfl (by omega) (by decide) ?_)
          refine mi_r1 (fun _ => rfl) ?_
          exact ⟨rfl, rfl⟩
        repeat (first | refine mi_s1 (fun _ => rfl) ?_ | refine mi_wgf rfl HM.1 rfl ?_ | refine mi_wal rfl (HM.2.1 _ _ rfl) rfl (by omega) (by decide) ?_ | refine mi_wbl rfl (HM.2.2 _ _ rfl) rfl (by omega) (by decide) ?_)
        rw [r9]
        refine mi_wcv rfl rfl (Nat.le_of_ble_eq_true rfl) HM.1 rfl (mv_inBody HM (by decide) R7 (by omega)) ?_
        repeat (first | refine mi_s1 (fun _ => rfl) ?_ | refine mi_wgf rfl (by assumption) rfl ?_ | refine mi_wal rfl (by assumption) rfl (by omega) (by decide) ?_)
        refine mi_wif (fun z1 => ?_) (fun z1 => ?_)
        · exact no (fun q => jb_0.mp z1 q.1) _ _
        · repeat (first | refine mi_s1 (fun _ => rfl) ?_ | refine mi_wgf rfl HM.1 rfl ?_ | refine mi_wal rfl (HM.2.1 _ _ rfl) rfl (by omega) (by decide) ?_ | refine mi_wbl rfl (HM.2.2 _ _ rfl) rfl (by omega) (by decide) ?_)
          rw [r10]
          refine mi_wcv rfl rfl (Nat.le_of_ble_eq_true rfl) HM.1 rfl (mv_inBody HM (by decide) R7 (by omega)) ?_
          repeat (first | refine mi_s1 (fun _ => rfl) ?_ | refine mi_wgf rfl (by assumption) rfl ?_ | refine mi_wal rfl (by assumption) rfl (by omega) (by decide) ?_)
          refine mi_wif (fun z2 => ?_) (fun z2 => ?_)
          · exact no (fun q => jb_0.mp z2 q.2) _ _
          · refine fin ?_ _ _
            rw [e]
            exact if_pos ⟨Decidable.not_not.mp (fun q => z1 (jb_0.mpr q)), Decidable.not_not.mp (fun q => z2 (jb_0.mpr q))⟩
    have go2 : ¬ (bo = [] ∨ (kd = 0 ∧ he = []) ∨ (kd ≠ 0 ∧ pr = none)) → ¬ (0 < csn bo ∧ (kd ≠ 0 ∨ csn bo < bo.length)) → ∀ L1 L2, mi_wp X mi_P 1 m_Mo_faultOfDraft (152, [some (.ref 71), L1, L2], [], w) (fun q w1 => q = some (.int (if faultR (kd, bo, he, pr) ≠ 0 then faultR (kd, bo, he, pr) else if kd ≠ 2 ∧ S.n = 6 then -8 else 0)) ∧ w1 = w) := by
      intro h1 h2 L1 L2
      refine mi_s1 (fun _ => rfl) ?_; refine mi_s1 (fun _ => rfl) ?_
      refine mv_fault_head HM R7 (fun h3 => ?_) (fun h3 z => go3 h1 h2 h3 _ _) he.length 0 (by show 0 + he.length = he.length; omega) rfl
      have h3 : 0 < csn he := h3
      have e : faultR (kd, bo, he, pr) = -6 := by
        unfold faultR
        rw [if_neg h1, if_neg h2, if_pos h3]
      rw [e, if_pos (by decide)]
      exact ⟨rfl, rfl⟩
    have go1 : ¬ (bo = [] ∨ (kd = 0 ∧ he = []) ∨ (kd ≠ 0 ∧ pr = none)) → ∀ L1 L2, mi_wp X mi_P 1 m_Mo_faultOfDraft (81, [some (.ref 71), L1, L2], [], w) (fun q w1 => q = some (.int (if faultR (kd, bo, he, pr) ≠ 0 then faultR (kd, bo, he, pr) else if kd ≠ 2 ∧ S.n = 6 then -8 else 0)) ∧ w1 = w) := by
      intro h1 L1 L2
      refine mi_s1 (fun _ => rfl) ?_; refine mi_s1 (fun _ => rfl) ?_; refine mi_s1 (fun _ => rfl) ?_; refine mi_s1 (fun _ => rfl) ?_
      refine mv_fault_src HM R7 (fun z => ?_) bo.length 0 (by show 0 + bo.length = bo.length; omega)
      have mix : (0 < csn bo ∧ (kd ≠ 0 ∨ csn bo < bo.length)) → ∀ L1 L2, mi_wp X mi_P 1 m_Mo_faultOfDraft (149, [some (.ref 71), L1, L2], [], w) (fun q w1 => q = some (.int (if faultR (kd, bo, he, pr) ≠ 0 then faultR (kd, bo, he, pr) else if kd ≠ 2 ∧ S.n = 6 then -8 else 0)) ∧ w1 = w) := by
        intro h2 L1 L2
        have e : faultR (kd, bo, he, pr) = -5 := by
          unfold faultR
          rw [if_neg h1, if_pos h2]
        rw [e, if_pos (by decide)]
        repeat (first | refine mi_s1 (fun _ => rfl) ?_ | refine mi_wgf rfl (by assumption) rfl ?_ | refine mi_wal rfl (by assumption) rfl (by omega) (by decide) ?_)
        refine mi_r1 (fun _ => rfl) ?_
        exact ⟨rfl, rfl⟩
      show mi_wp X mi_P 1 m_Mo_faultOfDraft (124, [some (.ref 71), some (.int (nI (csn bo))), z], [], w) _
      repeat (first | refine mi_s1 (fun _ => rfl) ?_ | refine mi_wgf rfl (by assumption) rfl ?_ | refine mi_wal rfl (by assumption) rfl (by omega) (by decide) ?_)
      refine mi_wif (fun z1 => ?_) (fun z1 => ?_)
      · exact go2 h1 (fun q => nI_nle q.1 (by omega) z1) _ _
      · have z1 : 0 < csn bo := by
          rcases Nat.eq_zero_or_pos (csn bo) with q | q
          · exact absurd (by rw [q]; decide) z1
          · exact q
        repeat (first | refine mi_s1 (fun _ => rfl) ?_ | refine mi_wgf rfl HM.1 rfl ?_ | refine mi_wal rfl (HM.2.1 _ _ rfl) rfl (by omega) (by decide) ?_ | refine mi_wbl rfl (HM.2.2 _ _ rfl) rfl (by omega) (by decide) ?_)
        rw [r3]
        refine mi_wif (fun z2 => ?_) (fun z2 => ?_)
        · exact mix ⟨z1, Or.inr ((nI_ltI (by omega) (by omega)).mp z2)⟩ _ _
        · have z2 : ¬ csn bo < bo.length := fun q => z2 (nI_lt q (by omega))
          repeat (first | refine mi_s1 (fun _ => rfl) ?_ | refine mi_wgf rfl HM.1 rfl ?_ | refine mi_wal rfl (HM.2.1 _ _ rfl) rfl (by omega) (by decide) ?_ | refine mi_wbl rfl (HM.2.2 _ _ rfl) rfl (by omega) (by decide) ?_)
          rw [r1]
          refine mi_wif (fun z3 => ?_) (fun z3 => ?_)
          · exact go2 h1 (fun q => q.2.elim (fun h => h (zk.mp z3)) z2) _ _
          · exact mix ⟨z1, Or.inl (fun q => z3 (zk.mpr q))⟩ _ _
    repeat (first | refine mi_s1 (fun _ => rfl) ?_ | refine mi_wgf rfl HM.1 rfl ?_ | refine mi_wal rfl (HM.2.1 _ _ rfl) rfl (by omega) (by decide) ?_ | refine mi_wbl rfl (HM.2.2 _ _ rfl) rfl (by omega) (by decide) ?_)
    rw [r3]
    refine mi_wif (fun z1 => ?_) (fun z1 => ?_)
    · exact emp (Or.inl (zb.mp z1)) _ _
    · have z1 : bo ≠ [] := fun q => z1 (zb.mpr q)
      have two : (kd = 0 → he ≠ []) → ∀ L1 L2, mi_wp X mi_P 1 m_Mo_faultOfDraft (58, [some (.ref 71), L1, L2], [], w) (fun q w1 => q = some (.int (if faultR (kd, bo, he, pr) ≠ 0 then faultR (kd, bo, he, pr) else if kd ≠ 2 ∧ S.n = 6 then -8 else 0)) ∧ w1 = w) := by
        intro h L1 L2
        repeat (first | refine mi_s1 (fun _ => rfl) ?_ | refine mi_wgf rfl HM.1 rfl ?_ | refine mi_wal rfl (HM.2.1 _ _ rfl) rfl (by omega) (by decide) ?_ | refine mi_wbl rfl (HM.2.2 _ _ rfl) rfl (by omega) (by decide) ?_)
        rw [r1]
        refine mi_wif (fun z => ?_) (fun z => ?_)
        · have z := zk.mp z
          refine go1 ?_ _ _
          rintro (q | q | q)
          · exact z1 q
          · exact h z q.2
          · exact q.1 z
        · have z : kd ≠ 0 := fun q => z (zk.mpr q)
          repeat (first | refine mi_s1 (fun _ => rfl) ?_ | refine mi_wgf rfl HM.1 rfl ?_ | refine mi_wal rfl (HM.2.1 _ _ rfl) rfl (by omega) (by decide) ?_ | refine mi_wbl rfl (HM.2.2 _ _ rfl) rfl (by omega) (by decide) ?_)
          rw [r9]
          refine mi_wif (fun z2 => ?_) (fun z2 => ?_)
          · refine go1 ?_ _ _
            rintro (q | q | q)
            · exact z1 q
            · exact z q.1
            · rw [q.2] at z2
              exact absurd z2 (by decide)
          · refine emp (Or.inr (Or.inr ⟨z, ?_⟩)) _ _
            cases pr with
            | none => rfl
            | some p => exact absurd (nI_pos' (n := p.1) (by have := (r11 p.1 p.2 rfl).1; omega)) z2
      repeat (first | refine mi_s1 (fun _ => rfl) ?_ | refine mi_wgf rfl HM.1 rfl ?_ | refine mi_wal rfl (HM.2.1 _ _ rfl) rfl (by omega) (by decide) ?_ | refine mi_wbl rfl (HM.2.2 _ _ rfl) rfl (by omega) (by decide) ?_)
      rw [r1]
      refine mi_wif (fun z => ?_) (fun z => ?_)
      · have z := zk.mp z
        repeat (first | refine mi_s1 (fun _ => rfl) ?_ | refine mi_wgf rfl HM.1 rfl ?_ | refine mi_wal rfl (HM.2.1 _ _ rfl) rfl (by omega) (by decide) ?_ | refine mi_wbl rfl (HM.2.2 _ _ rfl) rfl (by omega) (by decide) ?_)
        rw [r5]
        refine mi_wif (fun z2 => ?_) (fun z2 => ?_)
        · exact emp (Or.inr (Or.inl ⟨z, zh.mp z2⟩)) _ _
        · exact two (fun _ q => z2 (zh.mpr q)) _ _
      · exact two (fun q => absurd (zk.mpr q) z) _ _
  refine mi_Ev.of (M := m_Mo_faultOfDraft) rfl (Nat.le_of_ble_eq_true rfl) ?_
  repeat (first | refine mi_s1 (fun _ => rfl) ?_ | refine mi_wgf rfl HM.1 rfl ?_ | refine mi_wal rfl (HM.2.1 _ _ rfl) rfl (by omega) (by decide) ?_ | refine mi_wbl rfl (HM.2.2 _ _ rfl) rfl (by omega) (by decide) ?_)
  refine mi_wif (fun z0 => ?_) (fun z0 => ?_)
  · exact bad _ _ (fun q => jb_0.mp z0 q.1)
  · have z0 := Decidable.not_not.mp (fun q => z0 (jb_0.mpr q))
    obtain ⟨r1, r2, -⟩ := H7 z0
    repeat (first | refine mi_s1 (fun _ => rfl) ?_ | refine mi_wgf rfl HM.1 rfl ?_ | refine mi_wal rfl (HM.2.1 _ _ rfl) rfl (by omega) (by decide) ?_ | refine mi_wbl rfl (HM.2.2 _ _ rfl) rfl (by omega) (by decide) ?_)
    rw [r1]
    refine mi_wif (fun z1 => ?_) (fun z1 => ?_)
    · exact go _ _ ⟨z0, Or.inl ((nI_eq (by omega) (by decide)).mp z1)⟩
    · have z1 : ¬ (S.R 7).1 = 2 := fun q => z1 (by rw [q])
      repeat (first | refine mi_s1 (fun _ => rfl) ?_ | refine mi_wgf rfl HM.1 rfl ?_ | refine mi_wal rfl (HM.2.1 _ _ rfl) rfl (by omega) (by decide) ?_ | refine mi_wbl rfl (HM.2.2 _ _ rfl) rfl (by omega) (by decide) ?_)
      refine mi_wif (fun z2 => ?_) (fun z2 => ?_)
      · exact go _ _ ⟨z0, Or.inr ((nI_z (n := S.s) (by omega)).mp z2)⟩
      · exact bad _ _ (fun q => q.2.elim z1 (fun h => z2 (show nI S.s = 0 by rw [h]; rfl)))
/-- slot 7 goes to slot d -/
theorem mv_close_body {w0 : mi_H} {d : Nat} (hd : d < 7) {L1 : Option Value} {Q : Option Value → mi_H → Prop} (kk : ∀ (w1 : mi_H) (b : mo_a) (z : Option Value), Mo w1 b T → (∀ j, j ≠ d → Sl a b j) → Ff a b → (∀ o, (o = 75 ∨ o = 76 ∨ o = 80 ∨ o = 84 ∨ o = 85) → b o d = a o 7) → (∀ o k, 77 ≤ o → o < 80 → k < 3 → b o (3 * d + k) = a o (3 * 7 + k)) → mi_Fg w0 w1 71 94 → mi_wp X mi_P 2 m_Mo_close (167, [some (.ref 71), L1, some (.int (nI d)), z], [], w1) Q) : ∀ f m (w : mi_H) (b : mo_a), m + f = 3 → Mo w b T → (∀ j, j ≠ d → Sl a b j) → Ff a b → (∀ o, (o = 75 ∨ o = 76 ∨ o = 80 ∨ o = 84 ∨ o = 85) → b o d = a o 7) → (∀ o k, 77 ≤ o → o < 80 → k < m → b o (3 * d + k) = a o (3 * 7 + k)) → mi_Fg w0 w 71 94 → mi_wp X mi_P 2 m_Mo_close (99, [some (.ref 71), L1, some (.int (nI d)), some (.int (nI m))], [], w) Q
  | 0, m, w, b, hm, HM, hS, hf, h1, h2, hG => by
    have hm : m = 3 := by omega
    subst hm
    refine mi_s1 (fun _ => rfl) ?_; refine mi_s1 (fun _ => rfl) ?_; refine mi_s1 (fun _ => rfl) ?_
    refine mi_wif (fun _ => ?_) (fun q => absurd (by decide) q)
    exact kk w b _ HM hS hf h1 h2 hG
  | f + 1, m, w, b, hm, HM, hS, hf, h1, h2, hG => by
    have v7 : ∀ o, 77 ≤ o → o < 80 → b o (21 + m) = a o (21 + m) := fun o q1 q2 => hS 7 (by omega) o _ (by omega) (by omega) (slo_b (d := 7) q1 q2 (by omega))
    have hsl : ∀ o, 77 ≤ o → o < 80 → slo o (3 * d + m) = d := fun o q1 q2 => slo_b q1 q2 (by omega)
    repeat (first | refine mi_s1 (fun _ => rfl) ?_ | refine mi_wgf rfl (by assumption) rfl ?_ | refine mi_wal rfl (by assumption) rfl (by omega) (by decide) ?_)
    refine mi_wif (fun z => absurd z (nI_ge (a := m) (b := 3) (by omega) (by omega))) (fun _ => ?_)
    repeat (first | refine mi_s1 (fun _ => rfl) ?_ | refine mi_wgf rfl HM.1 rfl ?_ | refine mi_wal rfl (HM.2.1 _ _ rfl) rfl (by omega) (by decide) ?_ | refine mi_wbl rfl (HM.2.2 _ _ rfl) rfl (by omega) (by decide) ?_)
    rw [pk_mul, nI_add, nI_add]
    repeat (first | refine mi_s1 (fun _ => rfl) ?_ | refine mi_wgf rfl HM.1 rfl ?_ | refine mi_wal rfl (HM.2.1 _ _ rfl) rfl (by omega) (by decide) ?_ | refine mi_wbl rfl (HM.2.2 _ _ rfl) rfl (by omega) (by decide) ?_)
    rw [v7 77 (by omega) (by omega)]
    refine HM.was rfl rfl rfl (by omega) (fun w HM hF => ?_)
    have hG := hG.tr hF
    repeat (first | refine mi_s1 (fun _ => rfl) ?_ | refine mi_wgf rfl HM.1 rfl ?_ | refine mi_wal rfl (HM.2.1 _ _ rfl) rfl (by omega) (by decide) ?_ | refine mi_wbl rfl (HM.2.2 _ _ rfl) rfl (by omega) (by decide) ?_)
    rw [pk_mul, nI_add, nI_add]
    repeat (first | refine mi_s1 (fun _ => rfl) ?_ | refine mi_wgf rfl HM.1 rfl ?_ | refine mi_wal rfl (HM.2.1 _ _ rfl) rfl (by omega) (by decide) ?_ | refine mi_wbl rfl (HM.2.2 _ _ rfl) rfl (by omega) (by decide) ?_)
    rw [upA_o (p := 78) (by decide), v7 78 (by omega) (by omega)]
    refine HM.was rfl rfl rfl (by omega) (fun w HM hF => ?_)
    have hG := hG.tr hF
    repeat (first | refine mi_s1 (fun _ => rfl) ?_ | refine mi_wgf rfl HM.1 rfl ?_ | refine mi_wal rfl (HM.2.1 _ _ rfl) rfl (by omega) (by decide) ?_ | refine mi_wbl rfl (HM.2.2 _ _ rfl) rfl (by omega) (by decide) ?_)
    rw [pk_mul, nI_add, nI_add]
    repeat (first | refine mi_s1 (fun _ => rfl) ?_ | refine mi_wgf rfl HM.1 rfl ?_ | refine mi_wal rfl (HM.2.1 _ _ rfl) rfl (by omega) (by decide) ?_ | refine mi_wbl rfl (HM.2.2 _ _ rfl) rfl (by omega) (by decide) ?_)
    rw [upA_o (p := 79) (by decide), upA_o (p := 79) (by decide), v7 79 (by omega) (by omega)]
    refine HM.was rfl rfl rfl (by omega) (fun w HM hF => ?_)
    have hG := hG.tr hF
    refine mi_s1 (fun _ => rfl) ?_; refine mi_s1 (fun _ => rfl) ?_
    rw [show nI m + nI 1 = nI (m + 1) from nI_1 m]
    refine mv_close_body hd kk f (m + 1) w _ (by omega) HM (fun j hj => (((hS j hj).up (by right; rw [hsl _ (by omega) (by omega)]; omega)).up (by right; rw [hsl _ (by omega) (by omega)]; omega)).up (by right; rw [hsl _ (by omega) (by omega)]; omega)) (((hf.up (by omega)).up (by omega)).up (by omega)) (fun o ho => ?_) (fun o k q1 q2 q3 => ?_) hG
    · rw [upA_o (by omega), upA_o (by omega), upA_o (by omega)]
      exact h1 o ho
    · have key : ∀ x y : Int32, x = y → (k < m → upd (b o) (3 * d + m) x (3 * d + k) = a o (3 * 7 + k)) := fun x y _ hk => by
        rw [pk_un (by omega)]
        exact h2 o k q1 q2 hk
      have ho : o = 77 ∨ o = 78 ∨ o = 79 := by omega
      by_cases hk : k < m
      · rcases ho with rfl | rfl | rfl
        · rw [upA_o (by omega), upA_o (by omega), upA_s, pk_un (by omega)]
          exact h2 77 k q1 q2 hk
        · rw [upA_o (by omega), upA_s, pk_un (by omega), upA_o (by omega)]
          exact h2 78 k q1 q2 hk
        · rw [upA_s, pk_un (by omega), upA_o (by omega), upA_o (by omega)]
          exact h2 79 k q1 q2 hk
      · have hk : k = m := by omega
        subst hk
        rcases ho with rfl | rfl | rfl
        · rw [upA_o (by omega), upA_o (by omega), upA_s, pk_us]
        · rw [upA_o (by omega), upA_s, pk_us]
        · rw [upA_s, pk_us]
theorem mv_close_head {w0 : mi_H} {d : Nat} (hd : d < 7) {L1 : Option Value} {Q : Option Value → mi_H → Prop} (kk : ∀ (w1 : mi_H) (b : mo_a) (z : Option Value), Mo w1 b T → (∀ j, j ≠ d → Sl a b j) → Ff a b → (∀ o, (o = 75 ∨ o = 76 ∨ o = 80 ∨ o = 84 ∨ o = 85) → b o d = a o 7) → (∀ o k, 77 ≤ o → o < 80 → k < 3 → b o (3 * d + k) = a o (3 * 7 + k)) → (∀ o k, 81 ≤ o → o < 84 → k < 2 → b o (2 * d + k) = a o (2 * 7 + k)) → mi_Fg w0 w1 71 94 → mi_wp X mi_P 2 m_Mo_close (237, [some (.ref 71), L1, some (.int (nI d)), z], [], w1) Q) : ∀ f m (w : mi_H) (b : mo_a), m + f = 2 → Mo w b T → (∀ j, j ≠ d → Sl a b j) → Ff a b → (∀ o, (o = 75 ∨ o = 76 ∨ o = 80 ∨ o = 84 ∨ o = 85) → b o d = a o 7) → (∀ o k, 77 ≤ o → o < 80 → k < 3 → b o (3 * d + k) = a o (3 * 7 + k)) → (∀ o k, 81 ≤ o → o < 84 → k < m → b o (2 * d + k) = a o (2 * 7 + k)) → mi_Fg w0 w 71 94 → mi_wp X mi_P 2 m_Mo_close (169, [some (.ref 71), L1, some (.int (nI d)), some (.int (nI m))], [], w) Q
  | 0, m, w, b, hm, HM, hS, hf, h1, h2, h3, hG => by
    have hm : m = 2 := by omega
    subst hm
    refine mi_s1 (fun _ => rfl) ?_; refine mi_s1 (fun _ => rfl) ?_; refine mi_s1 (fun _ => rfl) ?_
    refine mi_wif (fun _ => ?_) (fun q => absurd (by decide) q)
    exact kk w b _ HM hS hf h1 h2 h3 hG
  | f + 1, m, w, b, hm, HM, hS, hf, h1, h2, h3, hG => by
    have v7 : ∀ o, 81 ≤ o → o < 84 → b o (14 + m) = a o (14 + m) := fun o q1 q2 => hS 7 (by omega) o _ (by omega) (by omega) (slo_h (d := 7) q1 q2 (by omega))
    have hsl : ∀ o, 81 ≤ o → o < 84 → slo o (2 * d + m) = d := fun o q1 q2 => slo_h q1 q2 (by omega)
    repeat (first | refine mi_s1 (fun _ => rfl) ?_ | refine mi_wgf rfl (by assumption) rfl ?_ | refine mi_wal rfl (by assumption) rfl (by omega) (by decide) ?_)
    refine mi_wif (fun z => absurd z (nI_ge (a := m) (b := 2) (by omega) (by omega))) (fun _ => ?_)
    repeat (first | refine mi_s1 (fun _ => rfl) ?_ | refine mi_wgf rfl HM.1 rfl ?_ | refine mi_wal rfl (HM.2.1 _ _ rfl) rfl (by omega) (by decide) ?_ | refine mi_wbl rfl (HM.2.2 _ _ rfl) rfl (by omega) (by decide) ?_)
    rw [pk_mul, nI_add, nI_add]
    repeat (first | refine mi_s1 (fun _ => rfl) ?_ | refine mi_wgf rfl HM.1 rfl ?_ | refine mi_wal rfl (HM.2.1 _ _ rfl) rfl (by omega) (by decide) ?_ | refine mi_wbl rfl (HM.2.2 _ _ rfl) rfl (by omega) (by decide) ?_)
    rw [v7 81 (by omega) (by omega)]
    refine HM.was rfl rfl rfl (by omega) (fun w HM hF => ?_)
    have hG := hG.tr hF
    repeat (first | refine mi_s1 (fun _ => rfl) ?_ | refine mi_wgf rfl HM.1 rfl ?_ | refine mi_wal rfl (HM.2.1 _ _ rfl) rfl (by omega) (by decide) ?_ | refine mi_wbl rfl (HM.2.2 _ _ rfl) rfl (by omega) (by decide) ?_)
    rw [pk_mul, nI_add, nI_add]
    repeat (first | refine mi_s1 (fun _ => rfl) ?_ | refine mi_wgf rfl HM.1 rfl ?_ | refine mi_wal rfl (HM.2.1 _ _ rfl) rfl (by omega) (by decide) ?_ | refine mi_wbl rfl (HM.2.2 _ _ rfl) rfl (by omega) (by decide) ?_)
    rw [upA_o (p := 82) (by decide), v7 82 (by omega) (by omega)]
    refine HM.was rfl rfl rfl (by omega) (fun w HM hF => ?_)
    have hG := hG.tr hF
    repeat (first | refine mi_s1 (fun _ => rfl) ?_ | refine mi_wgf rfl HM.1 rfl ?_ | refine mi_wal rfl (HM.2.1 _ _ rfl) rfl (by omega) (by decide) ?_ | refine mi_wbl rfl (HM.2.2 _ _ rfl) rfl (by omega) (by decide) ?_)
    rw [pk_mul, nI_add, nI_add]
    repeat (first | refine mi_s1 (fun _ => rfl) ?_ | refine mi_wgf rfl HM.1 rfl ?_ | refine mi_wal rfl (HM.2.1 _ _ rfl) rfl (by omega) (by decide) ?_ | refine mi_wbl rfl (HM.2.2 _ _ rfl) rfl (by omega) (by decide) ?_)
    rw [upA_o (p := 83) (by decide), upA_o (p := 83) (by decide), v7 83 (by omega) (by omega)]
    refine HM.was rfl rfl rfl (by omega) (fun w HM hF => ?_)
    have hG := hG.tr hF
    refine mi_s1 (fun _ => rfl) ?_; refine mi_s1 (fun _ => rfl) ?_
    rw [show nI m + nI 1 = nI (m + 1) from nI_1 m]
    refine mv_close_head hd kk f (m + 1) w _ (by omega) HM (fun j hj => (((hS j hj).up (by right; rw [hsl _ (by omega) (by omega)]; omega)).up (by right; rw [hsl _ (by omega) (by omega)]; omega)).up (by right; rw [hsl _ (by omega) (by omega)]; omega)) (((hf.up (by omega)).up (by omega)).up (by omega)) (fun o ho => ?_) (fun o k q1 q2 q3 => ?_) (fun o k q1 q2 q3 => ?_) hG
    · rw [upA_o (by omega), upA_o (by omega), upA_o (by omega)]
      exact h1 o ho
    · rw [upA_o (by omega), upA_o (by omega), upA_o (by omega)]
      exact h2 o k q1 q2 q3
    · have ho : o = 81 ∨ o = 82 ∨ o = 83 := by omega
      by_cases hk : k < m
      · rcases ho with rfl | rfl | rfl
        · rw [upA_o (by omega), upA_o (by omega), upA_s, pk_un (by omega)]
          exact h3 81 k q1 q2 hk
        · rw [upA_o (by omega), upA_s, pk_un (by omega), upA_o (by omega)]
          exact h3 82 k q1 q2 hk
        · rw [upA_s, pk_un (by omega), upA_o (by omega), upA_o (by omega)]
          exact h3 83 k q1 q2 hk
      · have hk : k = m := by omega
        subst hk
        rcases ho with rfl | rfl | rfl
        · rw [upA_o (by omega), upA_o (by omega), upA_s, pk_us]
        · rw [upA_o (by omega), upA_s, pk_us]
        · rw [upA_s, pk_us]
theorem swp_d {R : Nat → sp_R} {d : Nat} : swp R d d = R 7 := if_pos rfl
theorem swp_o {R : Nat → sp_R} {d j : Nat} (h : j ≠ d) (h7 : j ≠ 7) : swp R d j = R j := by
  unfold swp
  rw [if_neg h, if_neg h7]
theorem mv_close (H : Md w S) : mi_Ex X 3 k_Mo_close [.ref 71] w (fun q w1 => q = some (.int (op_close S).1) ∧ Md w1 (op_close S).2 ∧ mi_Fg w w1 71 94) := by
  obtain ⟨a, ls, lt, HM, HF, HR, H6, H7, hn, hs⟩ := id H
  refine mi_Ex.of (M := m_Mo_close) rfl (Nat.le_of_ble_eq_true rfl) ?_
  repeat (first | refine mi_s1 (fun _ => rfl) ?_ | refine mi_wgf rfl (by assumption) rfl ?_ | refine mi_wal rfl (by assumption) rfl (by omega) (by decide) ?_)
  refine mi_wcv rfl rfl (Nat.le_of_ble_eq_true rfl) HM.1 rfl (mv_faultOfDraft H) ?_
  repeat (first | refine mi_s1 (fun _ => rfl) ?_ | refine mi_wgf rfl (by assumption) rfl ?_ | refine mi_wal rfl (by assumption) rfl (by omega) (by decide) ?_)
  by_cases c0 : S.hd = true ∧ ((S.R 7).1 = 2 ∨ S.s = 0)
  · have e : op_close S = _ := if_pos c0
    have e2 : op_fault S = _ := if_pos c0
    rw [e, e2]
    clear e e2
    by_cases c1 : faultR (S.R 7) ≠ 0
    · rw [if_pos c1, if_pos c1]
      refine mi_wif (fun q => absurd q c1) (fun _ => ?_)
      repeat (first | refine mi_s1 (fun _ => rfl) ?_ | refine mi_wgf rfl (by assumption) rfl ?_ | refine mi_wal rfl (by assumption) rfl (by omega) (by decide) ?_)
      refine mi_r1 (fun _ => rfl) ?_
      exact ⟨rfl, H, mi_Fg.rf⟩
    · rw [if_neg c1, if_neg c1]
      have R7 := H7 c0.1
      obtain ⟨r1, r2, -⟩ := id R7
      by_cases c2 : (S.R 7).1 ≠ 2 ∧ S.n = 6
      · rw [if_pos c2, if_neg c2.1, if_neg (show ¬ S.n < 6 by have := c2.2; omega)]
        repeat (first | refine mi_s1 (fun _ => rfl) ?_ | refine mi_wgf rfl (by assumption) rfl ?_ | refine mi_wal rfl (by assumption) rfl (by omega) (by decide) ?_)
        refine mi_r1 (fun _ => rfl) ?_
        exact ⟨rfl, H, mi_Fg.rf⟩
      · rw [if_neg c2]
        repeat (first | refine mi_s1 (fun _ => rfl) ?_ | refine mi_wgf rfl HM.1 rfl ?_ | refine mi_wal rfl (HM.2.1 _ _ rfl) rfl (by omega) (by decide) ?_ | refine mi_wbl rfl (HM.2.2 _ _ rfl) rfl (by omega) (by decide) ?_)
        -- the copy, to slot d
        have copy : ∀ d, d < 7 → ∀ (L1 L3 : Option Value) (Q : Option Value → mi_H → Prop), (∀ (w1 : mi_H) (b : mo_a) (z : Option Value), Mo w1 b (ls.length, lt.length, S.n, S.hq, S.hd, S.s) → (∀ j, j ≠ d → Sl a b j) → Ff a b → Rm b d (S.R 7) → mi_Fg w w1 71 94 → mi_wp X mi_P 2 m_Mo_close (237, [some (.ref 71), L1, some (.int (nI d)), z], [], w1) Q) → mi_wp X mi_P 2 m_Mo_close (32, [some (.ref 71), L1, some (.int (nI d)), L3], [], w) Q := by
          intro d hd L1 L3 Q kk
          have hG : mi_Fg w w 71 94 := mi_Fg.rf
          have ho : ∀ (b : mo_a) (o i : Nat) (x : Int32), (o = 75 ∨ o = 76 ∨ o = 80 ∨ o = 84 ∨ o = 85) → ∀ j, j ≠ d → Sl a b j → Sl a (upA b o d x) j := fun b o i x ho j hj h => h.up (by right; rw [slo_o ho]; omega)
          repeat (first | refine mi_s1 (fun _ => rfl) ?_ | refine mi_wgf rfl HM.1 rfl ?_ | refine mi_wal rfl (HM.2.1 _ _ rfl) rfl (by omega) (by decide) ?_ | refine mi_wbl rfl (HM.2.2 _ _ rfl) rfl (by omega) (by decide) ?_)
          refine HM.was rfl rfl rfl (by omega) (fun w HM hF => ?_)
          have hG := hG.tr hF
          repeat (first | refine mi_s1 (fun _ => rfl) ?_ | refine mi_wgf rfl HM.1 rfl ?_ | refine mi_wal rfl (HM.2.1 _ _ rfl) rfl (by omega) (by decide) ?_ | refine mi_wbl rfl (HM.2.2 _ _ rfl) rfl (by omega) (by decide) ?_)
          rw [upA_o (p := 76) (by decide)]
          refine HM.was rfl rfl rfl (by omega) (fun w HM hF => ?_)
          have hG := hG.tr hF
          repeat (first | refine mi_s1 (fun _ => rfl) ?_ | refine mi_wgf rfl HM.1 rfl ?_ | refine mi_wal rfl (HM.2.1 _ _ rfl) rfl (by omega) (by decide) ?_ | refine mi_wbl rfl (HM.2.2 _ _ rfl) rfl (by omega) (by decide) ?_)
          rw [upA_o (p := 80) (by decide), upA_o (p := 80) (by decide)]
          refine HM.was rfl rfl rfl (by omega) (fun w HM hF => ?_)
          have hG := hG.tr hF
          repeat (first | refine mi_s1 (fun _ => rfl) ?_ | refine mi_wgf rfl HM.1 rfl ?_ | refine mi_wal rfl (HM.2.1 _ _ rfl) rfl (by omega) (by decide) ?_ | refine mi_wbl rfl (HM.2.2 _ _ rfl) rfl (by omega) (by decide) ?_)
          rw [upA_o (p := 84) (by decide), upA_o (p := 84) (by decide), upA_o (p := 84) (by decide)]
          refine HM.was rfl rfl rfl (by omega) (fun w HM hF => ?_)
          have hG := hG.tr hF
          repeat (first | refine mi_s1 (fun _ => rfl) ?_ | refine mi_wgf rfl HM.1 rfl ?_ | refine mi_wal rfl (HM.2.1 _ _ rfl) rfl (by omega) (by decide) ?_ | refine mi_wbl rfl (HM.2.2 _ _ rfl) rfl (by omega) (by decide) ?_)
          rw [upA_o (p := 85) (by decide), upA_o (p := 85) (by decide), upA_o (p := 85) (by decide), upA_o (p := 85) (by decide)]
          refine HM.was rfl rfl rfl (by omega) (fun w HM hF => ?_)
          have hG := hG.tr hF
          refine mi_s1 (fun _ => rfl) ?_; refine mi_s1 (fun _ => rfl) ?_
          refine mv_close_body (a := a) hd (fun w1 b z HM1 hS1 hf1 h11 h21 hG1 => ?_) 3 0 w _ rfl HM (fun j hj => ?_) (((((Ff.rf.up (by omega)).up (by omega)).up (by omega)).up (by omega)).up (by omega)) (fun o ho => ?_) (fun o k q1 q2 q3 => absurd q3 (Nat.not_lt_zero k)) hG
          · refine mi_s1 (fun _ => rfl) ?_; refine mi_s1 (fun _ => rfl) ?_
            refine mv_close_head (a := a) hd (fun w2 b2 z2 HM2 hS2 hf2 h12 h22 h32 hG2 => ?_) 2 0 w1 b rfl HM1 hS1 hf1 h11 h21 (fun o k q1 q2 q3 => absurd q3 (Nat.not_lt_zero k)) hG1
            exact kk w2 b2 z2 HM2 hS2 hf2 (R7.mv h12 h22 h32) hG2
          · exact ho _ 85 d _ (by omega) j hj (ho _ 84 d _ (by omega) j hj (ho _ 80 d _ (by omega) j hj (ho _ 76 d _ (by omega) j hj (ho _ 75 d _ (by omega) j hj Sl.rf))))
          · rcases ho with rfl | rfl | rfl | rfl | rfl
            · rw [upA_o (by decide), upA_o (by decide), upA_o (by decide), upA_o (by decide), upA_s, pk_us]
            · rw [upA_o (by decide), upA_o (by decide), upA_o (by decide), upA_s, pk_us]
            · rw [upA_o (by decide), upA_o (by decide), upA_s, pk_us]
            · rw [upA_o (by decide), upA_s, pk_us]
            · rw [upA_s, pk_us]
        rw [r1]
        refine mi_wif (fun z => ?_) (fun z => ?_)
        · have z := (nI_eq (by omega) (by decide)).mp z
          rw [if_pos z]
          refine mi_s1 (fun _ => rfl) ?_; refine mi_s1 (fun _ => rfl) ?_; refine mi_s1 (fun _ => rfl) ?_
          refine copy 6 (by decide) _ _ _ (fun w HS b HM hS hf hb hG => ?_)
          repeat (first | refine mi_s1 (fun _ => rfl) ?_ | refine mi_wgf rfl HM.1 rfl ?_ | refine mi_wal rfl (HM.2.1 _ _ rfl) rfl (by omega) (by decide) ?_ | refine mi_wbl rfl (HM.2.2 _ _ rfl) rfl (by omega) (by decide) ?_)
          refine mi_wpg rfl HM.1 (Nat.le_of_ble_eq_true rfl) rfl (fun w h0 hF => ?_)
          have HM := HM.sc ((ls.length, lt.length, S.n, S.hq, false, S.s)) h0 hF
          have hG := hG.tr (mi_Fg.of1 hF (by omega) (by omega))
          clear h0
          repeat (first | refine mi_s1 (fun _ => rfl) ?_ | refine mi_wgf rfl HM.1 rfl ?_ | refine mi_wal rfl (HM.2.1 _ _ rfl) rfl (by omega) (by decide) ?_ | refine mi_wbl rfl (HM.2.2 _ _ rfl) rfl (by omega) (by decide) ?_)
          refine mi_wpg rfl HM.1 (Nat.le_of_ble_eq_true rfl) rfl (fun w h0 hF => ?_)
          have HM := HM.sc ((ls.length, lt.length, S.n, true, false, S.s)) h0 hF
          have hG := hG.tr (mi_Fg.of1 hF (by omega) (by omega))
          clear h0
          repeat (first | refine mi_s1 (fun _ => rfl) ?_ | refine mi_wgf rfl HM.1 rfl ?_ | refine mi_wal rfl (HM.2.1 _ _ rfl) rfl (by omega) (by decide) ?_ | refine mi_wbl rfl (HM.2.2 _ _ rfl) rfl (by omega) (by decide) ?_)
          refine mi_r1 (fun _ => rfl) ?_
          refine ⟨rfl, ⟨_, ls, lt, HM, HF.ff hf, fun i hi => ?_, fun _ => ?_, fun q => (by cases q), hn, hs⟩, hG⟩
          · have hi : i < S.n := hi
            have e : swp S.R 6 i = S.R i := swp_o (by omega) (by omega)
            show Rm _ i (swp S.R 6 i)
            rw [e]
            exact (HR i hi).sl (hS i (by omega))
          · have e : swp S.R 6 6 = S.R 7 := swp_d
            show Rm _ 6 (swp S.R 6 6)
            rw [e]
            exact hb
        · have z : ¬ (S.R 7).1 = 2 := fun q => z (by rw [q])
          have hn6 : S.n < 6 := by
            have : S.n ≠ 6 := fun q => c2 ⟨z, q⟩
            omega
          rw [if_neg z, if_pos hn6]
          (first | refine mi_s1 (fun _ => rfl) ?_ | refine mi_wgf rfl HM.1 rfl ?_ | refine mi_wal rfl (HM.2.1 _ _ rfl) rfl (by omega) (by decide) ?_ | refine mi_wbl rfl (HM.2.2 _ _ rfl) rfl (by omega) (by decide) ?_); (first | refine mi_s1 (fun _ => rfl) ?_ | refine mi_wgf rfl HM.1 rfl ?_ | refine mi_wal rfl (HM.2.1 _ _ rfl) rfl (by omega) (by decide) ?_ | refine mi_wbl rfl (HM.2.2 _ _ rfl) rfl (by omega) (by decide) ?_); (first | refine mi_s1 (fun _ => rfl) ?_ | refine mi_wgf rfl HM.1 rfl ?_ | refine mi_wal rfl (HM.2.1 _ _ rfl) rfl (by omega) (by decide) ?_ | refine mi_wbl rfl (HM.2.2 _ _ rfl) rfl (by omega) (by decide) ?_)
          refine copy S.n (by omega) _ _ _ (fun w HS b HM hS hf hb hG => ?_)
          repeat (first | refine mi_s1 (fun _ => rfl) ?_ | refine mi_wgf rfl HM.1 rfl ?_ | refine mi_wal rfl (HM.2.1 _ _ rfl) rfl (by omega) (by decide) ?_ | refine mi_wbl rfl (HM.2.2 _ _ rfl) rfl (by omega) (by decide) ?_)
          refine mi_wpg rfl HM.1 (Nat.le_of_ble_eq_true rfl) rfl (fun w h0 hF => ?_)
          have HM := HM.sc ((ls.length, lt.length, S.n, S.hq, false, S.s)) h0 hF
          have hG := hG.tr (mi_Fg.of1 hF (by omega) (by omega))
          clear h0
          repeat (first | refine mi_s1 (fun _ => rfl) ?_ | refine mi_wgf rfl HM.1 rfl ?_ | refine mi_wal rfl (HM.2.1 _ _ rfl) rfl (by omega) (by decide) ?_ | refine mi_wbl rfl (HM.2.2 _ _ rfl) rfl (by omega) (by decide) ?_)
          refine mi_wif (fun q => absurd ((nI_eq (by omega) (by decide)).mp q) (by omega)) (fun _ => ?_)
          repeat (first | refine mi_s1 (fun _ => rfl) ?_ | refine mi_wgf rfl HM.1 rfl ?_ | refine mi_wal rfl (HM.2.1 _ _ rfl) rfl (by omega) (by decide) ?_ | refine mi_wbl rfl (HM.2.2 _ _ rfl) rfl (by omega) (by decide) ?_)
          rw [show nI (ls.length, lt.length, S.n, S.hq, false, S.s).2.2.1 + nI 1 = nI (S.n + 1) from nI_1 S.n]
          refine mi_wpg rfl HM.1 (Nat.le_of_ble_eq_true rfl) rfl (fun w h0 hF => ?_)
          have HM := HM.sc ((ls.length, lt.length, S.n + 1, S.hq, false, S.s)) h0 hF
          have hG := hG.tr (mi_Fg.of1 hF (by omega) (by omega))
          clear h0
          repeat (first | refine mi_s1 (fun _ => rfl) ?_ | refine mi_wgf rfl HM.1 rfl ?_ | refine mi_wal rfl (HM.2.1 _ _ rfl) rfl (by omega) (by decide) ?_ | refine mi_wbl rfl (HM.2.2 _ _ rfl) rfl (by omega) (by decide) ?_)
          refine mi_r1 (fun _ => rfl) ?_
          refine ⟨rfl, ⟨_, ls, lt, HM, HF.ff hf, fun i hi => ?_, fun q => ?_, fun q => (by cases q), hn6, hs⟩, hG⟩
          · have hi : i < S.n + 1 := hi
            by_cases zi : i = S.n
            · have e : swp S.R S.n i = S.R 7 := by
                rw [zi]
                exact swp_d
              show Rm _ i (swp S.R S.n i)
              rw [e, zi]
              exact hb
            · have e : swp S.R S.n i = S.R i := swp_o (by omega) (by omega)
              show Rm _ i (swp S.R S.n i)
              rw [e]
              exact (HR i (by omega)).sl (hS i (by omega))
          · have e : swp S.R S.n 6 = S.R 6 := swp_o (by omega) (by omega)
            show Rm _ 6 (swp S.R S.n 6)
            rw [e]
            exact (H6 q).sl (hS 6 (by omega))
  · have e : op_close S = (-3, S) := if_neg c0
    have e2 : op_fault S = -3 := if_neg c0
    rw [e, e2]
    repeat (first | refine mi_s1 (fun _ => rfl) ?_ | refine mi_wgf rfl (by assumption) rfl ?_ | refine mi_wal rfl (by assumption) rfl (by omega) (by decide) ?_)
    refine mi_r1 (fun _ => rfl) ?_
    exact ⟨rfl, H, mi_Fg.rf⟩
end MClose
