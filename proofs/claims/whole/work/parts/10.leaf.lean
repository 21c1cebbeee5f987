/-! methods that look at numbers alone -/
abbrev jb (p : Prop) [Decidable p] : Int32 := if p then 1 else 0
theorem jb_fit (p : Prop) [Decidable p] : mi_fit .boolean (.int (jb p)) = true := by
  unfold jb
  split <;> rfl
theorem jb_t {p : Prop} [Decidable p] {w : mi_H} (h : p) : some (Value.int (nI 1)) = some (Value.int (jb p)) ∧ w = w := ⟨by unfold jb; rw [if_pos h]; rfl, rfl⟩
theorem jb_f {p : Prop} [Decidable p] {w : mi_H} (h : ¬ p) : some (Value.int (nI 0)) = some (Value.int (jb p)) ∧ w = w := ⟨by unfold jb; rw [if_neg h]; rfl, rfl⟩
theorem jb_0 {p : Prop} [Decidable p] : jb p = 0 ↔ ¬ p := by
  unfold jb
  split
  · rename_i h
    exact ⟨fun q => absurd q (by decide), fun q => absurd h q⟩
  · rename_i h
    exact ⟨fun _ => h, fun _ => rfl⟩
theorem mi_wrz {X : mi_X} {P : List mi_M} {d : Nat} {M : mi_M} {Q : Option Value → mi_H → Prop} {pc n a b : Nat} {v x : Int32} {L : mi_L} {w : mi_H} (hf : M.2.2[pc]? = some (some (.ireturn, n, a, b, v))) (hr : M.1 = some .boolean) (hx : mi_fit .boolean (.int x) = true) (k : Q (some (.int x)) w) : mi_wp X P d M (pc, L, [.int x], w) Q := by
  refine mi_wrt (fun cal => ?_) k
  simp only [mi_step, hf, mi_ins, hr, hx, if_true]
/-- 0 <= x < k, as methods ask it -/
theorem mi_rng {x : Int32} {k : Nat} (hk : k < 2 ^ 31) : (0 ≤ x ∧ x < nI k) ↔ ∃ n, n < k ∧ x = nI n := by
  constructor
  · rintro ⟨h1, h2⟩
    obtain ⟨j, h3, rfl⟩ := nI_of (x := x) (k2_nlt h1)
    exact ⟨j, (nI_ltI h3 hk).mp h2, rfl⟩
  · rintro ⟨n, h1, rfl⟩
    exact ⟨nI_pos' (by omega), nI_lt h1 hk⟩
section Leaf
variable {X : mi_X} {w : mi_H}
theorem ev_isRelation (x : Int32) : mi_Ev X mi_P 1 k_MC_isRelation [.int x] w (some (.int (jb (0 ≤ x ∧ x < nI 6)))) w := by
  refine mi_Ev.of (M := m_MC_isRelation) rfl (Nat.le_of_ble_eq_true rfl) ?_
  repeat (first | refine mi_s1 (fun _ => rfl) ?_ | refine mi_wgf rfl (by assumption) rfl ?_ | refine mi_wal rfl (by assumption) rfl (by omega) (by decide) ?_)
  refine mi_wif (fun h => ?_) (fun h => ?_)
  · repeat (first | refine mi_s1 (fun _ => rfl) ?_ | refine mi_wgf rfl (by assumption) rfl ?_ | refine mi_wal rfl (by assumption) rfl (by omega) (by decide) ?_)
    refine mi_wrz rfl rfl rfl ?_
    exact jb_f (fun q => k2_nlt q.1 h)
  · repeat (first | refine mi_s1 (fun _ => rfl) ?_ | refine mi_wgf rfl (by assumption) rfl ?_ | refine mi_wal rfl (by assumption) rfl (by omega) (by decide) ?_)
    refine mi_wif (fun h2 => ?_) (fun h2 => ?_)
    · repeat (first | refine mi_s1 (fun _ => rfl) ?_ | refine mi_wgf rfl (by assumption) rfl ?_ | refine mi_wal rfl (by assumption) rfl (by omega) (by decide) ?_)
      refine mi_wrz rfl rfl rfl ?_
      exact jb_f (fun q => k2_nlt h2 q.2)
    · repeat (first | refine mi_s1 (fun _ => rfl) ?_ | refine mi_wgf rfl (by assumption) rfl ?_ | refine mi_wal rfl (by assumption) rfl (by omega) (by decide) ?_)
      refine mi_wrz rfl rfl rfl ?_
      exact jb_t ⟨k2_le h, k2_lt h2⟩
theorem ev_isSource (x : Int32) : mi_Ev X mi_P 1 k_MC_isSource [.int x] w (some (.int (jb (0 ≤ x ∧ x < nI 2)))) w := by
  refine mi_Ev.of (M := m_MC_isSource) rfl (Nat.le_of_ble_eq_true rfl) ?_
  repeat (first | refine mi_s1 (fun _ => rfl) ?_ | refine mi_wgf rfl (by assumption) rfl ?_ | refine mi_wal rfl (by assumption) rfl (by omega) (by decide) ?_)
  refine mi_wif (fun h => ?_) (fun h => ?_)
  · repeat (first | refine mi_s1 (fun _ => rfl) ?_ | refine mi_wgf rfl (by assumption) rfl ?_ | refine mi_wal rfl (by assumption) rfl (by omega) (by decide) ?_)
    refine mi_wrz rfl rfl rfl ?_
    exact jb_f (fun q => k2_nlt q.1 h)
  · repeat (first | refine mi_s1 (fun _ => rfl) ?_ | refine mi_wgf rfl (by assumption) rfl ?_ | refine mi_wal rfl (by assumption) rfl (by omega) (by decide) ?_)
    refine mi_wif (fun h2 => ?_) (fun h2 => ?_)
    · repeat (first | refine mi_s1 (fun _ => rfl) ?_ | refine mi_wgf rfl (by assumption) rfl ?_ | refine mi_wal rfl (by assumption) rfl (by omega) (by decide) ?_)
      refine mi_wrz rfl rfl rfl ?_
      exact jb_f (fun q => k2_nlt h2 q.2)
    · repeat (first | refine mi_s1 (fun _ => rfl) ?_ | refine mi_wgf rfl (by assumption) rfl ?_ | refine mi_wal rfl (by assumption) rfl (by omega) (by decide) ?_)
      refine mi_wrz rfl rfl rfl ?_
      exact jb_t ⟨k2_le h, k2_lt h2⟩
theorem ev_isVariable (x : Int32) : mi_Ev X mi_P 1 k_MC_isVariable [.int x] w (some (.int (jb (0 ≤ x ∧ x < nI 4)))) w := by
  refine mi_Ev.of (M := m_MC_isVariable) rfl (Nat.le_of_ble_eq_true rfl) ?_
  repeat (first | refine mi_s1 (fun _ => rfl) ?_ | refine mi_wgf rfl (by assumption) rfl ?_ | refine mi_wal rfl (by assumption) rfl (by omega) (by decide) ?_)
  refine mi_wif (fun h => ?_) (fun h => ?_)
  · repeat (first | refine mi_s1 (fun _ => rfl) ?_ | refine mi_wgf rfl (by assumption) rfl ?_ | refine mi_wal rfl (by assumption) rfl (by omega) (by decide) ?_)
    refine mi_wrz rfl rfl rfl ?_
    exact jb_f (fun q => k2_nlt q.1 h)
  · repeat (first | refine mi_s1 (fun _ => rfl) ?_ | refine mi_wgf rfl (by assumption) rfl ?_ | refine mi_wal rfl (by assumption) rfl (by omega) (by decide) ?_)
    refine mi_wif (fun h2 => ?_) (fun h2 => ?_)
    · repeat (first | refine mi_s1 (fun _ => rfl) ?_ | refine mi_wgf rfl (by assumption) rfl ?_ | refine mi_wal rfl (by assumption) rfl (by omega) (by decide) ?_)
      refine mi_wrz rfl rfl rfl ?_
      exact jb_f (fun q => k2_nlt h2 q.2)
    · repeat (first | refine mi_s1 (fun _ => rfl) ?_ | refine mi_wgf rfl (by assumption) rfl ?_ | refine mi_wal rfl (by assumption) rfl (by omega) (by decide) ?_)
      refine mi_wrz rfl rfl rfl ?_
      exact jb_t ⟨k2_le h, k2_lt h2⟩
theorem ev_isConstant (x : Int32) : mi_Ev X mi_P 1 k_MC_isConstant [.int x] w (some (.int (jb (0 ≤ x ∧ x < nI 16)))) w := by
  refine mi_Ev.of (M := m_MC_isConstant) rfl (Nat.le_of_ble_eq_true rfl) ?_
  repeat (first | refine mi_s1 (fun _ => rfl) ?_ | refine mi_wgf rfl (by assumption) rfl ?_ | refine mi_wal rfl (by assumption) rfl (by omega) (by decide) ?_)
  refine mi_wif (fun h => ?_) (fun h => ?_)
  · repeat (first | refine mi_s1 (fun _ => rfl) ?_ | refine mi_wgf rfl (by assumption) rfl ?_ | refine mi_wal rfl (by assumption) rfl (by omega) (by decide) ?_)
    refine mi_wrz rfl rfl rfl ?_
    exact jb_f (fun q => k2_nlt q.1 h)
  · repeat (first | refine mi_s1 (fun _ => rfl) ?_ | refine mi_wgf rfl (by assumption) rfl ?_ | refine mi_wal rfl (by assumption) rfl (by omega) (by decide) ?_)
    refine mi_wif (fun h2 => ?_) (fun h2 => ?_)
    · repeat (first | refine mi_s1 (fun _ => rfl) ?_ | refine mi_wgf rfl (by assumption) rfl ?_ | refine mi_wal rfl (by assumption) rfl (by omega) (by decide) ?_)
      refine mi_wrz rfl rfl rfl ?_
      exact jb_f (fun q => k2_nlt h2 q.2)
    · repeat (first | refine mi_s1 (fun _ => rfl) ?_ | refine mi_wgf rfl (by assumption) rfl ?_ | refine mi_wal rfl (by assumption) rfl (by omega) (by decide) ?_)
      refine mi_wrz rfl rfl rfl ?_
      exact jb_t ⟨k2_le h, k2_lt h2⟩
theorem ev_isValue (x : Int32) : mi_Ev X mi_P 1 k_MC_isValue [.int x] w (some (.int (jb (0 ≤ x ∧ x < nI 24)))) w := by
  refine mi_Ev.of (M := m_MC_isValue) rfl (Nat.le_of_ble_eq_true rfl) ?_
  repeat (first | refine mi_s1 (fun _ => rfl) ?_ | refine mi_wgf rfl (by assumption) rfl ?_ | refine mi_wal rfl (by assumption) rfl (by omega) (by decide) ?_)
  refine mi_wif (fun h => ?_) (fun h => ?_)
  · repeat (first | refine mi_s1 (fun _ => rfl) ?_ | refine mi_wgf rfl (by assumption) rfl ?_ | refine mi_wal rfl (by assumption) rfl (by omega) (by decide) ?_)
    refine mi_wrz rfl rfl rfl ?_
    exact jb_f (fun q => k2_nlt q.1 h)
  · repeat (first | refine mi_s1 (fun _ => rfl) ?_ | refine mi_wgf rfl (by assumption) rfl ?_ | refine mi_wal rfl (by assumption) rfl (by omega) (by decide) ?_)
    refine mi_wif (fun h2 => ?_) (fun h2 => ?_)
    · repeat (first | refine mi_s1 (fun _ => rfl) ?_ | refine mi_wgf rfl (by assumption) rfl ?_ | refine mi_wal rfl (by assumption) rfl (by omega) (by decide) ?_)
      refine mi_wrz rfl rfl rfl ?_
      exact jb_f (fun q => k2_nlt h2 q.2)
    · repeat (first | refine mi_s1 (fun _ => rfl) ?_ | refine mi_wgf rfl (by assumption) rfl ?_ | refine mi_wal rfl (by assumption) rfl (by omega) (by decide) ?_)
      refine mi_wrz rfl rfl rfl ?_
      exact jb_t ⟨k2_le h, k2_lt h2⟩
theorem ev_isIn (x : Int32) {n : Nat} (hn : n < 32) : mi_Ev X mi_P 1 k_MC_isIn [.int x, .int (nI n)] w (some (.int (jb (bt x n = true)))) w := by
  refine mi_Ev.of (M := m_MC_isIn) rfl (Nat.le_of_ble_eq_true rfl) ?_
  repeat (first | refine mi_s1 (fun _ => rfl) ?_ | refine mi_wgf rfl (by assumption) rfl ?_ | refine mi_wal rfl (by assumption) rfl (by omega) (by decide) ?_)
  refine mi_wif (fun h => ?_) (fun h => ?_)
  · repeat (first | refine mi_s1 (fun _ => rfl) ?_ | refine mi_wgf rfl (by assumption) rfl ?_ | refine mi_wal rfl (by assumption) rfl (by omega) (by decide) ?_)
    refine mi_wrz rfl rfl rfl ?_
    exact jb_f (fun q => by rw [(bt_in hn x).mp h] at q; cases q)
  · repeat (first | refine mi_s1 (fun _ => rfl) ?_ | refine mi_wgf rfl (by assumption) rfl ?_ | refine mi_wal rfl (by assumption) rfl (by omega) (by decide) ?_)
    refine mi_wrz rfl rfl rfl ?_
    refine jb_t ?_
    cases hb : bt x n with
    | true => rfl
    | false => exact absurd ((bt_in hn x).mpr hb) h
theorem ev_isAtom (r v u : Int32) : mi_Ev X mi_P 2 k_MC_isAtom [.int r, .int v, .int u] w (some (.int (jb ((0 ≤ r ∧ r < nI 6) ∧ (0 ≤ v ∧ v < nI 4) ∧ (0 ≤ u ∧ u < nI 4))))) w := by
  refine mi_Ev.of (M := m_MC_isAtom) rfl (Nat.le_of_ble_eq_true rfl) ?_
  repeat (first | refine mi_s1 (fun _ => rfl) ?_ | refine mi_wgf rfl (by assumption) rfl ?_ | refine mi_wal rfl (by assumption) rfl (by omega) (by decide) ?_)
  refine mi_wcs rfl (Nat.le_of_ble_eq_true rfl) ⟨Nat.le_of_ble_eq_true rfl, Nat.le_of_ble_eq_true rfl⟩ (ev_isRelation r) ?_
  repeat (first | refine mi_s1 (fun _ => rfl) ?_ | refine mi_wgf rfl (by assumption) rfl ?_ | refine mi_wal rfl (by assumption) rfl (by omega) (by decide) ?_)
  refine mi_wif (fun h => ?_) (fun h => ?_)
  · repeat (first | refine mi_s1 (fun _ => rfl) ?_ | refine mi_wgf rfl (by assumption) rfl ?_ | refine mi_wal rfl (by assumption) rfl (by omega) (by decide) ?_)
    refine mi_wrz rfl rfl rfl ?_
    exact jb_f (fun q => jb_0.mp h q.1)
  · repeat (first | refine mi_s1 (fun _ => rfl) ?_ | refine mi_wgf rfl (by assumption) rfl ?_ | refine mi_wal rfl (by assumption) rfl (by omega) (by decide) ?_)
    refine mi_wcs rfl (Nat.le_of_ble_eq_true rfl) ⟨Nat.le_of_ble_eq_true rfl, Nat.le_of_ble_eq_true rfl⟩ (ev_isVariable v) ?_
    repeat (first | refine mi_s1 (fun _ => rfl) ?_ | refine mi_wgf rfl (by assumption) rfl ?_ | refine mi_wal rfl (by assumption) rfl (by omega) (by decide) ?_)
    refine mi_wif (fun h2 => ?_) (fun h2 => ?_)
    · repeat (first | refine mi_s1 (fun _ => rfl) ?_ | refine mi_wgf rfl (by assumption) rfl ?_ | refine mi_wal rfl (by assumption) rfl (by omega) (by decide) ?_)
      refine mi_wrz rfl rfl rfl ?_
      exact jb_f (fun q => jb_0.mp h2 q.2.1)
    · repeat (first | refine mi_s1 (fun _ => rfl) ?_ | refine mi_wgf rfl (by assumption) rfl ?_ | refine mi_wal rfl (by assumption) rfl (by omega) (by decide) ?_)
      refine mi_wcs rfl (Nat.le_of_ble_eq_true rfl) ⟨Nat.le_of_ble_eq_true rfl, Nat.le_of_ble_eq_true rfl⟩ (ev_isVariable u) ?_
      repeat (first | refine mi_s1 (fun _ => rfl) ?_ | refine mi_wgf rfl (by assumption) rfl ?_ | refine mi_wal rfl (by assumption) rfl (by omega) (by decide) ?_)
      refine mi_wif (fun h3 => ?_) (fun h3 => ?_)
      · repeat (first | refine mi_s1 (fun _ => rfl) ?_ | refine mi_wgf rfl (by assumption) rfl ?_ | refine mi_wal rfl (by assumption) rfl (by omega) (by decide) ?_)
        refine mi_wrz rfl rfl rfl ?_
        exact jb_f (fun q => jb_0.mp h3 q.2.2)
      · repeat (first | refine mi_s1 (fun _ => rfl) ?_ | refine mi_wgf rfl (by assumption) rfl ?_ | refine mi_wal rfl (by assumption) rfl (by omega) (by decide) ?_)
        refine mi_wrz rfl rfl rfl ?_
        exact jb_t ⟨Decidable.not_not.mp (fun q => h (jb_0.mpr q)), Decidable.not_not.mp (fun q => h2 (jb_0.mpr q)), Decidable.not_not.mp (fun q => h3 (jb_0.mpr q))⟩
/-- the k-th member of a set from m on -/
def kb (x : Int32) : Nat → Nat → Nat → Option Nat
  | _, 0, _ => none
  | m, f + 1, k => if bt x m = true then (if k = 0 then some m else kb x (m + 1) f (k - 1)) else kb x (m + 1) f k
def kbR : Option Nat → Int32
  | some m => nI m
  | none => -3
theorem ev_bitAt_loop (x : Int32) (z : Option Value) : ∀ f m k, m + f = 24 → k < 2 ^ 31 → mi_wp X mi_P 1 m_MC_bitAt (4, [some (.int x), z, some (.int (nI k)), some (.int (nI m))], [], w) (fun r w1 => r = some (.int (kbR (kb x m f k))) ∧ w1 = w)
  | 0, m, k, h, hk => by
    repeat (first | refine mi_s1 (fun _ => rfl) ?_ | refine mi_wgf rfl (by assumption) rfl ?_ | refine mi_wal rfl (by assumption) rfl (by omega) (by decide) ?_)
    refine mi_wif (fun h2 => ?_) (fun h2 => ?_)
    · repeat (first | refine mi_s1 (fun _ => rfl) ?_ | refine mi_wgf rfl (by assumption) rfl ?_ | refine mi_wal rfl (by assumption) rfl (by omega) (by decide) ?_)
      refine mi_r1 (fun _ => rfl) ?_
      exact ⟨rfl, rfl⟩
    · exact absurd (nI_le (a := 24) (b := m) (by omega) (by omega)) h2
  | f + 1, m, k, h, hk => by
    repeat (first | refine mi_s1 (fun _ => rfl) ?_ | refine mi_wgf rfl (by assumption) rfl ?_ | refine mi_wal rfl (by assumption) rfl (by omega) (by decide) ?_)
    refine mi_wif (fun h2 => ?_) (fun h2 => ?_)
    · exact absurd h2 (nI_ge (a := m) (b := 24) (by omega) (by omega))
    · repeat (first | refine mi_s1 (fun _ => rfl) ?_ | refine mi_wgf rfl (by assumption) rfl ?_ | refine mi_wal rfl (by assumption) rfl (by omega) (by decide) ?_)
      refine mi_wcs rfl (Nat.le_of_ble_eq_true rfl) ⟨Nat.le_of_ble_eq_true rfl, Nat.le_of_ble_eq_true rfl⟩ (ev_isIn x (n := m) (by omega)) ?_
      repeat (first | refine mi_s1 (fun _ => rfl) ?_ | refine mi_wgf rfl (by assumption) rfl ?_ | refine mi_wal rfl (by assumption) rfl (by omega) (by decide) ?_)
      refine mi_wif (fun h3 => ?_) (fun h3 => ?_)
      · refine mi_s1 (fun _ => rfl) ?_; refine mi_s1 (fun _ => rfl) ?_
        rw [show nI m + nI 1 = nI (m + 1) from nI_1 m]
        have e : kb x m (f + 1) k = kb x (m + 1) f k := by
          show (if bt x m = true then _ else _) = _
          rw [if_neg (jb_0.mp h3)]
        rw [e]
        exact ev_bitAt_loop x z f (m + 1) k (by omega) hk
      · have h4 : bt x m = true := Decidable.not_not.mp (fun q => h3 (jb_0.mpr q))
        repeat (first | refine mi_s1 (fun _ => rfl) ?_ | refine mi_wgf rfl (by assumption) rfl ?_ | refine mi_wal rfl (by assumption) rfl (by omega) (by decide) ?_)
        refine mi_wif (fun h5 => ?_) (fun h5 => ?_)
        · have hk0 : k = 0 := (nI_eq hk (by omega)).mp h5
          repeat (first | refine mi_s1 (fun _ => rfl) ?_ | refine mi_wgf rfl (by assumption) rfl ?_ | refine mi_wal rfl (by assumption) rfl (by omega) (by decide) ?_)
          refine mi_r1 (fun _ => rfl) ?_
          refine ⟨?_, rfl⟩
          show some (Value.int (nI m)) = some (Value.int (kbR (if bt x m = true then _ else _)))
          rw [if_pos h4, if_pos hk0]
          rfl
        · have hk0 : ¬ k = 0 := fun q => h5 (by rw [q]; rfl)
          refine mi_s1 (fun _ => rfl) ?_; refine mi_s1 (fun _ => rfl) ?_; refine mi_s1 (fun _ => rfl) ?_
          rw [show nI m + nI 1 = nI (m + 1) from nI_1 m]
          have e2 : nI k + -1 = nI (k - 1) := sb_m1 (by omega)
          rw [e2]
          have e : kb x m (f + 1) k = kb x (m + 1) f (k - 1) := by
            show (if bt x m = true then _ else _) = _
            rw [if_pos h4, if_neg hk0]
          rw [e]
          exact ev_bitAt_loop x z f (m + 1) (k - 1) (by omega) (by omega)
theorem ev_bitAt (x : Int32) {k : Nat} (hk : k < 2 ^ 31) : mi_Ev X mi_P 2 k_MC_bitAt [.int x, .int (nI k)] w (some (.int (kbR (kb x 0 24 k)))) w := by
  refine mi_Ev.of (M := m_MC_bitAt) rfl (Nat.le_of_ble_eq_true rfl) ?_
  refine mi_s1 (fun _ => rfl) ?_; refine mi_s1 (fun _ => rfl) ?_; refine mi_s1 (fun _ => rfl) ?_; refine mi_s1 (fun _ => rfl) ?_
  exact ev_bitAt_loop x _ 24 0 k rfl hk
theorem ev_relationOf (c : Int32) : mi_Ev X mi_P 1 k_At_relationOf [.int c] w (some (.int (c >>> (nI 4 &&& 31)))) w := by
  refine mi_Ev.of (M := m_At_relationOf) rfl (Nat.le_of_ble_eq_true rfl) ?_
  repeat (first | refine mi_s1 (fun _ => rfl) ?_ | refine mi_wgf rfl (by assumption) rfl ?_ | refine mi_wal rfl (by assumption) rfl (by omega) (by decide) ?_)
  refine mi_r1 (fun _ => rfl) ?_
  exact ⟨rfl, rfl⟩
theorem ev_firstOf (c : Int32) : mi_Ev X mi_P 1 k_At_firstOf [.int c] w (some (.int (c >>> (nI 2 &&& 31) &&& nI 3))) w := by
  refine mi_Ev.of (M := m_At_firstOf) rfl (Nat.le_of_ble_eq_true rfl) ?_
  repeat (first | refine mi_s1 (fun _ => rfl) ?_ | refine mi_wgf rfl (by assumption) rfl ?_ | refine mi_wal rfl (by assumption) rfl (by omega) (by decide) ?_)
  refine mi_r1 (fun _ => rfl) ?_
  exact ⟨rfl, rfl⟩
theorem ev_secondOf (c : Int32) : mi_Ev X mi_P 1 k_At_secondOf [.int c] w (some (.int (c &&& nI 3))) w := by
  refine mi_Ev.of (M := m_At_secondOf) rfl (Nat.le_of_ble_eq_true rfl) ?_
  repeat (first | refine mi_s1 (fun _ => rfl) ?_ | refine mi_wgf rfl (by assumption) rfl ?_ | refine mi_wal rfl (by assumption) rfl (by omega) (by decide) ?_)
  refine mi_r1 (fun _ => rfl) ?_
  exact ⟨rfl, rfl⟩
/-- an atom's number: relation, two variables -/
def cd (q : Nat × Nat × Nat) : Nat := q.1 * 16 + q.2.1 * 4 + q.2.2
def okA (q : Nat × Nat × Nat) : Prop := q.1 < 6 ∧ q.2.1 < 4 ∧ q.2.2 < 4
theorem cd_all : ∀ r, r < 6 → ∀ v, v < 4 → ∀ u, u < 4 → nI (cd (r, v, u)) >>> (nI 4 &&& 31) = nI r ∧ nI (cd (r, v, u)) >>> (nI 2 &&& 31) &&& nI 3 = nI v ∧ nI (cd (r, v, u)) &&& nI 3 = nI u ∧ (nI r <<< (nI 4 &&& 31) ||| nI v <<< (nI 2 &&& 31) ||| nI u) = nI (cd (r, v, u)) := by decide +kernel
theorem cd_ok {q : Nat × Nat × Nat} (h : okA q) : nI (cd q) >>> (nI 4 &&& 31) = nI q.1 ∧ nI (cd q) >>> (nI 2 &&& 31) &&& nI 3 = nI q.2.1 ∧ nI (cd q) &&& nI 3 = nI q.2.2 ∧ (nI q.1 <<< (nI 4 &&& 31) ||| nI q.2.1 <<< (nI 2 &&& 31) ||| nI q.2.2) = nI (cd q) := cd_all q.1 h.1 q.2.1 h.2.1 q.2.2 h.2.2
theorem ev_rel {q : Nat × Nat × Nat} (h : okA q) : mi_Ev X mi_P 1 k_At_relationOf [.int (nI (cd q))] w (some (.int (nI q.1))) w := by
  rw [← (cd_ok h).1]
  exact ev_relationOf _
theorem ev_fst {q : Nat × Nat × Nat} (h : okA q) : mi_Ev X mi_P 1 k_At_firstOf [.int (nI (cd q))] w (some (.int (nI q.2.1))) w := by
  rw [← (cd_ok h).2.1]
  exact ev_firstOf _
theorem ev_snd {q : Nat × Nat × Nat} (h : okA q) : mi_Ev X mi_P 1 k_At_secondOf [.int (nI (cd q))] w (some (.int (nI q.2.2))) w := by
  rw [← (cd_ok h).2.2.1]
  exact ev_secondOf _
theorem ev_isSourceAtom {q : Nat × Nat × Nat} (h : okA q) : mi_Ev X mi_P 2 k_At_isSourceAtom [.int (nI (cd q))] w (some (.int (jb (q.1 < 2)))) w := by
  refine mi_Ev.of (M := m_At_isSourceAtom) rfl (Nat.le_of_ble_eq_true rfl) ?_
  repeat (first | refine mi_s1 (fun _ => rfl) ?_ | refine mi_wgf rfl (by assumption) rfl ?_ | refine mi_wal rfl (by assumption) rfl (by omega) (by decide) ?_)
  refine mi_wcs rfl (Nat.le_of_ble_eq_true rfl) ⟨Nat.le_of_ble_eq_true rfl, Nat.le_of_ble_eq_true rfl⟩ (ev_rel h) ?_
  refine mi_wcs rfl (Nat.le_of_ble_eq_true rfl) ⟨Nat.le_of_ble_eq_true rfl, Nat.le_of_ble_eq_true rfl⟩ (ev_isSource (nI q.1)) ?_
  have e : (0 ≤ nI q.1 ∧ nI q.1 < nI 2) ↔ q.1 < 2 := by
    have h1 := h.1
    rw [mi_rng (by omega)]
    constructor
    · rintro ⟨n, h2, h3⟩
      rw [nI_eq (by omega) (by omega)] at h3
      omega
    · intro h2
      exact ⟨q.1, h2, rfl⟩
  refine mi_wrz rfl rfl (jb_fit _) ?_
  refine ⟨?_, rfl⟩
  simp only [jb, e]
end Leaf
