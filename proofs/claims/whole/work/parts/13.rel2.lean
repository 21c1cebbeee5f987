/-! class Relation: what is read in order, and rows that are told anew -/
/-- the k-th pair in the order of first and second: 32 a + b -/
def kp (F : Nat → Nat → Bool) : Nat → Nat → Nat → Option Nat
  | _, 0, _ => none
  | a, f + 1, k => if k < cn (F a) 24 then some (32 * a + (kf (F a) 0 24 k)) else kp F (a + 1) f (k - cn (F a) 24)
where kf (g : Nat → Bool) : Nat → Nat → Nat → Nat
  | m, 0, _ => m
  | m, f + 1, k => if g m = true then (if k = 0 then m else kf g (m + 1) f (k - 1)) else kf g (m + 1) f k
theorem kb_kf {x : Int32} {g : Nat → Bool} (h : ∀ i, i < 24 → bt x i = g i) : ∀ f m k, m + f = 24 → k < cn (fun i => g (m + i)) f → kb x m f k = some (kp.kf g m f k)
  | 0, m, k, _, hk => by
    exact absurd hk (Nat.not_lt_zero k)
  | f + 1, m, k, hm, hk => by
    have e : cn (fun i => g (m + i)) (f + 1) = (if g m = true then 1 else 0) + cn (fun i => g (m + 1 + i)) f := by
      rw [Nat.add_comm f 1, cn_add]
      show (0 + if g (m + 0) = true then 1 else 0) + _ = _
      rw [Nat.zero_add, Nat.add_zero]
      congr 1
      exact cn_congr f (fun i _ => by rw [Nat.add_assoc])
    rw [e] at hk
    unfold kb kp.kf
    rw [h m (by omega)]
    by_cases q : g m = true
    · rw [if_pos q] at hk
      rw [if_pos q, if_pos q]
      by_cases q2 : k = 0
      · rw [if_pos q2, if_pos q2]
      · rw [if_neg q2, if_neg q2]
        exact kb_kf h f (m + 1) (k - 1) (by omega) (by omega)
    · rw [if_neg q] at hk
      rw [if_neg q, if_neg q]
      exact kb_kf h f (m + 1) k (by omega) (by omega)
theorem kf_lt {g : Nat → Bool} : ∀ f m k, kp.kf g m f k ≤ m + f
  | 0, m, k => by
    unfold kp.kf
    omega
  | f + 1, m, k => by
    unfold kp.kf
    have h1 := kf_lt (g := g) f (m + 1) (k - 1)
    have h2 := kf_lt (g := g) f (m + 1) k
    split
    · split <;> omega
    · omega
section Rel2
variable {X : mi_X} {w : mi_H}
theorem ev_factAt_loop {h : Nat} {F : Nat → Nat → Bool} {rows cols : Nat → Int32} {fi se du : Int32} {ct : Nat} (h0 : w[h]? = some (.inr (2, [.ref (h + 1), .ref (h + 2), .int fi, .int se, .int du, .int (nI ct)]))) (h1 : w[h + 1]? = some (.inl (0, 24, .inl rows))) (hi : Ri F rows cols fi se du ct) (z : Option Value) : ∀ f a k, a + f = 24 → k < 2 ^ 31 → ∀ z2, mi_wp X mi_P 2 m_Re_factAt (19, [some (.ref h), z, some (.int (nI k)), some (.int (nI a)), z2], [], w) (fun r w1 => r = some (.int (kbR (kp F a f k))) ∧ w1 = w)
  | 0, a, k, ha, hk, z2 => by
    have ha : a = 24 := by omega
    subst ha
    repeat (first | refine mi_s1 (fun _ => rfl) ?_ | refine mi_wgf rfl (by assumption) rfl ?_ | refine mi_wal rfl (by assumption) rfl (by omega) (by decide) ?_)
    refine mi_r1 (fun _ => rfl) ?_
    exact ⟨rfl, rfl⟩
  | f + 1, a, k, ha, hk, z2 => by
    have hc := cn_le (F a) 24
    have hb : ∀ i, i < 24 → bt (rows a) i = F a i := fun i hi2 => hi.2.1 a i (by omega) (by omega)
    have hb2 : ∀ i, 24 ≤ i → i < 32 → bt (rows a) i = false := fun i h5 h6 => by
      rw [hi.2.1 a i (by omega) h6]
      cases q : F a i with
      | false => rfl
      | true => exact absurd (hi.1 a i q).2 (by omega)
    repeat (first | refine mi_s1 (fun _ => rfl) ?_ | refine mi_wgf rfl (by assumption) rfl ?_ | refine mi_wal rfl (by assumption) rfl (by omega) (by decide) ?_)
    refine mi_wif (fun q => absurd q (nI_ge (a := a) (b := 24) (by omega) (by omega))) (fun _ => ?_)
    repeat (first | refine mi_s1 (fun _ => rfl) ?_ | refine mi_wgf rfl (by assumption) rfl ?_ | refine mi_wal rfl (by assumption) rfl (by omega) (by decide) ?_)
    refine mi_wcs rfl (Nat.le_of_ble_eq_true rfl) ⟨Nat.le_of_ble_eq_true rfl, Nat.le_of_ble_eq_true rfl⟩ ((ev_bitCount hb hb2).up (by decide)) ?_
    repeat (first | refine mi_s1 (fun _ => rfl) ?_ | refine mi_wgf rfl (by assumption) rfl ?_ | refine mi_wal rfl (by assumption) rfl (by omega) (by decide) ?_)
    refine mi_wif (fun q => ?_) (fun q => ?_)
    · have q : cn (F a) 24 ≤ k := (nI_leI (by omega) hk).mp q
      refine mi_s1 (fun _ => rfl) ?_; refine mi_s1 (fun _ => rfl) ?_; refine mi_s1 (fun _ => rfl) ?_; refine mi_s1 (fun _ => rfl) ?_; refine mi_s1 (fun _ => rfl) ?_; refine mi_s1 (fun _ => rfl) ?_
      rw [show nI a + nI 1 = nI (a + 1) from nI_1 a, pk_sub q]
      have e : kp F a (f + 1) k = kp F (a + 1) f (k - cn (F a) 24) := by
        show (if k < cn (F a) 24 then _ else _) = _
        rw [if_neg (by omega)]
      rw [e]
      exact ev_factAt_loop h0 h1 hi z f (a + 1) (k - cn (F a) 24) (by omega) (by omega) _
    · have q : k < cn (F a) 24 := by
        rcases Nat.lt_or_ge k (cn (F a) 24) with q2 | q2
        · exact q2
        · exact absurd (nI_le q2 hk) q
      repeat (first | refine mi_s1 (fun _ => rfl) ?_ | refine mi_wgf rfl (by assumption) rfl ?_ | refine mi_wal rfl (by assumption) rfl (by omega) (by decide) ?_)
      refine mi_wcs rfl (Nat.le_of_ble_eq_true rfl) ⟨Nat.le_of_ble_eq_true rfl, Nat.le_of_ble_eq_true rfl⟩ (ev_bitAt (rows a) hk) ?_
      repeat (first | refine mi_s1 (fun _ => rfl) ?_ | refine mi_wgf rfl (by assumption) rfl ?_ | refine mi_wal rfl (by assumption) rfl (by omega) (by decide) ?_)
      refine mi_r1 (fun _ => rfl) ?_
      refine ⟨?_, rfl⟩
      have e := kb_kf hb 24 0 k rfl (by simpa using q)
      rw [e]
      show some (Value.int (nI 32 * nI a + nI (kp.kf (F a) 0 24 k))) = some (Value.int (kbR (if k < cn (F a) 24 then _ else _)))
      rw [if_pos q, pk_mul, nI_add]
      rfl
/-- k as an int: none when it is below 0 or too large -/
theorem ev_factAt {h : Nat} {F : Nat → Nat → Bool} (H : Rl w h F) (k : Int32) : mi_Ev X mi_P 3 k_Re_factAt [.ref h, .int k] w (some (.int (if 0 ≤ k ∧ k.toNatClampNeg < cnt F then kbR (kp F 0 24 k.toNatClampNeg) else -3))) w := by
  obtain ⟨rows, cols, fi, se, du, ct, h0, h1, h2, hi⟩ := H
  have hct := hi.2.2.2.2.2.2
  refine mi_Ev.of (M := m_Re_factAt) rfl (Nat.le_of_ble_eq_true rfl) ?_
  repeat (first | refine mi_s1 (fun _ => rfl) ?_ | refine mi_wgf rfl (by assumption) rfl ?_ | refine mi_wal rfl (by assumption) rfl (by omega) (by decide) ?_)
  refine mi_wif (fun q => ?_) (fun q => ?_)
  · rw [if_neg (fun z => k2_nlt z.1 q)]
    repeat (first | refine mi_s1 (fun _ => rfl) ?_ | refine mi_wgf rfl (by assumption) rfl ?_ | refine mi_wal rfl (by assumption) rfl (by omega) (by decide) ?_)
    refine mi_r1 (fun _ => rfl) ?_
    exact ⟨rfl, rfl⟩
  · obtain ⟨j, hj, rfl⟩ := nI_of q
    rw [nI_clamp hj]
    have hle : cnt F ≤ 576 := by
      have : ∀ n, sm (fun a => cn (F a) 24) n ≤ 24 * n := by
        intro n
        induction n with
        | zero => exact Nat.le_refl 0
        | succ n ih =>
          have := cn_le (F n) 24
          unfold sm
          omega
      exact this 24
    repeat (first | refine mi_s1 (fun _ => rfl) ?_ | refine mi_wgf rfl (by assumption) rfl ?_ | refine mi_wal rfl (by assumption) rfl (by omega) (by decide) ?_)
    refine mi_wif (fun q2 => ?_) (fun q2 => ?_)
    · have q2 : j < ct := (nI_ltI hj (by omega)).mp q2
      rw [if_pos ⟨k2_le q, by omega⟩]
      refine mi_s1 (fun _ => rfl) ?_; refine mi_s1 (fun _ => rfl) ?_; refine mi_s1 (fun _ => rfl) ?_; refine mi_s1 (fun _ => rfl) ?_
      exact ev_factAt_loop h0 h1 hi _ 24 0 j rfl hj _
    · have q2 : ct ≤ j := by
        rcases Nat.lt_or_ge j ct with z | z
        · exact absurd (nI_lt z (by omega)) q2
        · exact z
      rw [if_neg (fun z => by omega)]
      repeat (first | refine mi_s1 (fun _ => rfl) ?_ | refine mi_wgf rfl (by assumption) rfl ?_ | refine mi_wal rfl (by assumption) rfl (by omega) (by decide) ?_)
      refine mi_r1 (fun _ => rfl) ?_
      exact ⟨rfl, rfl⟩
theorem ev_row {h : Nat} {F : Nat → Nat → Bool} {rows cols : Nat → Int32} {fi se du : Int32} {ct : Nat} (h0 : w[h]? = some (.inr (2, [.ref (h + 1), .ref (h + 2), .int fi, .int se, .int du, .int (nI ct)]))) (h1 : w[h + 1]? = some (.inl (0, 24, .inl rows))) {a : Nat} (ha : a < 24) : mi_Ev X mi_P 2 k_Re_row [.ref h, .int (nI a)] w (some (.int (rows a))) w := by
  refine mi_Ev.of (M := m_Re_row) rfl (Nat.le_of_ble_eq_true rfl) ?_
  repeat (first | refine mi_s1 (fun _ => rfl) ?_ | refine mi_wgf rfl (by assumption) rfl ?_ | refine mi_wal rfl (by assumption) rfl (by omega) (by decide) ?_)
  refine mi_wcs rfl (Nat.le_of_ble_eq_true rfl) ⟨Nat.le_of_ble_eq_true rfl, Nat.le_of_ble_eq_true rfl⟩ (ev_isValueT ha) ?_
  repeat (first | refine mi_s1 (fun _ => rfl) ?_ | refine mi_wgf rfl (by assumption) rfl ?_ | refine mi_wal rfl (by assumption) rfl (by omega) (by decide) ?_)
  refine mi_r1 (fun _ => rfl) ?_
  exact ⟨rfl, rfl⟩
theorem ev_column {h : Nat} {F : Nat → Nat → Bool} {rows cols : Nat → Int32} {fi se du : Int32} {ct : Nat} (h0 : w[h]? = some (.inr (2, [.ref (h + 1), .ref (h + 2), .int fi, .int se, .int du, .int (nI ct)]))) (h2 : w[h + 2]? = some (.inl (0, 24, .inl cols))) {a : Nat} (ha : a < 24) : mi_Ev X mi_P 2 k_Re_column [.ref h, .int (nI a)] w (some (.int (cols a))) w := by
  refine mi_Ev.of (M := m_Re_column) rfl (Nat.le_of_ble_eq_true rfl) ?_
  repeat (first | refine mi_s1 (fun _ => rfl) ?_ | refine mi_wgf rfl (by assumption) rfl ?_ | refine mi_wal rfl (by assumption) rfl (by omega) (by decide) ?_)
  refine mi_wcs rfl (Nat.le_of_ble_eq_true rfl) ⟨Nat.le_of_ble_eq_true rfl, Nat.le_of_ble_eq_true rfl⟩ (ev_isValueT ha) ?_
  repeat (first | refine mi_s1 (fun _ => rfl) ?_ | refine mi_wgf rfl (by assumption) rfl ?_ | refine mi_wal rfl (by assumption) rfl (by omega) (by decide) ?_)
  refine mi_r1 (fun _ => rfl) ?_
  exact ⟨rfl, rfl⟩
/-- F with the pairs (a, mp b) for the members b of the set from m on -/
def rowF (F : Nat → Nat → Bool) (a : Nat) (g : Nat → Bool) (mp : Nat → Nat) (m : Nat) : Nat → Nat → Bool := fun x y => F x y || (decide (x = a) && (List.range 24).any (fun b => decide (m ≤ b) && g b && decide (y = mp b)))
theorem rowF_step {F : Nat → Nat → Bool} {a m : Nat} {g : Nat → Bool} {mp : Nat → Nat} (hm : m < 24) : rowF F a g mp m = rowF (if g m = true then addF F a (mp m) else F) a g mp (m + 1) := by
  funext x y
  rw [Bool.eq_iff_iff]
  unfold rowF
  simp only [Bool.or_eq_true, Bool.and_eq_true, decide_eq_true_eq, List.any_eq_true, List.mem_range]
  by_cases q : g m = true
  · rw [if_pos q]
    unfold addF
    simp only [Bool.or_eq_true, Bool.and_eq_true, decide_eq_true_eq]
    constructor
    · rintro (h | ⟨h, b, h1, ⟨h2, h3⟩, h4⟩)
      · exact Or.inl (Or.inl h)
      · by_cases z : b = m
        · subst z
          exact Or.inl (Or.inr ⟨h, h4⟩)
        · exact Or.inr ⟨h, b, h1, ⟨by omega, h3⟩, h4⟩
    · rintro ((h | h) | ⟨h, b, h1, ⟨h2, h3⟩, h4⟩)
      · exact Or.inl h
      · exact Or.inr ⟨h.1, m, hm, ⟨Nat.le_refl m, q⟩, h.2⟩
      · exact Or.inr ⟨h, b, h1, ⟨by omega, h3⟩, h4⟩
  · rw [if_neg q]
    constructor
    · rintro (h | ⟨h, b, h1, ⟨h2, h3⟩, h4⟩)
      · exact Or.inl h
      · by_cases z : b = m
        · subst z
          exact absurd h3 q
        · exact Or.inr ⟨h, b, h1, ⟨by omega, h3⟩, h4⟩
    · rintro (h | ⟨h, b, h1, ⟨h2, h3⟩, h4⟩)
      · exact Or.inl h
      · exact Or.inr ⟨h, b, h1, ⟨by omega, h3⟩, h4⟩
theorem rowF_end {F : Nat → Nat → Bool} {a m : Nat} {g : Nat → Bool} {mp : Nat → Nat} (h : ∀ b, m ≤ b → b < 24 → g b = false) : rowF F a g mp m = F := by
  funext x y
  unfold rowF
  have : (List.range 24).any (fun b => decide (m ≤ b) && g b && decide (y = mp b)) = false := by
    rw [List.any_eq_false]
    intro b hb
    rw [List.mem_range] at hb
    by_cases q : m ≤ b
    · rw [h b q hb]
      simp
    · simp [q]
  rw [this, Bool.and_false, Bool.or_false]
theorem ev_addRow_loop {h o : Nat} {mp : Nat → Nat} {ma : Nat → Int32} {x : Int32} {g : Nat → Bool} {a : Nat} (ha : a < 24) (ho : o ∉ [h, h + 1, h + 2]) (hx : ∀ i, i < 24 → bt x i = g i) (hx2 : ∀ i, 24 ≤ i → i < 32 → bt x i = false) (hmp : ∀ b, b < 24 → g b = true → ma b = nI (mp b) ∧ mp b < 24) {w0 : mi_H} : ∀ f m (w : mi_H) (F : Nat → Nat → Bool), m + f = 24 → Rl w h F → w[o]? = some (.inl (0, 24, .inl ma)) → mi_Fr w0 w [h, h + 1, h + 2] → mi_wp X mi_P 2 m_Re_addRow (3, [some (.ref h), some (.int (nI a)), some (.int x), some (.ref o), some (.int (nI m))], [], w) (fun r w' => r = none ∧ Rl w' h (rowF F a g mp m) ∧ mi_Fr w0 w' [h, h + 1, h + 2])
  | 0, m, w, F, hm, H, hw, hFr => by
    have hm : m = 24 := by omega
    subst hm
    repeat (first | refine mi_s1 (fun _ => rfl) ?_ | refine mi_wgf rfl (by assumption) rfl ?_ | refine mi_wal rfl (by assumption) rfl (by omega) (by decide) ?_)
    refine mi_r1 (fun _ => rfl) ?_
    exact ⟨rfl, by rw [rowF_end (fun b h1 h2 => absurd h1 (by omega))]; exact H, hFr⟩
  | f + 1, m, w, F, hm, H, hw, hFr => by
    repeat (first | refine mi_s1 (fun _ => rfl) ?_ | refine mi_wgf rfl (by assumption) rfl ?_ | refine mi_wal rfl (by assumption) rfl (by omega) (by decide) ?_)
    refine mi_wif (fun q => absurd q (nI_ge (a := m) (b := 24) (by omega) (by omega))) (fun _ => ?_)
    repeat (first | refine mi_s1 (fun _ => rfl) ?_ | refine mi_wgf rfl (by assumption) rfl ?_ | refine mi_wal rfl (by assumption) rfl (by omega) (by decide) ?_)
    refine mi_wif (fun q => ?_) (fun q => ?_)
    · have q := (bt_ush0 (by omega) x).mp q
      refine mi_r1 (fun _ => rfl) ?_
      exact ⟨rfl, by rw [rowF_end (fun b h1 h2 => by rw [← hx b h2]; exact q b h1 (by omega))]; exact H, hFr⟩
    · repeat (first | refine mi_s1 (fun _ => rfl) ?_ | refine mi_wgf rfl (by assumption) rfl ?_ | refine mi_wal rfl (by assumption) rfl (by omega) (by decide) ?_)
      refine mi_wcs rfl (Nat.le_of_ble_eq_true rfl) ⟨Nat.le_of_ble_eq_true rfl, Nat.le_of_ble_eq_true rfl⟩ ((ev_isIn x (n := m) (by omega)).up (by decide)) ?_
      repeat (first | refine mi_s1 (fun _ => rfl) ?_ | refine mi_wgf rfl (by assumption) rfl ?_ | refine mi_wal rfl (by assumption) rfl (by omega) (by decide) ?_)
      rw [rowF_step (by omega)]
      refine mi_wif (fun q2 => ?_) (fun q2 => ?_)
      · have q2 : ¬ g m = true := by
          rw [← hx m (by omega)]
          exact jb_0.mp q2
        rw [if_neg q2]
        refine mi_s1 (fun _ => rfl) ?_; refine mi_s1 (fun _ => rfl) ?_
        rw [show nI m + nI 1 = nI (m + 1) from nI_1 m]
        exact ev_addRow_loop ha ho hx hx2 hmp f (m + 1) w F (by omega) H hw hFr
      · have q2 : g m = true := by
          rw [← hx m (by omega)]
          exact Decidable.not_not.mp (fun z => q2 (jb_0.mpr z))
        rw [if_pos q2]
        obtain ⟨hm1, hm2⟩ := hmp m (by omega) q2
        obtain ⟨rows, cols, fi, se, du, ct, h0, h1, h2, hi⟩ := id H
        repeat (first | refine mi_s1 (fun _ => rfl) ?_ | refine mi_wgf rfl (by assumption) rfl ?_ | refine mi_wal rfl (by assumption) rfl (by omega) (by decide) ?_)
        rw [hm1]
        obtain ⟨r1, w1, he, hr1, H1, hF1⟩ := ev_add (X := X) H ha hm2
        subst hr1
        refine mi_wcv rfl rfl (Nat.le_of_ble_eq_true rfl) h0 rfl (he) ?_
        refine mi_s1 (fun _ => rfl) ?_; refine mi_s1 (fun _ => rfl) ?_
        rw [show nI m + nI 1 = nI (m + 1) from nI_1 m]
        exact ev_addRow_loop ha ho hx hx2 hmp f (m + 1) w1 _ (by omega) H1 (hF1.get ho hw) (hFr.tr hF1)
theorem ev_addRow {h o : Nat} {mp : Nat → Nat} {ma : Nat → Int32} {x : Int32} {g : Nat → Bool} {a : Nat} {F : Nat → Nat → Bool} (ha : a < 24) (ho : o ∉ [h, h + 1, h + 2]) (hx : ∀ i, i < 24 → bt x i = g i) (hx2 : ∀ i, 24 ≤ i → i < 32 → bt x i = false) (hmp : ∀ b, b < 24 → g b = true → ma b = nI (mp b) ∧ mp b < 24) (H : Rl w h F) (hw : w[o]? = some (.inl (0, 24, .inl ma))) : mi_Ex X 3 k_Re_addRow [.ref h, .int (nI a), .int x, .ref o] w (fun r w' => r = none ∧ Rl w' h (rowF F a g mp 0) ∧ mi_Fr w w' [h, h + 1, h + 2]) := by
  refine mi_Ex.of (M := m_Re_addRow) rfl (Nat.le_of_ble_eq_true rfl) ?_
  refine mi_s1 (fun _ => rfl) ?_; refine mi_s1 (fun _ => rfl) ?_
  exact ev_addRow_loop ha ho hx hx2 hmp 24 0 w F rfl H hw mi_Fr.rf
end Rel2
