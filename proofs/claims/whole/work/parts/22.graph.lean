/-! class Graph -/
def Gr (w : mi_H) (E S : Nat → Nat → Bool) : Prop := w[27]? = some (.inr (5, [.ref 28, .ref 29])) ∧ ∃ fe fs : Nat → Int32, w[28]? = some (.inl (0, 8, .inl fe)) ∧ w[29]? = some (.inl (0, 8, .inl fs)) ∧ ∀ p q, p < 8 → q < 32 → bt (fe p) q = E p q ∧ bt (fs p) q = S p q
theorem Gr.g {w w1 : mi_H} {E S : Nat → Nat → Bool} {lo hi : Nat} (H : Gr w E S) (hF : mi_Fg w w1 lo hi) (ho : hi ≤ 27 ∨ 30 ≤ lo) : Gr w1 E S := by
  obtain ⟨h0, fe, fs, h1, h2, h3⟩ := H
  exact ⟨hF.get (by omega) h0, fe, fs, hF.get (by omega) h1, hF.get (by omega) h2, h3⟩
def wa (E : Nat → Nat → Bool) : Nat → Nat → Nat → Bool
  | 0 => E
  | k + 1 => fun p q => wa E k p q || (wa E k p k && wa E k k q)
def frp (R : sp_R) (q : Nat) : Bool := (List.range 4).any (fun v => frR R v && posB R.2.2.1 v q)
def anyP (f : Nat → Bool) : Bool := (List.range 32).any f
/-- edges and special edges of a generator, of the variables below n -/
def egE (R : sp_R) (n p q : Nat) : Bool := (List.range n).any (fun v => anyP (posB R.2.2.1 v) && posB R.2.1 v p && (posB R.2.2.1 v q || frp R q))
def egS (R : sp_R) (n p q : Nat) : Bool := (List.range n).any (fun v => anyP (posB R.2.2.1 v) && posB R.2.1 v p && frp R q)
section Graph
variable {X : mi_X}
theorem ev_grClear_loop {w0 : mi_H} : ∀ f m (w : mi_H) (E S : Nat → Nat → Bool), m + f = 8 → Gr w E S → (∀ p q, p < m → E p q = false ∧ S p q = false) → mi_Fg w0 w 28 30 → mi_wp X mi_P 0 m_Gr_clear (2, [some (.ref 27), some (.int (nI m))], [], w) (fun r w1 => r = none ∧ Gr w1 (fun _ _ => false) (fun _ _ => false) ∧ mi_Fg w0 w1 28 30)
  | 0, m, w, E, S, hm, H, hz, hF0 => by
    have hm : m = 8 := by omega
    subst hm
    obtain ⟨h0, fe, fs, h1, h2, h3⟩ := H
    repeat (first | refine mi_s1 (fun _ => rfl) ?_ | refine mi_wgf rfl (by assumption) rfl ?_ | refine mi_wal rfl (by assumption) rfl (by omega) (by decide) ?_)
    refine mi_r1 (fun _ => rfl) ?_
    refine ⟨rfl, ⟨h0, fe, fs, h1, h2, fun p q hp hq => ?_⟩, hF0⟩
    rw [(h3 p q hp hq).1, (h3 p q hp hq).2]
    exact hz p q hp
  | f + 1, m, w, E, S, hm, H, hz, hF0 => by
    obtain ⟨h0, fe, fs, h1, h2, h3⟩ := H
    have hFr : mi_Fr w w [28, 29] := mi_Fr.rf
    repeat (first | refine mi_s1 (fun _ => rfl) ?_ | refine mi_wgf rfl (by assumption) rfl ?_ | refine mi_wal rfl (by assumption) rfl (by omega) (by decide) ?_)
    refine mi_wif (fun z => absurd z (nI_ge (a := m) (b := 8) (by omega) (by omega))) (fun _ => ?_)
    repeat (first | refine mi_s1 (fun _ => rfl) ?_ | refine mi_wgf rfl (by assumption) rfl ?_ | refine mi_wal rfl (by assumption) rfl (by omega) (by decide) ?_)
    refine mi_wag rfl h1 rfl (by omega) (by decide) (fun w h1 hF => ?_)
    have h0 := hF.get (by simp only [List.mem_cons, List.not_mem_nil, or_false]; omega) h0
    have h2 := hF.get (by simp only [List.mem_cons, List.not_mem_nil, or_false]; omega) h2
    have hFr := hFr.tr (hF.mono (by simp))
    repeat (first | refine mi_s1 (fun _ => rfl) ?_ | refine mi_wgf rfl (by assumption) rfl ?_ | refine mi_wal rfl (by assumption) rfl (by omega) (by decide) ?_)
    refine mi_wag rfl h2 rfl (by omega) (by decide) (fun w h2 hF => ?_)
    have h0 := hF.get (by simp only [List.mem_cons, List.not_mem_nil, or_false]; omega) h0
    have h1 := hF.get (by simp only [List.mem_cons, List.not_mem_nil, or_false]; omega) h1
    have hFr := hFr.tr (hF.mono (by simp))
    refine mi_s1 (fun _ => rfl) ?_; refine mi_s1 (fun _ => rfl) ?_
    rw [show nI m + nI 1 = nI (m + 1) from nI_1 m]
    refine ev_grClear_loop f (m + 1) w (fun p q => if p = m then false else E p q) (fun p q => if p = m then false else S p q) (by omega) ⟨h0, _, _, h1, h2, fun p q hp hq => ?_⟩ (fun p q hp => ?_) (hF0.tr (mi_Fg.of hFr (fun o ho => ?_)))
    · unfold upd
      by_cases z : p = m
      · simp only [z, if_true]
        rw [show nI 0 = 0 from nI_0, b_0]
        exact ⟨rfl, rfl⟩
      · simp only [z, if_false]
        exact h3 p q hp hq
    · by_cases z : p = m
      · simp [z]
      · simp only [z, if_false]
        exact hz p q (by omega)
    · simp only [List.mem_cons, List.not_mem_nil, or_false] at ho
      omega
theorem ev_grClear {w : mi_H} {E S : Nat → Nat → Bool} (H : Gr w E S) : mi_Ex X 1 k_Gr_clear [.ref 27] w (fun r w1 => r = none ∧ Gr w1 (fun _ _ => false) (fun _ _ => false) ∧ mi_Fg w w1 28 30) := by
  refine mi_Ex.of (M := m_Gr_clear) rfl (Nat.le_of_ble_eq_true rfl) ?_
  refine mi_s1 (fun _ => rfl) ?_; refine mi_s1 (fun _ => rfl) ?_
  exact ev_grClear_loop 8 0 w E S rfl H (fun p q hp => absurd hp (Nat.not_lt_zero p)) mi_Fg.rf
theorem ev_addEdgesFrom_loop {w0 : mi_H} {x y z : Int32} {A B C : Nat → Bool} (hx : ∀ q, q < 32 → bt x q = A q) (hy : ∀ q, q < 32 → bt y q = B q) (hz : ∀ q, q < 32 → bt z q = C q) : ∀ f m (w : mi_H) (E S : Nat → Nat → Bool), m + f = 8 → Gr w E S → mi_Fg w0 w 28 30 → mi_wp X mi_P 1 m_Gr_addEdgesFrom (3, [some (.ref 27), some (.int x), some (.int y), some (.int z), some (.int (nI m))], [], w) (fun r w1 => r = none ∧ Gr w1 (fun p q => E p q || (decide (m ≤ p) && A p && (B q || C q))) (fun p q => S p q || (decide (m ≤ p) && A p && C q)) ∧ mi_Fg w0 w1 28 30)
  | 0, m, w, E, S, hm, H, hF0 => by
    have hm : m = 8 := by omega
    subst hm
    obtain ⟨h0, fe, fs, h1, h2, h3⟩ := H
    repeat (first | refine mi_s1 (fun _ => rfl) ?_ | refine mi_wgf rfl (by assumption) rfl ?_ | refine mi_wal rfl (by assumption) rfl (by omega) (by decide) ?_)
    refine mi_r1 (fun _ => rfl) ?_
    refine ⟨rfl, ⟨h0, fe, fs, h1, h2, fun p q hp hq => ?_⟩, hF0⟩
    have e : decide (8 ≤ p) = false := decide_eq_false (by omega)
    simp only [e, Bool.false_and, Bool.or_false]
    exact h3 p q hp hq
  | f + 1, m, w, E, S, hm, H, hF0 => by
    obtain ⟨h0, fe, fs, h1, h2, h3⟩ := id H
    have hFr : mi_Fr w w [28, 29] := mi_Fr.rf
    repeat (first | refine mi_s1 (fun _ => rfl) ?_ | refine mi_wgf rfl (by assumption) rfl ?_ | refine mi_wal rfl (by assumption) rfl (by omega) (by decide) ?_)
    refine mi_wif (fun z => absurd z (nI_ge (a := m) (b := 8) (by omega) (by omega))) (fun _ => ?_)
    repeat (first | refine mi_s1 (fun _ => rfl) ?_ | refine mi_wgf rfl (by assumption) rfl ?_ | refine mi_wal rfl (by assumption) rfl (by omega) (by decide) ?_)
    refine mi_wcs rfl (Nat.le_of_ble_eq_true rfl) ⟨Nat.le_of_ble_eq_true rfl, Nat.le_of_ble_eq_true rfl⟩ (ev_isIn x (n := m) (by omega)) ?_
    repeat (first | refine mi_s1 (fun _ => rfl) ?_ | refine mi_wgf rfl (by assumption) rfl ?_ | refine mi_wal rfl (by assumption) rfl (by omega) (by decide) ?_)
    refine mi_wif (fun q1 => ?_) (fun q1 => ?_)
    · have q1 : A m = false := by
        rw [← hx m (by omega)]
        simpa using jb_0.mp q1
      refine mi_s1 (fun _ => rfl) ?_; refine mi_s1 (fun _ => rfl) ?_
      rw [show nI m + nI 1 = nI (m + 1) from nI_1 m]
      refine (ev_addEdgesFrom_loop hx hy hz f (m + 1) w E S (by omega) H hF0).imp (fun r w1 h => ?_)
      obtain ⟨k1, k2, k3⟩ := h
      refine ⟨k1, ?_, k3⟩
      obtain ⟨j0, je, js, j1, j2, j3⟩ := k2
      refine ⟨j0, je, js, j1, j2, fun p q hp hq => ?_⟩
      have e : (decide (m + 1 ≤ p) && A p) = (decide (m ≤ p) && A p) := by
        by_cases z : p = m
        · rw [z, q1, Bool.and_false, Bool.and_false]
        · congr 1
          by_cases z2 : m ≤ p
          · rw [decide_eq_true z2, decide_eq_true (by omega)]
          · rw [decide_eq_false z2, decide_eq_false (by omega)]
      have j4 := j3 p q hp hq
      simp only [e] at j4
      exact j4
    · have q1 : A m = true := by
        rw [← hx m (by omega)]
        exact Decidable.not_not.mp (fun h => q1 (jb_0.mpr h))
      repeat (first | refine mi_s1 (fun _ => rfl) ?_ | refine mi_wgf rfl (by assumption) rfl ?_ | refine mi_wal rfl (by assumption) rfl (by omega) (by decide) ?_)
      refine mi_wag rfl h1 rfl (by omega) (by decide) (fun w h1 hF => ?_)
      have h0 := hF.get (by simp only [List.mem_cons, List.not_mem_nil, or_false]; omega) h0
      have h2 := hF.get (by simp only [List.mem_cons, List.not_mem_nil, or_false]; omega) h2
      have hFr := hFr.tr (hF.mono (by simp))
      repeat (first | refine mi_s1 (fun _ => rfl) ?_ | refine mi_wgf rfl (by assumption) rfl ?_ | refine mi_wal rfl (by assumption) rfl (by omega) (by decide) ?_)
      refine mi_wag rfl h2 rfl (by omega) (by decide) (fun w h2 hF => ?_)
      have h0 := hF.get (by simp only [List.mem_cons, List.not_mem_nil, or_false]; omega) h0
      have h1 := hF.get (by simp only [List.mem_cons, List.not_mem_nil, or_false]; omega) h1
      have hFr := hFr.tr (hF.mono (by simp))
      refine mi_s1 (fun _ => rfl) ?_; refine mi_s1 (fun _ => rfl) ?_
      rw [show nI m + nI 1 = nI (m + 1) from nI_1 m]
      refine (ev_addEdgesFrom_loop hx hy hz f (m + 1) w (fun p q => if p = m then E p q || (B q || C q) else E p q) (fun p q => if p = m then S p q || C q else S p q) (by omega) ⟨h0, _, _, h1, h2, fun p q hp hq => ?_⟩ (hF0.tr (mi_Fg.of hFr (fun o ho => ?_)))).imp (fun r w1 h => ?_)
      · unfold upd
        by_cases z : p = m
        · simp only [z, if_true]
          rw [b_or, b_or, b_or, hy q hq, hz q hq, (h3 m q (by omega) hq).1, (h3 m q (by omega) hq).2]
          exact ⟨rfl, rfl⟩
        · simp only [z, if_false]
          exact h3 p q hp hq
      · simp only [List.mem_cons, List.not_mem_nil, or_false] at ho
        omega
      · obtain ⟨k1, k2, k3⟩ := h
        refine ⟨k1, ?_, k3⟩
        obtain ⟨j0, je, js, j1, j2, j3⟩ := k2
        refine ⟨j0, je, js, j1, j2, fun p q hp hq => ?_⟩
        have j4 := j3 p q hp hq
        by_cases z : p = m
        · subst z
          have e : decide (p + 1 ≤ p) = false := decide_eq_false (by omega)
          simp only [if_true, e, Bool.false_and, Bool.or_false] at j4
          simp only [q1, Nat.le_refl, decide_true, Bool.true_and]
          exact j4
        · simp only [z, if_false] at j4
          have e : decide (m + 1 ≤ p) = decide (m ≤ p) := by
            by_cases z2 : m ≤ p
            · rw [decide_eq_true z2, decide_eq_true (by omega)]
            · rw [decide_eq_false z2, decide_eq_false (by omega)]
          simp only [e] at j4
          exact j4
theorem ev_addEdgesFrom {w : mi_H} {E S : Nat → Nat → Bool} {x y z : Int32} {A B C : Nat → Bool} (hx : ∀ q, q < 32 → bt x q = A q) (hy : ∀ q, q < 32 → bt y q = B q) (hz : ∀ q, q < 32 → bt z q = C q) (H : Gr w E S) : mi_Ex X 2 k_Gr_addEdgesFrom [.ref 27, .int x, .int y, .int z] w (fun r w1 => r = none ∧ Gr w1 (fun p q => E p q || (A p && (B q || C q))) (fun p q => S p q || (A p && C q)) ∧ mi_Fg w w1 28 30) := by
  refine mi_Ex.of (M := m_Gr_addEdgesFrom) rfl (Nat.le_of_ble_eq_true rfl) ?_
  refine mi_s1 (fun _ => rfl) ?_; refine mi_s1 (fun _ => rfl) ?_
  refine (ev_addEdgesFrom_loop (X := X) (w0 := w) hx hy hz 8 0 w E S rfl H mi_Fg.rf).imp (fun r w1 h => ?_)
  simp only [Nat.zero_le, decide_true, Bool.true_and] at h
  exact h
theorem ev_freePositions_loop {w : mi_H} {r : Nat} {R : sp_R} (HR : Ru w r R) : ∀ f m (x : Int32), m + f = 4 → (∀ q, q < 32 → bt x q = (List.range m).any (fun v => frR R v && posB R.2.2.1 v q)) → mi_wp X mi_P 3 m_Gr_freePositions (4, [some (.ref 27), some (.ref r), some (.int x), some (.int (nI m))], [], w) (fun q w1 => (∃ y : Int32, q = some (.int y) ∧ ∀ p, p < 32 → bt y p = frp R p) ∧ w1 = w)
  | 0, m, x, hm, hx => by
    have hm : m = 4 := by omega
    subst hm
    repeat (first | refine mi_s1 (fun _ => rfl) ?_ | refine mi_wgf rfl (by assumption) rfl ?_ | refine mi_wal rfl (by assumption) rfl (by omega) (by decide) ?_)
    refine mi_r1 (fun _ => rfl) ?_
    exact ⟨⟨x, rfl, hx⟩, rfl⟩
  | f + 1, m, x, hm, hx => by
    obtain ⟨fi, se, r0, rb, rh, -⟩ := id HR
    obtain ⟨fh, k0, -⟩ := id rh
    repeat (first | refine mi_s1 (fun _ => rfl) ?_ | refine mi_wgf rfl (by assumption) rfl ?_ | refine mi_wal rfl (by assumption) rfl (by omega) (by decide) ?_)
    refine mi_wif (fun z => absurd z (nI_ge (a := m) (b := 4) (by omega) (by omega))) (fun _ => ?_)
    repeat (first | refine mi_s1 (fun _ => rfl) ?_ | refine mi_wgf rfl (by assumption) rfl ?_ | refine mi_wal rfl (by assumption) rfl (by omega) (by decide) ?_)
    refine mi_wcv rfl rfl (Nat.le_of_ble_eq_true rfl) r0 rfl (ev_isFree HR (by omega)) ?_
    repeat (first | refine mi_s1 (fun _ => rfl) ?_ | refine mi_wgf rfl (by assumption) rfl ?_ | refine mi_wal rfl (by assumption) rfl (by omega) (by decide) ?_)
    have ef : frR R m = true ↔ (inB R.2.2.1 m = true ∧ ¬ inB R.2.1 m = true) := by
      unfold frR
      rw [Bool.and_eq_true]
      simp
    refine mi_wif (fun q => ?_) (fun q => ?_)
    · have q : frR R m = false := by
        cases h : frR R m with
        | false => rfl
        | true => exact absurd (ef.mp h) (jb_0.mp q)
      refine mi_s1 (fun _ => rfl) ?_; refine mi_s1 (fun _ => rfl) ?_
      rw [show nI m + nI 1 = nI (m + 1) from nI_1 m]
      refine ev_freePositions_loop HR f (m + 1) x (by omega) (fun p hp => ?_)
      rw [any_s, hx p hp, q]
      simp
    · have q : frR R m = true := ef.mpr (Decidable.not_not.mp (fun h => q (jb_0.mpr h)))
      obtain ⟨y, he, hy⟩ := ev_positionsOf (X := X) rh (v := m) (by omega)
      repeat (first | refine mi_s1 (fun _ => rfl) ?_ | refine mi_wgf rfl (by assumption) rfl ?_ | refine mi_wal rfl (by assumption) rfl (by omega) (by decide) ?_)
      refine mi_wcv rfl rfl (Nat.le_of_ble_eq_true rfl) k0 rfl (he) ?_
      refine mi_s1 (fun _ => rfl) ?_; refine mi_s1 (fun _ => rfl) ?_; refine mi_s1 (fun _ => rfl) ?_; refine mi_s1 (fun _ => rfl) ?_
      rw [show nI m + nI 1 = nI (m + 1) from nI_1 m]
      refine ev_freePositions_loop HR f (m + 1) _ (by omega) (fun p hp => ?_)
      rw [any_s, b_or, hx p hp, hy p hp, q, Bool.true_and]
theorem ev_freePositions {w : mi_H} {r : Nat} {R : sp_R} (HR : Ru w r R) : ∃ y : Int32, mi_Ev X mi_P 4 k_Gr_freePositions [.ref 27, .ref r] w (some (.int y)) w ∧ ∀ p, p < 32 → bt y p = frp R p := by
  have key : mi_Ex X 4 k_Gr_freePositions [.ref 27, .ref r] w (fun q w1 => (∃ y : Int32, q = some (.int y) ∧ ∀ p, p < 32 → bt y p = frp R p) ∧ w1 = w) := by
    refine mi_Ex.of (M := m_Gr_freePositions) rfl (Nat.le_of_ble_eq_true rfl) ?_
    refine mi_s1 (fun _ => rfl) ?_; refine mi_s1 (fun _ => rfl) ?_; refine mi_s1 (fun _ => rfl) ?_; refine mi_s1 (fun _ => rfl) ?_
    exact ev_freePositions_loop HR 4 0 _ rfl (fun p hp => by rw [show nI 0 = 0 from nI_0, b_0]; rfl)
  obtain ⟨q, w1, h1, ⟨y, rfl, h2⟩, rfl⟩ := key
  exact ⟨y, h1, h2⟩
theorem ev_addEdges_loop {w0 : mi_H} {r : Nat} {R : sp_R} (hr : 30 ≤ r) {z : Int32} (hz : ∀ p, p < 32 → bt z p = frp R p) {E S : Nat → Nat → Bool} : ∀ f m (w : mi_H) (z4 : Option Value), m + f = 4 → Gr w (fun p q => E p q || egE R m p q) (fun p q => S p q || egS R m p q) → Ru w r R → mi_Fg w0 w 28 30 → mi_wp X mi_P 4 m_Gr_addEdges (8, [some (.ref 27), some (.ref r), some (.int z), some (.int (nI m)), z4], [], w) (fun q w1 => q = none ∧ Gr w1 (fun p q => E p q || egE R 4 p q) (fun p q => S p q || egS R 4 p q) ∧ mi_Fg w0 w1 28 30)
  | 0, m, w, z4, hm, H, HR, hF => by
    have hm : m = 4 := by omega
    subst hm
    repeat (first | refine mi_s1 (fun _ => rfl) ?_ | refine mi_wgf rfl (by assumption) rfl ?_ | refine mi_wal rfl (by assumption) rfl (by omega) (by decide) ?_)
    refine mi_r1 (fun _ => rfl) ?_
    exact ⟨rfl, H, hF⟩
  | f + 1, m, w, z4, hm, H, HR, hF => by
    obtain ⟨fi, se, r0, rb, rh, -⟩ := id HR
    obtain ⟨fh, k0, -⟩ := id rh
    obtain ⟨fb, b0, -⟩ := id rb
    obtain ⟨g0, -⟩ := id H
    obtain ⟨y, he, hy⟩ := ev_positionsOf (X := X) rh (v := m) (by omega)
    repeat (first | refine mi_s1 (fun _ => rfl) ?_ | refine mi_wgf rfl (by assumption) rfl ?_ | refine mi_wal rfl (by assumption) rfl (by omega) (by decide) ?_)
    refine mi_wif (fun z => absurd z (nI_ge (a := m) (b := 4) (by omega) (by omega))) (fun _ => ?_)
    repeat (first | refine mi_s1 (fun _ => rfl) ?_ | refine mi_wgf rfl (by assumption) rfl ?_ | refine mi_wal rfl (by assumption) rfl (by omega) (by decide) ?_)
    refine mi_wcv rfl rfl (Nat.le_of_ble_eq_true rfl) k0 rfl (he.up (by decide)) ?_
    repeat (first | refine mi_s1 (fun _ => rfl) ?_ | refine mi_wgf rfl (by assumption) rfl ?_ | refine mi_wal rfl (by assumption) rfl (by omega) (by decide) ?_)
    refine mi_wif (fun q => ?_) (fun q => ?_)
    · have q : anyP (posB R.2.2.1 m) = false := by
        cases h : anyP (posB R.2.2.1 m) with
        | false => rfl
        | true =>
          unfold anyP at h
          rw [List.any_eq_true] at h
          obtain ⟨p, h1, h2⟩ := h
          rw [← hy p (List.mem_range.mp h1), q, b_0] at h2
          cases h2
      refine mi_s1 (fun _ => rfl) ?_; refine mi_s1 (fun _ => rfl) ?_
      rw [show nI m + nI 1 = nI (m + 1) from nI_1 m]
      refine ev_addEdges_loop hr hz f (m + 1) w _ (by omega) ?_ HR hF
      have e1 : egE R (m + 1) = egE R m := by
        funext p u
        unfold egE
        rw [any_s, q]
        simp
      have e2 : egS R (m + 1) = egS R m := by
        funext p u
        unfold egS
        rw [any_s, q]
        simp
      rw [e1, e2]
      exact H
    · have q : anyP (posB R.2.2.1 m) = true := by
        cases h : anyP (posB R.2.2.1 m) with
        | true => rfl
        | false =>
          refine absurd ((bt_zero y).mpr (fun p hp => ?_)) q
          rw [hy p hp]
          unfold anyP at h
          rw [List.any_eq_false] at h
          simpa using h p (List.mem_range.mpr hp)
      obtain ⟨x, he2, hx⟩ := ev_positionsOf (X := X) rb (v := m) (by omega)
      repeat (first | refine mi_s1 (fun _ => rfl) ?_ | refine mi_wgf rfl (by assumption) rfl ?_ | refine mi_wal rfl (by assumption) rfl (by omega) (by decide) ?_)
      refine mi_wcv rfl rfl (Nat.le_of_ble_eq_true rfl) b0 rfl (he2.up (by decide)) ?_
      repeat (first | refine mi_s1 (fun _ => rfl) ?_ | refine mi_wgf rfl (by assumption) rfl ?_ | refine mi_wal rfl (by assumption) rfl (by omega) (by decide) ?_)
      obtain ⟨q3, w3, he3, rfl, H3, hF3⟩ := ev_addEdgesFrom (X := X) hx hy hz H
      refine mi_wcv rfl rfl (Nat.le_of_ble_eq_true rfl) g0 rfl (he3.up (by decide)) ?_
      refine mi_s1 (fun _ => rfl) ?_; refine mi_s1 (fun _ => rfl) ?_
      rw [show nI m + nI 1 = nI (m + 1) from nI_1 m]
      refine ev_addEdges_loop hr hz f (m + 1) w3 _ (by omega) ?_ (HR.g hF3 (by omega)) (hF.tr hF3)
      have e1 : (fun p u => (E p u || egE R m p u) || (posB R.2.1 m p && (posB R.2.2.1 m u || frp R u))) = (fun p u => E p u || egE R (m + 1) p u) := by
        funext p u
        unfold egE
        rw [any_s, q, Bool.true_and, Bool.or_assoc]
      have e2 : (fun p u => (S p u || egS R m p u) || (posB R.2.1 m p && frp R u)) = (fun p u => S p u || egS R (m + 1) p u) := by
        funext p u
        unfold egS
        rw [any_s, q, Bool.true_and, Bool.or_assoc]
      rw [← e1, ← e2]
      exact H3
theorem ev_addEdges {w : mi_H} {E S : Nat → Nat → Bool} {r : Nat} {R : sp_R} (hr : 30 ≤ r) (H : Gr w E S) (HR : Ru w r R) : mi_Ex X 5 k_Gr_addEdges [.ref 27, .ref r] w (fun q w1 => q = none ∧ Gr w1 (fun p q => E p q || egE R 4 p q) (fun p q => S p q || egS R 4 p q) ∧ mi_Fg w w1 28 30) := by
  obtain ⟨g0, -⟩ := id H
  obtain ⟨z, he, hz⟩ := ev_freePositions (X := X) HR
  refine mi_Ex.of (M := m_Gr_addEdges) rfl (Nat.le_of_ble_eq_true rfl) ?_
  repeat (first | refine mi_s1 (fun _ => rfl) ?_ | refine mi_wgf rfl (by assumption) rfl ?_ | refine mi_wal rfl (by assumption) rfl (by omega) (by decide) ?_)
  refine mi_wcv rfl rfl (Nat.le_of_ble_eq_true rfl) g0 rfl (he) ?_
  refine mi_s1 (fun _ => rfl) ?_; refine mi_s1 (fun _ => rfl) ?_; refine mi_s1 (fun _ => rfl) ?_
  refine ev_addEdges_loop hr hz 4 0 w _ rfl ?_ HR mi_Fg.rf
  have e1 : (fun p u => E p u || egE R 0 p u) = E := by
    funext p u
    simp [egE]
  have e2 : (fun p u => S p u || egS R 0 p u) = S := by
    funext p u
    simp [egS]
  rw [e1, e2]
  exact H
end Graph
