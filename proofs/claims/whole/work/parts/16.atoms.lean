/-! classes Atoms and Rule -/
abbrev sp_A : Type := Nat × Nat × Nat
/-- kind, body, head, pair -/
abbrev sp_R : Type := Nat × List sp_A × List sp_A × Option (Nat × Nat)
def inB (as : List sp_A) (v : Nat) : Bool := as.any (fun q => decide (q.2.1 = v) || decide (q.2.2 = v))
def At (w : mi_H) (o : Nat) (as : List sp_A) : Prop := ∃ f : Nat → Int32, w[o]? = some (.inr (7, [.ref (o + 1), .int (nI as.length)])) ∧ w[o + 1]? = some (.inl (0, 3, .inl f)) ∧ as.length ≤ 3 ∧ ∀ i q, as[i]? = some q → f i = nI (cd q) ∧ okA q
theorem At.at {w w1 : mi_H} {o : Nat} {as : List sp_A} (H : At w o as) (e0 : w1[o]? = w[o]?) (e1 : w1[o + 1]? = w[o + 1]?) : At w1 o as := by
  obtain ⟨f, h0, h1, h2⟩ := H
  exact ⟨f, by rw [e0]; exact h0, by rw [e1]; exact h1, h2⟩
theorem drop_at {α : Type} {l : List α} {i : Nat} (h : i < l.length) : ∃ q, l[i]? = some q ∧ l.drop i = q :: l.drop (i + 1) := ⟨l[i], List.getElem?_eq_getElem h, List.drop_eq_getElem_cons h⟩
section Atoms
variable {X : mi_X} {w : mi_H}
theorem ev_hasVariable_loop {o : Nat} {as : List sp_A} (H : At w o as) {v : Nat} (hv : v < 4) : ∀ f i, i + f = as.length → mi_wp X mi_P 1 m_At_hasVariable (2, [some (.ref o), some (.int (nI v)), some (.int (nI i))], [], w) (fun r w1 => r = some (.int (jb (inB (as.drop i) v = true))) ∧ w1 = w)
  | 0, i, hi => by
    obtain ⟨f, h0, h1, hl, hf⟩ := id H
    have hi : i = as.length := by omega
    repeat (first | refine mi_s1 (fun _ => rfl) ?_ | refine mi_wgf rfl (by assumption) rfl ?_ | refine mi_wal rfl (by assumption) rfl (by omega) (by decide) ?_)
    refine mi_wif (fun _ => ?_) (fun q => absurd (nI_le (a := as.length) (b := i) (by omega) (by omega)) q)
    repeat (first | refine mi_s1 (fun _ => rfl) ?_ | refine mi_wgf rfl (by assumption) rfl ?_ | refine mi_wal rfl (by assumption) rfl (by omega) (by decide) ?_)
    refine mi_wrz rfl rfl rfl ?_
    refine jb_f ?_
    rw [hi, List.drop_length]
    intro q
    cases q
  | f + 1, i, hi => by
    obtain ⟨fc, h0, h1, hl, hf⟩ := id H
    obtain ⟨q, hq, hd⟩ := drop_at (l := as) (i := i) (by omega)
    obtain ⟨hc, hok⟩ := hf i q hq
    rw [hd]
    repeat (first | refine mi_s1 (fun _ => rfl) ?_ | refine mi_wgf rfl (by assumption) rfl ?_ | refine mi_wal rfl (by assumption) rfl (by omega) (by decide) ?_)
    refine mi_wif (fun z => absurd z (nI_ge (a := i) (b := as.length) (by omega) (by omega))) (fun _ => ?_)
    repeat (first | refine mi_s1 (fun _ => rfl) ?_ | refine mi_wgf rfl (by assumption) rfl ?_ | refine mi_wal rfl (by assumption) rfl (by omega) (by decide) ?_)
    rw [hc]
    refine mi_wcs rfl (Nat.le_of_ble_eq_true rfl) ⟨Nat.le_of_ble_eq_true rfl, Nat.le_of_ble_eq_true rfl⟩ (ev_fst hok) ?_
    repeat (first | refine mi_s1 (fun _ => rfl) ?_ | refine mi_wgf rfl (by assumption) rfl ?_ | refine mi_wal rfl (by assumption) rfl (by omega) (by decide) ?_)
    have ho1 := hok.2.1
    have ho2 := hok.2.2
    refine mi_wif (fun z => ?_) (fun z => ?_)
    · have z : q.2.1 = v := (nI_eq (by omega) (by omega)).mp z
      repeat (first | refine mi_s1 (fun _ => rfl) ?_ | refine mi_wgf rfl (by assumption) rfl ?_ | refine mi_wal rfl (by assumption) rfl (by omega) (by decide) ?_)
      refine mi_wrz rfl rfl rfl ?_
      refine jb_t ?_
      simp [inB, z]
    · have z : ¬ q.2.1 = v := fun h => z (by rw [h])
      repeat (first | refine mi_s1 (fun _ => rfl) ?_ | refine mi_wgf rfl (by assumption) rfl ?_ | refine mi_wal rfl (by assumption) rfl (by omega) (by decide) ?_)
      rw [hc]
      refine mi_wcs rfl (Nat.le_of_ble_eq_true rfl) ⟨Nat.le_of_ble_eq_true rfl, Nat.le_of_ble_eq_true rfl⟩ (ev_snd hok) ?_
      repeat (first | refine mi_s1 (fun _ => rfl) ?_ | refine mi_wgf rfl (by assumption) rfl ?_ | refine mi_wal rfl (by assumption) rfl (by omega) (by decide) ?_)
      refine mi_wif (fun z2 => ?_) (fun z2 => ?_)
      · have z2 : q.2.2 = v := (nI_eq (by omega) (by omega)).mp z2
        repeat (first | refine mi_s1 (fun _ => rfl) ?_ | refine mi_wgf rfl (by assumption) rfl ?_ | refine mi_wal rfl (by assumption) rfl (by omega) (by decide) ?_)
        refine mi_wrz rfl rfl rfl ?_
        refine jb_t ?_
        simp [inB, z2]
      · have z2 : ¬ q.2.2 = v := fun h => z2 (by rw [h])
        refine mi_s1 (fun _ => rfl) ?_; refine mi_s1 (fun _ => rfl) ?_
        rw [show nI i + nI 1 = nI (i + 1) from nI_1 i]
        have e : inB (q :: as.drop (i + 1)) v = inB (as.drop (i + 1)) v := by simp [inB, z, z2]
        rw [e]
        exact ev_hasVariable_loop H hv f (i + 1) (by omega)
theorem ev_hasVariable {o : Nat} {as : List sp_A} (H : At w o as) {v : Nat} (hv : v < 4) : mi_Ev X mi_P 2 k_At_hasVariable [.ref o, .int (nI v)] w (some (.int (jb (inB as v = true)))) w := by
  refine mi_Ev.of (M := m_At_hasVariable) rfl (Nat.le_of_ble_eq_true rfl) ?_
  refine mi_s1 (fun _ => rfl) ?_; refine mi_s1 (fun _ => rfl) ?_
  have e := ev_hasVariable_loop (X := X) H hv as.length 0 (Nat.zero_add _)
  rw [List.drop_zero] at e
  exact e
def csn (as : List sp_A) : Nat := as.countP (fun q => decide (q.1 < 2))
theorem ev_countSources_loop {o : Nat} {as : List sp_A} (H : At w o as) : ∀ f i c, i + f = as.length → mi_wp X mi_P 2 m_At_countSources (4, [some (.ref o), some (.int (nI c)), some (.int (nI i))], [], w) (fun r w1 => r = some (.int (nI (c + csn (as.drop i)))) ∧ w1 = w)
  | 0, i, c, hi => by
    obtain ⟨f, h0, h1, hl, hf⟩ := id H
    have hi : i = as.length := by omega
    repeat (first | refine mi_s1 (fun _ => rfl) ?_ | refine mi_wgf rfl (by assumption) rfl ?_ | refine mi_wal rfl (by assumption) rfl (by omega) (by decide) ?_)
    refine mi_wif (fun _ => ?_) (fun q => absurd (nI_le (a := as.length) (b := i) (by omega) (by omega)) q)
    repeat (first | refine mi_s1 (fun _ => rfl) ?_ | refine mi_wgf rfl (by assumption) rfl ?_ | refine mi_wal rfl (by assumption) rfl (by omega) (by decide) ?_)
    refine mi_r1 (fun _ => rfl) ?_
    refine ⟨?_, rfl⟩
    rw [hi, List.drop_length]
    rfl
  | f + 1, i, c, hi => by
    obtain ⟨fc, h0, h1, hl, hf⟩ := id H
    obtain ⟨q, hq, hd⟩ := drop_at (l := as) (i := i) (by omega)
    obtain ⟨hc, hok⟩ := hf i q hq
    rw [hd]
    repeat (first | refine mi_s1 (fun _ => rfl) ?_ | refine mi_wgf rfl (by assumption) rfl ?_ | refine mi_wal rfl (by assumption) rfl (by omega) (by decide) ?_)
    refine mi_wif (fun z => absurd z (nI_ge (a := i) (b := as.length) (by omega) (by omega))) (fun _ => ?_)
    repeat (first | refine mi_s1 (fun _ => rfl) ?_ | refine mi_wgf rfl (by assumption) rfl ?_ | refine mi_wal rfl (by assumption) rfl (by omega) (by decide) ?_)
    rw [hc]
    refine mi_wcs rfl (Nat.le_of_ble_eq_true rfl) ⟨Nat.le_of_ble_eq_true rfl, Nat.le_of_ble_eq_true rfl⟩ (ev_isSourceAtom hok) ?_
    repeat (first | refine mi_s1 (fun _ => rfl) ?_ | refine mi_wgf rfl (by assumption) rfl ?_ | refine mi_wal rfl (by assumption) rfl (by omega) (by decide) ?_)
    refine mi_wif (fun z => ?_) (fun z => ?_)
    · have z := jb_0.mp z
      refine mi_s1 (fun _ => rfl) ?_; refine mi_s1 (fun _ => rfl) ?_
      rw [show nI i + nI 1 = nI (i + 1) from nI_1 i]
      have e : csn (q :: as.drop (i + 1)) = csn (as.drop (i + 1)) := by simp [csn, z]
      rw [e]
      exact ev_countSources_loop H f (i + 1) c (by omega)
    · have z : q.1 < 2 := Decidable.not_not.mp (fun h => z (jb_0.mpr h))
      refine mi_s1 (fun _ => rfl) ?_; refine mi_s1 (fun _ => rfl) ?_; refine mi_s1 (fun _ => rfl) ?_
      rw [show nI i + nI 1 = nI (i + 1) from nI_1 i, show nI c + nI 1 = nI (c + 1) from nI_1 c]
      have e : c + csn (q :: as.drop (i + 1)) = c + 1 + csn (as.drop (i + 1)) := by
        have : csn (q :: as.drop (i + 1)) = csn (as.drop (i + 1)) + 1 := by simp [csn, z]
        omega
      rw [e]
      exact ev_countSources_loop H f (i + 1) (c + 1) (by omega)
theorem ev_countSources {o : Nat} {as : List sp_A} (H : At w o as) : mi_Ev X mi_P 3 k_At_countSources [.ref o] w (some (.int (nI (csn as)))) w := by
  refine mi_Ev.of (M := m_At_countSources) rfl (Nat.le_of_ble_eq_true rfl) ?_
  refine mi_s1 (fun _ => rfl) ?_; refine mi_s1 (fun _ => rfl) ?_; refine mi_s1 (fun _ => rfl) ?_; refine mi_s1 (fun _ => rfl) ?_
  have e := ev_countSources_loop (X := X) H as.length 0 0 (Nat.zero_add _)
  rw [List.drop_zero, Nat.zero_add] at e
  exact e
/-- the target positions of a variable -/
def posB (as : List sp_A) (v p : Nat) : Bool := as.any (fun q => decide (2 ≤ q.1) && ((decide (q.2.1 = v) && decide (p = 2 * (q.1 - 2))) || (decide (q.2.2 = v) && decide (p = 2 * (q.1 - 2) + 1))))
theorem ev_positionsOf_loop {o : Nat} {as : List sp_A} (H : At w o as) {v : Nat} (hv : v < 4) : ∀ f i (x : Int32) (G : Nat → Bool) (z4 z5 : Option Value), i + f = as.length → (∀ p, p < 32 → bt x p = G p) → mi_wp X mi_P 2 m_At_positionsOf (4, [some (.ref o), some (.int (nI v)), some (.int x), some (.int (nI i)), z4, z5], [], w) (fun r w1 => (∃ y : Int32, r = some (.int y) ∧ ∀ p, p < 32 → bt y p = (G p || posB (as.drop i) v p)) ∧ w1 = w)
  | 0, i, x, G, z4, z5, hi, hx => by
    obtain ⟨f, h0, h1, hl, hf⟩ := id H
    have hi : i = as.length := by omega
    repeat (first | refine mi_s1 (fun _ => rfl) ?_ | refine mi_wgf rfl (by assumption) rfl ?_ | refine mi_wal rfl (by assumption) rfl (by omega) (by decide) ?_)
    refine mi_wif (fun _ => ?_) (fun q => absurd (nI_le (a := as.length) (b := i) (by omega) (by omega)) q)
    repeat (first | refine mi_s1 (fun _ => rfl) ?_ | refine mi_wgf rfl (by assumption) rfl ?_ | refine mi_wal rfl (by assumption) rfl (by omega) (by decide) ?_)
    refine mi_r1 (fun _ => rfl) ?_
    refine ⟨⟨x, rfl, fun p hp => ?_⟩, rfl⟩
    rw [hx p hp, hi, List.drop_length]
    simp [posB]
  | f + 1, i, x, G, z4, z5, hi, hx => by
    obtain ⟨fc, h0, h1, hl, hf⟩ := id H
    obtain ⟨q, hq, hd⟩ := drop_at (l := as) (i := i) (by omega)
    obtain ⟨hc, hok⟩ := hf i q hq
    rw [hd]
    have ho0 := hok.1
    have ho1 := hok.2.1
    have ho2 := hok.2.2
    have go : ∀ (y : Int32) (z4 z5 : Option Value), (∀ p, p < 32 → bt y p = (G p || posB [q] v p)) → mi_wp X mi_P 2 m_At_positionsOf (76, [some (.ref o), some (.int (nI v)), some (.int y), some (.int (nI i)), z4, z5], [], w) (fun r w1 => (∃ y : Int32, r = some (.int y) ∧ ∀ p, p < 32 → bt y p = (G p || posB (q :: as.drop (i + 1)) v p)) ∧ w1 = w) := by
      intro y z4 z5 hy
      refine mi_s1 (fun _ => rfl) ?_; refine mi_s1 (fun _ => rfl) ?_
      rw [show nI i + nI 1 = nI (i + 1) from nI_1 i]
      refine (ev_positionsOf_loop H hv f (i + 1) y _ z4 z5 (by omega) hy).imp (fun r w1 h => ?_)
      obtain ⟨⟨u, k1, k2⟩, k3⟩ := h
      refine ⟨⟨u, k1, fun p hp => ?_⟩, k3⟩
      rw [k2 p hp]
      simp [posB, Bool.or_assoc]
    repeat (first | refine mi_s1 (fun _ => rfl) ?_ | refine mi_wgf rfl (by assumption) rfl ?_ | refine mi_wal rfl (by assumption) rfl (by omega) (by decide) ?_)
    refine mi_wif (fun z => absurd z (nI_ge (a := i) (b := as.length) (by omega) (by omega))) (fun _ => ?_)
    repeat (first | refine mi_s1 (fun _ => rfl) ?_ | refine mi_wgf rfl (by assumption) rfl ?_ | refine mi_wal rfl (by assumption) rfl (by omega) (by decide) ?_)
    rw [hc]
    refine mi_wcs rfl (Nat.le_of_ble_eq_true rfl) ⟨Nat.le_of_ble_eq_true rfl, Nat.le_of_ble_eq_true rfl⟩ (ev_isSourceAtom hok) ?_
    repeat (first | refine mi_s1 (fun _ => rfl) ?_ | refine mi_wgf rfl (by assumption) rfl ?_ | refine mi_wal rfl (by assumption) rfl (by omega) (by decide) ?_)
    refine mi_wif (fun z => ?_) (fun z => ?_)
    · have z := jb_0.mp z
      repeat (first | refine mi_s1 (fun _ => rfl) ?_ | refine mi_wgf rfl (by assumption) rfl ?_ | refine mi_wal rfl (by assumption) rfl (by omega) (by decide) ?_)
      refine mi_wcs rfl (Nat.le_of_ble_eq_true rfl) ⟨Nat.le_of_ble_eq_true rfl, Nat.le_of_ble_eq_true rfl⟩ ((ev_rel hok).up (by decide)) ?_
      repeat (first | refine mi_s1 (fun _ => rfl) ?_ | refine mi_wgf rfl (by assumption) rfl ?_ | refine mi_wal rfl (by assumption) rfl (by omega) (by decide) ?_)
      refine mi_wcs rfl (Nat.le_of_ble_eq_true rfl) ⟨Nat.le_of_ble_eq_true rfl, Nat.le_of_ble_eq_true rfl⟩ ((ev_fst hok).up (by decide)) ?_
      repeat (first | refine mi_s1 (fun _ => rfl) ?_ | refine mi_wgf rfl (by assumption) rfl ?_ | refine mi_wal rfl (by assumption) rfl (by omega) (by decide) ?_)
      have hpl : nI 2 * (nI q.1 - nI 2) = nI (2 * (q.1 - 2)) := by rw [pk_sub (by omega), pk_mul]
      rw [hpl]
      have go2 : ∀ y : Int32, (∀ p, p < 32 → bt y p = (G p || (decide (q.2.1 = v) && decide (p = 2 * (q.1 - 2))))) → mi_wp X mi_P 2 m_At_positionsOf (58, [some (.ref o), some (.int (nI v)), some (.int y), some (.int (nI i)), some (.int (nI (cd q))), some (.int (nI (2 * (q.1 - 2))))], [], w) (fun r w1 => (∃ y : Int32, r = some (.int y) ∧ ∀ p, p < 32 → bt y p = (G p || posB (q :: as.drop (i + 1)) v p)) ∧ w1 = w) := by
        intro y hy
        have h2q : 2 ≤ q.1 := by omega
        repeat (first | refine mi_s1 (fun _ => rfl) ?_ | refine mi_wgf rfl (by assumption) rfl ?_ | refine mi_wal rfl (by assumption) rfl (by omega) (by decide) ?_)
        refine mi_wcs rfl (Nat.le_of_ble_eq_true rfl) ⟨Nat.le_of_ble_eq_true rfl, Nat.le_of_ble_eq_true rfl⟩ ((ev_snd hok).up (by decide)) ?_
        repeat (first | refine mi_s1 (fun _ => rfl) ?_ | refine mi_wgf rfl (by assumption) rfl ?_ | refine mi_wal rfl (by assumption) rfl (by omega) (by decide) ?_)
        refine mi_wif (fun z2 => ?_) (fun z2 => ?_)
        · have z2 : q.2.2 = v := (nI_eq (by omega) (by omega)).mp z2
          refine mi_s1 (fun _ => rfl) ?_; refine mi_s1 (fun _ => rfl) ?_; refine mi_s1 (fun _ => rfl) ?_; refine mi_s1 (fun _ => rfl) ?_; refine mi_s1 (fun _ => rfl) ?_; refine mi_s1 (fun _ => rfl) ?_; refine mi_s1 (fun _ => rfl) ?_; refine mi_s1 (fun _ => rfl) ?_
          rw [show nI (2 * (q.1 - 2)) + nI 1 = nI (2 * (q.1 - 2) + 1) from nI_1 _]
          refine go _ _ _ (fun p hp => ?_)
          rw [bt_set (by omega) hp, hy p hp]
          simp [posB, h2q, z2, Bool.or_assoc]
        · have z2 : ¬ q.2.2 = v := fun h => z2 (by rw [h])
          refine go _ _ _ (fun p hp => ?_)
          rw [hy p hp]
          simp [posB, h2q, z2]
      refine mi_wif (fun z2 => ?_) (fun z2 => ?_)
      · have z2 : q.2.1 = v := (nI_eq (by omega) (by omega)).mp z2
        refine mi_s1 (fun _ => rfl) ?_; refine mi_s1 (fun _ => rfl) ?_; refine mi_s1 (fun _ => rfl) ?_; refine mi_s1 (fun _ => rfl) ?_; refine mi_s1 (fun _ => rfl) ?_; refine mi_s1 (fun _ => rfl) ?_
        refine go2 _ (fun p hp => ?_)
        rw [bt_set (by omega) hp, hx p hp]
        simp [z2]
      · have z2 : ¬ q.2.1 = v := fun h => z2 (by rw [h])
        refine go2 _ (fun p hp => ?_)
        rw [hx p hp]
        simp [z2]
    · have z : q.1 < 2 := Decidable.not_not.mp (fun h => z (jb_0.mpr h))
      refine mi_s1 (fun _ => rfl) ?_
      refine go x _ _ (fun p hp => ?_)
      have : ¬ 2 ≤ q.1 := by omega
      rw [hx p hp]
      simp [posB, this]
theorem ev_positionsOf {o : Nat} {as : List sp_A} (H : At w o as) {v : Nat} (hv : v < 4) : ∃ y : Int32, mi_Ev X mi_P 3 k_At_positionsOf [.ref o, .int (nI v)] w (some (.int y)) w ∧ ∀ p, p < 32 → bt y p = posB as v p := by
  have h : mi_Ex X 3 k_At_positionsOf [.ref o, .int (nI v)] w (fun r w1 => (∃ y : Int32, r = some (.int y) ∧ ∀ p, p < 32 → bt y p = (false || posB (as.drop 0) v p)) ∧ w1 = w) := by
    refine mi_Ex.of (M := m_At_positionsOf) rfl (Nat.le_of_ble_eq_true rfl) ?_
    refine mi_s1 (fun _ => rfl) ?_; refine mi_s1 (fun _ => rfl) ?_; refine mi_s1 (fun _ => rfl) ?_; refine mi_s1 (fun _ => rfl) ?_
    exact ev_positionsOf_loop H hv as.length 0 _ (fun _ => false) _ _ (Nat.zero_add _) (fun v hv => by rw [show nI 0 = 0 from nI_0, b_0])
  obtain ⟨r, w1, h1, ⟨y, rfl, h2⟩, rfl⟩ := h
  exact ⟨y, h1, fun v hv => by rw [h2 v hv, Bool.false_or, List.drop_zero]⟩
theorem ev_atAdd {o : Nat} {as : List sp_A} (H : At w o as) (hl : as.length < 3) {q : sp_A} (hq : okA q) : mi_Ex X 1 k_At_add [.ref o, .int (nI q.1), .int (nI q.2.1), .int (nI q.2.2)] w (fun r w1 => r = some (.int (nI (as.length + 1))) ∧ At w1 o (as ++ [q]) ∧ mi_Fr w w1 [o, o + 1]) := by
  obtain ⟨f, h0, h1, -, hf⟩ := id H
  refine mi_Ex.of (M := m_At_add) rfl (Nat.le_of_ble_eq_true rfl) ?_
  have hFr : mi_Fr w w [o, o + 1] := mi_Fr.rf
  repeat (first | refine mi_s1 (fun _ => rfl) ?_ | refine mi_wgf rfl (by assumption) rfl ?_ | refine mi_wal rfl (by assumption) rfl (by omega) (by decide) ?_)
  refine mi_wlen rfl h1 (by decide) ?_
  repeat (first | refine mi_s1 (fun _ => rfl) ?_ | refine mi_wgf rfl (by assumption) rfl ?_ | refine mi_wal rfl (by assumption) rfl (by omega) (by decide) ?_)
  refine mi_wif (fun _ => ?_) (fun z => absurd (nI_lt hl (by omega)) z)
  repeat (first | refine mi_s1 (fun _ => rfl) ?_ | refine mi_wgf rfl (by assumption) rfl ?_ | refine mi_wal rfl (by assumption) rfl (by omega) (by decide) ?_)
  rw [(cd_ok hq).2.2.2]
  refine mi_wag rfl h1 rfl (by omega) (by decide) (fun w h1 hF => ?_)
  have h0 := hF.get (by simp only [List.mem_cons, List.not_mem_nil, or_false]; omega) h0
  have hFr := hFr.tr (hF.mono (by simp))
  repeat (first | refine mi_s1 (fun _ => rfl) ?_ | refine mi_wgf rfl (by assumption) rfl ?_ | refine mi_wal rfl (by assumption) rfl (by omega) (by decide) ?_)
  refine mi_wpg rfl h0 (Nat.le_of_ble_eq_true rfl) rfl (fun w h0 hF => ?_)
  dsimp only [List.set] at h0
  have h1 := hF.get (by simp only [List.mem_cons, List.not_mem_nil, or_false]; omega) h1
  have hFr := hFr.tr (hF.mono (by simp))
  repeat (first | refine mi_s1 (fun _ => rfl) ?_ | refine mi_wgf rfl (by assumption) rfl ?_ | refine mi_wal rfl (by assumption) rfl (by omega) (by decide) ?_)
  refine mi_r1 (fun _ => rfl) ?_
  rw [nI_add] at h0 ⊢
  refine ⟨rfl, ⟨_, by rw [List.length_append]; exact h0, h1, by rw [List.length_append]; simp; omega, fun i u hu => ?_⟩, hFr⟩
  by_cases z : i < as.length
  · rw [List.getElem?_append_left z] at hu
    rw [pk_un (by omega)]
    exact hf i u hu
  · rw [List.getElem?_append_right (by omega)] at hu
    have hi : i - as.length < 1 := (List.getElem?_eq_some_iff.mp hu).1
    have hi2 : i = as.length := by omega
    subst hi2
    rw [Nat.sub_self] at hu
    cases hu
    rw [pk_us]
    exact ⟨rfl, hq⟩
/-! Rule -/
def Ru (w : mi_H) (r : Nat) (R : sp_R) : Prop := ∃ fi se : Int32, w[r]? = some (.inr (6, [.ref (r + 1), .ref (r + 3), .int (nI R.1), .int (jb (R.2.2.2.isSome = true)), .int fi, .int se])) ∧ At w (r + 1) R.2.1 ∧ At w (r + 3) R.2.2.1 ∧ R.1 < 3 ∧ R.2.2.1.length ≤ 2 ∧ ∀ v u, R.2.2.2 = some (v, u) → fi = nI v ∧ se = nI u ∧ v < 4 ∧ u < 4
theorem Ru.at {w w1 : mi_H} {r : Nat} {R : sp_R} (H : Ru w r R) (e : ∀ o, r ≤ o → o < r + 5 → w1[o]? = w[o]?) : Ru w1 r R := by
  obtain ⟨fi, se, h0, h1, h2, h3⟩ := H
  exact ⟨fi, se, by rw [e r (by omega) (by omega)]; exact h0, h1.at (e _ (by omega) (by omega)) (e _ (by omega) (by omega)), h2.at (e _ (by omega) (by omega)) (e _ (by omega) (by omega)), h3⟩
theorem Ru.g {w w1 : mi_H} {r lo hi : Nat} {R : sp_R} (H : Ru w r R) (hF : mi_Fg w w1 lo hi) (ho : r + 5 ≤ lo ∨ hi ≤ r) : Ru w1 r R := H.at (fun o h1 h2 => hF.2 o (by omega))
theorem ev_begin {r : Nat} {R : sp_R} (H : Ru w r R) {k : Nat} (hk : k < 3) : mi_Ex X 1 k_Ru_begin [.ref r, .int (nI k)] w (fun q w1 => q = none ∧ Ru w1 r (k, [], [], none) ∧ mi_Fg w w1 r (r + 5)) := by
  obtain ⟨fi, se, h0, ⟨f1, h1, h2, -, -⟩, ⟨f2, h3, h4, -, -⟩, -, -, -⟩ := H
  refine mi_Ex.of (M := m_Ru_begin) rfl (Nat.le_of_ble_eq_true rfl) ?_
  have hFr : mi_Fr w w [r, r + 1, r + 3] := mi_Fr.rf
  repeat (first | refine mi_s1 (fun _ => rfl) ?_ | refine mi_wgf rfl (by assumption) rfl ?_ | refine mi_wal rfl (by assumption) rfl (by omega) (by decide) ?_)
  refine mi_wpg rfl h0 (Nat.le_of_ble_eq_true rfl) rfl (fun w h0 hF => ?_)
  dsimp only [List.set] at h0
  have h1 := hF.get (by simp only [List.mem_cons, List.not_mem_nil, or_false]; omega) h1
  have h2 := hF.get (by simp only [List.mem_cons, List.not_mem_nil, or_false]; omega) h2
  have h3 := hF.get (by simp only [List.mem_cons, List.not_mem_nil, or_false]; omega) h3
  have h4 := hF.get (by simp only [List.mem_cons, List.not_mem_nil, or_false]; omega) h4
  have hFr := hFr.tr (hF.mono (by simp))
  repeat (first | refine mi_s1 (fun _ => rfl) ?_ | refine mi_wgf rfl (by assumption) rfl ?_ | refine mi_wal rfl (by assumption) rfl (by omega) (by decide) ?_)
  refine mi_wpg rfl h1 (Nat.le_of_ble_eq_true rfl) rfl (fun w h1 hF => ?_)
  dsimp only [List.set] at h1
  have h0 := hF.get (by simp only [List.mem_cons, List.not_mem_nil, or_false]; omega) h0
  have h2 := hF.get (by simp only [List.mem_cons, List.not_mem_nil, or_false]; omega) h2
  have h3 := hF.get (by simp only [List.mem_cons, List.not_mem_nil, or_false]; omega) h3
  have h4 := hF.get (by simp only [List.mem_cons, List.not_mem_nil, or_false]; omega) h4
  have hFr := hFr.tr (hF.mono (by simp))
  repeat (first | refine mi_s1 (fun _ => rfl) ?_ | refine mi_wgf rfl (by assumption) rfl ?_ | refine mi_wal rfl (by assumption) rfl (by omega) (by decide) ?_)
  refine mi_wpg rfl h3 (Nat.le_of_ble_eq_true rfl) rfl (fun w h3 hF => ?_)
  dsimp only [List.set] at h3
  have h0 := hF.get (by simp only [List.mem_cons, List.not_mem_nil, or_false]; omega) h0
  have h1 := hF.get (by simp only [List.mem_cons, List.not_mem_nil, or_false]; omega) h1
  have h2 := hF.get (by simp only [List.mem_cons, List.not_mem_nil, or_false]; omega) h2
  have h4 := hF.get (by simp only [List.mem_cons, List.not_mem_nil, or_false]; omega) h4
  have hFr := hFr.tr (hF.mono (by simp))
  repeat (first | refine mi_s1 (fun _ => rfl) ?_ | refine mi_wgf rfl (by assumption) rfl ?_ | refine mi_wal rfl (by assumption) rfl (by omega) (by decide) ?_)
  refine mi_wpg rfl h0 (Nat.le_of_ble_eq_true rfl) rfl (fun w h0 hF => ?_)
  dsimp only [List.set] at h0
  have h1 := hF.get (by simp only [List.mem_cons, List.not_mem_nil, or_false]; omega) h1
  have h2 := hF.get (by simp only [List.mem_cons, List.not_mem_nil, or_false]; omega) h2
  have h3 := hF.get (by simp only [List.mem_cons, List.not_mem_nil, or_false]; omega) h3
  have h4 := hF.get (by simp only [List.mem_cons, List.not_mem_nil, or_false]; omega) h4
  have hFr := hFr.tr (hF.mono (by simp))
  refine mi_r1 (fun _ => rfl) ?_
  refine ⟨rfl, ⟨_, _, h0, ⟨f1, h1, h2, Nat.zero_le 3, fun i q hq => (by simp at hq)⟩, ⟨f2, h3, h4, Nat.zero_le 3, fun i q hq => (by simp at hq)⟩, hk, Nat.zero_le 2, fun v u hv => (by cases hv)⟩, mi_Fg.of hFr (fun o ho => ?_)⟩
  simp only [List.mem_cons, List.not_mem_nil, or_false] at ho
  omega
theorem ev_setPair {r : Nat} {R : sp_R} (H : Ru w r R) {v u : Nat} (hv : v < 4) (hu : u < 4) : mi_Ex X 1 k_Ru_setPair [.ref r, .int (nI v), .int (nI u)] w (fun q w1 => q = none ∧ Ru w1 r (R.1, R.2.1, R.2.2.1, some (v, u)) ∧ mi_Fg w w1 r (r + 5)) := by
  obtain ⟨fi, se, h0, h1, h2, h3, h4, -⟩ := H
  refine mi_Ex.of (M := m_Ru_setPair) rfl (Nat.le_of_ble_eq_true rfl) ?_
  have hFr : mi_Fr w w [r] := mi_Fr.rf
  repeat (first | refine mi_s1 (fun _ => rfl) ?_ | refine mi_wgf rfl (by assumption) rfl ?_ | refine mi_wal rfl (by assumption) rfl (by omega) (by decide) ?_)
  refine mi_wpg rfl h0 (Nat.le_of_ble_eq_true rfl) rfl (fun w h0 hF => ?_)
  dsimp only [List.set] at h0
  have hFr := hFr.tr (hF.mono (by simp))
  repeat (first | refine mi_s1 (fun _ => rfl) ?_ | refine mi_wgf rfl (by assumption) rfl ?_ | refine mi_wal rfl (by assumption) rfl (by omega) (by decide) ?_)
  refine mi_wpg rfl h0 (Nat.le_of_ble_eq_true rfl) rfl (fun w h0 hF => ?_)
  dsimp only [List.set] at h0
  have hFr := hFr.tr (hF.mono (by simp))
  repeat (first | refine mi_s1 (fun _ => rfl) ?_ | refine mi_wgf rfl (by assumption) rfl ?_ | refine mi_wal rfl (by assumption) rfl (by omega) (by decide) ?_)
  refine mi_wpg rfl h0 (Nat.le_of_ble_eq_true rfl) rfl (fun w h0 hF => ?_)
  dsimp only [List.set] at h0
  have hFr := hFr.tr (hF.mono (by simp))
  refine mi_r1 (fun _ => rfl) ?_
  have hG : mi_Fg _ _ r (r + 1) := mi_Fg.of1 hFr (by omega) (by omega)
  refine ⟨rfl, ⟨_, _, h0, h1.at (hG.2 _ (by omega)) (hG.2 _ (by omega)), h2.at (hG.2 _ (by omega)) (hG.2 _ (by omega)), h3, h4, fun a b hab => ?_⟩, hG.wide (by omega) (by omega)⟩
  cases hab
  exact ⟨rfl, rfl, hv, hu⟩
theorem ev_isFree {r : Nat} {R : sp_R} (H : Ru w r R) {v : Nat} (hv : v < 4) : mi_Ev X mi_P 3 k_Ru_isFree [.ref r, .int (nI v)] w (some (.int (jb (inB R.2.2.1 v = true ∧ ¬ inB R.2.1 v = true)))) w := by
  obtain ⟨fi, se, h0, h1, h2, h3⟩ := H
  obtain ⟨f1, k1, -⟩ := id h1
  obtain ⟨f2, k2, -⟩ := id h2
  refine mi_Ev.of (M := m_Ru_isFree) rfl (Nat.le_of_ble_eq_true rfl) ?_
  repeat (first | refine mi_s1 (fun _ => rfl) ?_ | refine mi_wgf rfl (by assumption) rfl ?_ | refine mi_wal rfl (by assumption) rfl (by omega) (by decide) ?_)
  refine mi_wcv rfl rfl (Nat.le_of_ble_eq_true rfl) k2 rfl (ev_hasVariable h2 hv) ?_
  repeat (first | refine mi_s1 (fun _ => rfl) ?_ | refine mi_wgf rfl (by assumption) rfl ?_ | refine mi_wal rfl (by assumption) rfl (by omega) (by decide) ?_)
  refine mi_wif (fun z => ?_) (fun z => ?_)
  · repeat (first | refine mi_s1 (fun _ => rfl) ?_ | refine mi_wgf rfl (by assumption) rfl ?_ | refine mi_wal rfl (by assumption) rfl (by omega) (by decide) ?_)
    refine mi_wrz rfl rfl rfl ?_
    exact jb_f (fun q => jb_0.mp z q.1)
  · repeat (first | refine mi_s1 (fun _ => rfl) ?_ | refine mi_wgf rfl (by assumption) rfl ?_ | refine mi_wal rfl (by assumption) rfl (by omega) (by decide) ?_)
    refine mi_wcv rfl rfl (Nat.le_of_ble_eq_true rfl) k1 rfl (ev_hasVariable h1 hv) ?_
    repeat (first | refine mi_s1 (fun _ => rfl) ?_ | refine mi_wgf rfl (by assumption) rfl ?_ | refine mi_wal rfl (by assumption) rfl (by omega) (by decide) ?_)
    refine mi_wif (fun z2 => ?_) (fun z2 => ?_)
    · repeat (first | refine mi_s1 (fun _ => rfl) ?_ | refine mi_wgf rfl (by assumption) rfl ?_ | refine mi_wal rfl (by assumption) rfl (by omega) (by decide) ?_)
      refine mi_wrz rfl rfl rfl ?_
      exact jb_t ⟨Decidable.not_not.mp (fun q => z (jb_0.mpr q)), jb_0.mp z2⟩
    · repeat (first | refine mi_s1 (fun _ => rfl) ?_ | refine mi_wgf rfl (by assumption) rfl ?_ | refine mi_wal rfl (by assumption) rfl (by omega) (by decide) ?_)
      refine mi_wrz rfl rfl rfl ?_
      exact jb_f (fun q => z2 (jb_0.mpr q.2))
end Atoms
