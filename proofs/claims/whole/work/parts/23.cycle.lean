/-! class Graph: the way along edges, and cycles -/
theorem wa_row (E : Nat → Nat → Bool) (k q : Nat) : wa E (k + 1) k q = wa E k k q := by
  show (wa E k k q || (wa E k k k && wa E k k q)) = _
  cases wa E k k q <;> cases wa E k k k <;> rfl
def wam (E : Nat → Nat → Bool) (k m : Nat) : Nat → Nat → Bool := fun p q => if p < m then wa E (k + 1) p q else wa E k p q
theorem Gr.congr {w : mi_H} {E E' S S' : Nat → Nat → Bool} (H : Gr w E S) (h : ∀ p q, p < 8 → E' p q = E p q ∧ S' p q = S p q) : Gr w E' S' := by
  obtain ⟨h0, fe, fs, h1, h2, h3⟩ := H
  exact ⟨h0, fe, fs, h1, h2, fun p q hp hq => by rw [(h p q hp).1, (h p q hp).2]; exact h3 p q hp hq⟩
theorem mi_wp_up {X : mi_X} {d d' : Nat} {M : mi_M} {f : mi_F} {Q : Option Value → mi_H → Prop} (h : mi_wp X mi_P d M f Q) (hd : d ≤ d') : mi_wp X mi_P d' M f Q := by
  obtain ⟨n, r, w, h1, h2⟩ := h
  exact ⟨n, r, w, mi_run_mono (fun k as w q hq => mi_ev_mono d d' n n hd (Nat.le_refl n) k as w q hq) n n f _ (Nat.le_refl n) h1, h2⟩
section Cycle
variable {X : mi_X}
theorem ev_closeInner {w0 : mi_H} {E S : Nat → Nat → Bool} {k : Nat} (hk : k < 8) {Q : Option Value → mi_H → Prop} (kk : ∀ w1 : mi_H, Gr w1 (wa E (k + 1)) S → mi_Fg w0 w1 28 30 → mi_wp X mi_P 1 m_Gr_closeEdges (50, [some (.ref 27), some (.int (nI k)), some (.int (nI 8))], [], w1) Q) : ∀ f m (w : mi_H), m + f = 8 → Gr w (wam E k m) S → mi_Fg w0 w 28 30 → mi_wp X mi_P 1 m_Gr_closeEdges (10, [some (.ref 27), some (.int (nI k)), some (.int (nI m))], [], w) Q
  | 0, m, w, hm, H, hF0 => by
    have hm : m = 8 := by omega
    subst hm
    refine mi_s1 (fun _ => rfl) ?_; refine mi_s1 (fun _ => rfl) ?_; refine mi_s1 (fun _ => rfl) ?_
    refine kk w (H.congr (fun p q hp => ⟨?_, rfl⟩)) hF0
    unfold wam
    rw [if_pos hp]
  | f + 1, m, w, hm, H, hF0 => by
    obtain ⟨h0, fe, fs, h1, h2, h3⟩ := id H
    have e0 : ∀ q, q < 32 → bt (fe m) q = wa E k m q := fun q hq => by
      rw [(h3 m q (by omega) hq).1]
      unfold wam
      rw [if_neg (Nat.lt_irrefl m)]
    have e1 : ∀ q, q < 32 → bt (fe k) q = wa E k k q := fun q hq => by
      rw [(h3 k q hk hq).1]
      unfold wam
      split
      · exact wa_row E k q
      · rfl
    repeat (first | refine mi_s1 (fun _ => rfl) ?_ | refine mi_wgf rfl (by assumption) rfl ?_ | refine mi_wal rfl (by assumption) rfl (by omega) (by decide) ?_)
    refine mi_wif (fun z => absurd z (nI_ge (a := m) (b := 8) (by omega) (by omega))) (fun _ => ?_)
    repeat (first | refine mi_s1 (fun _ => rfl) ?_ | refine mi_wgf rfl (by assumption) rfl ?_ | refine mi_wal rfl (by assumption) rfl (by omega) (by decide) ?_)
    refine mi_wcs rfl (Nat.le_of_ble_eq_true rfl) ⟨Nat.le_of_ble_eq_true rfl, Nat.le_of_ble_eq_true rfl⟩ (ev_isIn (fe m) (n := k) (by omega)) ?_
    repeat (first | refine mi_s1 (fun _ => rfl) ?_ | refine mi_wgf rfl (by assumption) rfl ?_ | refine mi_wal rfl (by assumption) rfl (by omega) (by decide) ?_)
    refine mi_wif (fun z => ?_) (fun z => ?_)
    · have z : wa E k m k = false := by
        rw [← e0 k (by omega)]
        simpa using jb_0.mp z
      refine mi_s1 (fun _ => rfl) ?_; refine mi_s1 (fun _ => rfl) ?_
      rw [show nI m + nI 1 = nI (m + 1) from nI_1 m]
      refine ev_closeInner hk kk f (m + 1) w (by omega) (H.congr (fun p q hp => ⟨?_, rfl⟩)) hF0
      unfold wam
      by_cases q1 : p < m
      · rw [if_pos q1, if_pos (by omega)]
      · rw [if_neg q1]
        by_cases q2 : p = m
        · rw [if_pos (by omega), q2]
          show (wa E k m q || (wa E k m k && wa E k k q)) = _
          rw [z]
          simp
        · rw [if_neg (by omega)]
    · have z : wa E k m k = true := by
        rw [← e0 k (by omega)]
        exact Decidable.not_not.mp (fun h => z (jb_0.mpr h))
      repeat (first | refine mi_s1 (fun _ => rfl) ?_ | refine mi_wgf rfl (by assumption) rfl ?_ | refine mi_wal rfl (by assumption) rfl (by omega) (by decide) ?_)
      refine mi_wag rfl h1 rfl (by omega) (by decide) (fun w1 k1 hF1 => ?_)
      refine mi_s1 (fun _ => rfl) ?_; refine mi_s1 (fun _ => rfl) ?_
      rw [show nI m + nI 1 = nI (m + 1) from nI_1 m]
      refine ev_closeInner hk kk f (m + 1) w1 (by omega) ⟨hF1.get (by simp) h0, _, fs, k1, hF1.get (by simp) h2, fun p q hp hq => ?_⟩ (hF0.tr (mi_Fg.of1 hF1 (by omega) (by omega)))
      refine ⟨?_, (h3 p q hp hq).2⟩
      unfold upd wam
      by_cases q2 : p = m
      · rw [if_pos q2, if_pos (by omega), b_or, e0 q hq, e1 q hq, q2]
        show _ = (wa E k m q || (wa E k m k && wa E k k q))
        rw [z, Bool.true_and]
      · rw [if_neg q2, (h3 p q hp hq).1]
        unfold wam
        by_cases q1 : p < m
        · rw [if_pos q1, if_pos (by omega)]
        · rw [if_neg q1, if_neg (by omega)]
theorem ev_closeEdges_loop {w0 : mi_H} {E S : Nat → Nat → Bool} : ∀ f k (w : mi_H) (z : Option Value), k + f = 8 → Gr w (wa E k) S → mi_Fg w0 w 28 30 → mi_wp X mi_P 1 m_Gr_closeEdges (2, [some (.ref 27), some (.int (nI k)), z], [], w) (fun r w1 => r = none ∧ Gr w1 (wa E 8) S ∧ mi_Fg w0 w1 28 30)
  | 0, k, w, z, hk, H, hF0 => by
    have hk : k = 8 := by omega
    subst hk
    repeat (first | refine mi_s1 (fun _ => rfl) ?_ | refine mi_wgf rfl (by assumption) rfl ?_ | refine mi_wal rfl (by assumption) rfl (by omega) (by decide) ?_)
    refine mi_r1 (fun _ => rfl) ?_
    exact ⟨rfl, H, hF0⟩
  | f + 1, k, w, z, hk, H, hF0 => by
    repeat (first | refine mi_s1 (fun _ => rfl) ?_ | refine mi_wgf rfl (by assumption) rfl ?_ | refine mi_wal rfl (by assumption) rfl (by omega) (by decide) ?_)
    refine mi_wif (fun z => absurd z (nI_ge (a := k) (b := 8) (by omega) (by omega))) (fun _ => ?_)
    refine mi_s1 (fun _ => rfl) ?_; refine mi_s1 (fun _ => rfl) ?_
    refine ev_closeInner (E := E) (S := S) (w0 := w0) (by omega) (fun w1 H1 hF1 => ?_) 8 0 w rfl (H.congr (fun p q hp => ⟨?_, rfl⟩)) hF0
    · refine mi_s1 (fun _ => rfl) ?_; refine mi_s1 (fun _ => rfl) ?_
      rw [show nI k + nI 1 = nI (k + 1) from nI_1 k]
      exact ev_closeEdges_loop f (k + 1) w1 _ (by omega) H1 hF1
    · unfold wam
      rw [if_neg (Nat.not_lt_zero p)]
theorem ev_closeEdges {w : mi_H} {E S : Nat → Nat → Bool} (H : Gr w E S) : mi_Ex X 2 k_Gr_closeEdges [.ref 27] w (fun r w1 => r = none ∧ Gr w1 (wa E 8) S ∧ mi_Fg w w1 28 30) := by
  refine mi_Ex.of (M := m_Gr_closeEdges) rfl (Nat.le_of_ble_eq_true rfl) ?_
  refine mi_s1 (fun _ => rfl) ?_; refine mi_s1 (fun _ => rfl) ?_
  exact ev_closeEdges_loop (E := E) 8 0 w _ rfl H mi_Fg.rf
/-- a special edge from p to q, and a way back -/
def cyc (W S : Nat → Nat → Bool) : Bool := (List.range 8).any (fun p => (List.range 8).any (fun q => S p q && W q p))
theorem ev_cycInner {w : mi_H} {W S : Nat → Nat → Bool} (H : Gr w W S) {p : Nat} (hp : p < 8) {Q : Option Value → mi_H → Prop} (kt0 : (List.range 8).any (fun q => S p q && W q p) = true → Q (some (.int (nI 1))) w) (kf : (List.range 8).any (fun q => S p q && W q p) = false → mi_wp X mi_P 1 m_Gr_hasSpecialCycle (54, [some (.ref 27), some (.int (nI p)), some (.int (nI 8))], [], w) Q) : ∀ f m, m + f = 8 → (∀ q, q < m → (S p q && W q p) = false) → mi_wp X mi_P 1 m_Gr_hasSpecialCycle (14, [some (.ref 27), some (.int (nI p)), some (.int (nI m))], [], w) Q
  | 0, m, hm, hn => by
    have hm : m = 8 := by omega
    subst hm
    refine mi_s1 (fun _ => rfl) ?_; refine mi_s1 (fun _ => rfl) ?_; refine mi_s1 (fun _ => rfl) ?_
    refine kf ?_
    rw [List.any_eq_false]
    intro q hq
    rw [hn q (List.mem_range.mp hq)]
    decide
  | f + 1, m, hm, hn => by
    obtain ⟨h0, fe, fs, h1, h2, h3⟩ := id H
    have no : (S p m && W m p) = false → mi_wp X mi_P 1 m_Gr_hasSpecialCycle (48, [some (.ref 27), some (.int (nI p)), some (.int (nI m))], [], w) Q := by
      intro hz
      refine mi_s1 (fun _ => rfl) ?_; refine mi_s1 (fun _ => rfl) ?_
      rw [show nI m + nI 1 = nI (m + 1) from nI_1 m]
      refine ev_cycInner H hp kt0 kf f (m + 1) (by omega) (fun q hq => ?_)
      by_cases z : q = m
      · rw [z]
        exact hz
      · exact hn q (by omega)
    repeat (first | refine mi_s1 (fun _ => rfl) ?_ | refine mi_wgf rfl (by assumption) rfl ?_ | refine mi_wal rfl (by assumption) rfl (by omega) (by decide) ?_)
    refine mi_wif (fun z => absurd z (nI_ge (a := m) (b := 8) (by omega) (by omega))) (fun _ => ?_)
    repeat (first | refine mi_s1 (fun _ => rfl) ?_ | refine mi_wgf rfl (by assumption) rfl ?_ | refine mi_wal rfl (by assumption) rfl (by omega) (by decide) ?_)
    refine mi_wcs rfl (Nat.le_of_ble_eq_true rfl) ⟨Nat.le_of_ble_eq_true rfl, Nat.le_of_ble_eq_true rfl⟩ (ev_isIn (fs p) (n := m) (by omega)) ?_
    repeat (first | refine mi_s1 (fun _ => rfl) ?_ | refine mi_wgf rfl (by assumption) rfl ?_ | refine mi_wal rfl (by assumption) rfl (by omega) (by decide) ?_)
    refine mi_wif (fun z => ?_) (fun z => ?_)
    · refine no ?_
      have : S p m = false := by
        rw [← (h3 p m hp (by omega)).2]
        simpa using jb_0.mp z
      rw [this, Bool.false_and]
    · have z : S p m = true := by
        rw [← (h3 p m hp (by omega)).2]
        exact Decidable.not_not.mp (fun h => z (jb_0.mpr h))
      repeat (first | refine mi_s1 (fun _ => rfl) ?_ | refine mi_wgf rfl (by assumption) rfl ?_ | refine mi_wal rfl (by assumption) rfl (by omega) (by decide) ?_)
      refine mi_wcs rfl (Nat.le_of_ble_eq_true rfl) ⟨Nat.le_of_ble_eq_true rfl, Nat.le_of_ble_eq_true rfl⟩ (ev_isIn (fe m) (n := p) (by omega)) ?_
      repeat (first | refine mi_s1 (fun _ => rfl) ?_ | refine mi_wgf rfl (by assumption) rfl ?_ | refine mi_wal rfl (by assumption) rfl (by omega) (by decide) ?_)
      refine mi_wif (fun z2 => ?_) (fun z2 => ?_)
      · refine no ?_
        have : W m p = false := by
          rw [← (h3 m p (by omega) (by omega)).1]
          simpa using jb_0.mp z2
        rw [this, Bool.and_false]
      · have z2 : W m p = true := by
          rw [← (h3 m p (by omega) (by omega)).1]
          exact Decidable.not_not.mp (fun h => z2 (jb_0.mpr h))
        repeat (first | refine mi_s1 (fun _ => rfl) ?_ | refine mi_wgf rfl (by assumption) rfl ?_ | refine mi_wal rfl (by assumption) rfl (by omega) (by decide) ?_)
        refine mi_wrz rfl rfl rfl ?_
        refine kt0 ?_
        rw [List.any_eq_true]
        exact ⟨m, List.mem_range.mpr (by omega), by rw [z, z2]; rfl⟩
theorem ev_cyc_loop {w : mi_H} {W S : Nat → Nat → Bool} (H : Gr w W S) : ∀ f p (z : Option Value), p + f = 8 → (∀ u, u < p → (List.range 8).any (fun q => S u q && W q u) = false) → mi_wp X mi_P 1 m_Gr_hasSpecialCycle (6, [some (.ref 27), some (.int (nI p)), z], [], w) (fun r w1 => r = some (.int (jb (cyc W S = true))) ∧ w1 = w)
  | 0, p, z, hp, hn => by
    have hp : p = 8 := by omega
    subst hp
    repeat (first | refine mi_s1 (fun _ => rfl) ?_ | refine mi_wgf rfl (by assumption) rfl ?_ | refine mi_wal rfl (by assumption) rfl (by omega) (by decide) ?_)
    refine mi_wrz rfl rfl rfl ?_
    refine jb_f ?_
    intro h
    unfold cyc at h
    rw [List.any_eq_true] at h
    obtain ⟨u, h1, h2⟩ := h
    rw [hn u (List.mem_range.mp h1)] at h2
    cases h2
  | f + 1, p, z, hp, hn => by
    repeat (first | refine mi_s1 (fun _ => rfl) ?_ | refine mi_wgf rfl (by assumption) rfl ?_ | refine mi_wal rfl (by assumption) rfl (by omega) (by decide) ?_)
    refine mi_wif (fun z => absurd z (nI_ge (a := p) (b := 8) (by omega) (by omega))) (fun _ => ?_)
    refine mi_s1 (fun _ => rfl) ?_; refine mi_s1 (fun _ => rfl) ?_
    by_cases hc : (List.range 8).any (fun q => S p q && W q p) = true
    · have hcy : cyc W S = true := by
        unfold cyc
        rw [List.any_eq_true]
        exact ⟨p, List.mem_range.mpr (by omega), hc⟩
      exact ev_cycInner H (by omega) (fun _ => jb_t hcy) (fun q => by rw [hc] at q; cases q) 8 0 rfl (fun q hq => absurd hq (Nat.not_lt_zero q))
    · have hc : (List.range 8).any (fun q => S p q && W q p) = false := by simpa using hc
      refine ev_cycInner H (by omega) (fun q => by rw [hc] at q; cases q) (fun _ => ?_) 8 0 rfl (fun q hq => absurd hq (Nat.not_lt_zero q))
      refine mi_s1 (fun _ => rfl) ?_; refine mi_s1 (fun _ => rfl) ?_
      rw [show nI p + nI 1 = nI (p + 1) from nI_1 p]
      refine ev_cyc_loop H f (p + 1) _ (by omega) (fun u hu => ?_)
      by_cases q : u = p
      · rw [q]
        exact hc
      · exact hn u (by omega)
theorem ev_hasSpecialCycle {w : mi_H} {E S : Nat → Nat → Bool} (H : Gr w E S) : mi_Ex X 3 k_Gr_hasSpecialCycle [.ref 27] w (fun r w1 => r = some (.int (jb (cyc (wa E 8) S = true))) ∧ Gr w1 (wa E 8) S ∧ mi_Fg w w1 28 30) := by
  obtain ⟨h0, -⟩ := id H
  obtain ⟨r1, w1, he, rfl, H1, hF1⟩ := ev_closeEdges (X := X) H
  refine mi_Ex.of (M := m_Gr_hasSpecialCycle) rfl (Nat.le_of_ble_eq_true rfl) ?_
  repeat (first | refine mi_s1 (fun _ => rfl) ?_ | refine mi_wgf rfl (by assumption) rfl ?_ | refine mi_wal rfl (by assumption) rfl (by omega) (by decide) ?_)
  refine mi_wcv rfl rfl (Nat.le_of_ble_eq_true rfl) h0 rfl (he) ?_
  refine mi_s1 (fun _ => rfl) ?_; refine mi_s1 (fun _ => rfl) ?_
  refine mi_wp.imp (mi_wp_up (ev_cyc_loop (X := X) H1 8 0 none rfl (fun u hu => absurd hu (Nat.not_lt_zero u))) (by decide : 1 ≤ 2)) (fun r w2 h => ?_)
  obtain ⟨h2, rfl⟩ := h
  exact ⟨h2, H1, hF1⟩
end Cycle
