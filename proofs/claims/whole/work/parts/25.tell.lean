/-! class Folding: the search for a map -/
abbrev sp_O : Type := Bool × (Nat → Nat) × Nat × Bool
def updN (mp : Nat → Nat) (v x : Nat) : Nat → Nat := fun u => if u = v then x else mp u
/-- the values of one null, the least first -/
def tlp (F : Nat → Nat → Nat → Bool) (oc : Nat → Bool) (v : Nat) (nx : (Nat → Nat) → Nat → Bool → sp_O) : Nat → Nat → (Nat → Nat) → Nat → Bool → sp_O
  | 0, _, mp, tl, gu => (false, mp, tl, gu)
  | f + 1, x, mp, tl, gu => if oc x = false then tlp F oc v nx f (x + 1) mp tl gu
    else if 10000 ≤ tl then (false, mp, tl, true)
    else if kpS F (updN mp v x) v 6 = true then
      (if (nx (updN mp v x) (tl + 1) gu).1 = true then nx (updN mp v x) (tl + 1) gu
       else tlp F oc v nx f (x + 1) (nx (updN mp v x) (tl + 1) gu).2.1 (nx (updN mp v x) (tl + 1) gu).2.2.1 (nx (updN mp v x) (tl + 1) gu).2.2.2)
    else tlp F oc v nx f (x + 1) (updN mp v x) (tl + 1) gu
def tf (F : Nat → Nat → Nat → Bool) (oc : Nat → Bool) : Nat → Nat → (Nat → Nat) → Nat → Bool → sp_O
  | 0, _, mp, tl, gu => (lsN mp oc, mp, tl, gu)
  | n + 1, v, mp, tl, gu => if oc v = false then tf F oc n (v + 1) mp tl gu else tlp F oc v (tf F oc n (v + 1)) 24 0 mp tl gu
section Tell
variable {X : mi_X}
theorem Fo.tell {w : mi_H} {mp : Nat → Nat} {ma : Nat → Int32} {v x : Nat} (h2 : ∀ u, u < 24 → ma u = nI (mp u) ∧ mp u < 24) (hx : x < 24) : ∀ u, u < 24 → upd ma v (nI x) u = nI (updN mp v x u) ∧ updN mp v x u < 24 := by
  intro u hu
  unfold upd updN
  by_cases q : u = v
  · rw [if_pos q, if_pos q]
    exact ⟨rfl, hx⟩
  · rw [if_neg q, if_neg q]
    exact h2 u hu
theorem ev_tellFrom {F : Nat → Nat → Nat → Bool} {oc : Nat → Bool} : ∀ n v (mp : Nat → Nat) tl gu (w : mi_H), v + n = 24 → 16 ≤ v → tl ≤ 10000 → St w F → Fo w mp oc tl gu → mi_Ex X (4 + n) k_Fo_tellFrom [.ref 25, .int (nI v)] w (fun r w1 => r = some (.int (jb ((tf F oc n v mp tl gu).1 = true))) ∧ Fo w1 (tf F oc n v mp tl gu).2.1 oc (tf F oc n v mp tl gu).2.2.1 (tf F oc n v mp tl gu).2.2.2 ∧ (tf F oc n v mp tl gu).2.2.1 ≤ 10000 ∧ mi_Fg w w1 25 27) := by
  intro n
  induction n with
  | zero =>
    intro v mp tl gu w hv h16 htl HS H
    have hv : v = 24 := by omega
    subst hv
    obtain ⟨ma, x, h0, -⟩ := id H
    refine mi_Ex.of (M := m_Fo_tellFrom) rfl (Nat.le_of_ble_eq_true rfl) ?_
    repeat (first | refine mi_s1 (fun _ => rfl) ?_ | refine mi_wgf rfl (by assumption) rfl ?_ | refine mi_wal rfl (by assumption) rfl (by omega) (by decide) ?_)
    refine mi_wcv rfl rfl (Nat.le_of_ble_eq_true rfl) h0 rfl (ev_losesNull H) ?_
    refine mi_wrz rfl rfl (jb_fit _) ?_
    exact ⟨rfl, H, htl, mi_Fg.rf⟩
  | succ n ih =>
    intro v mp tl gu w hv h16 htl HS H
    obtain ⟨ma, xo, h0, h1, h2, h3⟩ := id H
    show mi_Ex X ((4 + n) + 1) k_Fo_tellFrom _ w _
    refine mi_Ex.of (M := m_Fo_tellFrom) rfl (Nat.le_of_ble_eq_true rfl) ?_
    repeat (first | refine mi_s1 (fun _ => rfl) ?_ | refine mi_wgf rfl (by assumption) rfl ?_ | refine mi_wal rfl (by assumption) rfl (by omega) (by decide) ?_)
    refine mi_wif (fun _ => ?_) (fun z => absurd (nI_lt (a := v) (b := 24) (by omega) (by omega)) z)
    repeat (first | refine mi_s1 (fun _ => rfl) ?_ | refine mi_wgf rfl (by assumption) rfl ?_ | refine mi_wal rfl (by assumption) rfl (by omega) (by decide) ?_)
    refine mi_wcs rfl (Nat.le_of_ble_eq_true rfl) ⟨Nat.le_of_ble_eq_true rfl, Nat.le_of_ble_eq_true rfl⟩ ((ev_isIn xo (n := v) (by omega)).up (by omega)) ?_
    repeat (first | refine mi_s1 (fun _ => rfl) ?_ | refine mi_wgf rfl (by assumption) rfl ?_ | refine mi_wal rfl (by assumption) rfl (by omega) (by decide) ?_)
    refine mi_wif (fun z => ?_) (fun z => ?_)
    · have z : oc v = false := by
        rw [← h3 v (by omega)]
        simpa using jb_0.mp z
      have e : tf F oc (n + 1) v mp tl gu = tf F oc n (v + 1) mp tl gu := if_pos z
      rw [e]
      obtain ⟨r1, w1, he, rfl, H1, hl1, hF1⟩ := ih (v + 1) mp tl gu w (by omega) (by omega) htl HS H
      repeat (first | refine mi_s1 (fun _ => rfl) ?_ | refine mi_wgf rfl (by assumption) rfl ?_ | refine mi_wal rfl (by assumption) rfl (by omega) (by decide) ?_)
      rw [show nI v + nI 1 = nI (v + 1) from nI_1 v]
      refine mi_wcv rfl rfl (Nat.le_of_ble_eq_true rfl) h0 rfl (he) ?_
      refine mi_wrz rfl rfl (jb_fit _) ?_
      exact ⟨rfl, H1, hl1, hF1⟩
    · have z : oc v = true := by
        rw [← h3 v (by omega)]
        exact Decidable.not_not.mp (fun h => z (jb_0.mpr h))
      have e : tf F oc (n + 1) v mp tl gu = tlp F oc v (tf F oc n (v + 1)) 24 0 mp tl gu := if_neg (by rw [z]; decide)
      rw [e]
      refine mi_s1 (fun _ => rfl) ?_; refine mi_s1 (fun _ => rfl) ?_
      have loop : ∀ f x (mp : Nat → Nat) (tl : Nat) (gu : Bool) (w1 : mi_H), x + f = 24 → tl ≤ 10000 → Fo w1 mp oc tl gu → mi_Fg w w1 25 27 → mi_wp X mi_P (4 + n) m_Fo_tellFrom (32, [some (.ref 25), some (.int (nI v)), some (.int (nI x))], [], w1) (fun r w2 => r = some (.int (jb ((tlp F oc v (tf F oc n (v + 1)) f x mp tl gu).1 = true))) ∧ Fo w2 (tlp F oc v (tf F oc n (v + 1)) f x mp tl gu).2.1 oc (tlp F oc v (tf F oc n (v + 1)) f x mp tl gu).2.2.1 (tlp F oc v (tf F oc n (v + 1)) f x mp tl gu).2.2.2 ∧ (tlp F oc v (tf F oc n (v + 1)) f x mp tl gu).2.2.1 ≤ 10000 ∧ mi_Fg w w2 25 27) := by
        intro f
        induction f with
        | zero =>
          intro x mp tl gu w1 hx htl H1 hF1
          have hx : x = 24 := by omega
          subst hx
          repeat (first | refine mi_s1 (fun _ => rfl) ?_ | refine mi_wgf rfl (by assumption) rfl ?_ | refine mi_wal rfl (by assumption) rfl (by omega) (by decide) ?_)
          refine mi_wrz rfl rfl rfl ?_
          exact ⟨rfl, H1, htl, hF1⟩
        | succ f ihf =>
          intro x mp tl gu w1 hx htl H1 hF1
          obtain ⟨ma, xo, h0, h1, h2, h3⟩ := id H1
          have HS1 : St w1 F := HS.g hF1 (by omega)
          have hFr : mi_Fr w1 w1 [25, 26] := mi_Fr.rf
          repeat (first | refine mi_s1 (fun _ => rfl) ?_ | refine mi_wgf rfl (by assumption) rfl ?_ | refine mi_wal rfl (by assumption) rfl (by omega) (by decide) ?_)
          refine mi_wif (fun z => absurd z (nI_ge (a := x) (b := 24) (by omega) (by omega))) (fun _ => ?_)
          repeat (first | refine mi_s1 (fun _ => rfl) ?_ | refine mi_wgf rfl (by assumption) rfl ?_ | refine mi_wal rfl (by assumption) rfl (by omega) (by decide) ?_)
          refine mi_wcs rfl (Nat.le_of_ble_eq_true rfl) ⟨Nat.le_of_ble_eq_true rfl, Nat.le_of_ble_eq_true rfl⟩ ((ev_isIn xo (n := x) (by omega)).up (by omega)) ?_
          repeat (first | refine mi_s1 (fun _ => rfl) ?_ | refine mi_wgf rfl (by assumption) rfl ?_ | refine mi_wal rfl (by assumption) rfl (by omega) (by decide) ?_)
          refine mi_wif (fun z1 => ?_) (fun z1 => ?_)
          · have z1 : oc x = false := by
              rw [← h3 x (by omega)]
              simpa using jb_0.mp z1
            have e : tlp F oc v (tf F oc n (v + 1)) (f + 1) x mp tl gu = tlp F oc v (tf F oc n (v + 1)) f (x + 1) mp tl gu := if_pos z1
            rw [e]
            refine mi_s1 (fun _ => rfl) ?_; refine mi_s1 (fun _ => rfl) ?_; refine mi_s1 (fun _ => rfl) ?_
            rw [show nI x + nI 1 = nI (x + 1) from nI_1 x]
            exact ihf (x + 1) mp tl gu w1 (by omega) htl H1 hF1
          · have z1 : ¬ oc x = false := by
              rw [← h3 x (by omega)]
              intro q
              exact z1 (jb_0.mpr (by rw [q]; decide))
            repeat (first | refine mi_s1 (fun _ => rfl) ?_ | refine mi_wgf rfl (by assumption) rfl ?_ | refine mi_wal rfl (by assumption) rfl (by omega) (by decide) ?_)
            refine mi_wif (fun z2 => ?_) (fun z2 => ?_)
            · have z2 : tl < 10000 := (nI_ltI (by omega) (by decide)).mp z2
              have e : tlp F oc v (tf F oc n (v + 1)) (f + 1) x mp tl gu = if kpS F (updN mp v x) v 6 = true then
                (if (tf F oc n (v + 1) (updN mp v x) (tl + 1) gu).1 = true then tf F oc n (v + 1) (updN mp v x) (tl + 1) gu
                 else tlp F oc v (tf F oc n (v + 1)) f (x + 1) (tf F oc n (v + 1) (updN mp v x) (tl + 1) gu).2.1 (tf F oc n (v + 1) (updN mp v x) (tl + 1) gu).2.2.1 (tf F oc n (v + 1) (updN mp v x) (tl + 1) gu).2.2.2)
                else tlp F oc v (tf F oc n (v + 1)) f (x + 1) (updN mp v x) (tl + 1) gu := (if_neg z1).trans (if_neg (by omega))
              rw [e]
              repeat (first | refine mi_s1 (fun _ => rfl) ?_ | refine mi_wgf rfl (by assumption) rfl ?_ | refine mi_wal rfl (by assumption) rfl (by omega) (by decide) ?_)
              refine mi_wpg rfl h0 (Nat.le_of_ble_eq_true rfl) rfl (fun w h0 hF => ?_)
              dsimp only [List.set] at h0
              have h1 := hF.get (by simp only [List.mem_cons, List.not_mem_nil, or_false]; omega) h1
              have hFr := hFr.tr (hF.mono (by simp))
              repeat (first | refine mi_s1 (fun _ => rfl) ?_ | refine mi_wgf rfl (by assumption) rfl ?_ | refine mi_wal rfl (by assumption) rfl (by omega) (by decide) ?_)
              refine mi_wag rfl h1 rfl (by omega) (by decide) (fun w h1 hF => ?_)
              have h0 := hF.get (by simp only [List.mem_cons, List.not_mem_nil, or_false]; omega) h0
              have hFr := hFr.tr (hF.mono (by simp))
              rw [nI_add] at h0
              have H2 : Fo w (updN mp v x) oc (tl + 1) gu := ⟨_, _, h0, h1, Fo.tell (w := w) h2 (by omega), h3⟩
              have hG2 : mi_Fg w1 w 25 27 := mi_Fg.of hFr (fun o ho => by
                simp only [List.mem_cons, List.not_mem_nil, or_false] at ho
                omega)
              have HS2 : St w F := HS1.g hG2 (by omega)
              repeat (first | refine mi_s1 (fun _ => rfl) ?_ | refine mi_wgf rfl (by assumption) rfl ?_ | refine mi_wal rfl (by assumption) rfl (by omega) (by decide) ?_)
              refine mi_wcv rfl rfl (Nat.le_of_ble_eq_true rfl) h0 rfl ((ev_keepsSoFar HS2 H2 (by omega)).up (by omega)) ?_
              repeat (first | refine mi_s1 (fun _ => rfl) ?_ | refine mi_wgf rfl (by assumption) rfl ?_ | refine mi_wal rfl (by assumption) rfl (by omega) (by decide) ?_)
              refine mi_wif (fun z3 => ?_) (fun z3 => ?_)
              · rw [if_neg (jb_0.mp z3)]
                refine mi_s1 (fun _ => rfl) ?_; refine mi_s1 (fun _ => rfl) ?_
                rw [show nI x + nI 1 = nI (x + 1) from nI_1 x]
                exact ihf (x + 1) _ (tl + 1) gu w (by omega) (by omega) H2 (hF1.tr hG2)
              · rw [if_pos (Decidable.not_not.mp (fun h => z3 (jb_0.mpr h)))]
                obtain ⟨r3, w3, he3, rfl, H3, hl3, hF3⟩ := ih (v + 1) (updN mp v x) (tl + 1) gu w (by omega) (by omega) (by omega) HS2 H2
                repeat (first | refine mi_s1 (fun _ => rfl) ?_ | refine mi_wgf rfl (by assumption) rfl ?_ | refine mi_wal rfl (by assumption) rfl (by omega) (by decide) ?_)
                rw [show nI v + nI 1 = nI (v + 1) from nI_1 v]
                refine mi_wcv rfl rfl (Nat.le_of_ble_eq_true rfl) h0 rfl (he3) ?_
                repeat (first | refine mi_s1 (fun _ => rfl) ?_ | refine mi_wgf rfl (by assumption) rfl ?_ | refine mi_wal rfl (by assumption) rfl (by omega) (by decide) ?_)
                refine mi_wif (fun z4 => ?_) (fun z4 => ?_)
                · rw [if_neg (jb_0.mp z4)]
                  refine mi_s1 (fun _ => rfl) ?_; refine mi_s1 (fun _ => rfl) ?_
                  rw [show nI x + nI 1 = nI (x + 1) from nI_1 x]
                  exact ihf (x + 1) _ _ _ w3 (by omega) hl3 H3 ((hF1.tr hG2).tr hF3)
                · have z4 := Decidable.not_not.mp (fun h => z4 (jb_0.mpr h))
                  rw [if_pos z4]
                  repeat (first | refine mi_s1 (fun _ => rfl) ?_ | refine mi_wgf rfl (by assumption) rfl ?_ | refine mi_wal rfl (by assumption) rfl (by omega) (by decide) ?_)
                  refine mi_wrz rfl rfl rfl ?_
                  exact ⟨by rw [z4]; rfl, H3, hl3, (hF1.tr hG2).tr hF3⟩
            · have z2 : 10000 ≤ tl := by
                rcases Nat.lt_or_ge tl 10000 with q | q
                · exact absurd (nI_lt q (by decide)) z2
                · exact q
              have e : tlp F oc v (tf F oc n (v + 1)) (f + 1) x mp tl gu = (false, mp, tl, true) := (if_neg z1).trans (if_pos z2)
              rw [e]
              repeat (first | refine mi_s1 (fun _ => rfl) ?_ | refine mi_wgf rfl (by assumption) rfl ?_ | refine mi_wal rfl (by assumption) rfl (by omega) (by decide) ?_)
              refine mi_wpg rfl h0 (Nat.le_of_ble_eq_true rfl) rfl (fun w h0 hF => ?_)
              dsimp only [List.set] at h0
              have h1 := hF.get (by simp only [List.mem_cons, List.not_mem_nil, or_false]; omega) h1
              have hFr := hFr.tr (hF.mono (by simp))
              repeat (first | refine mi_s1 (fun _ => rfl) ?_ | refine mi_wgf rfl (by assumption) rfl ?_ | refine mi_wal rfl (by assumption) rfl (by omega) (by decide) ?_)
              refine mi_wrz rfl rfl rfl ?_
              refine ⟨rfl, ⟨ma, xo, h0, h1, h2, h3⟩, htl, hF1.tr (mi_Fg.of hFr (fun o ho => ?_))⟩
              simp only [List.mem_cons, List.not_mem_nil, or_false] at ho
              omega
      exact loop 24 0 mp tl gu w rfl htl H mi_Fg.rf
theorem ev_findMap_loop {w0 : mi_H} {F : Nat → Nat → Nat → Bool} {fs : List Value} (hfs : fs[1]? = some (.ref 26)) {Q : Option Value → mi_H → Prop} (kk : ∀ (w1 : mi_H) (ma : Nat → Int32), w1[25]? = some (.inr (4, fs)) → w1[26]? = some (.inl (0, 24, .inl ma)) → (∀ u, u < 24 → ma u = nI u) → mi_Fg w0 w1 25 27 → mi_wp X mi_P 12 m_Fo_findMap (21, [some (.ref 25), some (.int (nI 24))], [], w1) Q) : ∀ f m (w : mi_H) (ma : Nat → Int32), m + f = 24 → w[25]? = some (.inr (4, fs)) → w[26]? = some (.inl (0, 24, .inl ma)) → (∀ u, u < m → ma u = nI u) → mi_Fg w0 w 25 27 → mi_wp X mi_P 12 m_Fo_findMap (2, [some (.ref 25), some (.int (nI m))], [], w) Q
  | 0, m, w, ma, hm, h0, h1, hz, hF0 => by
    have hm : m = 24 := by omega
    subst hm
    refine mi_s1 (fun _ => rfl) ?_; refine mi_s1 (fun _ => rfl) ?_; refine mi_s1 (fun _ => rfl) ?_
    exact kk w ma h0 h1 hz hF0
  | f + 1, m, w, ma, hm, h0, h1, hz, hF0 => by
    repeat (first | refine mi_s1 (fun _ => rfl) ?_ | refine mi_wgf rfl (by assumption) rfl ?_ | refine mi_wal rfl (by assumption) rfl (by omega) (by decide) ?_)
    refine mi_wif (fun z => absurd z (nI_ge (a := m) (b := 24) (by omega) (by omega))) (fun _ => ?_)
    refine mi_s1 (fun _ => rfl) ?_
    refine mi_wgf rfl h0 hfs ?_
    repeat (first | refine mi_s1 (fun _ => rfl) ?_ | refine mi_wgf rfl (by assumption) rfl ?_ | refine mi_wal rfl (by assumption) rfl (by omega) (by decide) ?_)
    refine mi_wag rfl h1 rfl (by omega) (by decide) (fun w1 k1 hF1 => ?_)
    refine mi_s1 (fun _ => rfl) ?_; refine mi_s1 (fun _ => rfl) ?_
    rw [show nI m + nI 1 = nI (m + 1) from nI_1 m]
    refine ev_findMap_loop (F := F) hfs kk f (m + 1) w1 _ (by omega) (hF1.get (by simp) h0) k1 (fun u hu => ?_) (hF0.tr (mi_Fg.of1 hF1 (by omega) (by omega)))
    unfold upd
    by_cases q : u = m
    · rw [if_pos q, q]
    · rw [if_neg q]
      exact hz u (by omega)
theorem ev_findMap {w : mi_H} {F : Nat → Nat → Nat → Bool} {mp : Nat → Nat} {oc : Nat → Bool} {tl : Nat} {gu : Bool} (HS : St w F) (H : Fo w mp oc tl gu) : mi_Ex X 13 k_Fo_findMap [.ref 25] w (fun r w1 => r = some (.int (jb ((tf F (occ F 2 4) 8 16 (fun u => u) 0 false).1 = true))) ∧ Fo w1 (tf F (occ F 2 4) 8 16 (fun u => u) 0 false).2.1 (occ F 2 4) (tf F (occ F 2 4) 8 16 (fun u => u) 0 false).2.2.1 (tf F (occ F 2 4) 8 16 (fun u => u) 0 false).2.2.2 ∧ mi_Fg w w1 25 27) := by
  obtain ⟨ma, xo, h0, h1, h2, h3⟩ := id H
  refine mi_Ex.of (M := m_Fo_findMap) rfl (Nat.le_of_ble_eq_true rfl) ?_
  refine mi_s1 (fun _ => rfl) ?_; refine mi_s1 (fun _ => rfl) ?_
  refine ev_findMap_loop (F := F) (w0 := w) rfl (fun w1 ma h0 h1 hz hF0 => ?_) 24 0 w ma rfl h0 h1 (fun u hu => absurd hu (Nat.not_lt_zero u)) mi_Fg.rf
  have HS1 : St w1 F := HS.g hF0 (by omega)
  obtain ⟨s1, -⟩ := id HS1
  obtain ⟨y, he, hy⟩ := ev_targetValues (X := X) HS1
  have hFr : mi_Fr w1 w1 [25] := mi_Fr.rf
  repeat (first | refine mi_s1 (fun _ => rfl) ?_ | refine mi_wgf rfl (by assumption) rfl ?_ | refine mi_wal rfl (by assumption) rfl (by omega) (by decide) ?_)
  refine mi_wcv rfl rfl (Nat.le_of_ble_eq_true rfl) s1 rfl (he.up (by decide)) ?_
  refine mi_wpg rfl h0 (Nat.le_of_ble_eq_true rfl) rfl (fun w h0 hF => ?_)
  dsimp only [List.set] at h0
  have h1 := hF.get (by simp only [List.mem_cons, List.not_mem_nil, or_false]; omega) h1
  have hFr := hFr.tr (hF.mono (by simp))
  repeat (first | refine mi_s1 (fun _ => rfl) ?_ | refine mi_wgf rfl (by assumption) rfl ?_ | refine mi_wal rfl (by assumption) rfl (by omega) (by decide) ?_)
  refine mi_wpg rfl h0 (Nat.le_of_ble_eq_true rfl) rfl (fun w h0 hF => ?_)
  dsimp only [List.set] at h0
  have h1 := hF.get (by simp only [List.mem_cons, List.not_mem_nil, or_false]; omega) h1
  have hFr := hFr.tr (hF.mono (by simp))
  repeat (first | refine mi_s1 (fun _ => rfl) ?_ | refine mi_wgf rfl (by assumption) rfl ?_ | refine mi_wal rfl (by assumption) rfl (by omega) (by decide) ?_)
  refine mi_wpg rfl h0 (Nat.le_of_ble_eq_true rfl) rfl (fun w h0 hF => ?_)
  dsimp only [List.set] at h0
  have h1 := hF.get (by simp only [List.mem_cons, List.not_mem_nil, or_false]; omega) h1
  have hFr := hFr.tr (hF.mono (by simp))
  have hG : mi_Fg w1 w 25 27 := mi_Fg.of1 hFr (by omega) (by omega)
  have H2 : Fo w (fun u => u) (occ F 2 4) 0 false := ⟨ma, y, h0, h1, fun u hu => ⟨hz u hu, hu⟩, hy⟩
  obtain ⟨r3, w3, he3, rfl, H3, hl3, hF3⟩ := ev_tellFrom (X := X) (F := F) 8 16 _ 0 false w rfl (by decide) (by decide) (HS1.g hG (by omega)) H2
  repeat (first | refine mi_s1 (fun _ => rfl) ?_ | refine mi_wgf rfl (by assumption) rfl ?_ | refine mi_wal rfl (by assumption) rfl (by omega) (by decide) ?_)
  refine mi_wcv rfl rfl (Nat.le_of_ble_eq_true rfl) h0 rfl (he3) ?_
  refine mi_wrz rfl rfl (jb_fit _) ?_
  exact ⟨rfl, H3, (hF0.tr hG).tr hF3⟩
end Tell
