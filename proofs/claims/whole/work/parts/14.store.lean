/-! class Store: six relations -/
/-- outside lo .. hi nothing changes -/
def mi_Fg (w w' : mi_H) (lo hi : Nat) : Prop := w'.length = w.length ∧ ∀ o, (o < lo ∨ hi ≤ o) → w'[o]? = w[o]?
theorem mi_Fg.rf {w : mi_H} {lo hi : Nat} : mi_Fg w w lo hi := ⟨rfl, fun _ _ => rfl⟩
theorem mi_Fg.tr {w w1 w2 : mi_H} {lo hi : Nat} (h1 : mi_Fg w w1 lo hi) (h2 : mi_Fg w1 w2 lo hi) : mi_Fg w w2 lo hi := ⟨h2.1.trans h1.1, fun o ho => (h2.2 o ho).trans (h1.2 o ho)⟩
theorem mi_Fg.wide {w w1 : mi_H} {lo hi lo' hi' : Nat} (h : mi_Fg w w1 lo hi) (h1 : lo' ≤ lo) (h2 : hi ≤ hi') : mi_Fg w w1 lo' hi' := ⟨h.1, fun o ho => h.2 o (by omega)⟩
theorem mi_Fg.get {w w1 : mi_H} {lo hi o : Nat} {e : va_E} (h : mi_Fg w w1 lo hi) (ho : o < lo ∨ hi ≤ o) (hw : w[o]? = some e) : w1[o]? = some e := (h.2 o ho).trans hw
theorem mi_Fg.of {w w1 : mi_H} {S : List Nat} {lo hi : Nat} (h : mi_Fr w w1 S) (hs : ∀ o ∈ S, lo ≤ o ∧ o < hi) : mi_Fg w w1 lo hi := ⟨h.1, fun o ho => h.2 o (fun q => by have := hs o q; omega)⟩
theorem mi_Fg.of3 {w w1 : mi_H} {h lo hi : Nat} (hF : mi_Fr w w1 [h, h + 1, h + 2]) (h1 : lo ≤ h) (h2 : h + 2 < hi) : mi_Fg w w1 lo hi := mi_Fg.of hF (fun o ho => by
  simp only [List.mem_cons, List.not_mem_nil, or_false] at ho
  omega)
theorem mi_Fg.of1 {w w1 : mi_H} {h lo hi : Nat} (hF : mi_Fr w w1 [h]) (h1 : lo ≤ h) (h2 : h < hi) : mi_Fg w w1 lo hi := mi_Fg.of hF (fun o ho => by
  simp only [List.mem_cons, List.not_mem_nil, or_false] at ho
  omega)
theorem Rl.at {w w1 : mi_H} {h : Nat} {F : Nat → Nat → Bool} (H : Rl w h F) (e : ∀ o, h ≤ o → o < h + 3 → w1[o]? = w[o]?) : Rl w1 h F := by
  obtain ⟨rows, cols, fi, se, du, ct, h0, h1, h2, hi⟩ := H
  exact ⟨rows, cols, fi, se, du, ct, by rw [e h (by omega) (by omega)]; exact h0, by rw [e (h + 1) (by omega) (by omega)]; exact h1, by rw [e (h + 2) (by omega) (by omega)]; exact h2, hi⟩
theorem Rl.g {w w1 : mi_H} {h lo hi : Nat} {F : Nat → Nat → Bool} (H : Rl w h F) (hF : mi_Fg w w1 lo hi) (ho : h + 3 ≤ lo ∨ hi ≤ h) : Rl w1 h F := H.at (fun o h1 h2 => hF.2 o (by omega))
def St (w : mi_H) (F : Nat → Nat → Nat → Bool) : Prop := w[1]? = some (.inr (1, [.ref 2, .ref 3, .ref 4])) ∧ (∃ g : Nat → Option Nat, w[2]? = some (.inl (2, 6, .inr (.inr (.inr (.inr g))))) ∧ ∀ i, i < 6 → g i = some (5 + 3 * i)) ∧ (∃ f, w[3]? = some (.inl (0, 24, .inl f))) ∧ (∃ f, w[4]? = some (.inl (0, 24, .inl f))) ∧ ∀ i, i < 6 → Rl w (5 + 3 * i) (F i)
theorem St.g {w w1 : mi_H} {F : Nat → Nat → Nat → Bool} {lo hi : Nat} (H : St w F) (hF : mi_Fg w w1 lo hi) (ho : 23 ≤ lo) : St w1 F := by
  obtain ⟨s1, ⟨g, s2, hg⟩, ⟨f3, s3⟩, ⟨f4, s4⟩, s5⟩ := H
  exact ⟨hF.get (by omega) s1, ⟨g, hF.get (by omega) s2, hg⟩, ⟨f3, hF.get (by omega) s3⟩, ⟨f4, hF.get (by omega) s4⟩, fun i hi => (s5 i hi).g hF (by omega)⟩
def updR (F : Nat → Nat → Nat → Bool) (i : Nat) (G : Nat → Nat → Bool) : Nat → Nat → Nat → Bool := fun j => if j = i then G else F j
/-- one relation has changed -/
theorem St.one {w w1 : mi_H} {F : Nat → Nat → Nat → Bool} {i : Nat} {G : Nat → Nat → Bool} (H : St w F) (hi : i < 6) (h1 : Rl w1 (5 + 3 * i) G) (hF : mi_Fr w w1 [5 + 3 * i, 5 + 3 * i + 1, 5 + 3 * i + 2]) : St w1 (updR F i G) := by
  obtain ⟨s1, ⟨g, s2, hg⟩, ⟨f3, s3⟩, ⟨f4, s4⟩, s5⟩ := H
  have hG := mi_Fg.of3 (lo := 5 + 3 * i) (hi := 5 + 3 * i + 3) hF (by omega) (by omega)
  refine ⟨hG.get (by omega) s1, ⟨g, hG.get (by omega) s2, hg⟩, ⟨f3, hG.get (by omega) s3⟩, ⟨f4, hG.get (by omega) s4⟩, fun j hj => ?_⟩
  unfold updR
  by_cases q : j = i
  · rw [if_pos q, q]
    exact h1
  · rw [if_neg q]
    exact (s5 j hj).g hG (by omega)
/-- how many facts the relations from m on have, below e -/
def cts (F : Nat → Nat → Nat → Bool) : Nat → Nat → Nat
  | _, 0 => 0
  | m, f + 1 => cnt (F m) + cts F (m + 1) f
theorem cnt_le (F : Nat → Nat → Bool) : cnt F ≤ 576 := by
  have : ∀ n, sm (fun a => cn (F a) 24) n ≤ 24 * n := by
    intro n
    induction n with
    | zero => exact Nat.le_refl 0
    | succ n ih =>
      have := cn_le (F n) 24
      unfold sm
      omega
  exact this 24
section Store
variable {X : mi_X} {w : mi_H}
theorem ev_sourceCount_loop {F : Nat → Nat → Nat → Bool} (H : St w F) : ∀ f m c, m + f = 2 → mi_wp X mi_P 0 m_St_sourceCount (4, [some (.ref 1), some (.int (nI c)), some (.int (nI m))], [], w) (fun r w1 => r = some (.int (nI (c + cts F m f))) ∧ w1 = w)
  | 0, m, c, hm => by
    have hm : m = 2 := by omega
    subst hm
    repeat (first | refine mi_s1 (fun _ => rfl) ?_ | refine mi_wgf rfl (by assumption) rfl ?_ | refine mi_wal rfl (by assumption) rfl (by omega) (by decide) ?_)
    refine mi_r1 (fun _ => rfl) ?_
    exact ⟨rfl, rfl⟩
  | f + 1, m, c, hm => by
    obtain ⟨s1, ⟨g, s2, hg⟩, -, -, s5⟩ := id H
    obtain ⟨rows, cols, fi, se, du, ct, h0, h1, h2, hi⟩ := s5 m (by omega)
    have hct := hi.2.2.2.2.2.2
    repeat (first | refine mi_s1 (fun _ => rfl) ?_ | refine mi_wgf rfl (by assumption) rfl ?_ | refine mi_wal rfl (by assumption) rfl (by omega) (by decide) ?_)
    refine mi_wif (fun q => absurd q (nI_ge (a := m) (b := 2) (by omega) (by omega))) (fun _ => ?_)
    repeat (first | refine mi_s1 (fun _ => rfl) ?_ | refine mi_wgf rfl (by assumption) rfl ?_ | refine mi_wal rfl (by assumption) rfl (by omega) (by decide) ?_)
    refine mi_waa rfl s2 ⟨by decide, by decide⟩ rfl (by omega) (by decide) ?_
    rw [hg m (by omega)]
    refine mi_wgf rfl h0 rfl ?_
    refine mi_s1 (fun _ => rfl) ?_; refine mi_s1 (fun _ => rfl) ?_; refine mi_s1 (fun _ => rfl) ?_; refine mi_s1 (fun _ => rfl) ?_
    rw [show nI m + nI 1 = nI (m + 1) from nI_1 m, nI_add]
    have e : c + cts F m (f + 1) = c + ct + cts F (m + 1) f := by
      show c + (cnt (F m) + cts F (m + 1) f) = _
      omega
    rw [e]
    exact ev_sourceCount_loop H f (m + 1) (c + ct) (by omega)
theorem ev_sourceCount {F : Nat → Nat → Nat → Bool} (H : St w F) : mi_Ev X mi_P 1 k_St_sourceCount [.ref 1] w (some (.int (nI (cts F 0 2)))) w := by
  refine mi_Ev.of (M := m_St_sourceCount) rfl (Nat.le_of_ble_eq_true rfl) ?_
  refine mi_s1 (fun _ => rfl) ?_; refine mi_s1 (fun _ => rfl) ?_; refine mi_s1 (fun _ => rfl) ?_; refine mi_s1 (fun _ => rfl) ?_
  have e := ev_sourceCount_loop (X := X) H 2 0 0 rfl
  rw [Nat.zero_add] at e
  exact e
theorem ev_targetCount_loop {F : Nat → Nat → Nat → Bool} (H : St w F) : ∀ f m c, m + f = 6 → mi_wp X mi_P 0 m_St_targetCount (4, [some (.ref 1), some (.int (nI c)), some (.int (nI m))], [], w) (fun r w1 => r = some (.int (nI (c + cts F m f))) ∧ w1 = w)
  | 0, m, c, hm => by
    have hm : m = 6 := by omega
    subst hm
    repeat (first | refine mi_s1 (fun _ => rfl) ?_ | refine mi_wgf rfl (by assumption) rfl ?_ | refine mi_wal rfl (by assumption) rfl (by omega) (by decide) ?_)
    refine mi_r1 (fun _ => rfl) ?_
    exact ⟨rfl, rfl⟩
  | f + 1, m, c, hm => by
    obtain ⟨s1, ⟨g, s2, hg⟩, -, -, s5⟩ := id H
    obtain ⟨rows, cols, fi, se, du, ct, h0, h1, h2, hi⟩ := s5 m (by omega)
    have hct := hi.2.2.2.2.2.2
    repeat (first | refine mi_s1 (fun _ => rfl) ?_ | refine mi_wgf rfl (by assumption) rfl ?_ | refine mi_wal rfl (by assumption) rfl (by omega) (by decide) ?_)
    refine mi_wif (fun q => absurd q (nI_ge (a := m) (b := 6) (by omega) (by omega))) (fun _ => ?_)
    repeat (first | refine mi_s1 (fun _ => rfl) ?_ | refine mi_wgf rfl (by assumption) rfl ?_ | refine mi_wal rfl (by assumption) rfl (by omega) (by decide) ?_)
    refine mi_waa rfl s2 ⟨by decide, by decide⟩ rfl (by omega) (by decide) ?_
    rw [hg m (by omega)]
    refine mi_wgf rfl h0 rfl ?_
    refine mi_s1 (fun _ => rfl) ?_; refine mi_s1 (fun _ => rfl) ?_; refine mi_s1 (fun _ => rfl) ?_; refine mi_s1 (fun _ => rfl) ?_
    rw [show nI m + nI 1 = nI (m + 1) from nI_1 m, nI_add]
    have e : c + cts F m (f + 1) = c + ct + cts F (m + 1) f := by
      show c + (cnt (F m) + cts F (m + 1) f) = _
      omega
    rw [e]
    exact ev_targetCount_loop H f (m + 1) (c + ct) (by omega)
theorem ev_targetCount {F : Nat → Nat → Nat → Bool} (H : St w F) : mi_Ev X mi_P 1 k_St_targetCount [.ref 1] w (some (.int (nI (cts F 2 4)))) w := by
  refine mi_Ev.of (M := m_St_targetCount) rfl (Nat.le_of_ble_eq_true rfl) ?_
  refine mi_s1 (fun _ => rfl) ?_; refine mi_s1 (fun _ => rfl) ?_; refine mi_s1 (fun _ => rfl) ?_; refine mi_s1 (fun _ => rfl) ?_
  have e := ev_targetCount_loop (X := X) H 4 2 0 rfl
  rw [Nat.zero_add] at e
  exact e
/-- the values that occur in relations from m on -/
def occ (F : Nat → Nat → Nat → Bool) : Nat → Nat → Nat → Bool
  | _, 0, _ => false
  | m, f + 1, v => (anyB (F m v) || anyB (fun a => F m a v)) || occ F (m + 1) f v
theorem ev_targetValues_loop {F : Nat → Nat → Nat → Bool} (H : St w F) : ∀ f m (x : Int32) (G : Nat → Bool), m + f = 6 → (∀ v, v < 32 → bt x v = G v) → mi_wp X mi_P 0 m_St_targetValues (4, [some (.ref 1), some (.int x), some (.int (nI m))], [], w) (fun r w1 => (∃ y : Int32, r = some (.int y) ∧ ∀ v, v < 32 → bt y v = (G v || occ F m f v)) ∧ w1 = w)
  | 0, m, x, G, hm, hx => by
    have hm : m = 6 := by omega
    subst hm
    repeat (first | refine mi_s1 (fun _ => rfl) ?_ | refine mi_wgf rfl (by assumption) rfl ?_ | refine mi_wal rfl (by assumption) rfl (by omega) (by decide) ?_)
    refine mi_r1 (fun _ => rfl) ?_
    exact ⟨⟨x, rfl, fun v hv => by rw [hx v hv]; simp [occ]⟩, rfl⟩
  | f + 1, m, x, G, hm, hx => by
    obtain ⟨s1, ⟨g, s2, hg⟩, -, -, s5⟩ := id H
    obtain ⟨rows, cols, fi, se, du, ct, h0, h1, h2, hi⟩ := s5 m (by omega)
    repeat (first | refine mi_s1 (fun _ => rfl) ?_ | refine mi_wgf rfl (by assumption) rfl ?_ | refine mi_wal rfl (by assumption) rfl (by omega) (by decide) ?_)
    refine mi_wif (fun q => absurd q (nI_ge (a := m) (b := 6) (by omega) (by omega))) (fun _ => ?_)
    repeat (first | refine mi_s1 (fun _ => rfl) ?_ | refine mi_wgf rfl (by assumption) rfl ?_ | refine mi_wal rfl (by assumption) rfl (by omega) (by decide) ?_)
    refine mi_waa rfl s2 ⟨by decide, by decide⟩ rfl (by omega) (by decide) ?_
    rw [hg m (by omega)]
    refine mi_wgf rfl h0 rfl ?_
    repeat (first | refine mi_s1 (fun _ => rfl) ?_ | refine mi_wgf rfl (by assumption) rfl ?_ | refine mi_wal rfl (by assumption) rfl (by omega) (by decide) ?_)
    refine mi_waa rfl s2 ⟨by decide, by decide⟩ rfl (by omega) (by decide) ?_
    rw [hg m (by omega)]
    refine mi_wgf rfl h0 rfl ?_
    refine mi_s1 (fun _ => rfl) ?_; refine mi_s1 (fun _ => rfl) ?_; refine mi_s1 (fun _ => rfl) ?_; refine mi_s1 (fun _ => rfl) ?_; refine mi_s1 (fun _ => rfl) ?_
    rw [show nI m + nI 1 = nI (m + 1) from nI_1 m]
    refine (ev_targetValues_loop H f (m + 1) _ (fun v => G v || (anyB (F m v) || anyB (fun a => F m a v))) (by omega) (fun v hv => ?_)).imp (fun r w1 h => ?_)
    · rw [b_or, b_or, hx v hv, hi.2.2.2.1 v hv, hi.2.2.2.2.1 v hv]
    · obtain ⟨⟨y, h1, h2⟩, h3⟩ := h
      refine ⟨⟨y, h1, fun v hv => ?_⟩, h3⟩
      rw [h2 v hv]
      show _ = (G v || ((anyB (F m v) || anyB (fun a => F m a v)) || occ F (m + 1) f v))
      simp [Bool.or_assoc]
theorem ev_targetValues {F : Nat → Nat → Nat → Bool} (H : St w F) : ∃ y : Int32, mi_Ev X mi_P 1 k_St_targetValues [.ref 1] w (some (.int y)) w ∧ ∀ v, v < 32 → bt y v = occ F 2 4 v := by
  have h : mi_Ex X 1 k_St_targetValues [.ref 1] w (fun r w1 => (∃ y : Int32, r = some (.int y) ∧ ∀ v, v < 32 → bt y v = (false || occ F 2 4 v)) ∧ w1 = w) := by
    refine mi_Ex.of (M := m_St_targetValues) rfl (Nat.le_of_ble_eq_true rfl) ?_
    refine mi_s1 (fun _ => rfl) ?_; refine mi_s1 (fun _ => rfl) ?_; refine mi_s1 (fun _ => rfl) ?_; refine mi_s1 (fun _ => rfl) ?_
    exact ev_targetValues_loop H 4 2 _ (fun _ => false) rfl (fun v hv => by rw [show nI 0 = 0 from nI_0, b_0])
  obtain ⟨r, w1, h1, ⟨y, rfl, h2⟩, rfl⟩ := h
  exact ⟨y, h1, fun v hv => by rw [h2 v hv, Bool.false_or]⟩
def clrF (F : Nat → Nat → Nat → Bool) (m : Nat) : Nat → Nat → Nat → Bool := fun i => if m ≤ i then fun _ _ => false else F i
theorem ev_clearTargets_loop {w0 : mi_H} : ∀ f m (w : mi_H) (F : Nat → Nat → Nat → Bool), m + f = 6 → 2 ≤ m → St w F → mi_Fg w0 w 11 23 → mi_wp X mi_P 1 m_St_clearTargets (2, [some (.ref 1), some (.int (nI m))], [], w) (fun r w1 => r = none ∧ St w1 (fun i => if m ≤ i ∧ i < 6 then fun _ _ => false else F i) ∧ mi_Fg w0 w1 11 23)
  | 0, m, w, F, hm, h2, H, hFr => by
    have hm : m = 6 := by omega
    subst hm
    repeat (first | refine mi_s1 (fun _ => rfl) ?_ | refine mi_wgf rfl (by assumption) rfl ?_ | refine mi_wal rfl (by assumption) rfl (by omega) (by decide) ?_)
    refine mi_r1 (fun _ => rfl) ?_
    refine ⟨rfl, ?_, hFr⟩
    have e : (fun i => if 6 ≤ i ∧ i < 6 then fun _ _ => false else F i) = F := by
      funext i
      rw [if_neg (by omega)]
    rw [e]
    exact H
  | f + 1, m, w, F, hm, h2, H, hFr => by
    obtain ⟨s1, ⟨g, s2, hg⟩, -, -, s5⟩ := id H
    obtain ⟨rows, cols, fi, se, du, ct, h0, -, -, -⟩ := s5 m (by omega)
    repeat (first | refine mi_s1 (fun _ => rfl) ?_ | refine mi_wgf rfl (by assumption) rfl ?_ | refine mi_wal rfl (by assumption) rfl (by omega) (by decide) ?_)
    refine mi_wif (fun q => absurd q (nI_ge (a := m) (b := 6) (by omega) (by omega))) (fun _ => ?_)
    repeat (first | refine mi_s1 (fun _ => rfl) ?_ | refine mi_wgf rfl (by assumption) rfl ?_ | refine mi_wal rfl (by assumption) rfl (by omega) (by decide) ?_)
    refine mi_waa rfl s2 ⟨by decide, by decide⟩ rfl (by omega) (by decide) ?_
    rw [hg m (by omega)]
    obtain ⟨r1, w1, he, rfl, H1, hF1⟩ := ev_clear (X := X) (s5 m (by omega))
    refine mi_wcv rfl rfl (Nat.le_of_ble_eq_true rfl) h0 rfl (he) ?_
    refine mi_s1 (fun _ => rfl) ?_; refine mi_s1 (fun _ => rfl) ?_
    rw [show nI m + nI 1 = nI (m + 1) from nI_1 m]
    refine (ev_clearTargets_loop f (m + 1) w1 _ (by omega) (by omega) (H.one (by omega) H1 hF1) (hFr.tr (mi_Fg.of3 hF1 (by omega) (by omega)))).imp (fun r w2 h => ?_)
    obtain ⟨k1, k2, k3⟩ := h
    refine ⟨k1, ?_, k3⟩
    have e : (fun i => if m + 1 ≤ i ∧ i < 6 then fun _ _ => false else updR F m (fun _ _ => false) i) = (fun i => if m ≤ i ∧ i < 6 then fun _ _ => false else F i) := by
      funext i
      unfold updR
      by_cases q : i = m
      · subst q
        rw [if_neg (by omega), if_pos rfl, if_pos (by omega)]
      · by_cases q2 : m + 1 ≤ i ∧ i < 6
        · rw [if_pos q2, if_pos (by omega)]
        · rw [if_neg q2, if_neg q, if_neg (by omega)]
    rw [← e]
    exact k2
theorem ev_clearTargets {F : Nat → Nat → Nat → Bool} (H : St w F) : mi_Ex X 2 k_St_clearTargets [.ref 1] w (fun r w1 => r = none ∧ St w1 (fun i => if 2 ≤ i ∧ i < 6 then fun _ _ => false else F i) ∧ mi_Fg w w1 11 23) := by
  refine mi_Ex.of (M := m_St_clearTargets) rfl (Nat.le_of_ble_eq_true rfl) ?_
  refine mi_s1 (fun _ => rfl) ?_; refine mi_s1 (fun _ => rfl) ?_
  exact ev_clearTargets_loop 4 2 w F rfl (by decide) H mi_Fg.rf
end Store
