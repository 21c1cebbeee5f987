/-! class Folding -/
/-- the image of a set: constants stay, nulls by mp -/
def img (mp : Nat → Nat) (g : Nat → Bool) (n y : Nat) : Bool := (decide (y < 16) && g y) || (List.range n).any (fun v => decide (16 ≤ v) && g v && decide (y = mp v))
def Fo (w : mi_H) (mp : Nat → Nat) (oc : Nat → Bool) (tl : Nat) (gu : Bool) : Prop := ∃ (ma : Nat → Int32) (x : Int32), w[25]? = some (.inr (4, [.ref 1, .ref 26, .int x, .int (nI tl), .int (jb (gu = true))])) ∧ w[26]? = some (.inl (0, 24, .inl ma)) ∧ (∀ v, v < 24 → ma v = nI (mp v) ∧ mp v < 24) ∧ (∀ v, v < 32 → bt x v = oc v)
theorem Fo.g {w w1 : mi_H} {mp : Nat → Nat} {oc : Nat → Bool} {tl : Nat} {gu : Bool} {lo hi : Nat} (H : Fo w mp oc tl gu) (hF : mi_Fg w w1 lo hi) (ho : hi ≤ 25 ∨ 27 ≤ lo) : Fo w1 mp oc tl gu := by
  obtain ⟨ma, x, h0, h1, h2⟩ := H
  exact ⟨ma, x, hF.get (by omega) h0, hF.get (by omega) h1, h2⟩
section Fold
variable {X : mi_X}
theorem bt_con : ∀ i, i < 32 → bt (nI 65535) i = decide (i < 16) := by decide +kernel
theorem ev_imageOf_loop {w : mi_H} {mp : Nat → Nat} {oc : Nat → Bool} {tl : Nat} {gu : Bool} (H : Fo w mp oc tl gu) {s : Int32} {g : Nat → Bool} (hs : ∀ i, i < 32 → bt s i = g i) : ∀ f m (x : Int32), m + f = 24 → 16 ≤ m → (∀ i, i < 32 → bt x i = img mp g m i) → mi_wp X mi_P 1 m_Fo_imageOf (8, [some (.ref 25), some (.int s), some (.int x), some (.int (nI m))], [], w) (fun r w1 => (∃ y : Int32, r = some (.int y) ∧ ∀ i, i < 32 → bt y i = img mp g 24 i) ∧ w1 = w)
  | 0, m, x, hm, h16, hx => by
    have hm : m = 24 := by omega
    subst hm
    repeat (first | refine mi_s1 (fun _ => rfl) ?_ | refine mi_wgf rfl (by assumption) rfl ?_ | refine mi_wal rfl (by assumption) rfl (by omega) (by decide) ?_)
    refine mi_r1 (fun _ => rfl) ?_
    exact ⟨⟨x, rfl, hx⟩, rfl⟩
  | f + 1, m, x, hm, h16, hx => by
    obtain ⟨ma, xo, h0, h1, h2, h3⟩ := id H
    repeat (first | refine mi_s1 (fun _ => rfl) ?_ | refine mi_wgf rfl (by assumption) rfl ?_ | refine mi_wal rfl (by assumption) rfl (by omega) (by decide) ?_)
    refine mi_wif (fun z => absurd z (nI_ge (a := m) (b := 24) (by omega) (by omega))) (fun _ => ?_)
    repeat (first | refine mi_s1 (fun _ => rfl) ?_ | refine mi_wgf rfl (by assumption) rfl ?_ | refine mi_wal rfl (by assumption) rfl (by omega) (by decide) ?_)
    refine mi_wif (fun z => ?_) (fun z => ?_)
    · have z := (bt_ush0 (by omega) s).mp z
      repeat (first | refine mi_s1 (fun _ => rfl) ?_ | refine mi_wgf rfl (by assumption) rfl ?_ | refine mi_wal rfl (by assumption) rfl (by omega) (by decide) ?_)
      refine mi_r1 (fun _ => rfl) ?_
      refine ⟨⟨x, rfl, fun i hi => ?_⟩, rfl⟩
      rw [hx i hi]
      unfold img
      congr 1
      rw [Bool.eq_iff_iff, List.any_eq_true, List.any_eq_true]
      constructor
      · rintro ⟨v, k1, k2⟩
        exact ⟨v, List.mem_range.mpr (by have := List.mem_range.mp k1; omega), k2⟩
      · rintro ⟨v, k1, k2⟩
        have k1 := List.mem_range.mp k1
        by_cases q : v < m
        · exact ⟨v, List.mem_range.mpr q, k2⟩
        · have : g v = false := by
            rw [← hs v (by omega)]
            exact z v (by omega) (by omega)
          rw [this] at k2
          simp at k2
    · repeat (first | refine mi_s1 (fun _ => rfl) ?_ | refine mi_wgf rfl (by assumption) rfl ?_ | refine mi_wal rfl (by assumption) rfl (by omega) (by decide) ?_)
      refine mi_wcs rfl (Nat.le_of_ble_eq_true rfl) ⟨Nat.le_of_ble_eq_true rfl, Nat.le_of_ble_eq_true rfl⟩ (ev_isIn s (n := m) (by omega)) ?_
      repeat (first | refine mi_s1 (fun _ => rfl) ?_ | refine mi_wgf rfl (by assumption) rfl ?_ | refine mi_wal rfl (by assumption) rfl (by omega) (by decide) ?_)
      refine mi_wif (fun z2 => ?_) (fun z2 => ?_)
      · have z2 : g m = false := by
          rw [← hs m (by omega)]
          simpa using jb_0.mp z2
        refine mi_s1 (fun _ => rfl) ?_; refine mi_s1 (fun _ => rfl) ?_
        rw [show nI m + nI 1 = nI (m + 1) from nI_1 m]
        refine ev_imageOf_loop H hs f (m + 1) x (by omega) (by omega) (fun i hi => ?_)
        rw [hx i hi]
        unfold img
        rw [any_s, z2]
        simp
      · have z2 : g m = true := by
          rw [← hs m (by omega)]
          exact Decidable.not_not.mp (fun h => z2 (jb_0.mpr h))
        obtain ⟨hm1, hm2⟩ := h2 m (by omega)
        refine mi_s1 (fun _ => rfl) ?_; refine mi_s1 (fun _ => rfl) ?_; refine mi_s1 (fun _ => rfl) ?_
        refine mi_wgf rfl h0 rfl ?_
        refine mi_s1 (fun _ => rfl) ?_
        refine mi_wal rfl h1 rfl (by omega) (by decide) ?_
        rw [hm1]
        refine mi_s1 (fun _ => rfl) ?_; refine mi_s1 (fun _ => rfl) ?_; refine mi_s1 (fun _ => rfl) ?_; refine mi_s1 (fun _ => rfl) ?_; refine mi_s1 (fun _ => rfl) ?_
        rw [show nI m + nI 1 = nI (m + 1) from nI_1 m]
        refine ev_imageOf_loop H hs f (m + 1) _ (by omega) (by omega) (fun i hi => ?_)
        rw [bt_set (by omega) hi, hx i hi]
        unfold img
        rw [any_s, z2, decide_eq_true h16]
        simp [Bool.or_assoc]
theorem ev_imageOf {w : mi_H} {mp : Nat → Nat} {oc : Nat → Bool} {tl : Nat} {gu : Bool} (H : Fo w mp oc tl gu) {s : Int32} {g : Nat → Bool} (hs : ∀ i, i < 32 → bt s i = g i) : ∃ y : Int32, mi_Ev X mi_P 2 k_Fo_imageOf [.ref 25, .int s] w (some (.int y)) w ∧ ∀ i, i < 32 → bt y i = img mp g 24 i := by
  have key : mi_Ex X 2 k_Fo_imageOf [.ref 25, .int s] w (fun r w1 => (∃ y : Int32, r = some (.int y) ∧ ∀ i, i < 32 → bt y i = img mp g 24 i) ∧ w1 = w) := by
    refine mi_Ex.of (M := m_Fo_imageOf) rfl (Nat.le_of_ble_eq_true rfl) ?_
    refine mi_s1 (fun _ => rfl) ?_; refine mi_s1 (fun _ => rfl) ?_; refine mi_s1 (fun _ => rfl) ?_; refine mi_s1 (fun _ => rfl) ?_; refine mi_s1 (fun _ => rfl) ?_; refine mi_s1 (fun _ => rfl) ?_
    refine ev_imageOf_loop H hs 8 16 _ rfl (by decide) (fun i hi => ?_)
    rw [b_and, hs i hi, bt_con i hi]
    unfold img
    have : (List.range 16).any (fun v => decide (16 ≤ v) && g v && decide (i = mp v)) = false := by
      rw [List.any_eq_false]
      intro v hv
      have := List.mem_range.mp hv
      rw [decide_eq_false (by omega)]
      simp
    rw [this, Bool.or_false, Bool.and_comm]
  obtain ⟨r, w1, h1, ⟨y, rfl, h2⟩, rfl⟩ := key
  exact ⟨y, h1, h2⟩
/-- the image of the occurring values isn't all of them -/
def lsN (mp : Nat → Nat) (oc : Nat → Bool) : Bool := (List.range 32).any (fun i => img mp oc 24 i != oc i)
theorem ev_losesNull {w : mi_H} {mp : Nat → Nat} {oc : Nat → Bool} {tl : Nat} {gu : Bool} (H : Fo w mp oc tl gu) : mi_Ev X mi_P 3 k_Fo_losesNull [.ref 25] w (some (.int (jb (lsN mp oc = true)))) w := by
  obtain ⟨ma, x, h0, h1, h2, h3⟩ := id H
  obtain ⟨y, he, hy⟩ := ev_imageOf (X := X) H h3
  refine mi_Ev.of (M := m_Fo_losesNull) rfl (Nat.le_of_ble_eq_true rfl) ?_
  repeat (first | refine mi_s1 (fun _ => rfl) ?_ | refine mi_wgf rfl (by assumption) rfl ?_ | refine mi_wal rfl (by assumption) rfl (by omega) (by decide) ?_)
  refine mi_wcv rfl rfl (Nat.le_of_ble_eq_true rfl) h0 rfl (he) ?_
  repeat (first | refine mi_s1 (fun _ => rfl) ?_ | refine mi_wgf rfl (by assumption) rfl ?_ | refine mi_wal rfl (by assumption) rfl (by omega) (by decide) ?_)
  refine mi_wif (fun z => ?_) (fun z => ?_)
  · repeat (first | refine mi_s1 (fun _ => rfl) ?_ | refine mi_wgf rfl (by assumption) rfl ?_ | refine mi_wal rfl (by assumption) rfl (by omega) (by decide) ?_)
    refine mi_wrz rfl rfl rfl ?_
    refine jb_f (fun q => ?_)
    unfold lsN at q
    rw [List.any_eq_true] at q
    obtain ⟨i, k1, k2⟩ := q
    have k1 := List.mem_range.mp k1
    rw [← hy i k1, z, h3 i k1] at k2
    simp at k2
  · repeat (first | refine mi_s1 (fun _ => rfl) ?_ | refine mi_wgf rfl (by assumption) rfl ?_ | refine mi_wal rfl (by assumption) rfl (by omega) (by decide) ?_)
    refine mi_wrz rfl rfl rfl ?_
    refine jb_t ?_
    cases q : lsN mp oc with
    | true => rfl
    | false =>
      refine absurd (b_ext (fun i hi => ?_)) z
      unfold lsN at q
      rw [List.any_eq_false] at q
      have := q i (List.mem_range.mpr hi)
      rw [hy i hi, h3 i hi]
      simpa using this
/-- the facts with v and with values below it alone stay, of relations below n -/
def kpB (F : Nat → Nat → Nat → Bool) (mp : Nat → Nat) (v i : Nat) : Bool :=
  (List.range 32).all (fun y => !img mp (fun b => F i v b && decide (b ≤ v)) 24 y || F i (mp v) y) && (List.range 32).all (fun y => !img mp (fun a => F i a v && decide (a ≤ v)) 24 y || F i y (mp v))
def kpS (F : Nat → Nat → Nat → Bool) (mp : Nat → Nat) (v n : Nat) : Bool := (List.range n).all (fun i => decide (i < 2) || kpB F mp v i)
theorem bt_kn : ∀ v, v < 24 → ∀ i, i < 32 → bt (nI 1 <<< (nI (v + 1) &&& 31) - nI 1) i = decide (i ≤ v) := by decide +kernel
theorem sub_iff {x y : Int32} {g h : Nat → Bool} (hx : ∀ i, i < 32 → bt x i = g i) (hy : ∀ i, i < 32 → bt y i = h i) : (x &&& (y ^^^ -1)) = 0 ↔ (List.range 32).all (fun i => !g i || h i) = true := by
  rw [bt_zero, List.all_eq_true]
  constructor
  · intro q i hi
    have hi := List.mem_range.mp hi
    have := q i hi
    rw [b_and, bt_not _ hi, hx i hi, hy i hi] at this
    revert this
    cases g i <;> cases h i <;> decide
  · intro q i hi
    have := q i (List.mem_range.mpr hi)
    rw [b_and, bt_not _ hi, hx i hi, hy i hi]
    revert this
    cases g i <;> cases h i <;> decide
theorem ev_keepsSoFar_loop {w : mi_H} {F : Nat → Nat → Nat → Bool} {mp : Nat → Nat} {oc : Nat → Bool} {tl : Nat} {gu : Bool} (HS : St w F) (H : Fo w mp oc tl gu) {v : Nat} (hv : v < 24) {kn : Int32} (hkn : ∀ i, i < 32 → bt kn i = decide (i ≤ v)) : ∀ f m (z5 z6 z7 : Option Value), m + f = 6 → 2 ≤ m → kpS F mp v m = true → mi_wp X mi_P 2 m_Fo_keepsSoFar (18, [some (.ref 25), some (.int (nI v)), some (.int kn), some (.int (nI (mp v))), some (.int (nI m)), z5, z6, z7], [], w) (fun r w1 => r = some (.int (jb (kpS F mp v 6 = true))) ∧ w1 = w)
  | 0, m, z5, z6, z7, hm, h2m, hk => by
    have hm : m = 6 := by omega
    subst hm
    repeat (first | refine mi_s1 (fun _ => rfl) ?_ | refine mi_wgf rfl (by assumption) rfl ?_ | refine mi_wal rfl (by assumption) rfl (by omega) (by decide) ?_)
    refine mi_wrz rfl rfl rfl ?_
    exact jb_t hk
  | f + 1, m, z5, z6, z7, hm, h2m, hk => by
    obtain ⟨ma, xo, h0, h1, h2, h3⟩ := id H
    obtain ⟨s1, ⟨g, s2, hg⟩, -, -, s5⟩ := id HS
    obtain ⟨rows, cols, fi, se, du, ct, r0, r1, r2, ri⟩ := id (s5 m (by omega))
    have hmv := (h2 v hv).2
    have hs : kpS F mp v (m + 1) = kpB F mp v m := by
      have e : kpS F mp v (m + 1) = (kpS F mp v m && (decide (m < 2) || kpB F mp v m)) := by
        unfold kpS
        rw [List.range_succ, List.all_append]
        simp
      rw [e, hk, decide_eq_false (by omega)]
      simp
    have hg1 : ∀ i, i < 32 → bt (rows v &&& kn) i = (F m v i && decide (i ≤ v)) := fun i hi => by rw [b_and, ri.2.1 v i hv hi, hkn i hi]
    have hg2 : ∀ i, i < 32 → bt (cols v &&& kn) i = (F m i v && decide (i ≤ v)) := fun i hi => by rw [b_and, ri.2.2.1 i v hv hi, hkn i hi]
    obtain ⟨y1, e1, hy1⟩ := ev_imageOf (X := X) H hg1
    obtain ⟨y2, e2, hy2⟩ := ev_imageOf (X := X) H hg2
    have i1 := sub_iff hy1 (fun i hi => ri.2.1 (mp v) i hmv hi)
    have i2 := sub_iff hy2 (fun i hi => ri.2.2.1 i (mp v) hmv hi)
    have bad : kpB F mp v m = false → ¬ kpS F mp v 6 = true := by
      intro hb h
      unfold kpS at h
      rw [List.all_eq_true] at h
      have := h m (List.mem_range.mpr (by omega))
      rw [hb, decide_eq_false (by omega)] at this
      cases this
    repeat (first | refine mi_s1 (fun _ => rfl) ?_ | refine mi_wgf rfl (by assumption) rfl ?_ | refine mi_wal rfl (by assumption) rfl (by omega) (by decide) ?_)
    refine mi_wif (fun z => absurd z (nI_ge (a := m) (b := 6) (by omega) (by omega))) (fun _ => ?_)
    repeat (first | refine mi_s1 (fun _ => rfl) ?_ | refine mi_wgf rfl (by assumption) rfl ?_ | refine mi_wal rfl (by assumption) rfl (by omega) (by decide) ?_)
    refine mi_waa rfl s2 ⟨by decide, by decide⟩ rfl (by omega) (by decide) ?_
    rw [hg m (by omega)]
    repeat (first | refine mi_s1 (fun _ => rfl) ?_ | refine mi_wgf rfl (by assumption) rfl ?_ | refine mi_wal rfl (by assumption) rfl (by omega) (by decide) ?_)
    refine mi_wcv rfl rfl (Nat.le_of_ble_eq_true rfl) r0 rfl (ev_row (F := F m) (cols := cols) r0 r1 hv) ?_
    repeat (first | refine mi_s1 (fun _ => rfl) ?_ | refine mi_wgf rfl (by assumption) rfl ?_ | refine mi_wal rfl (by assumption) rfl (by omega) (by decide) ?_)
    refine mi_wcv rfl rfl (Nat.le_of_ble_eq_true rfl) h0 rfl (e1) ?_
    repeat (first | refine mi_s1 (fun _ => rfl) ?_ | refine mi_wgf rfl (by assumption) rfl ?_ | refine mi_wal rfl (by assumption) rfl (by omega) (by decide) ?_)
    refine mi_wcv rfl rfl (Nat.le_of_ble_eq_true rfl) r0 rfl (ev_column (F := F m) (rows := rows) r0 r2 hv) ?_
    repeat (first | refine mi_s1 (fun _ => rfl) ?_ | refine mi_wgf rfl (by assumption) rfl ?_ | refine mi_wal rfl (by assumption) rfl (by omega) (by decide) ?_)
    refine mi_wcv rfl rfl (Nat.le_of_ble_eq_true rfl) h0 rfl (e2) ?_
    repeat (first | refine mi_s1 (fun _ => rfl) ?_ | refine mi_wgf rfl (by assumption) rfl ?_ | refine mi_wal rfl (by assumption) rfl (by omega) (by decide) ?_)
    refine mi_wcv rfl rfl (Nat.le_of_ble_eq_true rfl) r0 rfl (ev_row (F := F m) (cols := cols) r0 r1 hmv) ?_
    repeat (first | refine mi_s1 (fun _ => rfl) ?_ | refine mi_wgf rfl (by assumption) rfl ?_ | refine mi_wal rfl (by assumption) rfl (by omega) (by decide) ?_)
    refine mi_wif (fun z => ?_) (fun z => ?_)
    · have z := i1.mp z
      repeat (first | refine mi_s1 (fun _ => rfl) ?_ | refine mi_wgf rfl (by assumption) rfl ?_ | refine mi_wal rfl (by assumption) rfl (by omega) (by decide) ?_)
      refine mi_wcv rfl rfl (Nat.le_of_ble_eq_true rfl) r0 rfl (ev_column (F := F m) (rows := rows) r0 r2 hmv) ?_
      repeat (first | refine mi_s1 (fun _ => rfl) ?_ | refine mi_wgf rfl (by assumption) rfl ?_ | refine mi_wal rfl (by assumption) rfl (by omega) (by decide) ?_)
      refine mi_wif (fun z2 => ?_) (fun z2 => ?_)
      · have z2 := i2.mp z2
        refine mi_s1 (fun _ => rfl) ?_; refine mi_s1 (fun _ => rfl) ?_
        rw [show nI m + nI 1 = nI (m + 1) from nI_1 m]
        refine ev_keepsSoFar_loop HS H hv hkn f (m + 1) _ _ _ (by omega) (by omega) ?_
        rw [hs]
        unfold kpB
        rw [z, z2]
        rfl
      · repeat (first | refine mi_s1 (fun _ => rfl) ?_ | refine mi_wgf rfl (by assumption) rfl ?_ | refine mi_wal rfl (by assumption) rfl (by omega) (by decide) ?_)
        refine mi_wrz rfl rfl rfl ?_
        refine jb_f (bad ?_)
        unfold kpB
        have : ¬ (List.range 32).all (fun y => !img mp (fun a => F m a v && decide (a ≤ v)) 24 y || F m y (mp v)) = true := fun h => z2 (i2.mpr h)
        rw [Bool.and_eq_false_iff]
        exact Or.inr (by simpa using this)
    · repeat (first | refine mi_s1 (fun _ => rfl) ?_ | refine mi_wgf rfl (by assumption) rfl ?_ | refine mi_wal rfl (by assumption) rfl (by omega) (by decide) ?_)
      refine mi_wrz rfl rfl rfl ?_
      refine jb_f (bad ?_)
      unfold kpB
      have : ¬ (List.range 32).all (fun y => !img mp (fun b => F m v b && decide (b ≤ v)) 24 y || F m (mp v) y) = true := fun h => z (i1.mpr h)
      rw [Bool.and_eq_false_iff]
      exact Or.inl (by simpa using this)
theorem ev_keepsSoFar {w : mi_H} {F : Nat → Nat → Nat → Bool} {mp : Nat → Nat} {oc : Nat → Bool} {tl : Nat} {gu : Bool} (HS : St w F) (H : Fo w mp oc tl gu) {v : Nat} (hv : v < 24) : mi_Ev X mi_P 3 k_Fo_keepsSoFar [.ref 25, .int (nI v)] w (some (.int (jb (kpS F mp v 6 = true)))) w := by
  obtain ⟨ma, xo, h0, h1, h2, h3⟩ := id H
  refine mi_Ev.of (M := m_Fo_keepsSoFar) rfl (Nat.le_of_ble_eq_true rfl) ?_
  refine mi_s1 (fun _ => rfl) ?_; refine mi_s1 (fun _ => rfl) ?_; refine mi_s1 (fun _ => rfl) ?_; refine mi_s1 (fun _ => rfl) ?_; refine mi_s1 (fun _ => rfl) ?_; refine mi_s1 (fun _ => rfl) ?_; refine mi_s1 (fun _ => rfl) ?_; refine mi_s1 (fun _ => rfl) ?_
  refine mi_s1 (fun _ => rfl) ?_
  refine mi_wgf rfl h0 rfl ?_
  refine mi_s1 (fun _ => rfl) ?_
  refine mi_wal rfl h1 rfl (by omega) (by decide) ?_
  rw [(h2 v hv).1, show nI v + nI 1 = nI (v + 1) from nI_1 v]
  refine mi_s1 (fun _ => rfl) ?_; refine mi_s1 (fun _ => rfl) ?_; refine mi_s1 (fun _ => rfl) ?_
  refine ev_keepsSoFar_loop HS H hv (bt_kn v hv) 4 2 none none none rfl (by decide) ?_
  rfl
end Fold
