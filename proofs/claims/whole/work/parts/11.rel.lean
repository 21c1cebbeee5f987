/-! class Relation: a set of pairs as bits -/
def anyB (f : Nat → Bool) : Bool := (List.range 24).any f
/-- how many of the first n -/
def cn (f : Nat → Bool) : Nat → Nat
  | 0 => 0
  | n + 1 => cn f n + (if f n = true then 1 else 0)
def sm (g : Nat → Nat) : Nat → Nat
  | 0 => 0
  | n + 1 => sm g n + g n
def cnt (F : Nat → Nat → Bool) : Nat := sm (fun a => cn (F a) 24) 24
def Ri (F : Nat → Nat → Bool) (rows cols : Nat → Int32) (fi se du : Int32) (ct : Nat) : Prop :=
  (∀ a b, F a b = true → a < 24 ∧ b < 24) ∧ (∀ a b, a < 24 → b < 32 → bt (rows a) b = F a b) ∧ (∀ a b, b < 24 → a < 32 → bt (cols b) a = F a b) ∧ (∀ a, a < 32 → bt fi a = anyB (F a)) ∧ (∀ b, b < 32 → bt se b = anyB (fun a => F a b)) ∧ (∀ a, a < 32 → bt du a = F a a) ∧ ct = cnt F
def Rl (w : mi_H) (h : Nat) (F : Nat → Nat → Bool) : Prop := ∃ rows cols fi se du ct, w[h]? = some (.inr (2, [.ref (h + 1), .ref (h + 2), .int fi, .int se, .int du, .int (nI ct)])) ∧ w[h + 1]? = some (.inl (0, 24, .inl rows)) ∧ w[h + 2]? = some (.inl (0, 24, .inl cols)) ∧ Ri F rows cols fi se du ct
def FI (F : Nat → Nat → Bool) (a b : Int32) : Bool := decide (0 ≤ a) && decide (0 ≤ b) && F a.toNatClampNeg b.toNatClampNeg
theorem FI_nI {F : Nat → Nat → Bool} {a b : Nat} (ha : a < 2 ^ 31) (hb : b < 2 ^ 31) : FI F (nI a) (nI b) = F a b := by
  unfold FI
  rw [decide_eq_true (nI_pos' ha), decide_eq_true (nI_pos' hb), nI_clamp ha, nI_clamp hb]
  rfl
def addF (F : Nat → Nat → Bool) (a b : Nat) : Nat → Nat → Bool := fun x y => F x y || (decide (x = a) && decide (y = b))
theorem nI_back {a : Int32} (h : 0 ≤ a) : nI a.toNatClampNeg = a := by
  obtain ⟨j, h1, rfl⟩ := nI_of (k2_nlt h)
  rw [nI_clamp h1]
theorem FI_in {F : Nat → Nat → Bool} (hs : ∀ a b, F a b = true → a < 24 ∧ b < 24) {a b : Int32} (h : FI F a b = true) : ∃ m n, m < 24 ∧ n < 24 ∧ a = nI m ∧ b = nI n ∧ F m n = true := by
  unfold FI at h
  simp only [Bool.and_eq_true, decide_eq_true_eq] at h
  obtain ⟨⟨h1, h2⟩, h3⟩ := h
  obtain ⟨h4, h5⟩ := hs _ _ h3
  exact ⟨_, _, h4, h5, (nI_back h1).symm, (nI_back h2).symm, h3⟩
section Rel
variable {X : mi_X} {w : mi_H}
theorem ev_isValueT {a : Nat} (h : a < 24) : mi_Ev X mi_P 1 k_MC_isValue [.int (nI a)] w (some (.int 1)) w := by
  have e := ev_isValue (X := X) (w := w) (nI a)
  rw [show jb (0 ≤ nI a ∧ nI a < nI 24) = 1 from if_pos ((mi_rng (by decide)).mpr ⟨a, h, rfl⟩)] at e
  exact e
theorem ev_has {h : Nat} {F : Nat → Nat → Bool} (H : Rl w h F) (a b : Int32) : mi_Ev X mi_P 2 k_Re_has [.ref h, .int a, .int b] w (some (.int (jb (FI F a b = true)))) w := by
  obtain ⟨rows, cols, fi, se, du, ct, h0, h1, h2, hi⟩ := H
  refine mi_Ev.of (M := m_Re_has) rfl (Nat.le_of_ble_eq_true rfl) ?_
  repeat (first | refine mi_s1 (fun _ => rfl) ?_ | refine mi_wgf rfl (by assumption) rfl ?_ | refine mi_wal rfl (by assumption) rfl (by omega) (by decide) ?_)
  refine mi_wcs rfl (Nat.le_of_ble_eq_true rfl) ⟨Nat.le_of_ble_eq_true rfl, Nat.le_of_ble_eq_true rfl⟩ (ev_isValue a) ?_
  repeat (first | refine mi_s1 (fun _ => rfl) ?_ | refine mi_wgf rfl (by assumption) rfl ?_ | refine mi_wal rfl (by assumption) rfl (by omega) (by decide) ?_)
  refine mi_wif (fun q => ?_) (fun q => ?_)
  · repeat (first | refine mi_s1 (fun _ => rfl) ?_ | refine mi_wgf rfl (by assumption) rfl ?_ | refine mi_wal rfl (by assumption) rfl (by omega) (by decide) ?_)
    refine mi_wrz rfl rfl rfl ?_
    refine jb_f (fun z => jb_0.mp q ?_)
    obtain ⟨m, n, hm, -, rfl, -⟩ := FI_in hi.1 z
    exact (mi_rng (by decide)).mpr ⟨m, hm, rfl⟩
  · obtain ⟨m, hm, rfl⟩ := (mi_rng (by decide)).mp (Decidable.not_not.mp (fun z => q (jb_0.mpr z)))
    repeat (first | refine mi_s1 (fun _ => rfl) ?_ | refine mi_wgf rfl (by assumption) rfl ?_ | refine mi_wal rfl (by assumption) rfl (by omega) (by decide) ?_)
    refine mi_wcs rfl (Nat.le_of_ble_eq_true rfl) ⟨Nat.le_of_ble_eq_true rfl, Nat.le_of_ble_eq_true rfl⟩ (ev_isValue b) ?_
    repeat (first | refine mi_s1 (fun _ => rfl) ?_ | refine mi_wgf rfl (by assumption) rfl ?_ | refine mi_wal rfl (by assumption) rfl (by omega) (by decide) ?_)
    refine mi_wif (fun q => ?_) (fun q => ?_)
    · repeat (first | refine mi_s1 (fun _ => rfl) ?_ | refine mi_wgf rfl (by assumption) rfl ?_ | refine mi_wal rfl (by assumption) rfl (by omega) (by decide) ?_)
      refine mi_wrz rfl rfl rfl ?_
      refine jb_f (fun z => jb_0.mp q ?_)
      obtain ⟨_, n, -, hn, -, rfl, -⟩ := FI_in hi.1 z
      exact (mi_rng (by decide)).mpr ⟨n, hn, rfl⟩
    · obtain ⟨n, hn, rfl⟩ := (mi_rng (by decide)).mp (Decidable.not_not.mp (fun z => q (jb_0.mpr z)))
      rw [FI_nI (by omega) (by omega), ← hi.2.1 m n hm (by omega)]
      repeat (first | refine mi_s1 (fun _ => rfl) ?_ | refine mi_wgf rfl (by assumption) rfl ?_ | refine mi_wal rfl (by assumption) rfl (by omega) (by decide) ?_)
      refine mi_wcs rfl (Nat.le_of_ble_eq_true rfl) ⟨Nat.le_of_ble_eq_true rfl, Nat.le_of_ble_eq_true rfl⟩ (ev_isIn (rows m) (n := n) (by omega)) ?_
      repeat (first | refine mi_s1 (fun _ => rfl) ?_ | refine mi_wgf rfl (by assumption) rfl ?_ | refine mi_wal rfl (by assumption) rfl (by omega) (by decide) ?_)
      refine mi_wif (fun q => ?_) (fun q => ?_)
      · repeat (first | refine mi_s1 (fun _ => rfl) ?_ | refine mi_wgf rfl (by assumption) rfl ?_ | refine mi_wal rfl (by assumption) rfl (by omega) (by decide) ?_)
        refine mi_wrz rfl rfl rfl ?_
        exact jb_f (jb_0.mp q)
      · repeat (first | refine mi_s1 (fun _ => rfl) ?_ | refine mi_wgf rfl (by assumption) rfl ?_ | refine mi_wal rfl (by assumption) rfl (by omega) (by decide) ?_)
        refine mi_wrz rfl rfl rfl ?_
        exact jb_t (Decidable.not_not.mp (fun z => q (jb_0.mpr z)))
/-- bits of the changed words -/
theorem bt_set {x : Int32} {n i : Nat} (hn : n < 32) (hi : i < 32) : bt (x ||| nI 1 <<< (nI n &&& 31)) i = (bt x i || decide (i = n)) := by
  rw [b_or, bt_sh hn hi]
theorem bt_clr {x : Int32} {n i : Nat} (hn : n < 32) (hi : i < 32) : bt (x &&& (nI 1 <<< (nI n &&& 31) ^^^ -1)) i = (bt x i && !decide (i = n)) := by
  rw [b_and, bt_not _ hi, bt_sh hn hi]
theorem anyB_iff {f : Nat → Bool} : anyB f = true ↔ ∃ i, i < 24 ∧ f i = true := by
  unfold anyB
  rw [List.any_eq_true]
  constructor
  · rintro ⟨i, h1, h2⟩
    exact ⟨i, List.mem_range.mp h1, h2⟩
  · rintro ⟨i, h1, h2⟩
    exact ⟨i, List.mem_range.mpr h1, h2⟩
theorem anyB_congr {f g : Nat → Bool} (h : ∀ i, i < 24 → f i = g i) : anyB f = anyB g := by
  rw [Bool.eq_iff_iff, anyB_iff, anyB_iff]
  constructor
  · rintro ⟨i, h1, h2⟩
    exact ⟨i, h1, by rw [← h i h1]; exact h2⟩
  · rintro ⟨i, h1, h2⟩
    exact ⟨i, h1, by rw [h i h1]; exact h2⟩
theorem cn_congr {f g : Nat → Bool} : ∀ n, (∀ i, i < n → f i = g i) → cn f n = cn g n
  | 0, _ => rfl
  | n + 1, h => by
    unfold cn
    rw [cn_congr n (fun i hi => h i (by omega)), h n (by omega)]
theorem sm_congr {f g : Nat → Nat} : ∀ n, (∀ i, i < n → f i = g i) → sm f n = sm g n
  | 0, _ => rfl
  | n + 1, h => by
    unfold sm
    rw [sm_congr n (fun i hi => h i (by omega)), h n (by omega)]
/-- one more place -/
theorem cn_one {f g : Nat → Bool} {k : Nat} (h : ∀ i, i ≠ k → g i = f i) (h0 : f k = false) (h1 : g k = true) : ∀ n, k < n → cn g n = cn f n + 1
  | 0, hk => by omega
  | n + 1, hk => by
    unfold cn
    by_cases q : k = n
    · subst q
      rw [cn_congr k (fun i hi => h i (by omega)), h0, h1]
      simp
    · rw [cn_one h h0 h1 n (by omega), h n (fun z => q z.symm)]
      omega
theorem sm_one {f g : Nat → Nat} {k : Nat} (h : ∀ i, i ≠ k → g i = f i) (h1 : g k = f k + 1) : ∀ n, k < n → sm g n = sm f n + 1
  | 0, hk => by omega
  | n + 1, hk => by
    unfold sm
    by_cases q : k = n
    · subst q
      rw [sm_congr k (fun i hi => h i (by omega)), h1]
      omega
    · rw [sm_one h h1 n (by omega), h n (fun z => q z.symm)]
      omega
theorem cnt_one {F G : Nat → Nat → Bool} {a b : Nat} (ha : a < 24) (hb : b < 24) (h : ∀ x y, ¬ (x = a ∧ y = b) → G x y = F x y) (h0 : F a b = false) (h1 : G a b = true) : cnt G = cnt F + 1 :=
  sm_one (k := a) (fun i hi => cn_congr 24 (fun j _ => h i j (fun q => hi q.1))) (cn_one (k := b) (fun j hj => h a j (fun q => hj q.2)) h0 h1 24 hb) 24 ha
theorem addF_same {F : Nat → Nat → Bool} {a b : Nat} (h : F a b = true) : addF F a b = F := by
  funext x y
  unfold addF
  by_cases q : x = a ∧ y = b
  · rw [q.1, q.2, h]
    simp
  · have : (decide (x = a) && decide (y = b)) = false := by
      rw [Bool.and_eq_false_iff, decide_eq_false_iff_not, decide_eq_false_iff_not]
      by_cases z : x = a
      · exact Or.inr (fun z2 => q ⟨z, z2⟩)
      · exact Or.inl z
    rw [this, Bool.or_false]
theorem Ri_add {F : Nat → Nat → Bool} {rows cols : Nat → Int32} {fi se du : Int32} {ct a b : Nat} (H : Ri F rows cols fi se du ct) (ha : a < 24) (hb : b < 24) (h0 : F a b = false) :
    Ri (addF F a b) (upd rows a (rows a ||| nI 1 <<< (nI b &&& 31))) (upd cols b (cols b ||| nI 1 <<< (nI a &&& 31))) (fi ||| nI 1 <<< (nI a &&& 31)) (se ||| nI 1 <<< (nI b &&& 31)) (if a = b then du ||| nI 1 <<< (nI a &&& 31) else du) (ct + 1) := by
  obtain ⟨s, r, c, f, e, d, k⟩ := H
  refine ⟨fun x y h => ?_, fun x y hx hy => ?_, fun x y hy hx => ?_, fun x hx => ?_, fun y hy => ?_, fun x hx => ?_, ?_⟩
  · unfold addF at h
    simp only [Bool.or_eq_true, Bool.and_eq_true, decide_eq_true_eq] at h
    rcases h with h | ⟨rfl, rfl⟩
    · exact s x y h
    · exact ⟨ha, hb⟩
  · unfold addF upd
    by_cases q : x = a
    · subst q
      simp only [if_true]
      rw [bt_set (by omega) hy, r x y hx hy]
      simp
    · simp only [q, if_false, decide_false, Bool.false_and, Bool.or_false]
      exact r x y hx hy
  · unfold addF upd
    by_cases q : y = b
    · subst q
      simp only [if_true]
      rw [bt_set (by omega) hx, c x y hy hx]
      simp
    · simp only [q, if_false, decide_false, Bool.and_false, Bool.or_false]
      exact c x y hy hx
  · rw [bt_set (by omega) hx, f x hx]
    by_cases q : x = a
    · subst q
      rw [decide_eq_true rfl, Bool.or_true]
      exact (anyB_iff.mpr ⟨b, hb, by simp [addF]⟩).symm
    · rw [decide_eq_false q, Bool.or_false]
      exact anyB_congr (fun i _ => by simp [addF, q])
  · rw [bt_set (by omega) hy, e y hy]
    by_cases q : y = b
    · subst q
      rw [decide_eq_true rfl, Bool.or_true]
      exact (anyB_iff.mpr ⟨a, ha, by simp [addF]⟩).symm
    · rw [decide_eq_false q, Bool.or_false]
      exact anyB_congr (fun i _ => by simp [addF, q])
  · by_cases q : a = b
    · subst q
      rw [if_pos rfl, bt_set (by omega) hx, d x hx]
      simp [addF]
    · rw [if_neg q, d x hx]
      have : (decide (x = a) && decide (x = b)) = false := by
        rw [Bool.and_eq_false_iff, decide_eq_false_iff_not, decide_eq_false_iff_not]
        by_cases z : x = a
        · exact Or.inr (fun z2 => q (z.symm.trans z2))
        · exact Or.inl z
      simp [addF, this]
  · rw [k]
    refine (cnt_one ha hb (fun x y hxy => ?_) h0 (by simp [addF])).symm
    have : (decide (x = a) && decide (y = b)) = false := by
      rw [Bool.and_eq_false_iff, decide_eq_false_iff_not, decide_eq_false_iff_not]
      by_cases z : x = a
      · exact Or.inr (fun z2 => hxy ⟨z, z2⟩)
      · exact Or.inl z
    simp [addF, this]
theorem ev_add {h : Nat} {F : Nat → Nat → Bool} (H : Rl w h F) {a b : Nat} (ha : a < 24) (hb : b < 24) : mi_Ex X 2 k_Re_add [.ref h, .int (nI a), .int (nI b)] w (fun r w' => r = none ∧ Rl w' h (addF F a b) ∧ mi_Fr w w' [h, h + 1, h + 2]) := by
  obtain ⟨rows, cols, fi, se, du, ct, h0, h1, h2, hi⟩ := id H
  refine mi_Ex.of (M := m_Re_add) rfl (Nat.le_of_ble_eq_true rfl) ?_
  have hFr : mi_Fr w w [h, h + 1, h + 2] := mi_Fr.rf
  repeat (first | refine mi_s1 (fun _ => rfl) ?_ | refine mi_wgf rfl (by assumption) rfl ?_ | refine mi_wal rfl (by assumption) rfl (by omega) (by decide) ?_)
  refine mi_wcs rfl (Nat.le_of_ble_eq_true rfl) ⟨Nat.le_of_ble_eq_true rfl, Nat.le_of_ble_eq_true rfl⟩ (ev_isValueT ha) ?_
  repeat (first | refine mi_s1 (fun _ => rfl) ?_ | refine mi_wgf rfl (by assumption) rfl ?_ | refine mi_wal rfl (by assumption) rfl (by omega) (by decide) ?_)
  refine mi_wcs rfl (Nat.le_of_ble_eq_true rfl) ⟨Nat.le_of_ble_eq_true rfl, Nat.le_of_ble_eq_true rfl⟩ (ev_isValueT hb) ?_
  repeat (first | refine mi_s1 (fun _ => rfl) ?_ | refine mi_wgf rfl (by assumption) rfl ?_ | refine mi_wal rfl (by assumption) rfl (by omega) (by decide) ?_)
  refine mi_wcs rfl (Nat.le_of_ble_eq_true rfl) ⟨Nat.le_of_ble_eq_true rfl, Nat.le_of_ble_eq_true rfl⟩ (ev_isIn (rows a) (n := b) (by omega)) ?_
  repeat (first | refine mi_s1 (fun _ => rfl) ?_ | refine mi_wgf rfl (by assumption) rfl ?_ | refine mi_wal rfl (by assumption) rfl (by omega) (by decide) ?_)
  have hr := hi.2.1 a b ha (by omega)
  refine mi_wif (fun q => ?_) (fun q => ?_)
  · have q : F a b = false := by
      have := jb_0.mp q
      rw [hr] at this
      simpa using this
    have hi2 := Ri_add hi ha hb q
    repeat (first | refine mi_s1 (fun _ => rfl) ?_ | refine mi_wgf rfl (by assumption) rfl ?_ | refine mi_wal rfl (by assumption) rfl (by omega) (by decide) ?_)
    refine mi_wag rfl h1 rfl (by omega) (by decide) (fun w h1 hF => ?_)
    have h0 := hF.get (by simp only [List.mem_cons, List.not_mem_nil, or_false]; omega) h0
    have h2 := hF.get (by simp only [List.mem_cons, List.not_mem_nil, or_false]; omega) h2
    have hFr := hFr.tr (hF.mono (by simp))
    repeat (first | refine mi_s1 (fun _ => rfl) ?_ | refine mi_wgf rfl (by assumption) rfl ?_ | refine mi_wal rfl (by assumption) rfl (by omega) (by decide) ?_)
    refine mi_wag rfl h2 rfl (by omega) (by decide) (fun w h2 hF => ?_)
    have h0 := hF.get (by simp only [List.mem_cons, List.not_mem_nil, or_false]; omega) h0
    have h1 := hF.get (by simp only [List.mem_cons, List.not_mem_nil, or_false]; omega) h1
    have hFr := hFr.tr (hF.mono (by simp))
    repeat (first | refine mi_s1 (fun _ => rfl) ?_ | refine mi_wgf rfl (by assumption) rfl ?_ | refine mi_wal rfl (by assumption) rfl (by omega) (by decide) ?_)
    refine mi_wpg rfl h0 (Nat.le_of_ble_eq_true rfl) rfl (fun w h0 hF => ?_)
    dsimp only [List.set] at h0
    have h1 := hF.get (by simp only [List.mem_cons, List.not_mem_nil, or_false]; omega) h1
    have h2 := hF.get (by simp only [List.mem_cons, List.not_mem_nil, or_false]; omega) h2
    have hFr := hFr.tr (hF.mono (by simp))
    repeat (first | refine mi_s1 (fun _ => rfl) ?_ | refine mi_wgf rfl (by assumption) rfl ?_ | refine mi_wal rfl (by assumption) rfl (by omega) (by decide) ?_)
    refine mi_wpg rfl h0 (Nat.le_of_ble_eq_true rfl) rfl (fun w h0 hF => ?_)
    dsimp only [List.set] at h0
    have h1 := hF.get (by simp only [List.mem_cons, List.not_mem_nil, or_false]; omega) h1
    have h2 := hF.get (by simp only [List.mem_cons, List.not_mem_nil, or_false]; omega) h2
    have hFr := hFr.tr (hF.mono (by simp))
    repeat (first | refine mi_s1 (fun _ => rfl) ?_ | refine mi_wgf rfl (by assumption) rfl ?_ | refine mi_wal rfl (by assumption) rfl (by omega) (by decide) ?_)
    refine mi_wif (fun q2 => ?_) (fun q2 => ?_)
    · have q3 : a = b := (nI_eq (by omega) (by omega)).mp q2
      rw [if_pos q3] at hi2
      repeat (first | refine mi_s1 (fun _ => rfl) ?_ | refine mi_wgf rfl (by assumption) rfl ?_ | refine mi_wal rfl (by assumption) rfl (by omega) (by decide) ?_)
      refine mi_wpg rfl h0 (Nat.le_of_ble_eq_true rfl) rfl (fun w h0 hF => ?_)
      dsimp only [List.set] at h0
      have h1 := hF.get (by simp only [List.mem_cons, List.not_mem_nil, or_false]; omega) h1
      have h2 := hF.get (by simp only [List.mem_cons, List.not_mem_nil, or_false]; omega) h2
      have hFr := hFr.tr (hF.mono (by simp))
      repeat (first | refine mi_s1 (fun _ => rfl) ?_ | refine mi_wgf rfl (by assumption) rfl ?_ | refine mi_wal rfl (by assumption) rfl (by omega) (by decide) ?_)
      refine mi_wpg rfl h0 (Nat.le_of_ble_eq_true rfl) rfl (fun w h0 hF => ?_)
      dsimp only [List.set] at h0
      have h1 := hF.get (by simp only [List.mem_cons, List.not_mem_nil, or_false]; omega) h1
      have h2 := hF.get (by simp only [List.mem_cons, List.not_mem_nil, or_false]; omega) h2
      have hFr := hFr.tr (hF.mono (by simp))
      refine mi_r1 (fun _ => rfl) ?_
      rw [nI_add] at h0
      exact ⟨rfl, ⟨_, _, _, _, _, _, h0, h1, h2, hi2⟩, hFr⟩
    · have q3 : ¬ a = b := fun z => q2 (by rw [z])
      rw [if_neg q3] at hi2
      repeat (first | refine mi_s1 (fun _ => rfl) ?_ | refine mi_wgf rfl (by assumption) rfl ?_ | refine mi_wal rfl (by assumption) rfl (by omega) (by decide) ?_)
      refine mi_wpg rfl h0 (Nat.le_of_ble_eq_true rfl) rfl (fun w h0 hF => ?_)
      dsimp only [List.set] at h0
      have h1 := hF.get (by simp only [List.mem_cons, List.not_mem_nil, or_false]; omega) h1
      have h2 := hF.get (by simp only [List.mem_cons, List.not_mem_nil, or_false]; omega) h2
      have hFr := hFr.tr (hF.mono (by simp))
      refine mi_r1 (fun _ => rfl) ?_
      rw [nI_add] at h0
      exact ⟨rfl, ⟨_, _, _, _, _, _, h0, h1, h2, hi2⟩, hFr⟩
  · have q : F a b = true := by
      rw [← hr]
      exact Decidable.not_not.mp (fun z => q (jb_0.mpr z))
    refine mi_r1 (fun _ => rfl) ?_
    exact ⟨rfl, by rw [addF_same q]; exact H, hFr⟩
def delF (F : Nat → Nat → Bool) (a b : Nat) : Nat → Nat → Bool := fun x y => F x y && !(decide (x = a) && decide (y = b))
theorem Ri_del {F : Nat → Nat → Bool} {rows cols : Nat → Int32} {fi se du : Int32} {ct a b : Nat} (H : Ri F rows cols fi se du ct) (ha : a < 24) (hb : b < 24) (h0 : F a b = true) :
    Ri (delF F a b) (upd rows a (rows a &&& (nI 1 <<< (nI b &&& 31) ^^^ -1))) (upd cols b (cols b &&& (nI 1 <<< (nI a &&& 31) ^^^ -1))) (if (rows a &&& (nI 1 <<< (nI b &&& 31) ^^^ -1)) = 0 then fi &&& (nI 1 <<< (nI a &&& 31) ^^^ -1) else fi) (if (cols b &&& (nI 1 <<< (nI a &&& 31) ^^^ -1)) = 0 then se &&& (nI 1 <<< (nI b &&& 31) ^^^ -1) else se) (if a = b then du &&& (nI 1 <<< (nI a &&& 31) ^^^ -1) else du) (ct - 1) := by
  obtain ⟨s, r, c, f, e, d, k⟩ := H
  have hr : ∀ y, y < 32 → bt (rows a &&& (nI 1 <<< (nI b &&& 31) ^^^ -1)) y = delF F a b a y := fun y hy => by
    rw [bt_clr (by omega) hy, r a y ha hy]
    simp [delF]
  have hc : ∀ x, x < 32 → bt (cols b &&& (nI 1 <<< (nI a &&& 31) ^^^ -1)) x = delF F a b x b := fun x hx => by
    rw [bt_clr (by omega) hx, c x b hb hx]
    simp [delF]
  have hz : (rows a &&& (nI 1 <<< (nI b &&& 31) ^^^ -1)) = 0 ↔ anyB (delF F a b a) = false := by
    rw [bt_zero]
    constructor
    · intro z
      cases q : anyB (delF F a b a) with
      | false => rfl
      | true =>
        obtain ⟨i, h1, h2⟩ := anyB_iff.mp q
        rw [← hr i (by omega), z i (by omega)] at h2
        cases h2
    · intro z i hi
      rw [hr i hi]
      cases q : delF F a b a i with
      | false => rfl
      | true =>
        have h3 : F a i = true := by
          unfold delF at q
          rw [Bool.and_eq_true] at q
          exact q.1
        rw [anyB_iff.mpr ⟨i, (s a i h3).2, q⟩] at z
        cases z
  have hz2 : (cols b &&& (nI 1 <<< (nI a &&& 31) ^^^ -1)) = 0 ↔ anyB (fun x => delF F a b x b) = false := by
    rw [bt_zero]
    constructor
    · intro z
      cases q : anyB (fun x => delF F a b x b) with
      | false => rfl
      | true =>
        obtain ⟨i, h1, h2⟩ := anyB_iff.mp q
        rw [← hc i (by omega), z i (by omega)] at h2
        cases h2
    · intro z i hi
      rw [hc i hi]
      cases q : delF F a b i b with
      | false => rfl
      | true =>
        have h3 : F i b = true := by
          unfold delF at q
          rw [Bool.and_eq_true] at q
          exact q.1
        rw [anyB_iff.mpr ⟨i, (s i b h3).1, q⟩] at z
        cases z
  refine ⟨fun x y h => ?_, fun x y hx hy => ?_, fun x y hy hx => ?_, fun x hx => ?_, fun y hy => ?_, fun x hx => ?_, ?_⟩
  · unfold delF at h
    rw [Bool.and_eq_true] at h
    exact s x y h.1
  · unfold upd
    by_cases q : x = a
    · subst q
      rw [if_pos rfl]
      exact hr y hy
    · rw [if_neg q, r x y hx hy]
      simp [delF, q]
  · unfold upd
    by_cases q : y = b
    · subst q
      rw [if_pos rfl]
      exact hc x hx
    · rw [if_neg q, c x y hy hx]
      simp [delF, q]
  · by_cases q : x = a
    · subst q
      by_cases z : anyB (delF F x b x) = false
      · rw [if_pos (hz.mpr z), bt_clr (by omega) hx, z]
        simp
      · rw [if_neg (fun z2 => z (hz.mp z2)), f x hx]
        have z : anyB (delF F x b x) = true := by simpa using z
        rw [z]
        obtain ⟨i, h1, h2⟩ := anyB_iff.mp z
        unfold delF at h2
        rw [Bool.and_eq_true] at h2
        exact anyB_iff.mpr ⟨i, h1, h2.1⟩
    · have e1 : anyB (delF F a b x) = anyB (F x) := anyB_congr (fun i _ => by simp [delF, q])
      rw [e1]
      split
      · rw [bt_clr (by omega) hx, f x hx]
        simp [q]
      · exact f x hx
  · by_cases q : y = b
    · subst q
      by_cases z : anyB (fun x => delF F a y x y) = false
      · rw [if_pos (hz2.mpr z), bt_clr (by omega) hy, z]
        simp
      · rw [if_neg (fun z2 => z (hz2.mp z2)), e y hy]
        have z : anyB (fun x => delF F a y x y) = true := by simpa using z
        rw [z]
        obtain ⟨i, h1, h2⟩ := anyB_iff.mp z
        unfold delF at h2
        rw [Bool.and_eq_true] at h2
        exact anyB_iff.mpr ⟨i, h1, h2.1⟩
    · have e1 : anyB (fun x => delF F a b x y) = anyB (fun x => F x y) := anyB_congr (fun i _ => by simp [delF, q])
      rw [e1]
      split
      · rw [bt_clr (by omega) hy, e y hy]
        simp [q]
      · exact e y hy
  · by_cases q : a = b
    · subst q
      rw [if_pos rfl, bt_clr (by omega) hx, d x hx]
      simp [delF]
    · rw [if_neg q, d x hx]
      have : (decide (x = a) && decide (x = b)) = false := by
        rw [Bool.and_eq_false_iff, decide_eq_false_iff_not, decide_eq_false_iff_not]
        by_cases z : x = a
        · exact Or.inr (fun z2 => q (z.symm.trans z2))
        · exact Or.inl z
      simp [delF, this]
  · have := cnt_one (F := delF F a b) (G := F) ha hb (fun x y hxy => by
      have : (decide (x = a) && decide (y = b)) = false := by
        rw [Bool.and_eq_false_iff, decide_eq_false_iff_not, decide_eq_false_iff_not]
        by_cases z : x = a
        · exact Or.inr (fun z2 => hxy ⟨z, z2⟩)
        · exact Or.inl z
      simp [delF, this]) (by simp [delF]) h0
    omega
theorem ev_remove {h : Nat} {F : Nat → Nat → Bool} (H : Rl w h F) (a b : Int32) : mi_Ex X 3 k_Re_remove [.ref h, .int a, .int b] w (fun r w' => r = some (.int (jb (FI F a b = true))) ∧ Rl w' h (if FI F a b = true then delF F a.toNatClampNeg b.toNatClampNeg else F) ∧ mi_Fr w w' [h, h + 1, h + 2]) := by
  obtain ⟨rows, cols, fi, se, du, ct, h0, h1, h2, hi⟩ := id H
  refine mi_Ex.of (M := m_Re_remove) rfl (Nat.le_of_ble_eq_true rfl) ?_
  have hFr : mi_Fr w w [h, h + 1, h + 2] := mi_Fr.rf
  repeat (first | refine mi_s1 (fun _ => rfl) ?_ | refine mi_wgf rfl (by assumption) rfl ?_ | refine mi_wal rfl (by assumption) rfl (by omega) (by decide) ?_)
  refine mi_wcv rfl rfl (Nat.le_of_ble_eq_true rfl) h0 rfl (ev_has H a b) ?_
  repeat (first | refine mi_s1 (fun _ => rfl) ?_ | refine mi_wgf rfl (by assumption) rfl ?_ | refine mi_wal rfl (by assumption) rfl (by omega) (by decide) ?_)
  by_cases q : FI F a b = true
  · obtain ⟨m, n, hm, hn, rfl, rfl, hF⟩ := FI_in hi.1 q
    rw [if_pos q, nI_clamp (by omega), nI_clamp (by omega)]
    have hj : jb (FI F (nI m) (nI n) = true) = 1 := if_pos q
    have hi2 := Ri_del hi hm hn hF
    have hct : 1 ≤ ct := by
      have := cnt_one (F := delF F m n) (G := F) hm hn (fun x y hxy => by
        have : (decide (x = m) && decide (y = n)) = false := by
          rw [Bool.and_eq_false_iff, decide_eq_false_iff_not, decide_eq_false_iff_not]
          by_cases z : x = m
          · exact Or.inr (fun z2 => hxy ⟨z, z2⟩)
          · exact Or.inl z
        simp [delF, this]) (by simp [delF]) hF
      have := hi.2.2.2.2.2.2
      omega
    refine mi_wif (fun z => absurd (z.symm.trans hj) (by decide)) (fun _ => ?_)
    repeat (first | refine mi_s1 (fun _ => rfl) ?_ | refine mi_wgf rfl (by assumption) rfl ?_ | refine mi_wal rfl (by assumption) rfl (by omega) (by decide) ?_)
    refine mi_wag rfl h1 rfl (by omega) (by decide) (fun w h1 hF => ?_)
    have h0 := hF.get (by simp only [List.mem_cons, List.not_mem_nil, or_false]; omega) h0
    have h2 := hF.get (by simp only [List.mem_cons, List.not_mem_nil, or_false]; omega) h2
    have hFr := hFr.tr (hF.mono (by simp))
    repeat (first | refine mi_s1 (fun _ => rfl) ?_ | refine mi_wgf rfl (by assumption) rfl ?_ | refine mi_wal rfl (by assumption) rfl (by omega) (by decide) ?_)
    refine mi_wag rfl h2 rfl (by omega) (by decide) (fun w h2 hF => ?_)
    have h0 := hF.get (by simp only [List.mem_cons, List.not_mem_nil, or_false]; omega) h0
    have h1 := hF.get (by simp only [List.mem_cons, List.not_mem_nil, or_false]; omega) h1
    have hFr := hFr.tr (hF.mono (by simp))
    repeat (first | refine mi_s1 (fun _ => rfl) ?_ | refine mi_wgf rfl (by assumption) rfl ?_ | refine mi_wal rfl (by assumption) rfl (by omega) (by decide) ?_)
    have nI_pred' : nI ct - nI 1 = nI (ct - 1) := pk_sub hct
    refine mi_wif (fun q4 => ?_) (fun q4 => ?_)
    · have q4 : (rows m &&& (nI 1 <<< (nI n &&& 31) ^^^ -1)) = 0 := by
        rw [pk_us] at q4
        exact q4
      rw [if_pos q4] at hi2
      repeat (first | refine mi_s1 (fun _ => rfl) ?_ | refine mi_wgf rfl (by assumption) rfl ?_ | refine mi_wal rfl (by assumption) rfl (by omega) (by decide) ?_)
      refine mi_wpg rfl h0 (Nat.le_of_ble_eq_true rfl) rfl (fun w h0 hF => ?_)
      dsimp only [List.set] at h0
      have h1 := hF.get (by simp only [List.mem_cons, List.not_mem_nil, or_false]; omega) h1
      have h2 := hF.get (by simp only [List.mem_cons, List.not_mem_nil, or_false]; omega) h2
      have hFr := hFr.tr (hF.mono (by simp))
      repeat (first | refine mi_s1 (fun _ => rfl) ?_ | refine mi_wgf rfl (by assumption) rfl ?_ | refine mi_wal rfl (by assumption) rfl (by omega) (by decide) ?_)
      refine mi_wif (fun q5 => ?_) (fun q5 => ?_)
      · have q5 : (cols n &&& (nI 1 <<< (nI m &&& 31) ^^^ -1)) = 0 := by
          rw [pk_us] at q5
          exact q5
        rw [if_pos q5] at hi2
        repeat (first | refine mi_s1 (fun _ => rfl) ?_ | refine mi_wgf rfl (by assumption) rfl ?_ | refine mi_wal rfl (by assumption) rfl (by omega) (by decide) ?_)
        refine mi_wpg rfl h0 (Nat.le_of_ble_eq_true rfl) rfl (fun w h0 hF => ?_)
        dsimp only [List.set] at h0
        have h1 := hF.get (by simp only [List.mem_cons, List.not_mem_nil, or_false]; omega) h1
        have h2 := hF.get (by simp only [List.mem_cons, List.not_mem_nil, or_false]; omega) h2
        have hFr := hFr.tr (hF.mono (by simp))
        repeat (first | refine mi_s1 (fun _ => rfl) ?_ | refine mi_wgf rfl (by assumption) rfl ?_ | refine mi_wal rfl (by assumption) rfl (by omega) (by decide) ?_)
        refine mi_wif (fun q2 => ?_) (fun q2 => ?_)
        · have q3 : m = n := (nI_eq (by omega) (by omega)).mp q2
          rw [if_pos q3] at hi2
          repeat (first | refine mi_s1 (fun _ => rfl) ?_ | refine mi_wgf rfl (by assumption) rfl ?_ | refine mi_wal rfl (by assumption) rfl (by omega) (by decide) ?_)
          refine mi_wpg rfl h0 (Nat.le_of_ble_eq_true rfl) rfl (fun w h0 hF => ?_)
          dsimp only [List.set] at h0
          have h1 := hF.get (by simp only [List.mem_cons, List.not_mem_nil, or_false]; omega) h1
          have h2 := hF.get (by simp only [List.mem_cons, List.not_mem_nil, or_false]; omega) h2
          have hFr := hFr.tr (hF.mono (by simp))
          repeat (first | refine mi_s1 (fun _ => rfl) ?_ | refine mi_wgf rfl (by assumption) rfl ?_ | refine mi_wal rfl (by assumption) rfl (by omega) (by decide) ?_)
          refine mi_wpg rfl h0 (Nat.le_of_ble_eq_true rfl) rfl (fun w h0 hF => ?_)
          dsimp only [List.set] at h0
          have h1 := hF.get (by simp only [List.mem_cons, List.not_mem_nil, or_false]; omega) h1
          have h2 := hF.get (by simp only [List.mem_cons, List.not_mem_nil, or_false]; omega) h2
          have hFr := hFr.tr (hF.mono (by simp))
          repeat (first | refine mi_s1 (fun _ => rfl) ?_ | refine mi_wgf rfl (by assumption) rfl ?_ | refine mi_wal rfl (by assumption) rfl (by omega) (by decide) ?_)
          refine mi_wrz rfl rfl rfl ?_
          rw [nI_pred'] at h0
          exact ⟨by rw [hj]; rfl, ⟨_, _, _, _, _, _, h0, h1, h2, hi2⟩, hFr⟩
        · have q3 : ¬ m = n := fun z => q2 (by rw [z])
          rw [if_neg q3] at hi2
          repeat (first | refine mi_s1 (fun _ => rfl) ?_ | refine mi_wgf rfl (by assumption) rfl ?_ | refine mi_wal rfl (by assumption) rfl (by omega) (by decide) ?_)
          refine mi_wpg rfl h0 (Nat.le_of_ble_eq_true rfl) rfl (fun w h0 hF => ?_)
          dsimp only [List.set] at h0
          have h1 := hF.get (by simp only [List.mem_cons, List.not_mem_nil, or_false]; omega) h1
          have h2 := hF.get (by simp only [List.mem_cons, List.not_mem_nil, or_false]; omega) h2
          have hFr := hFr.tr (hF.mono (by simp))
          repeat (first | refine mi_s1 (fun _ => rfl) ?_ | refine mi_wgf rfl (by assumption) rfl ?_ | refine mi_wal rfl (by assumption) rfl (by omega) (by decide) ?_)
          refine mi_wrz rfl rfl rfl ?_
          rw [nI_pred'] at h0
          exact ⟨by rw [hj]; rfl, ⟨_, _, _, _, _, _, h0, h1, h2, hi2⟩, hFr⟩
      · have q5 : ¬ (cols n &&& (nI 1 <<< (nI m &&& 31) ^^^ -1)) = 0 := by
          rw [pk_us] at q5
          exact q5
        rw [if_neg q5] at hi2
        repeat (first | refine mi_s1 (fun _ => rfl) ?_ | refine mi_wgf rfl (by assumption) rfl ?_ | refine mi_wal rfl (by assumption) rfl (by omega) (by decide) ?_)
        refine mi_wif (fun q2 => ?_) (fun q2 => ?_)
        · have q3 : m = n := (nI_eq (by omega) (by omega)).mp q2
          rw [if_pos q3] at hi2
          repeat (first | refine mi_s1 (fun _ => rfl) ?_ | refine mi_wgf rfl (by assumption) rfl ?_ | refine mi_wal rfl (by assumption) rfl (by omega) (by decide) ?_)
          refine mi_wpg rfl h0 (Nat.le_of_ble_eq_true rfl) rfl (fun w h0 hF => ?_)
          dsimp only [List.set] at h0
          have h1 := hF.get (by simp only [List.mem_cons, List.not_mem_nil, or_false]; omega) h1
          have h2 := hF.get (by simp only [List.mem_cons, List.not_mem_nil, or_false]; omega) h2
          have hFr := hFr.tr (hF.mono (by simp))
          repeat (first | refine mi_s1 (fun _ => rfl) ?_ | refine mi_wgf rfl (by assumption) rfl ?_ | refine mi_wal rfl (by assumption) rfl (by omega) (by decide) ?_)
          refine mi_wpg rfl h0 (Nat.le_of_ble_eq_true rfl) rfl (fun w h0 hF => ?_)
          dsimp only [List.set] at h0
          have h1 := hF.get (by simp only [List.mem_cons, List.not_mem_nil, or_false]; omega) h1
          have h2 := hF.get (by simp only [List.mem_cons, List.not_mem_nil, or_false]; omega) h2
          have hFr := hFr.tr (hF.mono (by simp))
          repeat (first | refine mi_s1 (fun _ => rfl) ?_ | refine mi_wgf rfl (by assumption) rfl ?_ | refine mi_wal rfl (by assumption) rfl (by omega) (by decide) ?_)
          refine mi_wrz rfl rfl rfl ?_
          rw [nI_pred'] at h0
          exact ⟨by rw [hj]; rfl, ⟨_, _, _, _, _, _, h0, h1, h2, hi2⟩, hFr⟩
        · have q3 : ¬ m = n := fun z => q2 (by rw [z])
          rw [if_neg q3] at hi2
          repeat (first | refine mi_s1 (fun _ => rfl) ?_ | refine mi_wgf rfl (by assumption) rfl ?_ | refine mi_wal rfl (by assumption) rfl (by omega) (by decide) ?_)
          refine mi_wpg rfl h0 (Nat.le_of_ble_eq_true rfl) rfl (fun w h0 hF => ?_)
          dsimp only [List.set] at h0
          have h1 := hF.get (by simp only [List.mem_cons, List.not_mem_nil, or_false]; omega) h1
          have h2 := hF.get (by simp only [List.mem_cons, List.not_mem_nil, or_false]; omega) h2
          have hFr := hFr.tr (hF.mono (by simp))
          repeat (first | refine mi_s1 (fun _ => rfl) ?_ | refine mi_wgf rfl (by assumption) rfl ?_ | refine mi_wal rfl (by assumption) rfl (by omega) (by decide) ?_)
          refine mi_wrz rfl rfl rfl ?_
          rw [nI_pred'] at h0
          exact ⟨by rw [hj]; rfl, ⟨_, _, _, _, _, _, h0, h1, h2, hi2⟩, hFr⟩
    · have q4 : ¬ (rows m &&& (nI 1 <<< (nI n &&& 31) ^^^ -1)) = 0 := by
        rw [pk_us] at q4
        exact q4
      rw [if_neg q4] at hi2
      repeat (first | refine mi_s1 (fun _ => rfl) ?_ | refine mi_wgf rfl (by assumption) rfl ?_ | refine mi_wal rfl (by assumption) rfl (by omega) (by decide) ?_)
      refine mi_wif (fun q5 => ?_) (fun q5 => ?_)
      · have q5 : (cols n &&& (nI 1 <<< (nI m &&& 31) ^^^ -1)) = 0 := by
          rw [pk_us] at q5
          exact q5
        rw [if_pos q5] at hi2
        repeat (first | refine mi_s1 (fun _ => rfl) ?_ | refine mi_wgf rfl (by assumption) rfl ?_ | refine mi_wal rfl (by assumption) rfl (by omega) (by decide) ?_)
        refine mi_wpg rfl h0 (Nat.le_of_ble_eq_true rfl) rfl (fun w h0 hF => ?_)
        dsimp only [List.set] at h0
        have h1 := hF.get (by simp only [List.mem_cons, List.not_mem_nil, or_false]; omega) h1
        have h2 := hF.get (by simp only [List.mem_cons, List.not_mem_nil, or_false]; omega) h2
        have hFr := hFr.tr (hF.mono (by simp))
        repeat (first | refine mi_s1 (fun _ => rfl) ?_ | refine mi_wgf rfl (by assumption) rfl ?_ | refine mi_wal rfl (by assumption) rfl (by omega) (by decide) ?_)
        refine mi_wif (fun q2 => ?_) (fun q2 => ?_)
        · have q3 : m = n := (nI_eq (by omega) (by omega)).mp q2
          rw [if_pos q3] at hi2
          repeat (first | refine mi_s1 (fun _ => rfl) ?_ | refine mi_wgf rfl (by assumption) rfl ?_ | refine mi_wal rfl (by assumption) rfl (by omega) (by decide) ?_)
          refine mi_wpg rfl h0 (Nat.le_of_ble_eq_true rfl) rfl (fun w h0 hF => ?_)
          dsimp only [List.set] at h0
          have h1 := hF.get (by simp only [List.mem_cons, List.not_mem_nil, or_false]; omega) h1
          have h2 := hF.get (by simp only [List.mem_cons, List.not_mem_nil, or_false]; omega) h2
          have hFr := hFr.tr (hF.mono (by simp))
          repeat (first | refine mi_s1 (fun _ => rfl) ?_ | refine mi_wgf rfl (by assumption) rfl ?_ | refine mi_wal rfl (by assumption) rfl (by omega) (by decide) ?_)
          refine mi_wpg rfl h0 (Nat.le_of_ble_eq_true rfl) rfl (fun w h0 hF => ?_)
          dsimp only [List.set] at h0
          have h1 := hF.get (by simp only [List.mem_cons, List.not_mem_nil, or_false]; omega) h1
          have h2 := hF.get (by simp only [List.mem_cons, List.not_mem_nil, or_false]; omega) h2
          have hFr := hFr.tr (hF.mono (by simp))
          repeat (first | refine mi_s1 (fun _ => rfl) ?_ | refine mi_wgf rfl (by assumption) rfl ?_ | refine mi_wal rfl (by assumption) rfl (by omega) (by decide) ?_)
          refine mi_wrz rfl rfl rfl ?_
          rw [nI_pred'] at h0
          exact ⟨by rw [hj]; rfl, ⟨_, _, _, _, _, _, h0, h1, h2, hi2⟩, hFr⟩
        · have q3 : ¬ m = n := fun z => q2 (by rw [z])
          rw [if_neg q3] at hi2
          repeat (first | refine mi_s1 (fun _ => rfl) ?_ | refine mi_wgf rfl (by assumption) rfl ?_ | refine mi_wal rfl (by assumption) rfl (by omega) (by decide) ?_)
          refine mi_wpg rfl h0 (Nat.le_of_ble_eq_true rfl) rfl (fun w h0 hF => ?_)
          dsimp only [List.set] at h0
          have h1 := hF.get (by simp only [List.mem_cons, List.not_mem_nil, or_false]; omega) h1
          have h2 := hF.get (by simp only [List.mem_cons, List.not_mem_nil, or_false]; omega) h2
          have hFr := hFr.tr (hF.mono (by simp))
          repeat (first | refine mi_s1 (fun _ => rfl) ?_ | refine mi_wgf rfl (by assumption) rfl ?_ | refine mi_wal rfl (by assumption) rfl (by omega) (by decide) ?_)
          refine mi_wrz rfl rfl rfl ?_
          rw [nI_pred'] at h0
          exact ⟨by rw [hj]; rfl, ⟨_, _, _, _, _, _, h0, h1, h2, hi2⟩, hFr⟩
      · have q5 : ¬ (cols n &&& (nI 1 <<< (nI m &&& 31) ^^^ -1)) = 0 := by
          rw [pk_us] at q5
          exact q5
        rw [if_neg q5] at hi2
        repeat (first | refine mi_s1 (fun _ => rfl) ?_ | refine mi_wgf rfl (by assumption) rfl ?_ | refine mi_wal rfl (by assumption) rfl (by omega) (by decide) ?_)
        refine mi_wif (fun q2 => ?_) (fun q2 => ?_)
        · have q3 : m = n := (nI_eq (by omega) (by omega)).mp q2
          rw [if_pos q3] at hi2
          repeat (first | refine mi_s1 (fun _ => rfl) ?_ | refine mi_wgf rfl (by assumption) rfl ?_ | refine mi_wal rfl (by assumption) rfl (by omega) (by decide) ?_)
          refine mi_wpg rfl h0 (Nat.le_of_ble_eq_true rfl) rfl (fun w h0 hF => ?_)
          dsimp only [List.set] at h0
          have h1 := hF.get (by simp only [List.mem_cons, List.not_mem_nil, or_false]; omega) h1
          have h2 := hF.get (by simp only [List.mem_cons, List.not_mem_nil, or_false]; omega) h2
          have hFr := hFr.tr (hF.mono (by simp))
          repeat (first | refine mi_s1 (fun _ => rfl) ?_ | refine mi_wgf rfl (by assumption) rfl ?_ | refine mi_wal rfl (by assumption) rfl (by omega) (by decide) ?_)
          refine mi_wpg rfl h0 (Nat.le_of_ble_eq_true rfl) rfl (fun w h0 hF => ?_)
          dsimp only [List.set] at h0
          have h1 := hF.get (by simp only [List.mem_cons, List.not_mem_nil, or_false]; omega) h1
          have h2 := hF.get (by simp only [List.mem_cons, List.not_mem_nil, or_false]; omega) h2
          have hFr := hFr.tr (hF.mono (by simp))
          repeat (first | refine mi_s1 (fun _ => rfl) ?_ | refine mi_wgf rfl (by assumption) rfl ?_ | refine mi_wal rfl (by assumption) rfl (by omega) (by decide) ?_)
          refine mi_wrz rfl rfl rfl ?_
          rw [nI_pred'] at h0
          exact ⟨by rw [hj]; rfl, ⟨_, _, _, _, _, _, h0, h1, h2, hi2⟩, hFr⟩
        · have q3 : ¬ m = n := fun z => q2 (by rw [z])
          rw [if_neg q3] at hi2
          repeat (first | refine mi_s1 (fun _ => rfl) ?_ | refine mi_wgf rfl (by assumption) rfl ?_ | refine mi_wal rfl (by assumption) rfl (by omega) (by decide) ?_)
          refine mi_wpg rfl h0 (Nat.le_of_ble_eq_true rfl) rfl (fun w h0 hF => ?_)
          dsimp only [List.set] at h0
          have h1 := hF.get (by simp only [List.mem_cons, List.not_mem_nil, or_false]; omega) h1
          have h2 := hF.get (by simp only [List.mem_cons, List.not_mem_nil, or_false]; omega) h2
          have hFr := hFr.tr (hF.mono (by simp))
          repeat (first | refine mi_s1 (fun _ => rfl) ?_ | refine mi_wgf rfl (by assumption) rfl ?_ | refine mi_wal rfl (by assumption) rfl (by omega) (by decide) ?_)
          refine mi_wrz rfl rfl rfl ?_
          rw [nI_pred'] at h0
          exact ⟨by rw [hj]; rfl, ⟨_, _, _, _, _, _, h0, h1, h2, hi2⟩, hFr⟩
  · rw [if_neg q]
    have hj : jb (FI F a b = true) = 0 := if_neg q
    refine mi_wif (fun _ => ?_) (fun z => absurd hj z)
    repeat (first | refine mi_s1 (fun _ => rfl) ?_ | refine mi_wgf rfl (by assumption) rfl ?_ | refine mi_wal rfl (by assumption) rfl (by omega) (by decide) ?_)
    refine mi_wrz rfl rfl rfl ?_
    exact ⟨by rw [hj]; rfl, H, hFr⟩
theorem Ri_nil : Ri (fun _ _ => false) (fun _ => 0) (fun _ => 0) 0 0 0 0 := by
  refine ⟨fun a b h => (by cases h), fun a b _ _ => b_0 b, fun a b _ _ => b_0 a, fun a _ => ?_, fun a _ => ?_, fun a _ => b_0 a, by decide +kernel⟩
  · rw [b_0]
    exact (by decide +kernel : false = anyB (fun _ => false))
  · rw [b_0]
    exact (by decide +kernel : false = anyB (fun _ => false))
theorem Ri_ext {F : Nat → Nat → Bool} {rows cols rows' cols' : Nat → Int32} {fi se du : Int32} {ct : Nat} (H : Ri F rows cols fi se du ct) (h1 : ∀ a, a < 24 → rows' a = rows a) (h2 : ∀ a, a < 24 → cols' a = cols a) : Ri F rows' cols' fi se du ct :=
  ⟨H.1, fun a b ha hb => by rw [h1 a ha]; exact H.2.1 a b ha hb, fun a b hb ha => by rw [h2 b hb]; exact H.2.2.1 a b hb ha, H.2.2.2⟩
theorem ev_clear_loop {h : Nat} {fs : List Value} (hfs : fs[0]? = some (.ref (h + 1)) ∧ fs[1]? = some (.ref (h + 2))) {w0 : mi_H} {Q : Option Value → mi_H → Prop} (kk : ∀ (w1 : mi_H) (rows cols : Nat → Int32), w1[h]? = some (.inr (2, fs)) → w1[h + 1]? = some (.inl (0, 24, .inl rows)) → w1[h + 2]? = some (.inl (0, 24, .inl cols)) → (∀ a, a < 24 → rows a = 0 ∧ cols a = 0) → mi_Fr w0 w1 [h, h + 1, h + 2] → mi_wp X mi_P 0 m_Re_clear (28, [some (.ref h), some (.int (nI 24))], [], w1) Q) : ∀ f m (w : mi_H) (rows cols : Nat → Int32), m + f = 24 → w[h]? = some (.inr (2, fs)) → w[h + 1]? = some (.inl (0, 24, .inl rows)) → w[h + 2]? = some (.inl (0, 24, .inl cols)) → (∀ a, a < m → rows a = 0 ∧ cols a = 0) → mi_Fr w0 w [h, h + 1, h + 2] → mi_wp X mi_P 0 m_Re_clear (2, [some (.ref h), some (.int (nI m))], [], w) Q
  | 0, m, w, rows, cols, hm, h0, h1, h2, hz, hFr => by
    have hm : m = 24 := by omega
    subst hm
    refine mi_s1 (fun _ => rfl) ?_; refine mi_s1 (fun _ => rfl) ?_; refine mi_s1 (fun _ => rfl) ?_
    exact kk w rows cols h0 h1 h2 hz hFr
  | f + 1, m, w, rows, cols, hm, h0, h1, h2, hz, hFr => by
    repeat (first | refine mi_s1 (fun _ => rfl) ?_ | refine mi_wgf rfl (by assumption) rfl ?_ | refine mi_wal rfl (by assumption) rfl (by omega) (by decide) ?_)
    refine mi_wif (fun z => absurd z (nI_ge (a := m) (b := 24) (by omega) (by omega))) (fun _ => ?_)
    refine mi_s1 (fun _ => rfl) ?_
    refine mi_wgf rfl h0 hfs.1 ?_
    repeat (first | refine mi_s1 (fun _ => rfl) ?_ | refine mi_wgf rfl (by assumption) rfl ?_ | refine mi_wal rfl (by assumption) rfl (by omega) (by decide) ?_)
    refine mi_wag rfl h1 rfl (by omega) (by decide) (fun w h1 hF => ?_)
    have h0 := hF.get (by simp only [List.mem_cons, List.not_mem_nil, or_false]; omega) h0
    have h2 := hF.get (by simp only [List.mem_cons, List.not_mem_nil, or_false]; omega) h2
    have hFr := hFr.tr (hF.mono (by simp))
    refine mi_s1 (fun _ => rfl) ?_
    refine mi_wgf rfl h0 hfs.2 ?_
    repeat (first | refine mi_s1 (fun _ => rfl) ?_ | refine mi_wgf rfl (by assumption) rfl ?_ | refine mi_wal rfl (by assumption) rfl (by omega) (by decide) ?_)
    refine mi_wag rfl h2 rfl (by omega) (by decide) (fun w h2 hF => ?_)
    have h0 := hF.get (by simp only [List.mem_cons, List.not_mem_nil, or_false]; omega) h0
    have h1 := hF.get (by simp only [List.mem_cons, List.not_mem_nil, or_false]; omega) h1
    have hFr := hFr.tr (hF.mono (by simp))
    refine mi_s1 (fun _ => rfl) ?_; refine mi_s1 (fun _ => rfl) ?_
    rw [show nI m + nI 1 = nI (m + 1) from nI_1 m]
    refine ev_clear_loop hfs kk f (m + 1) w _ _ (by omega) h0 h1 h2 (fun a ha => ?_) hFr
    unfold upd
    by_cases q : a = m
    · rw [if_pos q, if_pos q]
      exact ⟨rfl, rfl⟩
    · rw [if_neg q, if_neg q]
      exact hz a (by omega)
theorem ev_clear {h : Nat} {F : Nat → Nat → Bool} (H : Rl w h F) : mi_Ex X 1 k_Re_clear [.ref h] w (fun r w' => r = none ∧ Rl w' h (fun _ _ => false) ∧ mi_Fr w w' [h, h + 1, h + 2]) := by
  obtain ⟨rows, cols, fi, se, du, ct, h0, h1, h2, hi⟩ := id H
  refine mi_Ex.of (M := m_Re_clear) rfl (Nat.le_of_ble_eq_true rfl) ?_
  refine mi_s1 (fun _ => rfl) ?_; refine mi_s1 (fun _ => rfl) ?_
  refine ev_clear_loop (w0 := w) ⟨rfl, rfl⟩ (fun w rows cols h0 h1 h2 hz hFr => ?_) 24 0 w rows cols rfl h0 h1 h2 (fun a ha => absurd ha (Nat.not_lt_zero a)) mi_Fr.rf
  repeat (first | refine mi_s1 (fun _ => rfl) ?_ | refine mi_wgf rfl (by assumption) rfl ?_ | refine mi_wal rfl (by assumption) rfl (by omega) (by decide) ?_)
  refine mi_wpg rfl h0 (Nat.le_of_ble_eq_true rfl) rfl (fun w h0 hF => ?_)
  dsimp only [List.set] at h0
  have h1 := hF.get (by simp only [List.mem_cons, List.not_mem_nil, or_false]; omega) h1
  have h2 := hF.get (by simp only [List.mem_cons, List.not_mem_nil, or_false]; omega) h2
  have hFr := hFr.tr (hF.mono (by simp))
  repeat (first | refine mi_s1 (fun _ => rfl) ?_ | refine mi_wgf rfl (by assumption) rfl ?_ | refine mi_wal rfl (by assumption) rfl (by omega) (by decide) ?_)
  refine mi_wpg rfl h0 (Nat.le_of_ble_eq_true rfl) rfl (fun w h0 hF => ?_)
  dsimp only [List.set] at h0
  have h1 := hF.get (by simp only [List.mem_cons, List.not_mem_nil, or_false]; omega) h1
  have h2 := hF.get (by simp only [List.mem_cons, List.not_mem_nil, or_false]; omega) h2
  have hFr := hFr.tr (hF.mono (by simp))
  repeat (first | refine mi_s1 (fun _ => rfl) ?_ | refine mi_wgf rfl (by assumption) rfl ?_ | refine mi_wal rfl (by assumption) rfl (by omega) (by decide) ?_)
  refine mi_wpg rfl h0 (Nat.le_of_ble_eq_true rfl) rfl (fun w h0 hF => ?_)
  dsimp only [List.set] at h0
  have h1 := hF.get (by simp only [List.mem_cons, List.not_mem_nil, or_false]; omega) h1
  have h2 := hF.get (by simp only [List.mem_cons, List.not_mem_nil, or_false]; omega) h2
  have hFr := hFr.tr (hF.mono (by simp))
  repeat (first | refine mi_s1 (fun _ => rfl) ?_ | refine mi_wgf rfl (by assumption) rfl ?_ | refine mi_wal rfl (by assumption) rfl (by omega) (by decide) ?_)
  refine mi_wpg rfl h0 (Nat.le_of_ble_eq_true rfl) rfl (fun w h0 hF => ?_)
  dsimp only [List.set] at h0
  have h1 := hF.get (by simp only [List.mem_cons, List.not_mem_nil, or_false]; omega) h1
  have h2 := hF.get (by simp only [List.mem_cons, List.not_mem_nil, or_false]; omega) h2
  have hFr := hFr.tr (hF.mono (by simp))
  refine mi_r1 (fun _ => rfl) ?_
  exact ⟨rfl, ⟨_, _, _, _, _, 0, h0, h1, h2, Ri_ext Ri_nil (fun a ha => (hz a ha).1) (fun a ha => (hz a ha).2)⟩, hFr⟩
end Rel
