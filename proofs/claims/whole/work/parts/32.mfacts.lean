/-! the model: facts in arrays -/
theorem cnt_zero : cnt (fun _ _ => false) = 0 := by
  have : ∀ n, sm (fun _ => cn (fun _ => false) 24) n = 0 := by
    intro n
    induction n with
    | zero => rfl
    | succ n ih =>
      unfold sm
      rw [ih, cn_zero 24 (fun _ _ => rfl)]
  exact this 24
theorem cnt_list {r : Nat} : ∀ l : List sp_A, l.Nodup → (∀ q ∈ l, q.2.1 < 24 ∧ q.2.2 < 24) → cnt (fun x y => decide ((r, x, y) ∈ l)) = l.countP (fun q => decide (q.1 = r))
  | [], _, _ => by
    have e : (fun x y => decide ((r, x, y) ∈ ([] : List sp_A))) = fun _ _ => false := by
      funext x y
      simp
    rw [e, cnt_zero]
    rfl
  | q :: l, hn, hb => by
    obtain ⟨h1, h2⟩ := List.nodup_cons.mp hn
    have ih := cnt_list (r := r) l h2 (fun p hp => hb p (List.mem_cons_of_mem _ hp))
    obtain ⟨b1, b2⟩ := hb q List.mem_cons_self
    rw [List.countP_cons]
    by_cases z : q.1 = r
    · rw [if_pos (by simpa using z), ← ih]
      have hq : (r, q.2.1, q.2.2) = q := by
        rw [← z]
      refine cnt_one b1 b2 (fun x y hne => ?_) ?_ ?_
      · have : (r, x, y) ≠ q := fun h => hne (by rw [← h]; exact ⟨rfl, rfl⟩)
        simp [this]
      · rw [hq]
        simpa using h1
      · rw [hq]
        simp
    · rw [if_neg (by simpa using z), ← ih, Nat.add_zero]
      congr 1
      funext x y
      have : (r, x, y) ≠ q := fun h => z (by rw [← h])
      simp [this]
theorem countP2 : ∀ l : List sp_A, (∀ q ∈ l, q.1 < 2) → l.countP (fun q => decide (q.1 = 0)) + l.countP (fun q => decide (q.1 = 1)) = l.length
  | [], _ => rfl
  | q :: l, h => by
    have ih := countP2 l (fun p hp => h p (List.mem_cons_of_mem _ hp))
    have hq := h q List.mem_cons_self
    rw [List.countP_cons, List.countP_cons, List.length_cons]
    have : q.1 = 0 ∨ q.1 = 1 := by omega
    rcases this with e | e <;> simp [e] <;> omega
theorem countP4 : ∀ l : List sp_A, (∀ q ∈ l, 2 ≤ q.1 ∧ q.1 < 6) → l.countP (fun q => decide (q.1 = 2)) + (l.countP (fun q => decide (q.1 = 3)) + (l.countP (fun q => decide (q.1 = 4)) + l.countP (fun q => decide (q.1 = 5)))) = l.length
  | [], _ => rfl
  | q :: l, h => by
    have ih := countP4 l (fun p hp => h p (List.mem_cons_of_mem _ hp))
    have hq := h q List.mem_cons_self
    rw [List.countP_cons, List.countP_cons, List.countP_cons, List.countP_cons, List.length_cons]
    have : q.1 = 2 ∨ q.1 = 3 ∨ q.1 = 4 ∨ q.1 = 5 := by omega
    rcases this with e | e | e | e <;> simp [e] <;> omega
section Lists
variable {a : mo_a} {ls lt : List sp_A} {F : Nat → Nat → Nat → Bool}
theorem Fm.cnt_s (H : Fm a ls lt F) {r : Nat} (hr : r < 2) : cnt (F r) = ls.countP (fun q => decide (q.1 = r)) := by
  obtain ⟨-, -, -, -, h1, h2, h3, -, h⟩ := H
  rw [← cnt_list ls h3 (fun q hq => by have := h1 q hq; unfold okS at this; omega)]
  congr 1
  funext x y
  rw [Bool.eq_iff_iff, h r x y (by omega)]
  constructor
  · rintro (q | q)
    · simpa using q
    · exact absurd (h2 _ q).1 (by show ¬ 2 ≤ r; omega)
  · intro q
    exact Or.inl (by simpa using q)
theorem Fm.cnt_t (H : Fm a ls lt F) {r : Nat} (hr : 2 ≤ r) (hr6 : r < 6) : cnt (F r) = lt.countP (fun q => decide (q.1 = r)) := by
  obtain ⟨-, -, -, -, h1, h2, -, h3, h⟩ := H
  rw [← cnt_list lt h3 (fun q hq => by have := h2 q hq; unfold okT at this; omega)]
  congr 1
  funext x y
  rw [Bool.eq_iff_iff, h r x y hr6]
  constructor
  · rintro (q | q)
    · exact absurd (h1 _ q).1 (by show ¬ r < 2; omega)
    · simpa using q
  · intro q
    exact Or.inr (by simpa using q)
theorem Fm.cts_s (H : Fm a ls lt F) : cts F 0 2 = ls.length := by
  show cnt (F 0) + (cnt (F 1) + 0) = _
  rw [H.cnt_s (by decide), H.cnt_s (by decide), Nat.add_zero]
  exact countP2 ls (fun q hq => (H.2.2.2.2.1 q hq).1)
theorem Fm.cts_t (H : Fm a ls lt F) : cts F 2 4 = lt.length := by
  show cnt (F 2) + (cnt (F 3) + (cnt (F 4) + (cnt (F 5) + 0))) = _
  rw [H.cnt_t (by decide) (by decide), H.cnt_t (by decide) (by decide), H.cnt_t (by decide) (by decide), H.cnt_t (by decide) (by decide), Nat.add_zero]
  exact countP4 lt (fun q hq => ⟨(H.2.2.2.2.2.1 q hq).1, (H.2.2.2.2.2.1 q hq).2.1⟩)
theorem Fm.mem_t (H : Fm a ls lt F) {r x y : Nat} (h2 : 2 ≤ r) (h6 : r < 6) : F r x y = true ↔ (r, x, y) ∈ lt := by
  rw [H.2.2.2.2.2.2.2.2 r x y h6]
  constructor
  · rintro (q | q)
    · exact absurd (H.2.2.2.2.1 _ q).1 (by show ¬ r < 2; omega)
    · exact q
  · exact Or.inr
theorem Fm.b24 (H : Fm a ls lt F) : ∀ i, i < 6 → ∀ x y, F i x y = true → x < 24 ∧ y < 24 := by
  intro i hi x y h
  rcases (H.2.2.2.2.2.2.2.2 i x y hi).mp h with q | q
  · have := H.2.2.2.2.1 _ q
    unfold okS at this
    dsimp only at this
    omega
  · have := H.2.2.2.2.2.1 _ q
    unfold okT at this
    dsimp only at this
    omega
theorem occ_iff {F : Nat → Nat → Nat → Bool} (hb : ∀ i, i < 6 → ∀ x y, F i x y = true → x < 24 ∧ y < 24) {v : Nat} : ∀ f m, m + f ≤ 6 → (occ F m f v = true ↔ ∃ r x y, m ≤ r ∧ r < m + f ∧ F r x y = true ∧ (x = v ∨ y = v))
  | 0, m, _ => by
    constructor
    · intro h
      cases h
    · rintro ⟨r, x, y, h1, h2, -⟩
      omega
  | f + 1, m, hm => by
    unfold occ
    rw [Bool.or_eq_true, Bool.or_eq_true, occ_iff hb f (m + 1) (by omega), anyB_iff, anyB_iff]
    constructor
    · rintro ((⟨i, hi, h⟩ | ⟨i, hi, h⟩) | ⟨r, x, y, h1, h2, h3⟩)
      · exact ⟨m, v, i, Nat.le_refl m, by omega, h, Or.inl rfl⟩
      · exact ⟨m, i, v, Nat.le_refl m, by omega, h, Or.inr rfl⟩
      · exact ⟨r, x, y, by omega, by omega, h3⟩
    · rintro ⟨r, x, y, h1, h2, h3, h4⟩
      by_cases z : r = m
      · subst z
        have := hb r (by omega) x y h3
        rcases h4 with rfl | rfl
        · exact Or.inl (Or.inl ⟨y, this.2, h3⟩)
        · exact Or.inl (Or.inr ⟨x, this.1, h3⟩)
      · exact Or.inr ⟨r, x, y, by omega, by omega, h3, h4⟩
theorem inB_iff {as : List sp_A} {v : Nat} : inB as v = true ↔ ∃ q ∈ as, q.2.1 = v ∨ q.2.2 = v := by
  unfold inB
  rw [List.any_eq_true]
  constructor
  · rintro ⟨q, h1, h2⟩
    exact ⟨q, h1, by simpa using h2⟩
  · rintro ⟨q, h1, h2⟩
    exact ⟨q, h1, by simpa using h2⟩
theorem Fm.oc (H : Fm a ls lt F) (v : Nat) : occ F 2 4 v = inB lt v := by
  rw [Bool.eq_iff_iff, occ_iff H.b24 4 2 (by omega), inB_iff]
  constructor
  · rintro ⟨r, x, y, h1, h2, h3, h4⟩
    exact ⟨(r, x, y), (H.mem_t (by omega) (by omega)).mp h3, h4⟩
  · rintro ⟨q, h1, h2⟩
    have := H.2.2.2.2.2.1 q h1
    unfold okT at this
    exact ⟨q.1, q.2.1, q.2.2, by omega, by omega, (H.mem_t (by omega) (by omega)).mpr h1, h2⟩
end Lists
/-- a fact at cell k -/
def upF (a : mo_a) (k : Nat) (r x y : Int32) : mo_a := upA (upA (upA a 72 k r) 73 k x) 74 k y
theorem upF_72 {a : mo_a} {k i : Nat} {r x y : Int32} : upF a k r x y 72 i = if i = k then r else a 72 i := by
  unfold upF
  rw [upA_o (by decide), upA_o (by decide), upA_s]
  rfl
theorem upF_73 {a : mo_a} {k i : Nat} {r x y : Int32} : upF a k r x y 73 i = if i = k then x else a 73 i := by
  unfold upF
  rw [upA_o (by decide), upA_s, upA_o (by decide)]
  rfl
theorem upF_74 {a : mo_a} {k i : Nat} {r x y : Int32} : upF a k r x y 74 i = if i = k then y else a 74 i := by
  unfold upF
  rw [upA_s, upA_o (by decide), upA_o (by decide)]
  rfl
theorem upF_o {a : mo_a} {k o : Nat} {r x y : Int32} (h : 75 ≤ o) : upF a k r x y o = a o := by
  unfold upF
  rw [upA_o (by omega), upA_o (by omega), upA_o (by omega)]
theorem upA_j {a : mo_a} {o k p j : Nat} {x : Int32} (h : j ≠ k) : upA a o k x p j = a p j := by
  unfold upA
  by_cases z : p = o
  · rw [if_pos z, pk_un h, z]
  · rw [if_neg z]
theorem upF_j {a : mo_a} {k o j : Nat} {r x y : Int32} (h : j ≠ k) : upF a k r x y o j = a o j := by
  unfold upF
  rw [upA_j h, upA_j h, upA_j h]
theorem Lm.app {a : mo_a} {c : Nat} {l : List sp_A} (H : Lm a c l) (q : sp_A) : Lm (upF a (c + l.length) (nI q.1) (nI q.2.1) (nI q.2.2)) c (l ++ [q]) := by
  intro k p hp
  rw [upF_72, upF_73, upF_74]
  rcases app_get hp with ⟨h1, h2⟩ | ⟨h1, h2⟩
  · rw [if_neg (by omega), if_neg (by omega), if_neg (by omega)]
    exact H k p h2
  · subst h1
    subst h2
    rw [if_pos rfl, if_pos rfl, if_pos rfl]
    exact ⟨rfl, rfl, rfl⟩
theorem Lm.far {a : mo_a} {c k : Nat} {l : List sp_A} {r x y : Int32} (H : Lm a c l) (h : k < c ∨ c + l.length ≤ k) : Lm (upF a k r x y) c l := by
  intro i p hp
  have hi := (List.getElem?_eq_some_iff.mp hp).1
  rw [upF_72, upF_73, upF_74, if_neg (by omega), if_neg (by omega), if_neg (by omega)]
  exact H i p hp
theorem Rm.fr {a : mo_a} {d k : Nat} {R : sp_R} {r x y : Int32} (H : Rm a d R) : Rm (upF a k r x y) d R := H.congr (fun o h1 h2 => upF_o (by omega))
section MFacts
variable {X : mi_X} {w : mi_H} {a : mo_a} {T : mo_T} {ls lt : List sp_A} {F : Nat → Nat → Nat → Bool} {S : sp_S}
theorem mv_put (HM : Mo w a T) {k : Nat} (hk : k < 36) (r x y : Int32) : mi_Ex X 1 k_Mo_put [.ref 71, .int (nI k), .int r, .int x, .int y] w (fun q w1 => q = none ∧ Mo w1 (upF a k r x y) T ∧ mi_Fg w w1 71 94) := by
  have hG : mi_Fg w w 71 94 := mi_Fg.rf
  refine mi_Ex.of (M := m_Mo_put) rfl (Nat.le_of_ble_eq_true rfl) ?_
  repeat (first | refine mi_s1 (fun _ => rfl) ?_ | refine mi_wgf rfl HM.1 rfl ?_ | refine mi_wal rfl (HM.2.1 _ _ rfl) rfl (by omega) (by decide) ?_ | refine mi_wbl rfl (HM.2.2 _ _ rfl) rfl (by omega) (by decide) ?_)
  refine HM.was rfl rfl rfl (by omega) (fun w HM hF => ?_)
  have hG := hG.tr hF
  repeat (first | refine mi_s1 (fun _ => rfl) ?_ | refine mi_wgf rfl HM.1 rfl ?_ | refine mi_wal rfl (HM.2.1 _ _ rfl) rfl (by omega) (by decide) ?_ | refine mi_wbl rfl (HM.2.2 _ _ rfl) rfl (by omega) (by decide) ?_)
  refine HM.was rfl rfl rfl (by omega) (fun w HM hF => ?_)
  have hG := hG.tr hF
  repeat (first | refine mi_s1 (fun _ => rfl) ?_ | refine mi_wgf rfl HM.1 rfl ?_ | refine mi_wal rfl (HM.2.1 _ _ rfl) rfl (by omega) (by decide) ?_ | refine mi_wbl rfl (HM.2.2 _ _ rfl) rfl (by omega) (by decide) ?_)
  refine HM.was rfl rfl rfl (by omega) (fun w HM hF => ?_)
  have hG := hG.tr hF
  refine mi_r1 (fun _ => rfl) ?_
  exact ⟨rfl, HM, hG⟩
theorem mv_occurs_loop {n s : Nat} {ak dr : Bool} (HM : Mo w a (ls.length, lt.length, n, ak, dr, s)) (HF : Fm a ls lt F) {v : Nat} (hv : v < 2 ^ 31) : ∀ f i, i + f = lt.length → mi_wp X mi_P 0 m_Mo_occurs (3, [some (.ref 71), some (.int (nI v)), some (.int (nI (12 + i)))], [], w) (fun r w1 => r = some (.int (jb (inB (lt.drop i) v = true))) ∧ w1 = w)
  | 0, i, hi => by
    obtain ⟨h1, h2, h3, h4, h5, h6, -⟩ := id HF
    repeat (first | refine mi_s1 (fun _ => rfl) ?_ | refine mi_wgf rfl HM.1 rfl ?_ | refine mi_wal rfl (HM.2.1 _ _ rfl) rfl (by omega) (by decide) ?_ | refine mi_wbl rfl (HM.2.2 _ _ rfl) rfl (by omega) (by decide) ?_)
    rw [nI_add]
    refine mi_wif (fun _ => ?_) (fun z => absurd (nI_le (a := 12 + lt.length) (b := 12 + i) (by omega) (by omega)) z)
    repeat (first | refine mi_s1 (fun _ => rfl) ?_ | refine mi_wgf rfl (by assumption) rfl ?_ | refine mi_wal rfl (by assumption) rfl (by omega) (by decide) ?_)
    refine mi_wrz rfl rfl rfl ?_
    refine jb_f ?_
    rw [show i = lt.length by omega, List.drop_length]
    intro q
    cases q
  | f + 1, i, hi => by
    obtain ⟨h1, h2, h3, h4, h5, h6, -⟩ := id HF
    obtain ⟨t, ht, hd'⟩ := drop_at (l := lt) (i := i) (by omega)
    obtain ⟨e1, e2, e3⟩ := h2 i t ht
    have hb := h6 t (List.mem_of_getElem? ht)
    unfold okT at hb
    rw [hd']
    repeat (first | refine mi_s1 (fun _ => rfl) ?_ | refine mi_wgf rfl HM.1 rfl ?_ | refine mi_wal rfl (HM.2.1 _ _ rfl) rfl (by omega) (by decide) ?_ | refine mi_wbl rfl (HM.2.2 _ _ rfl) rfl (by omega) (by decide) ?_)
    rw [nI_add]
    refine mi_wif (fun z => absurd z (nI_ge (a := 12 + i) (b := 12 + lt.length) (by omega) (by omega))) (fun _ => ?_)
    have yes : (t.2.1 = v ∨ t.2.2 = v) → mi_wp X mi_P 0 m_Mo_occurs (34, [some (.ref 71), some (.int (nI v)), some (.int (nI (12 + i)))], [], w) (fun r w1 => r = some (.int (jb (inB (t :: lt.drop (i + 1)) v = true))) ∧ w1 = w) := by
      intro h
      repeat (first | refine mi_s1 (fun _ => rfl) ?_ | refine mi_wgf rfl (by assumption) rfl ?_ | refine mi_wal rfl (by assumption) rfl (by omega) (by decide) ?_)
      refine mi_wrz rfl rfl rfl ?_
      refine jb_t ?_
      unfold inB
      rw [List.any_cons]
      simp [h]
    repeat (first | refine mi_s1 (fun _ => rfl) ?_ | refine mi_wgf rfl HM.1 rfl ?_ | refine mi_wal rfl (HM.2.1 _ _ rfl) rfl (by omega) (by decide) ?_ | refine mi_wbl rfl (HM.2.2 _ _ rfl) rfl (by omega) (by decide) ?_)
    rw [e2]
    refine mi_wif (fun z => ?_) (fun z => ?_)
    · exact yes (Or.inl ((nI_eq (by omega) hv).mp z))
    · repeat (first | refine mi_s1 (fun _ => rfl) ?_ | refine mi_wgf rfl HM.1 rfl ?_ | refine mi_wal rfl (HM.2.1 _ _ rfl) rfl (by omega) (by decide) ?_ | refine mi_wbl rfl (HM.2.2 _ _ rfl) rfl (by omega) (by decide) ?_)
      rw [e3]
      refine mi_wif (fun z2 => ?_) (fun z2 => ?_)
      · exact yes (Or.inr ((nI_eq (by omega) hv).mp z2))
      · refine mi_s1 (fun _ => rfl) ?_; refine mi_s1 (fun _ => rfl) ?_
        rw [show nI (12 + i) + nI 1 = nI (12 + (i + 1)) from nI_1 (12 + i)]
        have e : inB (t :: lt.drop (i + 1)) v = inB (lt.drop (i + 1)) v := by
          unfold inB
          rw [List.any_cons, decide_eq_false (fun q => z (by rw [q])), decide_eq_false (fun q => z2 (by rw [q]))]
          rfl
        rw [e]
        exact mv_occurs_loop HM HF hv f (i + 1) (by omega)
theorem mv_occurs {n s : Nat} {ak dr : Bool} (HM : Mo w a (ls.length, lt.length, n, ak, dr, s)) (HF : Fm a ls lt F) {v : Nat} (hv : v < 2 ^ 31) : mi_Ev X mi_P 1 k_Mo_occurs [.ref 71, .int (nI v)] w (some (.int (jb (inB lt v = true)))) w := by
  refine mi_Ev.of (M := m_Mo_occurs) rfl (Nat.le_of_ble_eq_true rfl) ?_
  refine mi_s1 (fun _ => rfl) ?_; refine mi_s1 (fun _ => rfl) ?_
  exact mv_occurs_loop HM HF hv lt.length 0 (by omega)
theorem cn_up (f : Nat → Bool) (n : Nat) : cn f (n + 1) = cn f n + (if f n = true then 1 else 0) := rfl
theorem mv_nulls_loop {n s : Nat} {ak dr : Bool} (HM : Mo w a (ls.length, lt.length, n, ak, dr, s)) (HF : Fm a ls lt F) : ∀ f i, i + f = 8 → mi_wp X mi_P 1 m_Mo_nulls (5, [some (.ref 71), some (.int (nI (cn (fun i => inB lt (16 + i)) i))), some (.int (nI (16 + i)))], [], w) (fun r w1 => r = some (.int (nI (cn (fun i => inB lt (16 + i)) 8))) ∧ w1 = w)
  | 0, i, hi => by
    have hi : i = 8 := by omega
    subst hi
    repeat (first | refine mi_s1 (fun _ => rfl) ?_ | refine mi_wgf rfl (by assumption) rfl ?_ | refine mi_wal rfl (by assumption) rfl (by omega) (by decide) ?_)
    refine mi_r1 (fun _ => rfl) ?_
    exact ⟨rfl, rfl⟩
  | f + 1, i, hi => by
    have ih := mv_nulls_loop HM HF f (i + 1) (by omega)
    rw [cn_up] at ih
    repeat (first | refine mi_s1 (fun _ => rfl) ?_ | refine mi_wgf rfl (by assumption) rfl ?_ | refine mi_wal rfl (by assumption) rfl (by omega) (by decide) ?_)
    refine mi_wif (fun z => absurd z (nI_ge (a := 16 + i) (b := 24) (by omega) (by omega))) (fun _ => ?_)
    repeat (first | refine mi_s1 (fun _ => rfl) ?_ | refine mi_wgf rfl (by assumption) rfl ?_ | refine mi_wal rfl (by assumption) rfl (by omega) (by decide) ?_)
    refine mi_wcv rfl rfl (Nat.le_of_ble_eq_true rfl) HM.1 rfl (mv_occurs HM HF (by omega)) ?_
    repeat (first | refine mi_s1 (fun _ => rfl) ?_ | refine mi_wgf rfl (by assumption) rfl ?_ | refine mi_wal rfl (by assumption) rfl (by omega) (by decide) ?_)
    refine mi_wif (fun z => ?_) (fun z => ?_)
    · rw [if_neg (jb_0.mp z), Nat.add_zero] at ih
      refine mi_s1 (fun _ => rfl) ?_; refine mi_s1 (fun _ => rfl) ?_; refine mi_s1 (fun _ => rfl) ?_; refine mi_s1 (fun _ => rfl) ?_
      rw [show nI (16 + i) + nI 1 = nI (16 + (i + 1)) from nI_1 (16 + i)]
      exact ih
    · rw [if_pos (Decidable.not_not.mp (fun q => z (jb_0.mpr q)))] at ih
      refine mi_s1 (fun _ => rfl) ?_; refine mi_s1 (fun _ => rfl) ?_; refine mi_s1 (fun _ => rfl) ?_; refine mi_s1 (fun _ => rfl) ?_; refine mi_s1 (fun _ => rfl) ?_; refine mi_s1 (fun _ => rfl) ?_; refine mi_s1 (fun _ => rfl) ?_
      rw [show nI (16 + i) + nI 1 = nI (16 + (i + 1)) from nI_1 (16 + i), nI_add]
      exact ih
theorem mv_nulls (H : Md w S) : mi_Ev X mi_P 2 k_Mo_nulls [.ref 71] w (some (.int (op_nulls S))) w := by
  obtain ⟨a, ls, lt, HM, HF, HR, H6, H7, hn, hs⟩ := id H
  have e : op_nulls S = nI (cn (fun i => inB lt (16 + i)) 8) := by
    unfold op_nulls
    congr 1
    exact cn_congr 8 (fun i _ => HF.oc (16 + i))
  rw [e]
  refine mi_Ev.of (M := m_Mo_nulls) rfl (Nat.le_of_ble_eq_true rfl) ?_
  refine mi_s1 (fun _ => rfl) ?_; refine mi_s1 (fun _ => rfl) ?_; refine mi_s1 (fun _ => rfl) ?_; refine mi_s1 (fun _ => rfl) ?_
  exact mv_nulls_loop HM HF 8 0 rfl
theorem mv_state (H : Md w S) : mi_Ev X mi_P 1 k_Mo_state [.ref 71] w (some (.int (nI S.s))) w := by
  obtain ⟨a, ls, lt, HM, HF, HR, H6, H7, hn, hs⟩ := id H
  refine mi_Ev.of (M := m_Mo_state) rfl (Nat.le_of_ble_eq_true rfl) ?_
  repeat (first | refine mi_s1 (fun _ => rfl) ?_ | refine mi_wgf rfl HM.1 rfl ?_ | refine mi_wal rfl (HM.2.1 _ _ rfl) rfl (by omega) (by decide) ?_ | refine mi_wbl rfl (HM.2.2 _ _ rfl) rfl (by omega) (by decide) ?_)
  refine mi_r1 (fun _ => rfl) ?_
  exact ⟨rfl, rfl⟩
theorem Fm.clr (HF : Fm a ls lt F) : Fm a ls [] (clrT F) := by
  obtain ⟨h1, h2, h3, h4, h5, h6, h7, h8, h⟩ := HF
  refine ⟨h1, fun k q hq => by simp at hq, h3, Nat.zero_le _, h5, fun q hq => by simp at hq, h7, List.nodup_nil, fun r x y hr => ?_⟩
  unfold clrT
  by_cases z : 2 ≤ r ∧ r < 6
  · rw [if_pos z]
    constructor
    · intro q
      cases q
    · rintro (q | q)
      · exact absurd (h5 _ q).1 (by show ¬ r < 2; omega)
      · simp at q
  · rw [if_neg z, h r x y hr]
    constructor
    · rintro (q | q)
      · exact Or.inl q
      · exact absurd ⟨(h6 _ q).1, (h6 _ q).2.1⟩ z
    · rintro (q | q)
      · exact Or.inl q
      · simp at q
theorem mv_reset (H : Md w S) : mi_Ex X 1 k_Mo_reset [.ref 71] w (fun q w1 => q = none ∧ Md w1 (op_reset S) ∧ mi_Fg w w1 71 94) := by
  obtain ⟨a, ls, lt, HM, HF, HR, H6, H7, hn, hs⟩ := id H
  have hG : mi_Fg w w 71 94 := mi_Fg.rf
  refine mi_Ex.of (M := m_Mo_reset) rfl (Nat.le_of_ble_eq_true rfl) ?_
  repeat (first | refine mi_s1 (fun _ => rfl) ?_ | refine mi_wgf rfl HM.1 rfl ?_ | refine mi_wal rfl (HM.2.1 _ _ rfl) rfl (by omega) (by decide) ?_ | refine mi_wbl rfl (HM.2.2 _ _ rfl) rfl (by omega) (by decide) ?_)
  refine mi_wpg rfl HM.1 (Nat.le_of_ble_eq_true rfl) rfl (fun w h0 hF => ?_)
  have HM := HM.sc ((ls.length, lt.length, S.n, S.hq, S.hd, 0)) h0 hF
  have hG := hG.tr (mi_Fg.of1 hF (by omega) (by omega))
  clear h0
  repeat (first | refine mi_s1 (fun _ => rfl) ?_ | refine mi_wgf rfl HM.1 rfl ?_ | refine mi_wal rfl (HM.2.1 _ _ rfl) rfl (by omega) (by decide) ?_ | refine mi_wbl rfl (HM.2.2 _ _ rfl) rfl (by omega) (by decide) ?_)
  refine mi_wpg rfl HM.1 (Nat.le_of_ble_eq_true rfl) rfl (fun w h0 hF => ?_)
  have HM := HM.sc ((ls.length, 0, S.n, S.hq, S.hd, 0)) h0 hF
  have hG := hG.tr (mi_Fg.of1 hF (by omega) (by omega))
  clear h0
  refine mi_r1 (fun _ => rfl) ?_
  exact ⟨rfl, ⟨a, ls, [], HM, HF.clr, HR, H6, H7, hn, Nat.zero_le 4⟩, hG⟩
/-- facts with one more -/
theorem Fm.app_s (HF : Fm a ls lt F) {q : sp_A} (hq : okS q) (hl : ls.length < 12) (hne : q ∉ ls) : Fm (upF a ls.length (nI q.1) (nI q.2.1) (nI q.2.2)) (ls ++ [q]) lt (updR F q.1 (addF (F q.1) q.2.1 q.2.2)) := by
  obtain ⟨h1, h2, h3, h4, h5, h6, h7, h8, h⟩ := HF
  have e := h1.app q
  rw [Nat.zero_add] at e
  refine ⟨e, h2.far (by omega), by rw [List.length_append]; exact hl, h4, fun p hp => ?_, h6, ?_, h8, fun r x y hr => ?_⟩
  · rcases List.mem_append.mp hp with p1 | p1
    · exact h5 p p1
    · rw [List.mem_singleton.mp p1]
      exact hq
  · rw [List.nodup_append]
    refine ⟨h7, by simp, fun x hx y hy => ?_⟩
    rw [List.mem_singleton.mp hy]
    exact fun e => hne (e ▸ hx)
  · unfold updR
    by_cases z : r = q.1
    · subst z
      rw [if_pos rfl]
      unfold addF
      rw [Bool.or_eq_true, h q.1 x y hr, List.mem_append, List.mem_singleton]
      rw [tri_eq]
      simp
      constructor
      · rintro ((p | p) | p)
        · exact Or.inl (Or.inl p)
        · exact Or.inr p
        · exact Or.inl (Or.inr p)
      · rintro ((p | p) | p)
        · exact Or.inl (Or.inl p)
        · exact Or.inr p
        · exact Or.inl (Or.inr p)
    · rw [if_neg z, h r x y hr, List.mem_append, List.mem_singleton]
      constructor
      · rintro (p | p)
        · exact Or.inl (Or.inl p)
        · exact Or.inr p
      · rintro ((p | p) | p)
        · exact Or.inl p
        · exact absurd (by rw [← p]) z
        · exact Or.inr p
theorem Fm.app_t (HF : Fm a ls lt F) {q : sp_A} (hq : okT q) (hl : lt.length < 24) (hne : q ∉ lt) : Fm (upF a (12 + lt.length) (nI q.1) (nI q.2.1) (nI q.2.2)) ls (lt ++ [q]) (updR F q.1 (addF (F q.1) q.2.1 q.2.2)) := by
  obtain ⟨h1, h2, h3, h4, h5, h6, h7, h8, h⟩ := HF
  refine ⟨h1.far (by omega), h2.app q, h3, by rw [List.length_append]; exact hl, h5, fun p hp => ?_, h7, ?_, fun r x y hr => ?_⟩
  · rcases List.mem_append.mp hp with p1 | p1
    · exact h6 p p1
    · rw [List.mem_singleton.mp p1]
      exact hq
  · rw [List.nodup_append]
    refine ⟨h8, by simp, fun x hx y hy => ?_⟩
    rw [List.mem_singleton.mp hy]
    exact fun e => hne (e ▸ hx)
  · unfold updR
    by_cases z : r = q.1
    · subst z
      rw [if_pos rfl]
      unfold addF
      rw [Bool.or_eq_true, h q.1 x y hr, List.mem_append, List.mem_singleton]
      rw [tri_eq]
      simp
      constructor
      · rintro ((p | p) | p)
        · exact Or.inl p
        · exact Or.inr (Or.inl p)
        · exact Or.inr (Or.inr p)
      · rintro (p | p | p)
        · exact Or.inl (Or.inl p)
        · exact Or.inl (Or.inr p)
        · exact Or.inr p
    · rw [if_neg z, h r x y hr, List.mem_append, List.mem_singleton]
      constructor
      · rintro (p | p)
        · exact Or.inl p
        · exact Or.inr (Or.inl p)
      · rintro (p | p | p)
        · exact Or.inl p
        · exact Or.inr p
        · exact absurd (by rw [← p]) z
theorem Fm.ext (HF : Fm a ls lt F) {G : Nat → Nat → Nat → Bool} (h : ∀ r x y, r < 6 → G r x y = F r x y) : Fm a ls lt G := by
  obtain ⟨h1, h2, h3, h4, h5, h6, h7, h8, h9⟩ := HF
  exact ⟨h1, h2, h3, h4, h5, h6, h7, h8, fun r x y hr => by rw [h r x y hr]; exact h9 r x y hr⟩
theorem updR_same {r x y : Nat} (h : F r x y = true) : updR F r (addF (F r) x y) = F := by
  funext i
  unfold updR
  by_cases z : i = r
  · rw [if_pos z, z, addF_same h]
  · rw [if_neg z]
theorem mv_fact (H : Md w S) (r x y : Int32) : mi_Ex X 2 k_Mo_fact [.ref 71, .int r, .int x, .int y] w (fun q w1 => q = some (.int (op_fact S r x y).1) ∧ Md w1 (op_fact S r x y).2 ∧ mi_Fg w w1 71 94) := by
  obtain ⟨a, ls, lt, HM, HF, HR, H6, H7, hn, hs⟩ := id H
  have bad : ¬ (S.s = 0 ∧ inR r 2 ∧ inR x 16 ∧ inR y 16) → mi_wp X mi_P 1 m_Mo_fact (16, [some (.ref 71), some (.int r), some (.int x), some (.int y)], [], w) (fun q w1 => q = some (.int (op_fact S r x y).1) ∧ Md w1 (op_fact S r x y).2 ∧ mi_Fg w w1 71 94) := by
    intro h
    have e : op_fact S r x y = (-3, S) := if_neg h
    rw [e]
    repeat (first | refine mi_s1 (fun _ => rfl) ?_ | refine mi_wgf rfl (by assumption) rfl ?_ | refine mi_wal rfl (by assumption) rfl (by omega) (by decide) ?_)
    refine mi_r1 (fun _ => rfl) ?_
    exact ⟨rfl, H, mi_Fg.rf⟩
  refine mi_Ex.of (M := m_Mo_fact) rfl (Nat.le_of_ble_eq_true rfl) ?_
  repeat (first | refine mi_s1 (fun _ => rfl) ?_ | refine mi_wgf rfl HM.1 rfl ?_ | refine mi_wal rfl (HM.2.1 _ _ rfl) rfl (by omega) (by decide) ?_ | refine mi_wbl rfl (HM.2.2 _ _ rfl) rfl (by omega) (by decide) ?_)
  refine mi_wif (fun z0 => ?_) (fun z0 => ?_)
  · have z0 : S.s = 0 := (nI_z (n := S.s) (by omega)).mp z0
    repeat (first | refine mi_s1 (fun _ => rfl) ?_ | refine mi_wgf rfl (by assumption) rfl ?_ | refine mi_wal rfl (by assumption) rfl (by omega) (by decide) ?_)
    refine mi_wcs rfl (Nat.le_of_ble_eq_true rfl) ⟨Nat.le_of_ble_eq_true rfl, Nat.le_of_ble_eq_true rfl⟩ (mv_isSource r x y) ?_
    repeat (first | refine mi_s1 (fun _ => rfl) ?_ | refine mi_wgf rfl (by assumption) rfl ?_ | refine mi_wal rfl (by assumption) rfl (by omega) (by decide) ?_)
    refine mi_wif (fun z1 => ?_) (fun z1 => ?_)
    · exact bad (fun q => jb_0.mp z1 q.2)
    · have z1 := Decidable.not_not.mp (fun q => z1 (jb_0.mpr q))
      have e : op_fact S r x y = _ := if_pos ⟨z0, z1⟩
      rw [e]
      clear e bad
      obtain ⟨rn, hrn, rfl⟩ := (mi_rng (by decide)).mp z1.1
      obtain ⟨xn, hxn, rfl⟩ := (mi_rng (by decide)).mp z1.2.1
      obtain ⟨yn, hyn, rfl⟩ := (mi_rng (by decide)).mp z1.2.2
      rw [nI_clamp (n := rn) (by omega), nI_clamp (n := xn) (by omega), nI_clamp (n := yn) (by omega), HF.cts_s]
      have hl := HF.2.2.1
      have hp := HF.pl (r := rn) (x := xn) (y := yn) (by omega)
      have hpl := plc_lt (q := (rn, xn, yn)) HF.2.2.1 HF.2.2.2.1
      repeat (first | refine mi_s1 (fun _ => rfl) ?_ | refine mi_wgf rfl (by assumption) rfl ?_ | refine mi_wal rfl (by assumption) rfl (by omega) (by decide) ?_)
      refine mi_wcv rfl rfl (Nat.le_of_ble_eq_true rfl) HM.1 rfl (mv_place HM HF (by omega) (by omega) (by omega)) ?_
      repeat (first | refine mi_s1 (fun _ => rfl) ?_ | refine mi_wgf rfl (by assumption) rfl ?_ | refine mi_wal rfl (by assumption) rfl (by omega) (by decide) ?_)
      refine mi_wif (fun z2 => ?_) (fun z2 => ?_)
      · have z2 : ¬ plc ls lt (rn, xn, yn) = none := fun q => by
          rw [q] at z2
          exact absurd z2 (by decide)
        have hT : S.F rn xn yn = true := by
          cases q : S.F rn xn yn with
          | true => rfl
          | false => exact absurd (hp.mpr q) z2
        rw [if_neg (fun q => by rw [hT] at q; cases q.1), updR_same hT, HF.cts_s]
        repeat (first | refine mi_s1 (fun _ => rfl) ?_ | refine mi_wgf rfl HM.1 rfl ?_ | refine mi_wal rfl (HM.2.1 _ _ rfl) rfl (by omega) (by decide) ?_ | refine mi_wbl rfl (HM.2.2 _ _ rfl) rfl (by omega) (by decide) ?_)
        refine mi_r1 (fun _ => rfl) ?_
        exact ⟨rfl, H, mi_Fg.rf⟩
      · have z2 : plc ls lt (rn, xn, yn) = none := by
          cases q : plc ls lt (rn, xn, yn) with
          | none => rfl
          | some j =>
            rw [q] at z2
            exact absurd (nI_pos' (n := j) (by have := hpl j q; omega)) z2
        have hFf := hp.mp z2
        repeat (first | refine mi_s1 (fun _ => rfl) ?_ | refine mi_wgf rfl HM.1 rfl ?_ | refine mi_wal rfl (HM.2.1 _ _ rfl) rfl (by omega) (by decide) ?_ | refine mi_wbl rfl (HM.2.2 _ _ rfl) rfl (by omega) (by decide) ?_)
        refine mi_wif (fun z3 => ?_) (fun z3 => ?_)
        · have z3 := (nI_eq (a := ls.length) (by omega) (by decide)).mp z3
          rw [if_pos ⟨hFf, by omega⟩]
          repeat (first | refine mi_s1 (fun _ => rfl) ?_ | refine mi_wgf rfl (by assumption) rfl ?_ | refine mi_wal rfl (by assumption) rfl (by omega) (by decide) ?_)
          refine mi_r1 (fun _ => rfl) ?_
          exact ⟨rfl, H, mi_Fg.rf⟩
        · have z3 : ls.length < 12 := by
            have : ls.length ≠ 12 := fun q => z3 (show nI ls.length = nI 12 by rw [q])
            omega
          have hne : (rn, xn, yn) ∉ ls := fun q => by
            have : S.F rn xn yn = true := (HF.2.2.2.2.2.2.2.2 rn xn yn (by omega)).mpr (Or.inl q)
            rw [hFf] at this
            cases this
          rw [if_neg (fun q => absurd q.2 (by omega))]
          obtain ⟨r1, w1, he, rfl, HM1, hG⟩ := mv_put (X := X) HM (k := ls.length) (by omega) (nI rn) (nI xn) (nI yn)
          have HF1 := HF.app_s (q := (rn, xn, yn)) ⟨hrn, hxn, hyn⟩ z3 hne
          have ec := HF1.cts_s
          rw [ec]
          repeat (first | refine mi_s1 (fun _ => rfl) ?_ | refine mi_wgf rfl HM.1 rfl ?_ | refine mi_wal rfl (HM.2.1 _ _ rfl) rfl (by omega) (by decide) ?_ | refine mi_wbl rfl (HM.2.2 _ _ rfl) rfl (by omega) (by decide) ?_)
          refine mi_wcv rfl rfl (Nat.le_of_ble_eq_true rfl) HM.1 rfl (he) ?_
          clear HM
          have HM := HM1
          repeat (first | refine mi_s1 (fun _ => rfl) ?_ | refine mi_wgf rfl HM.1 rfl ?_ | refine mi_wal rfl (HM.2.1 _ _ rfl) rfl (by omega) (by decide) ?_ | refine mi_wbl rfl (HM.2.2 _ _ rfl) rfl (by omega) (by decide) ?_)
          rw [show nI (ls.length, lt.length, S.n, S.hq, S.hd, S.s).1 + nI 1 = nI (ls.length + 1) from nI_1 ls.length]
          refine mi_wpg rfl HM.1 (Nat.le_of_ble_eq_true rfl) rfl (fun w h0 hF => ?_)
          have HM := HM.sc ((ls.length + 1, lt.length, S.n, S.hq, S.hd, S.s)) h0 hF
          have hG := hG.tr (mi_Fg.of1 hF (by omega) (by omega))
          clear h0
          repeat (first | refine mi_s1 (fun _ => rfl) ?_ | refine mi_wgf rfl HM.1 rfl ?_ | refine mi_wal rfl (HM.2.1 _ _ rfl) rfl (by omega) (by decide) ?_ | refine mi_wbl rfl (HM.2.2 _ _ rfl) rfl (by omega) (by decide) ?_)
          refine mi_r1 (fun _ => rfl) ?_
          have el : (ls ++ [(rn, xn, yn)]).length = ls.length + 1 := by simp
          rw [el]
          refine ⟨rfl, ⟨_, ls ++ [(rn, xn, yn)], lt, ?_, HF1, fun i hi => (HR i hi).fr, fun q => (H6 q).fr, fun q => (H7 q).fr, hn, hs⟩, hG⟩
          rw [el]
          exact HM
  · exact bad (fun q => z0 (show nI S.s = 0 by rw [q.1]; rfl))
/-- the model's list when a fact goes: the last takes its place -/
def tkl (l : List sp_A) (k : Nat) : List sp_A := (l.set k (l.getD (l.length - 1) (0, 0, 0))).dropLast
theorem tkl_len (l : List sp_A) (k : Nat) : (tkl l k).length = l.length - 1 := by
  unfold tkl
  rw [List.length_dropLast, List.length_set]
theorem tkl_get {l : List sp_A} {k i : Nat} (hi : i < l.length - 1) : (tkl l k)[i]? = if i = k then l[l.length - 1]? else l[i]? := by
  unfold tkl
  rw [List.getElem?_dropLast, List.length_set, if_pos hi, List.getElem?_set]
  by_cases z : k = i
  · subst z
    rw [if_pos rfl, if_pos (by omega), if_pos rfl, List.getD_eq_getElem?_getD, List.getElem?_eq_getElem (by omega)]
    rfl
  · rw [if_neg z, if_neg (Ne.symm z)]
theorem nd_inj {l : List sp_A} (h : l.Nodup) {i j : Nat} (hi : i < l.length) (hj : j < l.length) (he : l[i]? = l[j]?) : i = j := by
  exact (List.getElem?_inj hi h).mp he
theorem tkl_mem {l : List sp_A} (h : l.Nodup) {k : Nat} {q : sp_A} (hk : l[k]? = some q) (p : sp_A) : p ∈ tkl l k ↔ p ∈ l ∧ p ≠ q := by
  have hkl := (List.getElem?_eq_some_iff.mp hk).1
  constructor
  · intro hp
    obtain ⟨i, hi⟩ := List.mem_iff_getElem?.mp hp
    have hil := (List.getElem?_eq_some_iff.mp hi).1
    rw [tkl_len] at hil
    rw [tkl_get hil] at hi
    by_cases z : i = k
    · rw [if_pos z] at hi
      refine ⟨List.mem_of_getElem? hi, fun e => ?_⟩
      have := nd_inj h (i := l.length - 1) (j := k) (by omega) hkl (by rw [hi, hk, e])
      omega
    · rw [if_neg z] at hi
      refine ⟨List.mem_of_getElem? hi, fun e => z ?_⟩
      exact nd_inj h (by omega) hkl (by rw [hi, hk, e])
  · rintro ⟨hp, hne⟩
    obtain ⟨i, hi⟩ := List.mem_iff_getElem?.mp hp
    have hil := (List.getElem?_eq_some_iff.mp hi).1
    have hik : i ≠ k := fun e => by
      rw [e, hk] at hi
      cases hi
      exact hne rfl
    by_cases z : i < l.length - 1
    · refine List.mem_iff_getElem?.mpr ⟨i, ?_⟩
      rw [tkl_get z, if_neg hik]
      exact hi
    · refine List.mem_iff_getElem?.mpr ⟨k, ?_⟩
      rw [tkl_get (by omega), if_pos rfl, ← hi]
      congr 1
      omega
theorem tkl_nd {l : List sp_A} (h : l.Nodup) {k : Nat} (hk : k < l.length) : (tkl l k).Nodup := by
  rw [List.nodup_iff_pairwise_ne, List.pairwise_iff_getElem]
  intro i j hi hj hij he
  have he : (tkl l k)[i]? = (tkl l k)[j]? := by
    rw [List.getElem?_eq_getElem hi, List.getElem?_eq_getElem hj, he]
  rw [tkl_len] at hj
  rw [tkl_get (by omega), tkl_get hj] at he
  by_cases z1 : i = k
  · rw [if_pos z1, if_neg (by omega)] at he
    have := nd_inj h (by omega) (by omega) he
    omega
  · rw [if_neg z1] at he
    by_cases z2 : j = k
    · rw [if_pos z2] at he
      have := nd_inj h (by omega) (by omega) he
      omega
    · rw [if_neg z2] at he
      have := nd_inj h (by omega) (by omega) he
      omega
theorem mv_take (H : Md w S) (r x y : Int32) : mi_Ex X 2 k_Mo_take [.ref 71, .int r, .int x, .int y] w (fun q w1 => q = some (.int (op_take S r x y).1) ∧ Md w1 (op_take S r x y).2 ∧ mi_Fg w w1 71 94) := by
  obtain ⟨a, ls, lt, HM, HF, HR, H6, H7, hn, hs⟩ := id H
  have hl := HF.2.2.1
  -- no fact there
  have no : ¬ (S.s = 0 ∧ inR r 2 ∧ FI (S.F r.toNatClampNeg) x y = true) → ∀ L4, mi_wp X mi_P 1 m_Mo_take (27, [some (.ref 71), some (.int r), some (.int x), some (.int y), L4], [.int (-1)], w) (fun q w1 => q = some (.int (op_take S r x y).1) ∧ Md w1 (op_take S r x y).2 ∧ mi_Fg w w1 71 94) := by
    intro h L4
    have e : op_take S r x y = (0, S) := if_neg h
    rw [e]
    repeat (first | refine mi_s1 (fun _ => rfl) ?_ | refine mi_wgf rfl (by assumption) rfl ?_ | refine mi_wal rfl (by assumption) rfl (by omega) (by decide) ?_)
    refine mi_wrz rfl rfl rfl ?_
    exact ⟨rfl, H, mi_Fg.rf⟩
  have key : inR r 2 → FI (S.F r.toNatClampNeg) x y = true → inR x 16 ∧ inR y 16 := by
    intro hr h
    obtain ⟨rn, hrn, rfl⟩ := (mi_rng (by decide)).mp hr
    rw [nI_clamp (by omega)] at h
    obtain ⟨m, n, h1, h2, rfl, rfl, h3⟩ := FI_in (HF.b24 rn (by omega)) h
    rcases (HF.2.2.2.2.2.2.2.2 rn m n (by omega)).mp h3 with q | q
    · have := HF.2.2.2.2.1 _ q
      unfold okS at this
      exact ⟨(mi_rng (by decide)).mpr ⟨m, this.2.1, rfl⟩, (mi_rng (by decide)).mpr ⟨n, this.2.2, rfl⟩⟩
    · have := HF.2.2.2.2.2.1 _ q
      unfold okT at this
      omega
  refine mi_Ex.of (M := m_Mo_take) rfl (Nat.le_of_ble_eq_true rfl) ?_
  repeat (first | refine mi_s1 (fun _ => rfl) ?_ | refine mi_wgf rfl HM.1 rfl ?_ | refine mi_wal rfl (HM.2.1 _ _ rfl) rfl (by omega) (by decide) ?_ | refine mi_wbl rfl (HM.2.2 _ _ rfl) rfl (by omega) (by decide) ?_)
  refine mi_wif (fun z0 => ?_) (fun z0 => ?_)
  · have z0 : S.s = 0 := (nI_z (n := S.s) (by omega)).mp z0
    repeat (first | refine mi_s1 (fun _ => rfl) ?_ | refine mi_wgf rfl (by assumption) rfl ?_ | refine mi_wal rfl (by assumption) rfl (by omega) (by decide) ?_)
    refine mi_wcs rfl (Nat.le_of_ble_eq_true rfl) ⟨Nat.le_of_ble_eq_true rfl, Nat.le_of_ble_eq_true rfl⟩ (mv_isSource r x y) ?_
    repeat (first | refine mi_s1 (fun _ => rfl) ?_ | refine mi_wgf rfl (by assumption) rfl ?_ | refine mi_wal rfl (by assumption) rfl (by omega) (by decide) ?_)
    refine mi_wif (fun z1 => ?_) (fun z1 => ?_)
    · refine mi_s1 (fun _ => rfl) ?_; refine mi_s1 (fun _ => rfl) ?_
      exact no (fun q => jb_0.mp z1 ⟨q.2.1, key q.2.1 q.2.2⟩) _
    · have z1 := Decidable.not_not.mp (fun q => z1 (jb_0.mpr q))
      obtain ⟨rn, hrn, rfl⟩ := (mi_rng (by decide)).mp z1.1
      obtain ⟨xn, hxn, rfl⟩ := (mi_rng (by decide)).mp z1.2.1
      obtain ⟨yn, hyn, rfl⟩ := (mi_rng (by decide)).mp z1.2.2
      have hp := HF.pl (r := rn) (x := xn) (y := yn) (by omega)
      repeat (first | refine mi_s1 (fun _ => rfl) ?_ | refine mi_wgf rfl (by assumption) rfl ?_ | refine mi_wal rfl (by assumption) rfl (by omega) (by decide) ?_)
      refine mi_wcv rfl rfl (Nat.le_of_ble_eq_true rfl) HM.1 rfl (mv_place HM HF (by omega) (by omega) (by omega)) ?_
      cases hq : plc ls lt (rn, xn, yn) with
      | none =>
        refine no (fun q => ?_) _
        have q3 := q.2.2
        rw [nI_clamp (n := rn) (by omega), FI_nI (by omega) (by omega), hp.mp hq] at q3
        cases q3
      | some k =>
        have hT : S.F rn xn yn = true := by
          cases q : S.F rn xn yn with
          | true => rfl
          | false =>
            rw [hp.mpr q] at hq
            cases hq
        have e : op_take S (nI rn) (nI xn) (nI yn) = (1, (updR S.F rn (delF (S.F rn) xn yn), S.2)) := by
          unfold op_take
          rw [nI_clamp (n := rn) (by omega), nI_clamp (n := xn) (by omega), nI_clamp (n := yn) (by omega), FI_nI (by omega) (by omega), if_pos ⟨z0, z1.1, hT⟩]
        rw [e]
        unfold plc at hq
        rw [if_pos hrn] at hq
        obtain ⟨j, hj, ej, hjl⟩ := pix_some _ _ _ hq
        have ej : k = j := by omega
        subst ej
        show mi_wp X mi_P 1 m_Mo_take (27, _, [.int (nI k)], w) _
        repeat (first | refine mi_s1 (fun _ => rfl) ?_ | refine mi_wgf rfl (by assumption) rfl ?_ | refine mi_wal rfl (by assumption) rfl (by omega) (by decide) ?_)
        refine mi_wif (fun _ => ?_) (fun q => absurd (nI_pos' (n := k) (by omega)) q)
        have hG : mi_Fg w w 71 94 := mi_Fg.rf
        repeat (first | refine mi_s1 (fun _ => rfl) ?_ | refine mi_wgf rfl HM.1 rfl ?_ | refine mi_wal rfl (HM.2.1 _ _ rfl) rfl (by omega) (by decide) ?_ | refine mi_wbl rfl (HM.2.2 _ _ rfl) rfl (by omega) (by decide) ?_)
        rw [show nI (ls.length, lt.length, S.n, S.hq, S.hd, S.s).1 - nI 1 = nI (ls.length - 1) from pk_sub (by omega)]
        refine mi_wpg rfl HM.1 (Nat.le_of_ble_eq_true rfl) rfl (fun w h0 hF => ?_)
        have HM := HM.sc ((ls.length - 1, lt.length, S.n, S.hq, S.hd, S.s)) h0 hF
        have hG := hG.tr (mi_Fg.of1 hF (by omega) (by omega))
        clear h0
        repeat (first | refine mi_s1 (fun _ => rfl) ?_ | refine mi_wgf rfl HM.1 rfl ?_ | refine mi_wal rfl (HM.2.1 _ _ rfl) rfl (by omega) (by decide) ?_ | refine mi_wbl rfl (HM.2.2 _ _ rfl) rfl (by omega) (by decide) ?_)
        obtain ⟨t, ht, -⟩ := drop_at (l := ls) (i := ls.length - 1) (by omega)
        obtain ⟨t1, t2, t3⟩ := HF.1 _ t ht
        rw [Nat.zero_add] at t1 t2 t3
        obtain ⟨r1, w1, he, rfl, HM1, hG1⟩ := mv_put (X := X) HM (k := k) (by omega) (nI t.1) (nI t.2.1) (nI t.2.2)
        have t1 : a 72 (ls.length - 1, lt.length, S.n, S.hq, S.hd, S.s).1 = nI t.1 := t1
        have t2 : a 73 (ls.length - 1, lt.length, S.n, S.hq, S.hd, S.s).1 = nI t.2.1 := t2
        have t3 : a 74 (ls.length - 1, lt.length, S.n, S.hq, S.hd, S.s).1 = nI t.2.2 := t3
        rw [t1, t2, t3]
        refine mi_wcv rfl rfl (Nat.le_of_ble_eq_true rfl) HM.1 rfl (he) ?_
        repeat (first | refine mi_s1 (fun _ => rfl) ?_ | refine mi_wgf rfl (by assumption) rfl ?_ | refine mi_wal rfl (by assumption) rfl (by omega) (by decide) ?_)
        refine mi_wrz rfl rfl rfl ?_
        have hlen := tkl_len ls k
        obtain ⟨f1, f2, f3, f4, f5, f6, f7, f8, f9⟩ := id HF
        refine ⟨rfl, ⟨_, tkl ls k, lt, by rw [hlen]; exact HM1, ⟨fun i p hp => ?_, f2.far (by omega), by omega, f4, fun p hp => f5 p ((tkl_mem f7 hj p).mp hp).1, f6, tkl_nd f7 hjl, f8, fun r' x' y' hr' => ?_⟩, fun i hi => (HR i hi).fr, fun q => (H6 q).fr, fun q => (H7 q).fr, hn, hs⟩, hG.tr hG1⟩
        · have hil := (List.getElem?_eq_some_iff.mp hp).1
          rw [hlen] at hil
          rw [tkl_get hil] at hp
          rw [upF_72, upF_73, upF_74, Nat.zero_add]
          by_cases z : i = k
          · rw [if_pos z, ht] at hp
            cases hp
            rw [if_pos z, if_pos z, if_pos z]
            exact ⟨rfl, rfl, rfl⟩
          · rw [if_neg z] at hp
            rw [if_neg z, if_neg z, if_neg z]
            have := f1 i p hp
            rw [Nat.zero_add] at this
            exact this
        · show updR S.F rn (delF (S.F rn) xn yn) r' x' y' = true ↔ _
          rw [tkl_mem f7 hj]
          unfold updR
          by_cases z : r' = rn
          · subst z
            rw [if_pos rfl]
            unfold delF
            rw [Bool.and_eq_true, f9 r' x' y' hr']
            simp
            constructor
            · rintro ⟨p | p, p2⟩
              · exact Or.inl ⟨p, fun e1 e2 => p2.elim (fun h => h e1) (fun h => h e2)⟩
              · exact Or.inr p
            · rintro (⟨p, p2⟩ | p)
              · exact ⟨Or.inl p, (Decidable.em (x' = xn)).elim (fun h => Or.inr (p2 h)) Or.inl⟩
              · exact absurd (f6 _ p).1 (by show ¬ 2 ≤ r'; omega)
          · rw [if_neg z, f9 r' x' y' hr']
            constructor
            · rintro (p | p)
              · exact Or.inl ⟨p, fun e => z (by cases e; rfl)⟩
              · exact Or.inr p
            · rintro (⟨p, -⟩ | p)
              · exact Or.inl p
              · exact Or.inr p
  · refine mi_s1 (fun _ => rfl) ?_; refine mi_s1 (fun _ => rfl) ?_
    exact no (fun q => z0 (show nI S.s = 0 by rw [q.1]; rfl)) _
/-- a target fact more, if it is not there -/
def adl (l : List sp_A) (q : sp_A) : List sp_A := if q ∈ l then l else l ++ [q]
theorem mv_add {n s : Nat} {ak dr : Bool} (HM : Mo w a (ls.length, lt.length, n, ak, dr, s)) (HF : Fm a ls lt F) {q : sp_A} (hq : okT q) (hl : q ∈ lt ∨ lt.length < 24) : mi_Ex X 2 k_Mo_add [.ref 71, .int (nI q.1), .int (nI q.2.1), .int (nI q.2.2)] w (fun r w1 => r = none ∧ (∃ b, Mo w1 b (ls.length, (adl lt q).length, n, ak, dr, s) ∧ Fm b ls (adl lt q) (updR F q.1 (addF (F q.1) q.2.1 q.2.2)) ∧ (∀ o, 75 ≤ o → b o = a o) ∧ ∀ o j, j ≠ 12 + lt.length → b o j = a o j) ∧ mi_Fg w w1 71 94) := by
  have hb := hq
  unfold okT at hb
  have hp := HF.pl (r := q.1) (x := q.2.1) (y := q.2.2) (by omega)
  have hpl := plc_lt (q := q) HF.2.2.1 HF.2.2.2.1
  have h4 := HF.2.2.2.1
  refine mi_Ex.of (M := m_Mo_add) rfl (Nat.le_of_ble_eq_true rfl) ?_
  repeat (first | refine mi_s1 (fun _ => rfl) ?_ | refine mi_wgf rfl (by assumption) rfl ?_ | refine mi_wal rfl (by assumption) rfl (by omega) (by decide) ?_)
  refine mi_wcv rfl rfl (Nat.le_of_ble_eq_true rfl) HM.1 rfl (mv_place HM HF (by omega) (by omega) (by omega)) ?_
  repeat (first | refine mi_s1 (fun _ => rfl) ?_ | refine mi_wgf rfl (by assumption) rfl ?_ | refine mi_wal rfl (by assumption) rfl (by omega) (by decide) ?_)
  refine mi_wif (fun z2 => ?_) (fun z2 => ?_)
  · have z2 : ¬ plc ls lt q = none := fun e => by
      have e : plc ls lt (q.1, q.2.1, q.2.2) = none := e
      rw [e] at z2
      exact absurd z2 (by decide)
    have hT : F q.1 q.2.1 q.2.2 = true := by
      cases e : F q.1 q.2.1 q.2.2 with
      | true => rfl
      | false => exact absurd (hp.mpr e) z2
    have hm : q ∈ lt := (HF.mem_t hq.1 hq.2.1).mp hT
    have e : adl lt q = lt := if_pos hm
    refine mi_r1 (fun _ => rfl) ?_
    rw [e, updR_same hT]
    exact ⟨rfl, ⟨a, HM, HF, fun _ _ => rfl, fun _ _ _ => rfl⟩, mi_Fg.rf⟩
  · have z2 : plc ls lt q = none := by
      cases e : plc ls lt q with
      | none => rfl
      | some j =>
        have e2 : plc ls lt (q.1, q.2.1, q.2.2) = some j := e
        rw [e2] at z2
        exact absurd (nI_pos' (n := j) (by have := hpl j e; omega)) z2
    have hFf : F q.1 q.2.1 q.2.2 = false := hp.mp z2
    have hm : q ∉ lt := fun h => by
      have : F q.1 q.2.1 q.2.2 = true := (HF.mem_t hq.1 hq.2.1).mpr h
      rw [hFf] at this
      cases this
    have hl : lt.length < 24 := hl.elim (fun h => absurd h hm) id
    have e : adl lt q = lt ++ [q] := if_neg hm
    obtain ⟨r1, w1, he, rfl, HM1, hG⟩ := mv_put (X := X) HM (k := 12 + lt.length) (by omega) (nI q.1) (nI q.2.1) (nI q.2.2)
    repeat (first | refine mi_s1 (fun _ => rfl) ?_ | refine mi_wgf rfl HM.1 rfl ?_ | refine mi_wal rfl (HM.2.1 _ _ rfl) rfl (by omega) (by decide) ?_ | refine mi_wbl rfl (HM.2.2 _ _ rfl) rfl (by omega) (by decide) ?_)
    rw [nI_add]
    repeat (first | refine mi_s1 (fun _ => rfl) ?_ | refine mi_wgf rfl (by assumption) rfl ?_ | refine mi_wal rfl (by assumption) rfl (by omega) (by decide) ?_)
    refine mi_wcv rfl rfl (Nat.le_of_ble_eq_true rfl) HM.1 rfl (he) ?_
    clear HM
    have HM := HM1
    repeat (first | refine mi_s1 (fun _ => rfl) ?_ | refine mi_wgf rfl HM.1 rfl ?_ | refine mi_wal rfl (HM.2.1 _ _ rfl) rfl (by omega) (by decide) ?_ | refine mi_wbl rfl (HM.2.2 _ _ rfl) rfl (by omega) (by decide) ?_)
    rw [show nI (ls.length, lt.length, n, ak, dr, s).2.1 + nI 1 = nI (lt.length + 1) from nI_1 lt.length]
    refine mi_wpg rfl HM.1 (Nat.le_of_ble_eq_true rfl) rfl (fun w h0 hF => ?_)
    have HM := HM.sc ((ls.length, lt.length + 1, n, ak, dr, s)) h0 hF
    have hG := hG.tr (mi_Fg.of1 hF (by omega) (by omega))
    clear h0
    refine mi_r1 (fun _ => rfl) ?_
    rw [e]
    refine ⟨rfl, ⟨_, ?_, HF.app_t hq hl hm, fun o ho => upF_o ho, fun o j hj => upF_j hj⟩, hG⟩
    rw [List.length_append]
    exact HM
end MFacts
