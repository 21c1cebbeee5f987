/-! the model: acyclic, start -/
def rfE (E : Nat → Nat → Bool) (p q : Nat) : Bool := E p q || decide (p = q)
theorem wa_rf (E : Nat → Nat → Bool) : ∀ k p q, wa (rfE E) k p q = (wa E k p q || decide (p = q))
  | 0, p, q => rfl
  | k + 1, p, q => by
    show (wa (rfE E) k p q || (wa (rfE E) k p k && wa (rfE E) k k q)) = ((wa E k p q || (wa E k p k && wa E k k q)) || decide (p = q))
    rw [wa_rf E k p q, wa_rf E k p k, wa_rf E k k q]
    by_cases h1 : p = k
    · subst h1
      by_cases h2 : p = q
      · subst h2
        simp
      · simp [h2]
    · by_cases h2 : k = q
      · subst h2
        rw [decide_eq_false h1, decide_eq_true (rfl : k = k)]
        cases wa E k p k <;> cases wa E k k k <;> rfl
      · rw [decide_eq_false h1, decide_eq_false h2]
        cases wa E k p q <;> cases wa E k p k <;> cases wa E k k q <;> cases decide (p = q) <;> rfl
theorem wa_sub {E : Nat → Nat → Bool} {p q : Nat} (h : E p q = true) : ∀ k, wa E k p q = true
  | 0 => h
  | k + 1 => by
    show (wa E k p q || (wa E k p k && wa E k k q)) = true
    rw [wa_sub h k]
    rfl
theorem cyc_rf {E S : Nat → Nat → Bool} (h : ∀ p q, S p q = true → E p q = true) : cyc (wa (rfE E) 8) S = cyc (wa E 8) S := by
  rw [Bool.eq_iff_iff]
  unfold cyc
  rw [any_range, any_range]
  constructor
  · rintro ⟨p, hp, h1⟩
    obtain ⟨q, hq, h2⟩ := any_range.mp h1
    rw [Bool.and_eq_true, wa_rf, Bool.or_eq_true] at h2
    refine ⟨p, hp, any_range.mpr ⟨q, hq, ?_⟩⟩
    rw [Bool.and_eq_true]
    refine ⟨h2.1, ?_⟩
    rcases h2.2 with h3 | h3
    · exact h3
    · have e := of_decide_eq_true h3
      subst e
      exact wa_sub (h _ _ h2.1) 8
  · rintro ⟨p, hp, h1⟩
    obtain ⟨q, hq, h2⟩ := any_range.mp h1
    rw [Bool.and_eq_true] at h2
    refine ⟨p, hp, any_range.mpr ⟨q, hq, ?_⟩⟩
    rw [Bool.and_eq_true, wa_rf, Bool.or_eq_true]
    exact ⟨h2.1, Or.inl h2.2⟩
theorem cyc_congr {W W' S S' : Nat → Nat → Bool} (h1 : ∀ p q, p < 8 → q < 8 → W p q = W' p q) (h2 : ∀ p q, p < 8 → q < 8 → S p q = S' p q) : cyc W S = cyc W' S' := by
  rw [Bool.eq_iff_iff]
  unfold cyc
  rw [any_range, any_range]
  constructor
  · rintro ⟨p, hp, h⟩
    obtain ⟨q, hq, h⟩ := any_range.mp h
    rw [h1 q p hq hp, h2 p q hp hq] at h
    exact ⟨p, hp, any_range.mpr ⟨q, hq, h⟩⟩
  · rintro ⟨p, hp, h⟩
    obtain ⟨q, hq, h⟩ := any_range.mp h
    rw [← h1 q p hq hp, ← h2 p q hp hq] at h
    exact ⟨p, hp, any_range.mpr ⟨q, hq, h⟩⟩
theorem wa_congr {E E' : Nat → Nat → Bool} (h : ∀ p q, p < 8 → q < 8 → E p q = E' p q) : ∀ k, k ≤ 8 → ∀ p q, p < 8 → q < 8 → wa E k p q = wa E' k p q
  | 0, _, p, q, hp, hq => h p q hp hq
  | k + 1, hk, p, q, hp, hq => by
    show (wa E k p q || (wa E k p k && wa E k k q)) = (wa E' k p q || (wa E' k p k && wa E' k k q))
    rw [wa_congr h k (by omega) p q hp hq, wa_congr h k (by omega) p k hp (by omega), wa_congr h k (by omega) k q (by omega) hq]
/-- the booleans as an array has them -/
def Rr (e : Nat → Int32) (W : Nat → Nat → Bool) : Prop := ∀ p q, p < 8 → q < 8 → e (8 * p + q) = jb (W p q = true)
/-- in the middle of a round over k -/
def wmx (W : Nat → Nat → Bool) (k m : Nat) : Nat → Nat → Bool := fun p q => if 8 * p + q < m then (W p q || (W p k && W k q)) else W p q
theorem wmx_col (W : Nat → Nat → Bool) (k m p : Nat) : wmx W k m p k = W p k := by
  unfold wmx
  split
  · cases W p k <;> cases W k k <;> rfl
  · rfl
theorem wmx_row (W : Nat → Nat → Bool) (k m q : Nat) : wmx W k m k q = W k q := by
  unfold wmx
  split
  · cases W k q <;> cases W k k <;> rfl
  · rfl
theorem jb_and1 (p : Prop) [Decidable p] : jb p &&& 1 = jb p := by
  by_cases h : p
  · rw [show jb p = 1 from if_pos h]
    decide
  · rw [show jb p = 0 from if_neg h]
    decide
theorem Eg.nz {e : Nat → Int32} {A B : Nat → Nat → Bool} (H : Eg e A B) {p q : Nat} (hp : p < 8) (hq : q < 8) : e (8 * p + q) = 0 ↔ (A p q || B p q) = false := by
  rw [bt_zero]
  constructor
  · intro h
    have h0 := h 0 (by omega)
    have h1 := h 1 (by omega)
    rw [H p q hp hq 0 (by omega)] at h0
    rw [H p q hp hq 1 (by omega)] at h1
    simp at h0 h1
    rw [h0, h1]
    rfl
  · intro h i hi
    rw [H p q hp hq i hi]
    rw [Bool.or_eq_false_iff] at h
    rw [h.1, h.2]
    simp
theorem bt2 : ∀ i, i < 32 → bt (nI 2) i = decide (i = 1) := by decide +kernel
theorem Eg.n2 {e : Nat → Int32} {A B : Nat → Nat → Bool} (H : Eg e A B) {p q : Nat} (hp : p < 8) (hq : q < 8) : (e (8 * p + q) &&& nI 2) = 0 ↔ B p q = false := by
  rw [bt_zero]
  constructor
  · intro h
    have h1 := h 1 (by omega)
    rw [b_and, H p q hp hq 1 (by omega), bt2 1 (by omega)] at h1
    simpa using h1
  · intro h i hi
    rw [b_and, H p q hp hq i hi, bt2 i hi, h]
    by_cases z : i = 1
    · subst z
      simp
    · simp [z]
theorem edS_E {S : sp_S} {m p q : Nat} (h : edS S m p q = true) : edE S m p q = true := by
  unfold edS at h
  unfold edE
  obtain ⟨i, hi, h⟩ := any_range.mp h
  rw [Bool.and_eq_true] at h
  refine any_range.mpr ⟨i, hi, ?_⟩
  rw [Bool.and_eq_true]
  refine ⟨h.1, ?_⟩
  obtain ⟨v, hv, h2⟩ := any_range.mp h.2
  refine any_range.mpr ⟨v, hv, ?_⟩
  rw [Bool.and_eq_true] at h2 ⊢
  exact ⟨h2.1, by rw [h2.2, Bool.or_true]⟩
section MAcyclic
variable {X : mi_X} {w : mi_H} {a : mo_a} {T : mo_T} {S : sp_S}
theorem mv_ac_clear {w0 : mi_H} {Q : Option Value → mi_H → Prop} (kk : ∀ (w1 : mi_H) (a1 : mo_a) (z1 z2 : Option Value), Mo w1 a1 T → (∀ o, o ≠ 89 → a1 o = a o) → (∀ k, k < 64 → a1 89 k = 0) → mi_Fg w0 w1 71 94 → mi_wp X mi_P 2 m_Mo_acyclic (21, [some (.ref 71), z1, z2], [], w1) Q) : ∀ f m (w : mi_H) (a1 : mo_a) (z2 : Option Value), m + f = 64 → Mo w a1 T → (∀ o, o ≠ 89 → a1 o = a o) → (∀ k, k < m → a1 89 k = 0) → mi_Fg w0 w 71 94 → mi_wp X mi_P 2 m_Mo_acyclic (2, [some (.ref 71), some (.int (nI m)), z2], [], w) Q
  | 0, m, w, a1, z2, hm, HM, ha, hz, hG => by
    have hm : m = 64 := by omega
    subst hm
    refine mi_s1 (fun _ => rfl) ?_; refine mi_s1 (fun _ => rfl) ?_; refine mi_s1 (fun _ => rfl) ?_
    refine mi_wif (fun _ => ?_) (fun q => absurd (by decide) q)
    exact kk w a1 _ _ HM ha hz hG
  | f + 1, m, w, a1, z2, hm, HM, ha, hz, hG => by
    repeat (first | refine mi_s1 (fun _ => rfl) ?_ | refine mi_wgf rfl (by assumption) rfl ?_ | refine mi_wal rfl (by assumption) rfl (by omega) (by decide) ?_)
    refine mi_wif (fun z => absurd z (nI_ge (a := m) (b := 64) (by omega) (by omega))) (fun _ => ?_)
    repeat (first | refine mi_s1 (fun _ => rfl) ?_ | refine mi_wgf rfl HM.1 rfl ?_ | refine mi_wal rfl (HM.2.1 _ _ rfl) rfl (by omega) (by decide) ?_ | refine mi_wbl rfl (HM.2.2 _ _ rfl) rfl (by omega) (by decide) ?_)
    refine HM.was rfl rfl rfl (by omega) (fun w HM hF => ?_)
    have hG := hG.tr hF
    refine mi_s1 (fun _ => rfl) ?_; refine mi_s1 (fun _ => rfl) ?_
    rw [show nI m + nI 1 = nI (m + 1) from nI_1 m]
    refine mv_ac_clear kk f (m + 1) w _ _ (by omega) HM (fun o ho => ?_) (fun k hk => ?_) hG
    · rw [upA_o ho]
      exact ha o ho
    · rw [upA_s]
      by_cases z : k = m
      · subst z
        rw [pk_us]
        rfl
      · rw [pk_un z]
        exact hz k (by omega)
theorem mv_ac_reach {w0 : mi_H} {A B : Nat → Nat → Bool} (HE : Eg (a 89) A B) {Q : Option Value → mi_H → Prop} (kk : ∀ (w1 : mi_H) (a1 : mo_a) (z1 z2 : Option Value), Mo w1 a1 T → (∀ o, o ≠ 90 → a1 o = a o) → Rr (a1 90) (rfE (fun p q => A p q || B p q)) → mi_Fg w0 w1 71 94 → mi_wp X mi_P 2 m_Mo_acyclic (108, [some (.ref 71), z1, z2], [], w1) Q) : ∀ f m (w : mi_H) (a1 : mo_a) (z2 : Option Value), m + f = 64 → Mo w a1 T → (∀ o, o ≠ 90 → a1 o = a o) → (∀ p q, p < 8 → q < 8 → 8 * p + q < m → a1 90 (8 * p + q) = jb (rfE (fun p q => A p q || B p q) p q = true)) → mi_Fg w0 w 71 94 → mi_wp X mi_P 2 m_Mo_acyclic (65, [some (.ref 71), some (.int (nI m)), z2], [], w) Q
  | 0, m, w, a1, z2, hm, HM, ha, hz, hG => by
    have hm : m = 64 := by omega
    subst hm
    refine mi_s1 (fun _ => rfl) ?_; refine mi_s1 (fun _ => rfl) ?_; refine mi_s1 (fun _ => rfl) ?_
    refine mi_wif (fun _ => ?_) (fun q => absurd (by decide) q)
    exact kk w a1 _ _ HM ha (fun p q hp hq => hz p q hp hq (by omega)) hG
  | f + 1, m, w, a1, z2, hm, HM, ha, hz, hG => by
    have em : 8 * (m / 8) + m % 8 = m := by omega
    have hp : m / 8 < 8 := by omega
    have hq : m % 8 < 8 := by omega
    have go : ∀ x, x = jb (rfE (fun p q => A p q || B p q) (m / 8) (m % 8) = true) → mi_wp X mi_P 2 m_Mo_acyclic (101, [some (.ref 71), some (.int (nI m)), z2], [.int x, .int (nI m), .ref 90], w) Q := by
      intro x hx
      subst hx
      refine HM.wbs rfl rfl rfl (by omega) (fun w HM hF => ?_)
      have hG := hG.tr hF
      refine mi_s1 (fun _ => rfl) ?_; refine mi_s1 (fun _ => rfl) ?_
      rw [show nI m + nI 1 = nI (m + 1) from nI_1 m]
      rw [jb_and1] at HM
      refine mv_ac_reach HE kk f (m + 1) w _ _ (by omega) HM (fun o ho => ?_) (fun p q h1 h2 h3 => ?_) hG
      · rw [upA_o ho]
        exact ha o ho
      · rw [upA_s]
        by_cases z : 8 * p + q = m
        · have e1 : p = m / 8 := by omega
          have e2 : q = m % 8 := by omega
          rw [z, pk_us, e1, e2]
        · rw [pk_un z]
          exact hz p q h1 h2 (by omega)
    repeat (first | refine mi_s1 (fun _ => rfl) ?_ | refine mi_wgf rfl (by assumption) rfl ?_ | refine mi_wal rfl (by assumption) rfl (by omega) (by decide) ?_)
    refine mi_wif (fun z => absurd z (nI_ge (a := m) (b := 64) (by omega) (by omega))) (fun _ => ?_)
    repeat (first | refine mi_s1 (fun _ => rfl) ?_ | refine mi_wgf rfl HM.1 rfl ?_ | refine mi_wal rfl (HM.2.1 _ _ rfl) rfl (by omega) (by decide) ?_ | refine mi_wbl rfl (HM.2.2 _ _ rfl) rfl (by omega) (by decide) ?_)
    have ez : a1 89 m = 0 ↔ (A (m / 8) (m % 8) || B (m / 8) (m % 8)) = false := by
      rw [ha 89 (by decide), ← HE.nz hp hq, em]
    refine mi_wif (fun z => ?_) (fun z => ?_)
    · have z := ez.mp z
      repeat (first | refine mi_s1 (fun _ => rfl) ?_ | refine mi_wgf rfl (by assumption) rfl ?_ | refine mi_wal rfl (by assumption) rfl (by omega) (by decide) ?_)
      rw [pk_rem (by omega) (by omega) (by omega), pk_div (by omega) (by omega) (by omega)]
      refine mi_wif (fun z2 => ?_) (fun z2 => ?_)
      · have z2 := (nI_eq (by omega) (by omega)).mp z2
        refine mi_s1 (fun _ => rfl) ?_; refine mi_s1 (fun _ => rfl) ?_
        refine go _ (if_pos ?_).symm
        unfold rfE
        rw [decide_eq_true z2, Bool.or_true]
      · have z2 : ¬ m / 8 = m % 8 := fun q => z2 (by rw [q])
        refine mi_s1 (fun _ => rfl) ?_
        refine go _ (if_neg ?_).symm
        unfold rfE
        dsimp only
        rw [decide_eq_false z2, z]
        decide
    · have z : (A (m / 8) (m % 8) || B (m / 8) (m % 8)) = true := by
        cases q : (A (m / 8) (m % 8) || B (m / 8) (m % 8)) with
        | true => rfl
        | false => exact absurd (ez.mpr q) z
      refine mi_s1 (fun _ => rfl) ?_; refine mi_s1 (fun _ => rfl) ?_
      refine go _ (if_pos ?_).symm
      unfold rfE
      dsimp only
      rw [z]
      rfl
theorem mv_ac_round {w0 : mi_H} {W : Nat → Nat → Bool} {k : Nat} (hk : k < 8) {Q : Option Value → mi_H → Prop} (kk : ∀ (w1 : mi_H) (a1 : mo_a) (z2 : Option Value), Mo w1 a1 T → (∀ o, o ≠ 90 → a1 o = a o) → Rr (a1 90) (fun p q => W p q || (W p k && W k q)) → mi_Fg w0 w1 71 94 → mi_wp X mi_P 2 m_Mo_acyclic (184, [some (.ref 71), some (.int (nI k)), z2], [], w1) Q) : ∀ f m (w : mi_H) (a1 : mo_a), m + f = 64 → Mo w a1 T → (∀ o, o ≠ 90 → a1 o = a o) → Rr (a1 90) (wmx W k m) → mi_Fg w0 w 71 94 → mi_wp X mi_P 2 m_Mo_acyclic (118, [some (.ref 71), some (.int (nI k)), some (.int (nI m))], [], w) Q
  | 0, m, w, a1, hm, HM, ha, hz, hG => by
    have hm : m = 64 := by omega
    subst hm
    refine mi_s1 (fun _ => rfl) ?_; refine mi_s1 (fun _ => rfl) ?_; refine mi_s1 (fun _ => rfl) ?_
    refine mi_wif (fun _ => ?_) (fun q => absurd (by decide) q)
    refine kk w a1 _ HM ha (fun p q hp hq => ?_) hG
    rw [hz p q hp hq]
    unfold wmx
    rw [if_pos (by omega)]
  | f + 1, m, w, a1, hm, HM, ha, hz, hG => by
    have em : 8 * (m / 8) + m % 8 = m := by omega
    have hp : m / 8 < 8 := by omega
    have hq : m % 8 < 8 := by omega
    have v1 : a1 90 m = jb (W (m / 8) (m % 8) = true) := by
      have := hz (m / 8) (m % 8) hp hq
      rw [em] at this
      rw [this]
      unfold wmx
      rw [if_neg (by omega)]
    have v2 : a1 90 (8 * (m / 8) + k) = jb (W (m / 8) k = true) := by
      rw [hz (m / 8) k hp hk, wmx_col]
    have v3 : a1 90 (8 * k + m % 8) = jb (W k (m % 8) = true) := by
      rw [hz k (m % 8) hk hq, wmx_row]
    have go : ∀ x, x = jb ((W (m / 8) (m % 8) || (W (m / 8) k && W k (m % 8))) = true) → mi_wp X mi_P 2 m_Mo_acyclic (177, [some (.ref 71), some (.int (nI k)), some (.int (nI m))], [.int x, .int (nI m), .ref 90], w) Q := by
      intro x hx
      subst hx
      refine HM.wbs rfl rfl rfl (by omega) (fun w HM hF => ?_)
      have hG := hG.tr hF
      refine mi_s1 (fun _ => rfl) ?_; refine mi_s1 (fun _ => rfl) ?_
      rw [show nI m + nI 1 = nI (m + 1) from nI_1 m]
      rw [jb_and1] at HM
      refine mv_ac_round hk kk f (m + 1) w _ (by omega) HM (fun o ho => ?_) (fun p q h1 h2 => ?_) hG
      · rw [upA_o ho]
        exact ha o ho
      · rw [upA_s]
        by_cases z : 8 * p + q = m
        · have e1 : p = m / 8 := by omega
          have e2 : q = m % 8 := by omega
          rw [z, pk_us]
          unfold wmx
          rw [if_pos (by omega), e1, e2]
        · rw [pk_un z, hz p q h1 h2]
          unfold wmx
          by_cases z2 : 8 * p + q < m
          · rw [if_pos z2, if_pos (by omega)]
          · rw [if_neg z2, if_neg (by omega)]
    repeat (first | refine mi_s1 (fun _ => rfl) ?_ | refine mi_wgf rfl (by assumption) rfl ?_ | refine mi_wal rfl (by assumption) rfl (by omega) (by decide) ?_)
    refine mi_wif (fun z => absurd z (nI_ge (a := m) (b := 64) (by omega) (by omega))) (fun _ => ?_)
    repeat (first | refine mi_s1 (fun _ => rfl) ?_ | refine mi_wgf rfl HM.1 rfl ?_ | refine mi_wal rfl (HM.2.1 _ _ rfl) rfl (by omega) (by decide) ?_ | refine mi_wbl rfl (HM.2.2 _ _ rfl) rfl (by omega) (by decide) ?_)
    rw [v1]
    refine mi_wif (fun z => ?_) (fun z => ?_)
    · have z := jb_0.mp z
      have z : W (m / 8) (m % 8) = false := by simpa using z
      repeat (first | refine mi_s1 (fun _ => rfl) ?_ | refine mi_wgf rfl HM.1 rfl ?_ | refine mi_wal rfl (HM.2.1 _ _ rfl) rfl (by omega) (by decide) ?_ | refine mi_wbl rfl (HM.2.2 _ _ rfl) rfl (by omega) (by decide) ?_)
      rw [pk_div (by omega) (by omega) (by omega), pk_mul, nI_add, show m / 8 * 8 + k = 8 * (m / 8) + k by omega]
      repeat (first | refine mi_s1 (fun _ => rfl) ?_ | refine mi_wgf rfl HM.1 rfl ?_ | refine mi_wal rfl (HM.2.1 _ _ rfl) rfl (by omega) (by decide) ?_ | refine mi_wbl rfl (HM.2.2 _ _ rfl) rfl (by omega) (by decide) ?_)
      rw [v2]
      refine mi_wif (fun z1 => ?_) (fun z1 => ?_)
      · have z1 : W (m / 8) k = false := by simpa using jb_0.mp z1
        refine mi_s1 (fun _ => rfl) ?_
        refine go _ (if_neg ?_).symm
        rw [z, z1]
        simp
      · have z1 := Decidable.not_not.mp (fun q => z1 (jb_0.mpr q))
        repeat (first | refine mi_s1 (fun _ => rfl) ?_ | refine mi_wgf rfl HM.1 rfl ?_ | refine mi_wal rfl (HM.2.1 _ _ rfl) rfl (by omega) (by decide) ?_ | refine mi_wbl rfl (HM.2.2 _ _ rfl) rfl (by omega) (by decide) ?_)
        rw [pk_rem (by omega) (by omega) (by omega), pk_mul, nI_add]
        repeat (first | refine mi_s1 (fun _ => rfl) ?_ | refine mi_wgf rfl HM.1 rfl ?_ | refine mi_wal rfl (HM.2.1 _ _ rfl) rfl (by omega) (by decide) ?_ | refine mi_wbl rfl (HM.2.2 _ _ rfl) rfl (by omega) (by decide) ?_)
        rw [v3]
        refine mi_wif (fun z3 => ?_) (fun z3 => ?_)
        · have z3 : W k (m % 8) = false := by simpa using jb_0.mp z3
          refine mi_s1 (fun _ => rfl) ?_
          refine go _ (if_neg ?_).symm
          rw [z, z1, z3]
          decide
        · have z3 := Decidable.not_not.mp (fun q => z3 (jb_0.mpr q))
          refine mi_s1 (fun _ => rfl) ?_; refine mi_s1 (fun _ => rfl) ?_
          refine go _ (if_pos ?_).symm
          rw [z, z1, z3]
          rfl
    · have z := Decidable.not_not.mp (fun q => z (jb_0.mpr q))
      refine mi_s1 (fun _ => rfl) ?_; refine mi_s1 (fun _ => rfl) ?_
      refine go _ (if_pos ?_).symm
      rw [z]
      rfl
theorem mv_ac_rounds {w0 : mi_H} {E : Nat → Nat → Bool} {Q : Option Value → mi_H → Prop} (kk : ∀ (w1 : mi_H) (a1 : mo_a) (z1 z2 : Option Value), Mo w1 a1 T → (∀ o, o ≠ 90 → a1 o = a o) → Rr (a1 90) (wa E 8) → mi_Fg w0 w1 71 94 → mi_wp X mi_P 2 m_Mo_acyclic (190, [some (.ref 71), z1, z2], [], w1) Q) : ∀ f k (w : mi_H) (a1 : mo_a) (z2 : Option Value), k + f = 8 → Mo w a1 T → (∀ o, o ≠ 90 → a1 o = a o) → Rr (a1 90) (wa E k) → mi_Fg w0 w 71 94 → mi_wp X mi_P 2 m_Mo_acyclic (110, [some (.ref 71), some (.int (nI k)), z2], [], w) Q
  | 0, k, w, a1, z2, hk, HM, ha, hz, hG => by
    have hk : k = 8 := by omega
    subst hk
    refine mi_s1 (fun _ => rfl) ?_; refine mi_s1 (fun _ => rfl) ?_; refine mi_s1 (fun _ => rfl) ?_
    refine mi_wif (fun _ => ?_) (fun q => absurd (by decide) q)
    exact kk w a1 _ _ HM ha hz hG
  | f + 1, k, w, a1, z2, hk, HM, ha, hz, hG => by
    repeat (first | refine mi_s1 (fun _ => rfl) ?_ | refine mi_wgf rfl (by assumption) rfl ?_ | refine mi_wal rfl (by assumption) rfl (by omega) (by decide) ?_)
    refine mi_wif (fun z => absurd z (nI_ge (a := k) (b := 8) (by omega) (by omega))) (fun _ => ?_)
    refine mi_s1 (fun _ => rfl) ?_; refine mi_s1 (fun _ => rfl) ?_
    refine mv_ac_round (w0 := w0) (a := a) (W := wa E k) (k := k) (by omega) (fun w1 a2 z2 HM2 ha2 hz2 hG2 => ?_) 64 0 w a1 rfl HM ha (fun p q hp hq => ?_) hG
    · refine mi_s1 (fun _ => rfl) ?_; refine mi_s1 (fun _ => rfl) ?_
      rw [show nI k + nI 1 = nI (k + 1) from nI_1 k]
      exact mv_ac_rounds kk f (k + 1) w1 a2 _ (by omega) HM2 ha2 hz2 hG2
    · rw [hz p q hp hq]
      unfold wmx
      rw [if_neg (by omega)]
theorem mv_ac_test {A B W : Nat → Nat → Bool} (HM : Mo w a T) (HE : Eg (a 89) A B) (HW : Rr (a 90) W) {z2 : Option Value} : ∀ f m, m + f = 64 → (∀ p q, p < 8 → q < 8 → 8 * p + q < m → (B p q && W q p) = false) → mi_wp X mi_P 2 m_Mo_acyclic (192, [some (.ref 71), some (.int (nI m)), z2], [], w) (fun r w1 => r = some (.int (jb (¬ cyc W B = true))) ∧ w1 = w)
  | 0, m, hm, hn => by
    have hm : m = 64 := by omega
    subst hm
    repeat (first | refine mi_s1 (fun _ => rfl) ?_ | refine mi_wgf rfl (by assumption) rfl ?_ | refine mi_wal rfl (by assumption) rfl (by omega) (by decide) ?_)
    refine mi_wrz rfl rfl rfl ?_
    refine jb_t (fun q => ?_)
    obtain ⟨p, hp, q⟩ := any_range.mp q
    obtain ⟨r, hr, q⟩ := any_range.mp q
    rw [hn p r hp hr (by omega)] at q
    cases q
  | f + 1, m, hm, hn => by
    have em : 8 * (m / 8) + m % 8 = m := by omega
    have hp : m / 8 < 8 := by omega
    have hq : m % 8 < 8 := by omega
    have ez := HE.n2 hp hq
    rw [em] at ez
    have v2 := HW (m % 8) (m / 8) hq hp
    have go : (B (m / 8) (m % 8) && W (m % 8) (m / 8)) = false → mi_wp X mi_P 2 m_Mo_acyclic (231, [some (.ref 71), some (.int (nI m)), z2], [], w) (fun r w1 => r = some (.int (jb (¬ cyc W B = true))) ∧ w1 = w) := by
      intro h
      refine mi_s1 (fun _ => rfl) ?_; refine mi_s1 (fun _ => rfl) ?_
      rw [show nI m + nI 1 = nI (m + 1) from nI_1 m]
      refine mv_ac_test HM HE HW f (m + 1) (by omega) (fun p q h1 h2 h3 => ?_)
      by_cases z : 8 * p + q = m
      · rw [show p = m / 8 by omega, show q = m % 8 by omega]
        exact h
      · exact hn p q h1 h2 (by omega)
    repeat (first | refine mi_s1 (fun _ => rfl) ?_ | refine mi_wgf rfl (by assumption) rfl ?_ | refine mi_wal rfl (by assumption) rfl (by omega) (by decide) ?_)
    refine mi_wif (fun z => absurd z (nI_ge (a := m) (b := 64) (by omega) (by omega))) (fun _ => ?_)
    repeat (first | refine mi_s1 (fun _ => rfl) ?_ | refine mi_wgf rfl HM.1 rfl ?_ | refine mi_wal rfl (HM.2.1 _ _ rfl) rfl (by omega) (by decide) ?_ | refine mi_wbl rfl (HM.2.2 _ _ rfl) rfl (by omega) (by decide) ?_)
    refine mi_wif (fun z => ?_) (fun z => ?_)
    · refine go ?_
      rw [ez.mp z]
      rfl
    · have z : B (m / 8) (m % 8) = true := by
        cases q : B (m / 8) (m % 8) with
        | true => rfl
        | false => exact absurd (ez.mpr q) z
      repeat (first | refine mi_s1 (fun _ => rfl) ?_ | refine mi_wgf rfl HM.1 rfl ?_ | refine mi_wal rfl (HM.2.1 _ _ rfl) rfl (by omega) (by decide) ?_ | refine mi_wbl rfl (HM.2.2 _ _ rfl) rfl (by omega) (by decide) ?_)
      rw [pk_rem (by omega) (by omega) (by omega), pk_div (by omega) (by omega) (by omega), pk_mul, nI_add, show m % 8 * 8 + m / 8 = 8 * (m % 8) + m / 8 by omega]
      repeat (first | refine mi_s1 (fun _ => rfl) ?_ | refine mi_wgf rfl HM.1 rfl ?_ | refine mi_wal rfl (HM.2.1 _ _ rfl) rfl (by omega) (by decide) ?_ | refine mi_wbl rfl (HM.2.2 _ _ rfl) rfl (by omega) (by decide) ?_)
      rw [v2]
      refine mi_wif (fun z3 => ?_) (fun z3 => ?_)
      · refine go ?_
        rw [show W (m % 8) (m / 8) = false by simpa using jb_0.mp z3, Bool.and_false]
      · have z3 := Decidable.not_not.mp (fun q => z3 (jb_0.mpr q))
        repeat (first | refine mi_s1 (fun _ => rfl) ?_ | refine mi_wgf rfl (by assumption) rfl ?_ | refine mi_wal rfl (by assumption) rfl (by omega) (by decide) ?_)
        refine mi_wrz rfl rfl rfl ?_
        refine jb_f (fun q => q ?_)
        exact any_range.mpr ⟨_, hp, any_range.mpr ⟨_, hq, by rw [z, z3]; rfl⟩⟩
theorem mv_ac_edges {w0 : mi_H} {ls lt : List sp_A} (hw : wfS S) (HR : ∀ i, i < S.n → Rm a i (S.R i)) (hn : S.n ≤ 6) {Q : Option Value → mi_H → Prop} (kk : ∀ (w1 : mi_H) (a1 : mo_a) (z1 z2 : Option Value) (A : Nat → Nat → Bool), Mo w1 a1 (ls.length, lt.length, S.n, S.hq, S.hd, S.s) → (∀ o, o ≠ 89 → a1 o = a o) → Eg (a1 89) A (edS S S.n) → (∀ p q, (A p q || edS S S.n p q) = edE S S.n p q) → mi_Fg w0 w1 71 94 → mi_wp X mi_P 2 m_Mo_acyclic (63, [some (.ref 71), z1, z2], [], w1) Q) : ∀ f m (w : mi_H) (a1 : mo_a) (z2 : Option Value) (A : Nat → Nat → Bool), m + f = S.n → Mo w a1 (ls.length, lt.length, S.n, S.hq, S.hd, S.s) → (∀ o, o ≠ 89 → a1 o = a o) → Eg (a1 89) A (edS S m) → (∀ p q, (A p q || edS S m p q) = edE S m p q) → mi_Fg w0 w 71 94 → mi_wp X mi_P 2 m_Mo_acyclic (23, [some (.ref 71), some (.int (nI m)), z2], [], w) Q
  | 0, m, w, a1, z2, A, hm, HM, ha, HE, hA, hG => by
    have hm : m = S.n := by omega
    subst hm
    repeat (first | refine mi_s1 (fun _ => rfl) ?_ | refine mi_wgf rfl HM.1 rfl ?_ | refine mi_wal rfl (HM.2.1 _ _ rfl) rfl (by omega) (by decide) ?_ | refine mi_wbl rfl (HM.2.2 _ _ rfl) rfl (by omega) (by decide) ?_)
    refine mi_wif (fun _ => ?_) (fun q => absurd (nI_le (Nat.le_refl S.n) (by omega)) q)
    exact kk w a1 _ _ A HM ha HE hA hG
  | f + 1, m, w, a1, z2, A, hm, HM, ha, HE, hA, hG => by
    have HR1 : Rm a1 m (S.R m) := (HR m (by omega)).congr (fun o h1 h2 => ha o (by omega))
    obtain ⟨r1, r2, r3, r4, -, -, r7, r8, -⟩ := id HR1
    obtain ⟨hk2, hf0⟩ := hw.1 m (by omega)
    obtain ⟨hne, hh, hc, hsrc, hcs, hpb⟩ := fault0 hf0
    have eE : ∀ p q, edE S (m + 1) p q = (edE S m p q || (decide ((S.R m).1 = 0) && egE (S.R m) 4 p q)) := fun p q => any_s
    have eS : ∀ p q, edS S (m + 1) p q = (edS S m p q || (decide ((S.R m).1 = 0) && egS (S.R m) 4 p q)) := fun p q => any_s
    have hh2 : ∀ q ∈ (S.R m).2.2.1, 2 ≤ q.1 := by
      intro q hq
      unfold csn at hcs
      rw [List.countP_eq_zero] at hcs
      have := hcs q hq
      simp at this
      omega
    have skip : (∀ p q, (decide ((S.R m).1 = 0) && egE (S.R m) 4 p q) = false ∧ (decide ((S.R m).1 = 0) && egS (S.R m) 4 p q) = false) → mi_wp X mi_P 2 m_Mo_acyclic (57, [some (.ref 71), some (.int (nI m)), z2], [], w) Q := by
      intro h
      refine mi_s1 (fun _ => rfl) ?_; refine mi_s1 (fun _ => rfl) ?_
      rw [show nI m + nI 1 = nI (m + 1) from nI_1 m]
      refine mv_ac_edges hw HR hn kk f (m + 1) w a1 _ A (by omega) HM ha (fun p q hp hq i hi => ?_) (fun p q => ?_) hG
      · rw [HE p q hp hq i hi, eS, (h p q).2, Bool.or_false]
      · rw [eS, eE, (h p q).1, (h p q).2, Bool.or_false, Bool.or_false]
        exact hA p q
    repeat (first | refine mi_s1 (fun _ => rfl) ?_ | refine mi_wgf rfl HM.1 rfl ?_ | refine mi_wal rfl (HM.2.1 _ _ rfl) rfl (by omega) (by decide) ?_ | refine mi_wbl rfl (HM.2.2 _ _ rfl) rfl (by omega) (by decide) ?_)
    refine mi_wif (fun q => absurd q (nI_ge (a := m) (b := S.n) (by omega) (by omega))) (fun _ => ?_)
    repeat (first | refine mi_s1 (fun _ => rfl) ?_ | refine mi_wgf rfl HM.1 rfl ?_ | refine mi_wal rfl (HM.2.1 _ _ rfl) rfl (by omega) (by decide) ?_ | refine mi_wbl rfl (HM.2.2 _ _ rfl) rfl (by omega) (by decide) ?_)
    rw [r1]
    refine mi_wif (fun z => ?_) (fun z => ?_)
    · have z := (nI_z (by omega)).mp z
      obtain ⟨t, ht, -⟩ := drop_at (l := (S.R m).2.1) (i := 0) (List.length_pos_iff.mpr hne)
      obtain ⟨e1, -, -, ok1, ok2, ok3⟩ := r7 0 t ht
      rw [Nat.add_zero] at e1
      repeat (first | refine mi_s1 (fun _ => rfl) ?_ | refine mi_wgf rfl HM.1 rfl ?_ | refine mi_wal rfl (HM.2.1 _ _ rfl) rfl (by omega) (by decide) ?_ | refine mi_wbl rfl (HM.2.2 _ _ rfl) rfl (by omega) (by decide) ?_)
      rw [pk_mul]
      repeat (first | refine mi_s1 (fun _ => rfl) ?_ | refine mi_wgf rfl HM.1 rfl ?_ | refine mi_wal rfl (HM.2.1 _ _ rfl) rfl (by omega) (by decide) ?_ | refine mi_wbl rfl (HM.2.2 _ _ rfl) rfl (by omega) (by decide) ?_)
      rw [e1]
      refine mi_wif (fun z3 => ?_) (fun z3 => ?_)
      · have z3 := (nI_leI (by omega) (by decide)).mp z3
        refine skip (fun p q => ?_)
        -- a body of source atoms has no positions
        have hall : ∀ v p, posB (S.R m).2.1 v p = false := by
          intro v p
          rcases hsrc with h | h
          · unfold csn at h
            rw [List.countP_eq_zero] at h
            have := h t (List.mem_of_getElem? ht)
            simp at this
            omega
          · have h2 := h.2
            unfold csn at h2
            rw [List.countP_eq_length] at h2
            unfold posB
            rw [List.any_eq_false]
            intro x hx
            have := h2 x hx
            simp at this
            simp
            intro h3
            omega
        constructor
        · rw [z]
          unfold egE
          rw [Bool.and_eq_false_iff]
          right
          rw [List.any_eq_false]
          intro v hv
          rw [hall]
          simp
        · rw [z]
          unfold egS
          rw [Bool.and_eq_false_iff]
          right
          rw [List.any_eq_false]
          intro v hv
          rw [hall]
          simp
      · have z3 : 2 ≤ t.1 := by
          rcases Nat.lt_or_ge t.1 2 with q | q
          · exact absurd (nI_le (a := t.1) (b := 1) (by omega) (by decide)) z3
          · exact q
        have hb2 : ∀ q ∈ (S.R m).2.1, 2 ≤ q.1 := by
          rcases hsrc with h | h
          · unfold csn at h
            rw [List.countP_eq_zero] at h
            intro x hx
            have := h x hx
            simp at this
            omega
          · have h2 := h.2
            unfold csn at h2
            rw [List.countP_eq_length] at h2
            have := h2 t (List.mem_of_getElem? ht)
            simp at this
            omega
        obtain ⟨hok1, hok2⟩ := HR1.okB
        obtain ⟨r1, w1, he, rfl, ⟨a2, HM2, ha2, HE2⟩, hG2⟩ := mv_edgesOf (X := X) (d := m) (by omega) HM HR1 hb2 hh2 HE
        repeat (first | refine mi_s1 (fun _ => rfl) ?_ | refine mi_wgf rfl (by assumption) rfl ?_ | refine mi_wal rfl (by assumption) rfl (by omega) (by decide) ?_)
        refine mi_wcv rfl rfl (Nat.le_of_ble_eq_true rfl) HM.1 rfl (he) ?_
        refine mi_s1 (fun _ => rfl) ?_; refine mi_s1 (fun _ => rfl) ?_
        rw [show nI m + nI 1 = nI (m + 1) from nI_1 m]
        refine mv_ac_edges hw HR hn kk f (m + 1) w1 a2 _ (fun p q => A p q || ouA (S.R m).2.1 (S.R m).2.2.1 p q (2 * (S.R m).2.1.length)) (by omega) HM2 (fun o ho => (ha2 o ho).trans (ha o ho)) (fun p q hp hq i hi => ?_) (fun p q => ?_) (hG.tr hG2)
        · rw [HE2 p q hp hq i hi, eS, z, egS_iff hok1 hok2 hb2 hh2]
          rfl
        · rw [eS, eE, z, egS_iff hok1 hok2 hb2 hh2, egE_iff hok1 hok2 hb2 hh2, ← hA p q]
          simp only [decide_true, Bool.true_and]
          cases A p q <;> cases edS S m p q <;> cases ouA (S.R m).2.1 (S.R m).2.2.1 p q (2 * (S.R m).2.1.length) <;> cases ouB (S.R m).2.1 (S.R m).2.2.1 p q (2 * (S.R m).2.1.length) <;> rfl
    · have z : ¬ (S.R m).1 = 0 := fun q => z (by rw [q]; rfl)
      refine skip (fun p q => ?_)
      rw [decide_eq_false z]
      exact ⟨rfl, rfl⟩
theorem Md.scr {w w1 : mi_H} {S : sp_S} {a b : mo_a} {ls lt : List sp_A} (HM : Mo w1 b (ls.length, lt.length, S.n, S.hq, S.hd, S.s)) (HF : Fm a ls lt S.F) (HR : ∀ i, i < S.n → Rm a i (S.R i)) (H6 : S.hq = true → Rm a 6 (S.R 6)) (H7 : S.hd = true → Rm a 7 (S.R 7)) (hn : S.n ≤ 6) (hs : S.s ≤ 4) (h : ∀ o, o < 86 → b o = a o) : Md w1 S :=
  ⟨b, ls, lt, HM, HF.congr (fun o _ h2 => h o (by omega)), fun i hi => (HR i hi).congr (fun o _ h2 => h o (by omega)), fun q => (H6 q).congr (fun o _ h2 => h o (by omega)), fun q => (H7 q).congr (fun o _ h2 => h o (by omega)), hn, hs⟩
theorem mv_acyclic (hw : wfS S) (H : Md w S) : mi_Ex X 3 k_Mo_acyclic [.ref 71] w (fun q w1 => q = some (.int (jb (acyB S))) ∧ Md w1 S ∧ mi_Fg w w1 71 94) := by
  obtain ⟨a, ls, lt, HM, HF, HR, H6, H7, hn, hs⟩ := id H
  refine mi_Ex.of (M := m_Mo_acyclic) rfl (Nat.le_of_ble_eq_true rfl) ?_
  refine mi_s1 (fun _ => rfl) ?_; refine mi_s1 (fun _ => rfl) ?_
  refine mv_ac_clear (w0 := w) (a := a) (T := (ls.length, lt.length, S.n, S.hq, S.hd, S.s)) (fun w1 a1 z1 z2 HM1 ha1 hz1 hG1 => ?_) 64 0 w a _ rfl HM (fun _ _ => rfl) (fun k hk => absurd hk (Nat.not_lt_zero k)) mi_Fg.rf
  refine mi_s1 (fun _ => rfl) ?_; refine mi_s1 (fun _ => rfl) ?_
  refine mv_ac_edges (w0 := w) (a := a) (S := S) (ls := ls) (lt := lt) hw HR hn (fun w2 a2 z1 z2 A HM2 ha2 HE2 hA2 hG2 => ?_) S.n 0 w1 a1 _ (fun _ _ => false) (by omega) HM1 ha1 (fun p q hp hq i hi => ?_) (fun p q => rfl) hG1
  · refine mi_s1 (fun _ => rfl) ?_; refine mi_s1 (fun _ => rfl) ?_
    refine mv_ac_reach (w0 := w) (a := a2) HE2 (fun w3 a3 z1 z2 HM3 ha3 hR3 hG3 => ?_) 64 0 w2 a2 _ rfl HM2 (fun _ _ => rfl) (fun p q _ _ h => absurd h (Nat.not_lt_zero _)) hG2
    refine mi_s1 (fun _ => rfl) ?_; refine mi_s1 (fun _ => rfl) ?_
    refine mv_ac_rounds (w0 := w) (a := a3) (E := rfE (fun p q => A p q || edS S S.n p q)) (fun w4 a4 z1 z2 HM4 ha4 hR4 hG4 => ?_) 8 0 w3 a3 _ rfl HM3 (fun _ _ => rfl) hR3 hG3
    refine mi_s1 (fun _ => rfl) ?_; refine mi_s1 (fun _ => rfl) ?_
    have HE4 : Eg (a4 89) A (edS S S.n) := by
      rw [ha4 89 (by decide), ha3 89 (by decide)]
      exact HE2
    refine (mv_ac_test (X := X) HM4 HE4 hR4 64 0 rfl (fun p q _ _ h => absurd h (Nat.not_lt_zero _))).imp (fun r w5 h => ?_)
    obtain ⟨rfl, rfl⟩ := h
    refine ⟨?_, Md.scr (w := w) (a := a) HM4 HF HR H6 H7 hn hs (fun o ho => by rw [ha4 o (by omega), ha3 o (by omega), ha2 o (by omega)]), hG4⟩
    have e : (fun p q => A p q || edS S S.n p q) = edE S S.n := by
      funext p q
      exact hA2 p q
    rw [e, cyc_rf (fun p q h => edS_E h)]
  · rw [hz1 _ (by omega), b_0]
    have e : edS S 0 p q = false := rfl
    rw [e]
    simp
theorem mv_start (hw : wfS S) (H : Md w S) : mi_Ex X 4 k_Mo_start [.ref 71] w (fun q w1 => q = some (.int (op_start S).1) ∧ Md w1 (op_start S).2 ∧ mi_Fg w w1 71 94) := by
  obtain ⟨a, ls, lt, HM, HF, HR, H6, H7, hn, hs⟩ := id H
  refine mi_Ex.of (M := m_Mo_start) rfl (Nat.le_of_ble_eq_true rfl) ?_
  repeat (first | refine mi_s1 (fun _ => rfl) ?_ | refine mi_wgf rfl HM.1 rfl ?_ | refine mi_wal rfl (HM.2.1 _ _ rfl) rfl (by omega) (by decide) ?_ | refine mi_wbl rfl (HM.2.2 _ _ rfl) rfl (by omega) (by decide) ?_)
  refine mi_wif (fun z => ?_) (fun z => ?_)
  · have z : S.s = 0 := (nI_z (n := S.s) (by omega)).mp z
    have e : op_start S = _ := if_pos z
    rw [e]
    clear e
    obtain ⟨r1, w1, he, rfl, H1, hG⟩ := mv_acyclic (X := X) hw H
    repeat (first | refine mi_s1 (fun _ => rfl) ?_ | refine mi_wgf rfl (by assumption) rfl ?_ | refine mi_wal rfl (by assumption) rfl (by omega) (by decide) ?_)
    refine mi_wcv rfl rfl (Nat.le_of_ble_eq_true rfl) HM.1 rfl (he) ?_
    repeat (first | refine mi_s1 (fun _ => rfl) ?_ | refine mi_wgf rfl (by assumption) rfl ?_ | refine mi_wal rfl (by assumption) rfl (by omega) (by decide) ?_)
    refine mi_wif (fun z1 => ?_) (fun z1 => ?_)
    · have z1 := jb_0.mp z1
      rw [if_neg z1]
      repeat (first | refine mi_s1 (fun _ => rfl) ?_ | refine mi_wgf rfl (by assumption) rfl ?_ | refine mi_wal rfl (by assumption) rfl (by omega) (by decide) ?_)
      refine mi_r1 (fun _ => rfl) ?_
      exact ⟨rfl, H1, hG⟩
    · have z1 := Decidable.not_not.mp (fun q => z1 (jb_0.mpr q))
      rw [if_pos z1]
      obtain ⟨a, ls, lt, HM, HF, HR, H6, H7, -, -⟩ := H1
      repeat (first | refine mi_s1 (fun _ => rfl) ?_ | refine mi_wgf rfl HM.1 rfl ?_ | refine mi_wal rfl (HM.2.1 _ _ rfl) rfl (by omega) (by decide) ?_ | refine mi_wbl rfl (HM.2.2 _ _ rfl) rfl (by omega) (by decide) ?_)
      refine mi_wpg rfl HM.1 (Nat.le_of_ble_eq_true rfl) rfl (fun w h0 hF => ?_)
      have HM := HM.sc ((ls.length, lt.length, S.n, S.hq, S.hd, 1)) h0 hF
      have hG := hG.tr (mi_Fg.of1 hF (by omega) (by omega))
      clear h0
      repeat (first | refine mi_s1 (fun _ => rfl) ?_ | refine mi_wgf rfl HM.1 rfl ?_ | refine mi_wal rfl (HM.2.1 _ _ rfl) rfl (by omega) (by decide) ?_ | refine mi_wbl rfl (HM.2.2 _ _ rfl) rfl (by omega) (by decide) ?_)
      refine mi_wpg rfl HM.1 (Nat.le_of_ble_eq_true rfl) rfl (fun w h0 hF => ?_)
      have HM := HM.sc ((ls.length, 0, S.n, S.hq, S.hd, 1)) h0 hF
      have hG := hG.tr (mi_Fg.of1 hF (by omega) (by omega))
      clear h0
      repeat (first | refine mi_s1 (fun _ => rfl) ?_ | refine mi_wgf rfl HM.1 rfl ?_ | refine mi_wal rfl (HM.2.1 _ _ rfl) rfl (by omega) (by decide) ?_ | refine mi_wbl rfl (HM.2.2 _ _ rfl) rfl (by omega) (by decide) ?_)
      refine mi_r1 (fun _ => rfl) ?_
      exact ⟨rfl, ⟨a, ls, [], HM, HF.clr, HR, H6, H7, hn, by show 1 ≤ 4; omega⟩, hG⟩
  · have e : op_start S = (-3, S) := if_neg (fun q => z (show nI S.s = 0 by rw [q]; rfl))
    rw [e]
    repeat (first | refine mi_s1 (fun _ => rfl) ?_ | refine mi_wgf rfl (by assumption) rfl ?_ | refine mi_wal rfl (by assumption) rfl (by omega) (by decide) ?_)
    refine mi_r1 (fun _ => rfl) ?_
    exact ⟨rfl, H, mi_Fg.rf⟩
end MAcyclic
