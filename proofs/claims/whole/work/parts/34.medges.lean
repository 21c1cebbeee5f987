/-! the model: edges -/
def vat (as : List sp_A) (b : Nat) : Nat := match as[b / 2]? with
  | some q => if b % 2 = 0 then q.2.1 else q.2.2
  | none => 0
def pat (as : List sp_A) (b : Nat) : Nat := match as[b / 2]? with
  | some q => 2 * (q.1 - 2) + b % 2
  | none => 0
/-- the edges as bits: 1 the same variable, 2 special -/
def Eg (e : Nat → Int32) (A B : Nat → Nat → Bool) : Prop := ∀ p q, p < 8 → q < 8 → ∀ i, i < 32 → bt (e (8 * p + q)) i = ((decide (i = 0) && A p q) || (decide (i = 1) && B p q))
def inA (he : List sp_A) (x q m : Nat) : Bool := (List.range m).any (fun h => decide (pat he h = q) && decide (vat he h = x))
def inBb (bo he : List sp_A) (q m : Nat) : Bool := (List.range m).any (fun h => decide (pat he h = q) && !inB bo (vat he h))
def ouA (bo he : List sp_A) (p q m : Nat) : Bool := (List.range m).any (fun b => inB he (vat bo b) && decide (p = pat bo b) && inA he (vat bo b) q (2 * he.length))
def ouB (bo he : List sp_A) (p q m : Nat) : Bool := (List.range m).any (fun b => inB he (vat bo b) && decide (p = pat bo b) && inBb bo he q (2 * he.length))
theorem bt_srt : ∀ i, i < 32 → bt (nI 0) i = false ∧ bt (nI 1) i = decide (i = 0) ∧ bt (nI 2) i = decide (i = 1) := by decide +kernel
section MEdges
variable {X : mi_X} {w : mi_H} {a : mo_a} {T : mo_T}
theorem mv_position {r s : Nat} (hr : 2 ≤ r) : mi_Ev X mi_P 1 k_Mo_position [.int (nI r), .int (nI s)] w (some (.int (nI (2 * (r - 2) + s)))) w := by
  refine mi_Ev.of (M := m_Mo_position) rfl (Nat.le_of_ble_eq_true rfl) ?_
  repeat (first | refine mi_s1 (fun _ => rfl) ?_ | refine mi_wgf rfl (by assumption) rfl ?_ | refine mi_wal rfl (by assumption) rfl (by omega) (by decide) ?_)
  refine mi_r1 (fun _ => rfl) ?_
  rw [pk_sub hr, pk_mul, nI_add]
  exact ⟨rfl, rfl⟩
theorem mv_bodyAt (HM : Mo w a T) {d : Nat} {R : sp_R} (hd : d < 8) (HR : Rm a d R) {b : Nat} (hb : b < 2 * R.2.1.length) : mi_Ev X mi_P 1 k_Mo_bodyAt [.ref 71, .int (nI (3 * d + b / 2)), .int (nI (b % 2))] w (some (.int (nI (vat R.2.1 b)))) w := by
  obtain ⟨-, -, -, r4, -, -, r7, -⟩ := id HR
  obtain ⟨t, ht, -⟩ := drop_at (l := R.2.1) (i := b / 2) (by omega)
  obtain ⟨e1, e2, e3, -⟩ := r7 _ t ht
  have ev : vat R.2.1 b = if b % 2 = 0 then t.2.1 else t.2.2 := by
    unfold vat
    rw [ht]
  rw [ev]
  refine mi_Ev.of (M := m_Mo_bodyAt) rfl (Nat.le_of_ble_eq_true rfl) ?_
  repeat (first | refine mi_s1 (fun _ => rfl) ?_ | refine mi_wgf rfl (by assumption) rfl ?_ | refine mi_wal rfl (by assumption) rfl (by omega) (by decide) ?_)
  refine mi_wif (fun z => ?_) (fun z => ?_)
  · have z := (nI_z (by omega)).mp z
    rw [if_pos z]
    repeat (first | refine mi_s1 (fun _ => rfl) ?_ | refine mi_wgf rfl HM.1 rfl ?_ | refine mi_wal rfl (HM.2.1 _ _ rfl) rfl (by omega) (by decide) ?_ | refine mi_wbl rfl (HM.2.2 _ _ rfl) rfl (by omega) (by decide) ?_)
    refine mi_r1 (fun _ => rfl) ?_
    rw [e2]
    exact ⟨rfl, rfl⟩
  · have z : ¬ b % 2 = 0 := fun q => z (by rw [q]; rfl)
    rw [if_neg z]
    repeat (first | refine mi_s1 (fun _ => rfl) ?_ | refine mi_wgf rfl HM.1 rfl ?_ | refine mi_wal rfl (HM.2.1 _ _ rfl) rfl (by omega) (by decide) ?_ | refine mi_wbl rfl (HM.2.2 _ _ rfl) rfl (by omega) (by decide) ?_)
    refine mi_r1 (fun _ => rfl) ?_
    rw [e3]
    exact ⟨rfl, rfl⟩
theorem mv_headAt (HM : Mo w a T) {d : Nat} {R : sp_R} (hd : d < 8) (HR : Rm a d R) {b : Nat} (hb : b < 2 * R.2.2.1.length) : mi_Ev X mi_P 1 k_Mo_headAt [.ref 71, .int (nI (2 * d + b / 2)), .int (nI (b % 2))] w (some (.int (nI (vat R.2.2.1 b)))) w := by
  obtain ⟨-, -, -, -, -, r4, -, r7, -⟩ := id HR
  obtain ⟨t, ht, -⟩ := drop_at (l := R.2.2.1) (i := b / 2) (by omega)
  obtain ⟨e1, e2, e3, -⟩ := r7 _ t ht
  have ev : vat R.2.2.1 b = if b % 2 = 0 then t.2.1 else t.2.2 := by
    unfold vat
    rw [ht]
  rw [ev]
  refine mi_Ev.of (M := m_Mo_headAt) rfl (Nat.le_of_ble_eq_true rfl) ?_
  repeat (first | refine mi_s1 (fun _ => rfl) ?_ | refine mi_wgf rfl (by assumption) rfl ?_ | refine mi_wal rfl (by assumption) rfl (by omega) (by decide) ?_)
  refine mi_wif (fun z => ?_) (fun z => ?_)
  · have z := (nI_z (by omega)).mp z
    rw [if_pos z]
    repeat (first | refine mi_s1 (fun _ => rfl) ?_ | refine mi_wgf rfl HM.1 rfl ?_ | refine mi_wal rfl (HM.2.1 _ _ rfl) rfl (by omega) (by decide) ?_ | refine mi_wbl rfl (HM.2.2 _ _ rfl) rfl (by omega) (by decide) ?_)
    refine mi_r1 (fun _ => rfl) ?_
    rw [e2]
    exact ⟨rfl, rfl⟩
  · have z : ¬ b % 2 = 0 := fun q => z (by rw [q]; rfl)
    rw [if_neg z]
    repeat (first | refine mi_s1 (fun _ => rfl) ?_ | refine mi_wgf rfl HM.1 rfl ?_ | refine mi_wal rfl (HM.2.1 _ _ rfl) rfl (by omega) (by decide) ?_ | refine mi_wbl rfl (HM.2.2 _ _ rfl) rfl (by omega) (by decide) ?_)
    refine mi_r1 (fun _ => rfl) ?_
    rw [e3]
    exact ⟨rfl, rfl⟩
theorem vat_lt {as : List sp_A} (h : ∀ q ∈ as, okA q) {b : Nat} (hb : b < 2 * as.length) : vat as b < 4 := by
  obtain ⟨t, ht, -⟩ := drop_at (l := as) (i := b / 2) (by omega)
  have := h t (List.mem_of_getElem? ht)
  unfold okA at this
  unfold vat
  rw [ht]
  dsimp only
  split <;> omega
theorem pat_lt {as : List sp_A} (h : ∀ q ∈ as, okA q) {b : Nat} (hb : b < 2 * as.length) : pat as b < 8 := by
  obtain ⟨t, ht, -⟩ := drop_at (l := as) (i := b / 2) (by omega)
  have := h t (List.mem_of_getElem? ht)
  unfold okA at this
  unfold pat
  rw [ht]
  dsimp only
  omega
theorem Rm.okB {d : Nat} {R : sp_R} (HR : Rm a d R) : (∀ q ∈ R.2.1, okA q) ∧ (∀ q ∈ R.2.2.1, okA q) := by
  obtain ⟨-, -, -, -, -, -, r7, r8, -⟩ := HR
  constructor
  · intro q hq
    obtain ⟨i, hi⟩ := List.mem_iff_getElem?.mp hq
    exact (r7 i q hi).2.2.2
  · intro q hq
    obtain ⟨i, hi⟩ := List.mem_iff_getElem?.mp hq
    exact (r8 i q hi).2.2.2
theorem mv_edges_in {w0 : mi_H} {d : Nat} {R : sp_R} (hd : d < 8) (HR : Rm a d R) (hh : ∀ q ∈ R.2.2.1, 2 ≤ q.1) {x p b : Nat} (hx : x < 4) (hxb : inB R.2.1 x = true) (hp : p < 8) {A B : Nat → Nat → Bool} {Q : Option Value → mi_H → Prop}
    (kk : ∀ (w1 : mi_H) (a1 : mo_a) (z5 z6 z7 z8 : Option Value), Mo w1 a1 T → (∀ o, o ≠ 89 → a1 o = a o) → Eg (a1 89) (fun p' q => A p' q || (decide (p' = p) && inA R.2.2.1 x q (2 * R.2.2.1.length))) (fun p' q => B p' q || (decide (p' = p) && inBb R.2.1 R.2.2.1 q (2 * R.2.2.1.length))) → mi_Fg w0 w1 71 94 → mi_wp X mi_P 1 m_Mo_edgesOf (176, [some (.ref 71), some (.int (nI d)), some (.int (nI b)), some (.int (nI x)), some (.int (nI p)), z5, z6, z7, z8], [], w1) Q) : ∀ f m (w : mi_H) (a1 : mo_a) (z6 z7 z8 : Option Value), m + f = 2 * R.2.2.1.length → Mo w a1 T → (∀ o, o ≠ 89 → a1 o = a o) → Eg (a1 89) (fun p' q => A p' q || (decide (p' = p) && inA R.2.2.1 x q m)) (fun p' q => B p' q || (decide (p' = p) && inBb R.2.1 R.2.2.1 q m)) → mi_Fg w0 w 71 94 → mi_wp X mi_P 1 m_Mo_edgesOf (61, [some (.ref 71), some (.int (nI d)), some (.int (nI b)), some (.int (nI x)), some (.int (nI p)), some (.int (nI m)), z6, z7, z8], [], w) Q
  | 0, m, w, a1, z6, z7, z8, hm, HM, ha, HE, hG => by
    have HR1 : Rm a1 d R := HR.congr (fun o h1 h2 => ha o (by omega))
    obtain ⟨-, -, -, -, r5, r6, -⟩ := id HR1
    have hm : m = 2 * R.2.2.1.length := by omega
    subst hm
    repeat (first | refine mi_s1 (fun _ => rfl) ?_ | refine mi_wgf rfl HM.1 rfl ?_ | refine mi_wal rfl (HM.2.1 _ _ rfl) rfl (by omega) (by decide) ?_ | refine mi_wbl rfl (HM.2.2 _ _ rfl) rfl (by omega) (by decide) ?_)
    rw [r5, pk_mul]
    refine mi_wif (fun _ => ?_) (fun z => absurd (nI_le (Nat.le_refl _) (by omega)) z)
    exact kk w a1 _ _ _ _ HM ha HE hG
  | f + 1, m, w, a1, z6, z7, z8, hm, HM, ha, HE, hG => by
    have HR1 : Rm a1 d R := HR.congr (fun o h1 h2 => ha o (by omega))
    obtain ⟨-, -, -, -, r5, r6, -, r8, -⟩ := id HR1
    obtain ⟨t, ht, -⟩ := drop_at (l := R.2.2.1) (i := m / 2) (by omega)
    obtain ⟨e1, e2, e3, ok1, ok2, ok3⟩ := r8 _ t ht
    have ht2 := hh t (List.mem_of_getElem? ht)
    have hv := vat_lt HR.okB.2 (b := m) (by omega)
    have hpt := pat_lt HR.okB.2 (b := m) (by omega)
    have ep : pat R.2.2.1 m = 2 * (t.1 - 2) + m % 2 := by
      unfold pat
      rw [ht]
    repeat (first | refine mi_s1 (fun _ => rfl) ?_ | refine mi_wgf rfl HM.1 rfl ?_ | refine mi_wal rfl (HM.2.1 _ _ rfl) rfl (by omega) (by decide) ?_ | refine mi_wbl rfl (HM.2.2 _ _ rfl) rfl (by omega) (by decide) ?_)
    rw [r5, pk_mul]
    refine mi_wif (fun z => absurd z (nI_ge (a := m) (b := 2 * R.2.2.1.length) (by omega) (by omega))) (fun _ => ?_)
    repeat (first | refine mi_s1 (fun _ => rfl) ?_ | refine mi_wgf rfl HM.1 rfl ?_ | refine mi_wal rfl (HM.2.1 _ _ rfl) rfl (by omega) (by decide) ?_ | refine mi_wbl rfl (HM.2.2 _ _ rfl) rfl (by omega) (by decide) ?_)
    rw [pk_rem (by omega) (by omega) (by omega), pk_div (by omega) (by omega) (by omega), pk_mul, nI_add]
    refine mi_wcv rfl rfl (Nat.le_of_ble_eq_true rfl) HM.1 rfl (mv_headAt HM hd HR1 (by omega)) ?_
    repeat (first | refine mi_s1 (fun _ => rfl) ?_ | refine mi_wgf rfl HM.1 rfl ?_ | refine mi_wal rfl (HM.2.1 _ _ rfl) rfl (by omega) (by decide) ?_ | refine mi_wbl rfl (HM.2.2 _ _ rfl) rfl (by omega) (by decide) ?_)
    rw [pk_div (by omega) (by omega) (by omega), pk_mul, nI_add]
    repeat (first | refine mi_s1 (fun _ => rfl) ?_ | refine mi_wgf rfl HM.1 rfl ?_ | refine mi_wal rfl (HM.2.1 _ _ rfl) rfl (by omega) (by decide) ?_ | refine mi_wbl rfl (HM.2.2 _ _ rfl) rfl (by omega) (by decide) ?_)
    rw [e1, pk_rem (by omega) (by omega) (by omega)]
    refine mi_wcs rfl (Nat.le_of_ble_eq_true rfl) ⟨Nat.le_of_ble_eq_true rfl, Nat.le_of_ble_eq_true rfl⟩ (mv_position ht2) ?_
    rw [← ep]
    -- behind the sort
    have go : ∀ (k : Nat) (z6 z7 z8 : Option Value), z7 = some (.int (nI (pat R.2.2.1 m))) → (∀ i, i < 32 → bt (nI k) i = ((decide (i = 0) && decide (vat R.2.2.1 m = x)) || (decide (i = 1) && !inB R.2.1 (vat R.2.2.1 m)))) → mi_wp X mi_P 1 m_Mo_edgesOf (139, [some (.ref 71), some (.int (nI d)), some (.int (nI b)), some (.int (nI x)), some (.int (nI p)), some (.int (nI m)), z6, z7, z8], [.int (nI k)], w) Q := by
      intro k z6 z7 z8 h7 hk
      subst h7
      repeat (first | refine mi_s1 (fun _ => rfl) ?_ | refine mi_wgf rfl HM.1 rfl ?_ | refine mi_wal rfl (HM.2.1 _ _ rfl) rfl (by omega) (by decide) ?_ | refine mi_wbl rfl (HM.2.2 _ _ rfl) rfl (by omega) (by decide) ?_)
      rw [pk_mul, nI_add]
      repeat (first | refine mi_s1 (fun _ => rfl) ?_ | refine mi_wgf rfl HM.1 rfl ?_ | refine mi_wal rfl (HM.2.1 _ _ rfl) rfl (by omega) (by decide) ?_ | refine mi_wbl rfl (HM.2.2 _ _ rfl) rfl (by omega) (by decide) ?_)
      refine HM.was rfl rfl rfl (by omega) (fun w HM hF => ?_)
      have hG := hG.tr hF
      refine mi_s1 (fun _ => rfl) ?_; refine mi_s1 (fun _ => rfl) ?_
      rw [show nI m + nI 1 = nI (m + 1) from nI_1 m]
      refine mv_edges_in hd HR hh hx hxb hp kk f (m + 1) w _ _ _ _ (by omega) HM (fun o ho => ?_) (fun p' q hp' hq i hi => ?_) hG
      · rw [upA_o ho]
        exact ha o ho
      · rw [upA_s]
        have eA : inA R.2.2.1 x q (m + 1) = (inA R.2.2.1 x q m || (decide (pat R.2.2.1 m = q) && decide (vat R.2.2.1 m = x))) := any_s
        have eB : inBb R.2.1 R.2.2.1 q (m + 1) = (inBb R.2.1 R.2.2.1 q m || (decide (pat R.2.2.1 m = q) && !inB R.2.1 (vat R.2.2.1 m))) := any_s
        dsimp only
        rw [eA, eB]
        by_cases z : 8 * p' + q = 8 * p + pat R.2.2.1 m
        · have z1 : p' = p := by omega
          have z2 : q = pat R.2.2.1 m := by omega
          subst z1
          subst z2
          rw [pk_us, b_or, HE p' _ hp' hq i hi, hk i hi]
          simp only [decide_true, Bool.true_and]
          cases A p' (pat R.2.2.1 m) <;> cases B p' (pat R.2.2.1 m) <;> cases inA R.2.2.1 x (pat R.2.2.1 m) m <;> cases inBb R.2.1 R.2.2.1 (pat R.2.2.1 m) m <;> cases decide (vat R.2.2.1 m = x) <;> cases inB R.2.1 (vat R.2.2.1 m) <;> cases decide (i = 0) <;> cases decide (i = 1) <;> rfl
        · rw [pk_un z, HE p' q hp' hq i hi]
          by_cases z1 : p' = p
          · have z2 : ¬ pat R.2.2.1 m = q := fun e => z (by rw [z1, e])
            simp [z2]
          · simp [z1]
    repeat (first | refine mi_s1 (fun _ => rfl) ?_ | refine mi_wgf rfl (by assumption) rfl ?_ | refine mi_wal rfl (by assumption) rfl (by omega) (by decide) ?_)
    refine mi_wif (fun z => ?_) (fun z => ?_)
    · have z := (nI_eq (by omega) (by omega)).mp z
      refine mi_s1 (fun _ => rfl) ?_; refine mi_s1 (fun _ => rfl) ?_
      refine go 1 _ _ _ rfl (fun i hi => ?_)
      rw [(bt_srt i hi).2.1, z, hxb]
      simp
    · have z : ¬ vat R.2.2.1 m = x := fun q => z (by rw [q])
      repeat (first | refine mi_s1 (fun _ => rfl) ?_ | refine mi_wgf rfl (by assumption) rfl ?_ | refine mi_wal rfl (by assumption) rfl (by omega) (by decide) ?_)
      refine mi_wcv rfl rfl (Nat.le_of_ble_eq_true rfl) HM.1 rfl (mv_inBody HM hd HR1 (by omega)) ?_
      repeat (first | refine mi_s1 (fun _ => rfl) ?_ | refine mi_wgf rfl (by assumption) rfl ?_ | refine mi_wal rfl (by assumption) rfl (by omega) (by decide) ?_)
      refine mi_wif (fun z2 => ?_) (fun z2 => ?_)
      · have z2 : inB R.2.1 (vat R.2.2.1 m) = false := by simpa using jb_0.mp z2
        refine mi_s1 (fun _ => rfl) ?_
        refine go 2 _ _ _ rfl (fun i hi => ?_)
        rw [(bt_srt i hi).2.2, z2]
        simp [z]
      · have z2 : inB R.2.1 (vat R.2.2.1 m) = true := Decidable.not_not.mp (fun q => z2 (jb_0.mpr q))
        refine mi_s1 (fun _ => rfl) ?_; refine mi_s1 (fun _ => rfl) ?_
        refine go 0 _ _ _ rfl (fun i hi => ?_)
        rw [(bt_srt i hi).1, z2]
        simp [z]
theorem vat_in {as : List sp_A} {b : Nat} (hb : b < 2 * as.length) : inB as (vat as b) = true := by
  obtain ⟨t, ht, -⟩ := drop_at (l := as) (i := b / 2) (by omega)
  rw [inB_iff]
  refine ⟨t, List.mem_of_getElem? ht, ?_⟩
  unfold vat
  rw [ht]
  dsimp only
  split
  · exact Or.inl rfl
  · exact Or.inr rfl
theorem mv_edges_out {w0 : mi_H} {d : Nat} {R : sp_R} (hd : d < 8) (HR : Rm a d R) (hb2 : ∀ q ∈ R.2.1, 2 ≤ q.1) (hh : ∀ q ∈ R.2.2.1, 2 ≤ q.1) {A B : Nat → Nat → Bool} : ∀ f m (w : mi_H) (a1 : mo_a) (z3 z4 z5 z6 z7 z8 : Option Value), m + f = 2 * R.2.1.length → Mo w a1 T → (∀ o, o ≠ 89 → a1 o = a o) → Eg (a1 89) (fun p q => A p q || ouA R.2.1 R.2.2.1 p q m) (fun p q => B p q || ouB R.2.1 R.2.2.1 p q m) → mi_Fg w0 w 71 94 → mi_wp X mi_P 1 m_Mo_edgesOf (2, [some (.ref 71), some (.int (nI d)), some (.int (nI m)), z3, z4, z5, z6, z7, z8], [], w) (fun r w1 => r = none ∧ (∃ a2, Mo w1 a2 T ∧ (∀ o, o ≠ 89 → a2 o = a o) ∧ Eg (a2 89) (fun p q => A p q || ouA R.2.1 R.2.2.1 p q (2 * R.2.1.length)) (fun p q => B p q || ouB R.2.1 R.2.2.1 p q (2 * R.2.1.length))) ∧ mi_Fg w0 w1 71 94)
  | 0, m, w, a1, z3, z4, z5, z6, z7, z8, hm, HM, ha, HE, hG => by
    have HR1 : Rm a1 d R := HR.congr (fun o h1 h2 => ha o (by omega))
    obtain ⟨-, -, r3, r4, -⟩ := id HR1
    have hm : m = 2 * R.2.1.length := by omega
    subst hm
    repeat (first | refine mi_s1 (fun _ => rfl) ?_ | refine mi_wgf rfl HM.1 rfl ?_ | refine mi_wal rfl (HM.2.1 _ _ rfl) rfl (by omega) (by decide) ?_ | refine mi_wbl rfl (HM.2.2 _ _ rfl) rfl (by omega) (by decide) ?_)
    rw [r3, pk_mul]
    refine mi_wif (fun _ => ?_) (fun z => absurd (nI_le (Nat.le_refl _) (by omega)) z)
    refine mi_r1 (fun _ => rfl) ?_
    exact ⟨rfl, ⟨a1, HM, ha, HE⟩, hG⟩
  | f + 1, m, w, a1, z3, z4, z5, z6, z7, z8, hm, HM, ha, HE, hG => by
    have HR1 : Rm a1 d R := HR.congr (fun o h1 h2 => ha o (by omega))
    obtain ⟨-, -, r3, r4, -, -, r7, -⟩ := id HR1
    obtain ⟨t, ht, -⟩ := drop_at (l := R.2.1) (i := m / 2) (by omega)
    obtain ⟨e1, e2, e3, ok1, ok2, ok3⟩ := r7 _ t ht
    have ht2 := hb2 t (List.mem_of_getElem? ht)
    have hv := vat_lt HR.okB.1 (b := m) (by omega)
    have hpt := pat_lt HR.okB.1 (b := m) (by omega)
    have hin := vat_in (as := R.2.1) (b := m) (by omega)
    have ep : pat R.2.1 m = 2 * (t.1 - 2) + m % 2 := by
      unfold pat
      rw [ht]
    have eA : ∀ p q, ouA R.2.1 R.2.2.1 p q (m + 1) = (ouA R.2.1 R.2.2.1 p q m || (inB R.2.2.1 (vat R.2.1 m) && decide (p = pat R.2.1 m) && inA R.2.2.1 (vat R.2.1 m) q (2 * R.2.2.1.length))) := fun p q => any_s
    have eB : ∀ p q, ouB R.2.1 R.2.2.1 p q (m + 1) = (ouB R.2.1 R.2.2.1 p q m || (inB R.2.2.1 (vat R.2.1 m) && decide (p = pat R.2.1 m) && inBb R.2.1 R.2.2.1 q (2 * R.2.2.1.length))) := fun p q => any_s
    repeat (first | refine mi_s1 (fun _ => rfl) ?_ | refine mi_wgf rfl HM.1 rfl ?_ | refine mi_wal rfl (HM.2.1 _ _ rfl) rfl (by omega) (by decide) ?_ | refine mi_wbl rfl (HM.2.2 _ _ rfl) rfl (by omega) (by decide) ?_)
    rw [r3, pk_mul]
    refine mi_wif (fun z => absurd z (nI_ge (a := m) (b := 2 * R.2.1.length) (by omega) (by omega))) (fun _ => ?_)
    repeat (first | refine mi_s1 (fun _ => rfl) ?_ | refine mi_wgf rfl HM.1 rfl ?_ | refine mi_wal rfl (HM.2.1 _ _ rfl) rfl (by omega) (by decide) ?_ | refine mi_wbl rfl (HM.2.2 _ _ rfl) rfl (by omega) (by decide) ?_)
    rw [pk_rem (by omega) (by omega) (by omega), pk_div (by omega) (by omega) (by omega), pk_mul, nI_add]
    refine mi_wcv rfl rfl (Nat.le_of_ble_eq_true rfl) HM.1 rfl (mv_bodyAt HM hd HR1 (by omega)) ?_
    repeat (first | refine mi_s1 (fun _ => rfl) ?_ | refine mi_wgf rfl (by assumption) rfl ?_ | refine mi_wal rfl (by assumption) rfl (by omega) (by decide) ?_)
    refine mi_wcv rfl rfl (Nat.le_of_ble_eq_true rfl) HM.1 rfl (mv_inHead HM hd HR1 (by omega)) ?_
    repeat (first | refine mi_s1 (fun _ => rfl) ?_ | refine mi_wgf rfl (by assumption) rfl ?_ | refine mi_wal rfl (by assumption) rfl (by omega) (by decide) ?_)
    refine mi_wif (fun z => ?_) (fun z => ?_)
    · have z : inB R.2.2.1 (vat R.2.1 m) = false := by simpa using jb_0.mp z
      refine mi_s1 (fun _ => rfl) ?_; refine mi_s1 (fun _ => rfl) ?_
      rw [show nI m + nI 1 = nI (m + 1) from nI_1 m]
      refine mv_edges_out hd HR hb2 hh f (m + 1) w a1 _ _ _ _ _ _ (by omega) HM ha (fun p q hp hq i hi => ?_) hG
      rw [HE p q hp hq i hi]
      dsimp only
      rw [eA, eB, z]
      simp
    · have z : inB R.2.2.1 (vat R.2.1 m) = true := Decidable.not_not.mp (fun q => z (jb_0.mpr q))
      repeat (first | refine mi_s1 (fun _ => rfl) ?_ | refine mi_wgf rfl HM.1 rfl ?_ | refine mi_wal rfl (HM.2.1 _ _ rfl) rfl (by omega) (by decide) ?_ | refine mi_wbl rfl (HM.2.2 _ _ rfl) rfl (by omega) (by decide) ?_)
      rw [pk_div (by omega) (by omega) (by omega), pk_mul, nI_add]
      repeat (first | refine mi_s1 (fun _ => rfl) ?_ | refine mi_wgf rfl HM.1 rfl ?_ | refine mi_wal rfl (HM.2.1 _ _ rfl) rfl (by omega) (by decide) ?_ | refine mi_wbl rfl (HM.2.2 _ _ rfl) rfl (by omega) (by decide) ?_)
      rw [e1, pk_rem (by omega) (by omega) (by omega)]
      refine mi_wcs rfl (Nat.le_of_ble_eq_true rfl) ⟨Nat.le_of_ble_eq_true rfl, Nat.le_of_ble_eq_true rfl⟩ (mv_position ht2) ?_
      rw [← ep]
      refine mi_s1 (fun _ => rfl) ?_; refine mi_s1 (fun _ => rfl) ?_; refine mi_s1 (fun _ => rfl) ?_
      refine mv_edges_in (w0 := w0) (A := fun p q => A p q || ouA R.2.1 R.2.2.1 p q m) (B := fun p q => B p q || ouB R.2.1 R.2.2.1 p q m) hd HR hh hv hin hpt (fun w1 a2 z5 z6 z7 z8 HM2 ha2 HE2 hG2 => ?_) (2 * R.2.2.1.length) 0 w a1 _ _ _ (by omega) HM ha (fun p q hp hq i hi => ?_) hG
      · refine mi_s1 (fun _ => rfl) ?_; refine mi_s1 (fun _ => rfl) ?_
        rw [show nI m + nI 1 = nI (m + 1) from nI_1 m]
        refine mv_edges_out hd HR hb2 hh f (m + 1) w1 a2 _ _ _ _ _ _ (by omega) HM2 ha2 (fun p q hp hq i hi => ?_) hG2
        rw [HE2 p q hp hq i hi]
        dsimp only
        rw [eA, eB, z, Bool.true_and, Bool.or_assoc, Bool.or_assoc]
      · rw [HE p q hp hq i hi]
        have h1 : inA R.2.2.1 (vat R.2.1 m) q 0 = false := rfl
        have h2 : inBb R.2.1 R.2.2.1 q 0 = false := rfl
        dsimp only
        rw [h1, h2, Bool.and_false, Bool.or_false, Bool.or_false]
theorem mv_edgesOf {d : Nat} {R : sp_R} (hd : d < 8) (HM : Mo w a T) (HR : Rm a d R) (hb2 : ∀ q ∈ R.2.1, 2 ≤ q.1) (hh : ∀ q ∈ R.2.2.1, 2 ≤ q.1) {A B : Nat → Nat → Bool} (HE : Eg (a 89) A B) : mi_Ex X 2 k_Mo_edgesOf [.ref 71, .int (nI d)] w (fun r w1 => r = none ∧ (∃ a2, Mo w1 a2 T ∧ (∀ o, o ≠ 89 → a2 o = a o) ∧ Eg (a2 89) (fun p q => A p q || ouA R.2.1 R.2.2.1 p q (2 * R.2.1.length)) (fun p q => B p q || ouB R.2.1 R.2.2.1 p q (2 * R.2.1.length))) ∧ mi_Fg w w1 71 94) := by
  refine mi_Ex.of (M := m_Mo_edgesOf) rfl (Nat.le_of_ble_eq_true rfl) ?_
  refine mi_s1 (fun _ => rfl) ?_; refine mi_s1 (fun _ => rfl) ?_
  refine mv_edges_out hd HR hb2 hh (2 * R.2.1.length) 0 w a _ _ _ _ _ _ (by omega) HM (fun _ _ => rfl) (fun p q hp hq i hi => ?_) mi_Fg.rf
  rw [HE p q hp hq i hi]
  have h1 : ouA R.2.1 R.2.2.1 p q 0 = false := rfl
  have h2 : ouB R.2.1 R.2.2.1 p q 0 = false := rfl
  dsimp only
  rw [h1, h2, Bool.or_false, Bool.or_false]
end MEdges
/-! the same edges -/
theorem ex_occ {as : List sp_A} {f : Nat → Nat → Prop} : (∃ b, b < 2 * as.length ∧ f (vat as b) (pat as b)) ↔ ∃ q ∈ as, f q.2.1 (2 * (q.1 - 2)) ∨ f q.2.2 (2 * (q.1 - 2) + 1) := by
  constructor
  · rintro ⟨b, hb, h⟩
    obtain ⟨t, ht, -⟩ := drop_at (l := as) (i := b / 2) (by omega)
    refine ⟨t, List.mem_of_getElem? ht, ?_⟩
    unfold vat pat at h
    rw [ht] at h
    dsimp only at h
    by_cases z : b % 2 = 0
    · rw [if_pos z, z] at h
      exact Or.inl h
    · rw [if_neg z, show b % 2 = 1 by omega] at h
      exact Or.inr h
  · rintro ⟨q, hq, h⟩
    obtain ⟨i, hi⟩ := List.mem_iff_getElem?.mp hq
    have hil := (List.getElem?_eq_some_iff.mp hi).1
    rcases h with h | h
    · refine ⟨2 * i, by omega, ?_⟩
      unfold vat pat
      rw [show 2 * i / 2 = i by omega, hi]
      dsimp only
      rw [if_pos (by omega), show 2 * i % 2 = 0 by omega]
      exact h
    · refine ⟨2 * i + 1, by omega, ?_⟩
      unfold vat pat
      rw [show (2 * i + 1) / 2 = i by omega, hi]
      dsimp only
      rw [if_neg (by omega), show (2 * i + 1) % 2 = 1 by omega]
      exact h
theorem posB_iff {as : List sp_A} (h2 : ∀ q ∈ as, 2 ≤ q.1) {v p : Nat} : posB as v p = true ↔ ∃ b, b < 2 * as.length ∧ vat as b = v ∧ pat as b = p := by
  rw [ex_occ (as := as) (f := fun x y => x = v ∧ y = p)]
  unfold posB
  rw [List.any_eq_true]
  constructor
  · rintro ⟨q, hq, h⟩
    refine ⟨q, hq, ?_⟩
    simp at h
    rcases h.2 with ⟨e1, e2⟩ | ⟨e1, e2⟩
    · exact Or.inl ⟨e1, e2.symm⟩
    · exact Or.inr ⟨e1, e2.symm⟩
  · rintro ⟨q, hq, h⟩
    refine ⟨q, hq, ?_⟩
    have := h2 q hq
    simp
    refine ⟨this, ?_⟩
    rcases h with ⟨e1, e2⟩ | ⟨e1, e2⟩
    · exact Or.inl ⟨e1, e2.symm⟩
    · exact Or.inr ⟨e1, e2.symm⟩
theorem inB_vat {as : List sp_A} {v : Nat} : inB as v = true ↔ ∃ b, b < 2 * as.length ∧ vat as b = v := by
  rw [ex_occ (as := as) (f := fun x y => x = v), inB_iff]
theorem anyP_iff {as : List sp_A} (hok : ∀ q ∈ as, okA q) (h2 : ∀ q ∈ as, 2 ≤ q.1) {v : Nat} : anyP (posB as v) = true ↔ inB as v = true := by
  unfold anyP
  rw [List.any_eq_true, inB_vat]
  constructor
  · rintro ⟨p, hp, h⟩
    obtain ⟨b, h1, h3, h4⟩ := (posB_iff h2).mp h
    exact ⟨b, h1, h3⟩
  · rintro ⟨b, h1, h3⟩
    refine ⟨pat as b, ?_, (posB_iff h2).mpr ⟨b, h1, h3, rfl⟩⟩
    have := pat_lt hok h1
    exact List.mem_range.mpr (by omega)
theorem any_range {n : Nat} {f : Nat → Bool} : (List.range n).any f = true ↔ ∃ i, i < n ∧ f i = true := by
  rw [List.any_eq_true]
  constructor
  · rintro ⟨i, h1, h2⟩
    exact ⟨i, List.mem_range.mp h1, h2⟩
  · rintro ⟨i, h1, h2⟩
    exact ⟨i, List.mem_range.mpr h1, h2⟩
theorem frp_iff {R : sp_R} (hb : ∀ q ∈ R.2.1, okA q) (hh : ∀ q ∈ R.2.2.1, okA q) (hb2 : ∀ q ∈ R.2.1, 2 ≤ q.1) (hh2 : ∀ q ∈ R.2.2.1, 2 ≤ q.1) {q : Nat} : frp R q = true ↔ inBb R.2.1 R.2.2.1 q (2 * R.2.2.1.length) = true := by
  unfold frp inBb frR
  rw [any_range, any_range]
  constructor
  · rintro ⟨v, hv, h⟩
    rw [Bool.and_eq_true, posB_iff hh2] at h
    obtain ⟨h1, b, h3, h4, h5⟩ := h
    refine ⟨b, h3, ?_⟩
    rw [h4, h5]
    simp at h1 ⊢
    exact h1.2
  · rintro ⟨b, h1, h2⟩
    refine ⟨vat R.2.2.1 b, vat_lt hh h1, ?_⟩
    rw [Bool.and_eq_true, posB_iff hh2]
    simp at h2
    refine ⟨?_, b, h1, rfl, h2.1⟩
    rw [vat_in h1, h2.2]
    rfl
theorem egS_iff {R : sp_R} (hb : ∀ q ∈ R.2.1, okA q) (hh : ∀ q ∈ R.2.2.1, okA q) (hb2 : ∀ q ∈ R.2.1, 2 ≤ q.1) (hh2 : ∀ q ∈ R.2.2.1, 2 ≤ q.1) {p q : Nat} : egS R 4 p q = ouB R.2.1 R.2.2.1 p q (2 * R.2.1.length) := by
  rw [Bool.eq_iff_iff]
  unfold egS ouB
  rw [any_range, any_range]
  constructor
  · rintro ⟨v, hv, h⟩
    rw [Bool.and_eq_true, Bool.and_eq_true, posB_iff hb2, anyP_iff hh hh2, frp_iff hb hh hb2 hh2] at h
    obtain ⟨⟨h1, b, h2, h3, h4⟩, h5⟩ := h
    refine ⟨b, h2, ?_⟩
    rw [h3, h1, h5]
    simp [h4]
  · rintro ⟨b, h1, h2⟩
    rw [Bool.and_eq_true, Bool.and_eq_true] at h2
    refine ⟨vat R.2.1 b, vat_lt hb h1, ?_⟩
    rw [Bool.and_eq_true, Bool.and_eq_true, posB_iff hb2, anyP_iff hh hh2, frp_iff hb hh hb2 hh2]
    exact ⟨⟨h2.1.1, b, h1, rfl, (of_decide_eq_true h2.1.2).symm⟩, h2.2⟩
theorem egE_iff {R : sp_R} (hb : ∀ q ∈ R.2.1, okA q) (hh : ∀ q ∈ R.2.2.1, okA q) (hb2 : ∀ q ∈ R.2.1, 2 ≤ q.1) (hh2 : ∀ q ∈ R.2.2.1, 2 ≤ q.1) {p q : Nat} : egE R 4 p q = (ouA R.2.1 R.2.2.1 p q (2 * R.2.1.length) || ouB R.2.1 R.2.2.1 p q (2 * R.2.1.length)) := by
  rw [← egS_iff hb hh hb2 hh2, Bool.eq_iff_iff, Bool.or_eq_true]
  have key : ∀ v, v < 4 → ((anyP (posB R.2.2.1 v) && posB R.2.1 v p && posB R.2.2.1 v q) = true ↔ ∃ b, b < 2 * R.2.1.length ∧ vat R.2.1 b = v ∧ (inB R.2.2.1 (vat R.2.1 b) && decide (p = pat R.2.1 b) && inA R.2.2.1 (vat R.2.1 b) q (2 * R.2.2.1.length)) = true) := by
    intro v hv
    rw [Bool.and_eq_true, Bool.and_eq_true, posB_iff hb2, posB_iff hh2, anyP_iff hh hh2]
    constructor
    · rintro ⟨⟨h1, b, h2, h3, h4⟩, b2, h5, h6, h7⟩
      refine ⟨b, h2, h3, ?_⟩
      rw [h3, h1]
      have : inA R.2.2.1 v q (2 * R.2.2.1.length) = true := any_range.mpr ⟨b2, h5, by simp [h6, h7]⟩
      rw [this]
      simp [h4]
    · rintro ⟨b, h1, h2, h3⟩
      rw [Bool.and_eq_true, Bool.and_eq_true, h2] at h3
      obtain ⟨⟨h4, h5⟩, h6⟩ := h3
      obtain ⟨b2, h7, h8⟩ := any_range.mp h6
      simp at h8
      exact ⟨⟨h4, b, h1, h2, (of_decide_eq_true h5).symm⟩, b2, h7, h8.2, h8.1⟩
  unfold egE egS ouA
  rw [any_range, any_range, any_range]
  constructor
  · rintro ⟨v, hv, h⟩
    rw [Bool.and_eq_true, Bool.or_eq_true] at h
    obtain ⟨h1, h2 | h2⟩ := h
    · obtain ⟨b, h3, h4, h5⟩ := (key v hv).mp (by rw [Bool.and_eq_true]; exact ⟨h1, h2⟩)
      exact Or.inl ⟨b, h3, h5⟩
    · exact Or.inr ⟨v, hv, by rw [Bool.and_eq_true]; exact ⟨h1, h2⟩⟩
  · rintro (⟨b, h1, h2⟩ | ⟨v, hv, h⟩)
    · have h3 := (key (vat R.2.1 b) (vat_lt hb h1)).mpr ⟨b, h1, rfl, h2⟩
      rw [Bool.and_eq_true] at h3
      refine ⟨_, vat_lt hb h1, ?_⟩
      rw [Bool.and_eq_true, Bool.or_eq_true]
      exact ⟨h3.1, Or.inl h3.2⟩
    · rw [Bool.and_eq_true] at h
      refine ⟨v, hv, ?_⟩
      rw [Bool.and_eq_true, Bool.or_eq_true]
      exact ⟨h.1, Or.inr h.2⟩
