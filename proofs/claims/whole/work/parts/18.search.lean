/-! class Search: the values of variables, and what fits -/
abbrev sp_V : Type := Nat → Option Nat
def enc (o : Option Nat) : Int32 := match o with
  | some x => nI x
  | none => -1
def Se (w : mi_H) (V : sp_V) : Prop := w[23]? = some (.inr (3, [.ref 1, .ref 24])) ∧ (∃ f : Nat → Int32, w[24]? = some (.inl (0, 4, .inl f)) ∧ ∀ v, v < 4 → f v = enc (V v)) ∧ ∀ v x, v < 4 → V v = some x → x < 24
theorem enc_m1 {o : Option Nat} (h : ∀ x, o = some x → x < 24) : enc o = -1 ↔ o = none := by
  cases o with
  | none => exact ⟨fun _ => rfl, fun _ => rfl⟩
  | some x =>
    have := h x rfl
    constructor
    · intro q
      have : (nI x).toInt = (-1 : Int32).toInt := by
        show (nI x).toInt = _
        rw [show nI x = -1 from q]
      rw [nI_toInt (by omega)] at this
      exact absurd this (by
        intro z
        have e : (-1 : Int32).toInt = -1 := by decide
        rw [e] at z
        omega)
    · intro q
      cases q
def updS (V : sp_V) (v : Nat) (o : Option Nat) : sp_V := fun u => if u = v then o else V u
/-- an atom under the values that are known -/
def kfA (F : Nat → Nat → Nat → Bool) (V : sp_V) (q : sp_A) : Bool := match V q.2.1, V q.2.2 with
  | some x, some y => F q.1 x y
  | _, _ => true
def vfA (F : Nat → Nat → Nat → Bool) (V : sp_V) (q : sp_A) : Bool := match V q.2.1, V q.2.2 with
  | some x, some y => F q.1 x y
  | _, _ => false
/-- which values of v fit with an atom -/
def alB (F : Nat → Nat → Nat → Bool) (V : sp_V) (q : sp_A) (v x : Nat) : Bool :=
  if q.2.1 = v then (if q.2.2 = v then F q.1 x x else match V q.2.2 with
    | some y => F q.1 x y
    | none => anyB (F q.1 x))
  else if q.2.2 = v then (match V q.2.1 with
    | some y => F q.1 y x
    | none => anyB (fun a => F q.1 a x))
  else decide (x < 24)
def alV (F : Nat → Nat → Nat → Bool) (V : sp_V) (as : List sp_A) (v x : Nat) : Bool := decide (x < 24) && as.all (fun q => alB F V q v x)
theorem FI_m1 (F : Nat → Nat → Bool) (b : Int32) : FI F (-1) b = false := by
  unfold FI
  rw [decide_eq_false (by decide)]
  rfl
theorem FI_1m (F : Nat → Nat → Bool) (a : Int32) : FI F a (-1) = false := by
  unfold FI
  rw [decide_eq_false (by decide : ¬ (0 : Int32) ≤ -1)]
  simp
theorem FI_enc {F : Nat → Nat → Nat → Bool} {V : sp_V} {q : sp_A} (h : ∀ v x, v < 4 → V v = some x → x < 24) (hq : okA q) : FI (F q.1) (enc (V q.2.1)) (enc (V q.2.2)) = vfA F V q := by
  unfold vfA
  cases h1 : V q.2.1 with
  | none => exact FI_m1 _ _
  | some x =>
    have := h _ x hq.2.1 h1
    cases h2 : V q.2.2 with
    | none => exact FI_1m _ _
    | some y =>
      have := h _ y hq.2.2 h2
      exact FI_nI (by omega) (by omega)
section Search
variable {X : mi_X} {w : mi_H}
theorem ev_isValueN : mi_Ev X mi_P 1 k_MC_isValue [.int (-1)] w (some (.int 0)) w := by
  have e := ev_isValue (X := X) (w := w) (-1)
  rw [show jb ((0 : Int32) ≤ -1 ∧ (-1 : Int32) < nI 24) = 0 from if_neg (by decide)] at e
  exact e
theorem ev_firstValue {V : sp_V} (H : Se w V) {q : sp_A} (hq : okA q) : mi_Ev X mi_P 2 k_Se_firstValue [.ref 23, .int (nI (cd q))] w (some (.int (enc (V q.2.1)))) w := by
  obtain ⟨h0, ⟨f, h1, hf⟩, hb⟩ := H
  have hv := hq.2.1
  refine mi_Ev.of (M := m_Se_firstValue) rfl (Nat.le_of_ble_eq_true rfl) ?_
  repeat (first | refine mi_s1 (fun _ => rfl) ?_ | refine mi_wgf rfl (by assumption) rfl ?_ | refine mi_wal rfl (by assumption) rfl (by omega) (by decide) ?_)
  refine mi_wcs rfl (Nat.le_of_ble_eq_true rfl) ⟨Nat.le_of_ble_eq_true rfl, Nat.le_of_ble_eq_true rfl⟩ (ev_fst hq) ?_
  repeat (first | refine mi_s1 (fun _ => rfl) ?_ | refine mi_wgf rfl (by assumption) rfl ?_ | refine mi_wal rfl (by assumption) rfl (by omega) (by decide) ?_)
  rw [hf _ hv]
  refine mi_r1 (fun _ => rfl) ?_
  exact ⟨rfl, rfl⟩
theorem ev_secondValue {V : sp_V} (H : Se w V) {q : sp_A} (hq : okA q) : mi_Ev X mi_P 2 k_Se_secondValue [.ref 23, .int (nI (cd q))] w (some (.int (enc (V q.2.2)))) w := by
  obtain ⟨h0, ⟨f, h1, hf⟩, hb⟩ := H
  have hv := hq.2.2
  refine mi_Ev.of (M := m_Se_secondValue) rfl (Nat.le_of_ble_eq_true rfl) ?_
  repeat (first | refine mi_s1 (fun _ => rfl) ?_ | refine mi_wgf rfl (by assumption) rfl ?_ | refine mi_wal rfl (by assumption) rfl (by omega) (by decide) ?_)
  refine mi_wcs rfl (Nat.le_of_ble_eq_true rfl) ⟨Nat.le_of_ble_eq_true rfl, Nat.le_of_ble_eq_true rfl⟩ (ev_snd hq) ?_
  repeat (first | refine mi_s1 (fun _ => rfl) ?_ | refine mi_wgf rfl (by assumption) rfl ?_ | refine mi_wal rfl (by assumption) rfl (by omega) (by decide) ?_)
  rw [hf _ hv]
  refine mi_r1 (fun _ => rfl) ?_
  exact ⟨rfl, rfl⟩
theorem ev_isFact {F : Nat → Nat → Nat → Bool} {V : sp_V} (HS : St w F) (H : Se w V) {q : sp_A} (hq : okA q) : mi_Ev X mi_P 3 k_Se_isFact [.ref 23, .int (nI (cd q))] w (some (.int (jb (vfA F V q = true)))) w := by
  obtain ⟨h0, -, hb⟩ := id H
  obtain ⟨s1, ⟨g, s2, hg⟩, -, -, s5⟩ := id HS
  have hr := hq.1
  obtain ⟨rows, cols, fi, se, du, ct, r0, -⟩ := id (s5 q.1 hr)
  refine mi_Ev.of (M := m_Se_isFact) rfl (Nat.le_of_ble_eq_true rfl) ?_
  repeat (first | refine mi_s1 (fun _ => rfl) ?_ | refine mi_wgf rfl (by assumption) rfl ?_ | refine mi_wal rfl (by assumption) rfl (by omega) (by decide) ?_)
  refine mi_wcs rfl (Nat.le_of_ble_eq_true rfl) ⟨Nat.le_of_ble_eq_true rfl, Nat.le_of_ble_eq_true rfl⟩ ((ev_rel hq).up (by decide)) ?_
  refine mi_waa rfl s2 ⟨by decide, by decide⟩ rfl (by omega) (by decide) ?_
  rw [hg q.1 hr]
  repeat (first | refine mi_s1 (fun _ => rfl) ?_ | refine mi_wgf rfl (by assumption) rfl ?_ | refine mi_wal rfl (by assumption) rfl (by omega) (by decide) ?_)
  refine mi_wcv rfl rfl (Nat.le_of_ble_eq_true rfl) h0 rfl (ev_firstValue H hq) ?_
  repeat (first | refine mi_s1 (fun _ => rfl) ?_ | refine mi_wgf rfl (by assumption) rfl ?_ | refine mi_wal rfl (by assumption) rfl (by omega) (by decide) ?_)
  refine mi_wcv rfl rfl (Nat.le_of_ble_eq_true rfl) h0 rfl (ev_secondValue H hq) ?_
  refine mi_wcv rfl rfl (Nat.le_of_ble_eq_true rfl) r0 rfl (ev_has (s5 q.1 hr) _ _) ?_
  rw [show jb (FI (F q.1) (enc (V q.2.1)) (enc (V q.2.2)) = true) = jb (vfA F V q = true) by rw [FI_enc hb hq]]
  refine mi_wrz rfl rfl (jb_fit _) ?_
  exact ⟨rfl, rfl⟩
theorem ev_knownAreFacts_loop {F : Nat → Nat → Nat → Bool} {V : sp_V} {o : Nat} {as : List sp_A} (HS : St w F) (H : Se w V) (HA : At w o as) : ∀ f i (z3 z4 : Option Value), i + f = as.length → mi_wp X mi_P 3 m_Se_knownAreFacts (2, [some (.ref 23), some (.ref o), some (.int (nI i)), z3, z4], [], w) (fun r w1 => r = some (.int (jb ((as.drop i).all (kfA F V) = true))) ∧ w1 = w)
  | 0, i, z3, z4, hi => by
    obtain ⟨fc, a0, a1, hl, hf⟩ := id HA
    have hi : i = as.length := by omega
    repeat (first | refine mi_s1 (fun _ => rfl) ?_ | refine mi_wgf rfl (by assumption) rfl ?_ | refine mi_wal rfl (by assumption) rfl (by omega) (by decide) ?_)
    refine mi_wif (fun _ => ?_) (fun q => absurd (nI_le (a := as.length) (b := i) (by omega) (by omega)) q)
    repeat (first | refine mi_s1 (fun _ => rfl) ?_ | refine mi_wgf rfl (by assumption) rfl ?_ | refine mi_wal rfl (by assumption) rfl (by omega) (by decide) ?_)
    refine mi_wrz rfl rfl rfl ?_
    refine jb_t ?_
    rw [hi, List.drop_length]
    rfl
  | f + 1, i, z3, z4, hi => by
    obtain ⟨fc, a0, a1, hl, hf⟩ := id HA
    obtain ⟨q, hq, hd⟩ := drop_at (l := as) (i := i) (by omega)
    obtain ⟨hc, hok⟩ := hf i q hq
    obtain ⟨h0, -, hb⟩ := id H
    rw [hd]
    have go : kfA F V q = true → ∀ z3 z4, mi_wp X mi_P 3 m_Se_knownAreFacts (57, [some (.ref 23), some (.ref o), some (.int (nI i)), z3, z4], [], w) (fun r w1 => r = some (.int (jb ((q :: as.drop (i + 1)).all (kfA F V) = true))) ∧ w1 = w) := by
      intro hk z3 z4
      refine mi_s1 (fun _ => rfl) ?_; refine mi_s1 (fun _ => rfl) ?_
      rw [show nI i + nI 1 = nI (i + 1) from nI_1 i]
      have e : (q :: as.drop (i + 1)).all (kfA F V) = (as.drop (i + 1)).all (kfA F V) := by simp [hk]
      rw [e]
      exact ev_knownAreFacts_loop HS H HA f (i + 1) z3 z4 (by omega)
    repeat (first | refine mi_s1 (fun _ => rfl) ?_ | refine mi_wgf rfl (by assumption) rfl ?_ | refine mi_wal rfl (by assumption) rfl (by omega) (by decide) ?_)
    refine mi_wif (fun z => absurd z (nI_ge (a := i) (b := as.length) (by omega) (by omega))) (fun _ => ?_)
    repeat (first | refine mi_s1 (fun _ => rfl) ?_ | refine mi_wgf rfl (by assumption) rfl ?_ | refine mi_wal rfl (by assumption) rfl (by omega) (by decide) ?_)
    rw [hc]
    refine mi_wcv rfl rfl (Nat.le_of_ble_eq_true rfl) h0 rfl ((ev_firstValue H hok).up (by decide)) ?_
    repeat (first | refine mi_s1 (fun _ => rfl) ?_ | refine mi_wgf rfl (by assumption) rfl ?_ | refine mi_wal rfl (by assumption) rfl (by omega) (by decide) ?_)
    refine mi_wif (fun z => ?_) (fun z => ?_)
    · have z := (enc_m1 (fun x hx => hb _ x hok.2.1 hx)).mp z
      refine mi_s1 (fun _ => rfl) ?_; refine mi_s1 (fun _ => rfl) ?_; refine mi_s1 (fun _ => rfl) ?_; refine mi_s1 (fun _ => rfl) ?_
      exact go (by simp [kfA, z]) _ _
    · have z : ¬ V q.2.1 = none := fun h => z ((enc_m1 (fun x hx => hb _ x hok.2.1 hx)).mpr h)
      repeat (first | refine mi_s1 (fun _ => rfl) ?_ | refine mi_wgf rfl (by assumption) rfl ?_ | refine mi_wal rfl (by assumption) rfl (by omega) (by decide) ?_)
      refine mi_wcv rfl rfl (Nat.le_of_ble_eq_true rfl) h0 rfl ((ev_secondValue H hok).up (by decide)) ?_
      repeat (first | refine mi_s1 (fun _ => rfl) ?_ | refine mi_wgf rfl (by assumption) rfl ?_ | refine mi_wal rfl (by assumption) rfl (by omega) (by decide) ?_)
      refine mi_wif (fun z2 => ?_) (fun z2 => ?_)
      · have z2 := (enc_m1 (fun x hx => hb _ x hok.2.2 hx)).mp z2
        refine mi_s1 (fun _ => rfl) ?_; refine mi_s1 (fun _ => rfl) ?_; refine mi_s1 (fun _ => rfl) ?_; refine mi_s1 (fun _ => rfl) ?_
        refine go ?_ _ _
        unfold kfA
        rw [z2]
        cases V q.2.1 <;> rfl
      · have z2 : ¬ V q.2.2 = none := fun h => z2 ((enc_m1 (fun x hx => hb _ x hok.2.2 hx)).mpr h)
        have ek : vfA F V q = kfA F V q := by
          unfold kfA vfA
          cases h1 : V q.2.1 with
          | none => exact absurd h1 z
          | some x =>
            cases h2 : V q.2.2 with
            | none => exact absurd h2 z2
            | some y => rfl
        repeat (first | refine mi_s1 (fun _ => rfl) ?_ | refine mi_wgf rfl (by assumption) rfl ?_ | refine mi_wal rfl (by assumption) rfl (by omega) (by decide) ?_)
        refine mi_wcv rfl rfl (Nat.le_of_ble_eq_true rfl) h0 rfl (ev_isFact HS H hok) ?_
        repeat (first | refine mi_s1 (fun _ => rfl) ?_ | refine mi_wgf rfl (by assumption) rfl ?_ | refine mi_wal rfl (by assumption) rfl (by omega) (by decide) ?_)
        refine mi_wif (fun z3 => ?_) (fun z3 => ?_)
        · repeat (first | refine mi_s1 (fun _ => rfl) ?_ | refine mi_wgf rfl (by assumption) rfl ?_ | refine mi_wal rfl (by assumption) rfl (by omega) (by decide) ?_)
          refine mi_wrz rfl rfl rfl ?_
          refine jb_f (fun h => jb_0.mp z3 ?_)
          rw [ek]
          simp only [List.all_cons, Bool.and_eq_true] at h
          exact h.1
        · exact go (by rw [← ek]; exact Decidable.not_not.mp (fun h => z3 (jb_0.mpr h))) _ _
def kf (F : Nat → Nat → Nat → Bool) (V : sp_V) (as : List sp_A) : Bool := as.all (kfA F V)
theorem ev_knownAreFacts {F : Nat → Nat → Nat → Bool} {V : sp_V} {o : Nat} {as : List sp_A} (HS : St w F) (H : Se w V) (HA : At w o as) : mi_Ev X mi_P 4 k_Se_knownAreFacts [.ref 23, .ref o] w (some (.int (jb (kf F V as = true)))) w := by
  refine mi_Ev.of (M := m_Se_knownAreFacts) rfl (Nat.le_of_ble_eq_true rfl) ?_
  refine mi_s1 (fun _ => rfl) ?_; refine mi_s1 (fun _ => rfl) ?_
  have e := ev_knownAreFacts_loop (X := X) HS H HA as.length 0 none none (Nat.zero_add _)
  rw [List.drop_zero] at e
  exact e
theorem bt_all : ∀ i, i < 32 → bt (nI 16777215) i = decide (i < 24) := by decide +kernel
theorem ev_allowedBy {F : Nat → Nat → Nat → Bool} {V : sp_V} (HS : St w F) (H : Se w V) {q : sp_A} (hq : okA q) {v : Nat} (hv : v < 4) : ∃ y : Int32, mi_Ev X mi_P 2 k_Se_allowedBy [.ref 23, .int (nI (cd q)), .int (nI v)] w (some (.int y)) w ∧ ∀ x, x < 32 → bt y x = alB F V q v x := by
  obtain ⟨h0, ⟨f, h1, hf⟩, hb⟩ := id H
  obtain ⟨s1, ⟨g, s2, hg⟩, -, -, s5⟩ := id HS
  have hr := hq.1
  have hq1 := hq.2.1
  have hq2 := hq.2.2
  obtain ⟨rows, cols, fi, se, du, ct, r0, r1, r2, ri⟩ := id (s5 q.1 hr)
  have key : mi_Ex X 2 k_Se_allowedBy [.ref 23, .int (nI (cd q)), .int (nI v)] w (fun r w1 => (∃ y : Int32, r = some (.int y) ∧ ∀ x, x < 32 → bt y x = alB F V q v x) ∧ w1 = w) := by
    refine mi_Ex.of (M := m_Se_allowedBy) rfl (Nat.le_of_ble_eq_true rfl) ?_
    repeat (first | refine mi_s1 (fun _ => rfl) ?_ | refine mi_wgf rfl (by assumption) rfl ?_ | refine mi_wal rfl (by assumption) rfl (by omega) (by decide) ?_)
    refine mi_wcs rfl (Nat.le_of_ble_eq_true rfl) ⟨Nat.le_of_ble_eq_true rfl, Nat.le_of_ble_eq_true rfl⟩ (ev_rel hq) ?_
    refine mi_waa rfl s2 ⟨by decide, by decide⟩ rfl (by omega) (by decide) ?_
    rw [hg q.1 hr]
    repeat (first | refine mi_s1 (fun _ => rfl) ?_ | refine mi_wgf rfl (by assumption) rfl ?_ | refine mi_wal rfl (by assumption) rfl (by omega) (by decide) ?_)
    refine mi_wcs rfl (Nat.le_of_ble_eq_true rfl) ⟨Nat.le_of_ble_eq_true rfl, Nat.le_of_ble_eq_true rfl⟩ (ev_fst hq) ?_
    repeat (first | refine mi_s1 (fun _ => rfl) ?_ | refine mi_wgf rfl (by assumption) rfl ?_ | refine mi_wal rfl (by assumption) rfl (by omega) (by decide) ?_)
    refine mi_wif (fun z => ?_) (fun z => ?_)
    · have z : q.2.1 = v := (nI_eq (by omega) (by omega)).mp z
      repeat (first | refine mi_s1 (fun _ => rfl) ?_ | refine mi_wgf rfl (by assumption) rfl ?_ | refine mi_wal rfl (by assumption) rfl (by omega) (by decide) ?_)
      refine mi_wcs rfl (Nat.le_of_ble_eq_true rfl) ⟨Nat.le_of_ble_eq_true rfl, Nat.le_of_ble_eq_true rfl⟩ (ev_snd hq) ?_
      repeat (first | refine mi_s1 (fun _ => rfl) ?_ | refine mi_wgf rfl (by assumption) rfl ?_ | refine mi_wal rfl (by assumption) rfl (by omega) (by decide) ?_)
      refine mi_wif (fun z2 => ?_) (fun z2 => ?_)
      · have z2 : q.2.2 = v := (nI_eq (by omega) (by omega)).mp z2
        repeat (first | refine mi_s1 (fun _ => rfl) ?_ | refine mi_wgf rfl (by assumption) rfl ?_ | refine mi_wal rfl (by assumption) rfl (by omega) (by decide) ?_)
        refine mi_r1 (fun _ => rfl) ?_
        refine ⟨⟨_, rfl, fun x hx => ?_⟩, rfl⟩
        rw [ri.2.2.2.2.2.1 x hx]
        simp [alB, z, z2]
      · have z2 : ¬ q.2.2 = v := fun h => z2 (by rw [h])
        repeat (first | refine mi_s1 (fun _ => rfl) ?_ | refine mi_wgf rfl (by assumption) rfl ?_ | refine mi_wal rfl (by assumption) rfl (by omega) (by decide) ?_)
        refine mi_wcs rfl (Nat.le_of_ble_eq_true rfl) ⟨Nat.le_of_ble_eq_true rfl, Nat.le_of_ble_eq_true rfl⟩ (ev_snd hq) ?_
        repeat (first | refine mi_s1 (fun _ => rfl) ?_ | refine mi_wgf rfl (by assumption) rfl ?_ | refine mi_wal rfl (by assumption) rfl (by omega) (by decide) ?_)
        rw [hf _ hq2]
        cases ho : V q.2.2 with
        | none =>
          refine mi_wcs rfl (Nat.le_of_ble_eq_true rfl) ⟨Nat.le_of_ble_eq_true rfl, Nat.le_of_ble_eq_true rfl⟩ (ev_isValueN) ?_
          repeat (first | refine mi_s1 (fun _ => rfl) ?_ | refine mi_wgf rfl (by assumption) rfl ?_ | refine mi_wal rfl (by assumption) rfl (by omega) (by decide) ?_)
          refine mi_r1 (fun _ => rfl) ?_
          refine ⟨⟨_, rfl, fun x hx => ?_⟩, rfl⟩
          rw [ri.2.2.2.1 x hx]
          simp [alB, z, z2, ho]
        | some y =>
          have hy := hb _ y hq2 ho
          refine mi_wcs rfl (Nat.le_of_ble_eq_true rfl) ⟨Nat.le_of_ble_eq_true rfl, Nat.le_of_ble_eq_true rfl⟩ (ev_isValueT hy) ?_
          repeat (first | refine mi_s1 (fun _ => rfl) ?_ | refine mi_wgf rfl (by assumption) rfl ?_ | refine mi_wal rfl (by assumption) rfl (by omega) (by decide) ?_)
          refine mi_r1 (fun _ => rfl) ?_
          refine ⟨⟨_, rfl, fun x hx => ?_⟩, rfl⟩
          rw [ri.2.2.1 x y hy hx]
          simp [alB, z, z2, ho]
    · have z : ¬ q.2.1 = v := fun h => z (by rw [h])
      repeat (first | refine mi_s1 (fun _ => rfl) ?_ | refine mi_wgf rfl (by assumption) rfl ?_ | refine mi_wal rfl (by assumption) rfl (by omega) (by decide) ?_)
      refine mi_wcs rfl (Nat.le_of_ble_eq_true rfl) ⟨Nat.le_of_ble_eq_true rfl, Nat.le_of_ble_eq_true rfl⟩ (ev_snd hq) ?_
      repeat (first | refine mi_s1 (fun _ => rfl) ?_ | refine mi_wgf rfl (by assumption) rfl ?_ | refine mi_wal rfl (by assumption) rfl (by omega) (by decide) ?_)
      refine mi_wif (fun z2 => ?_) (fun z2 => ?_)
      · have z2 : q.2.2 = v := (nI_eq (by omega) (by omega)).mp z2
        repeat (first | refine mi_s1 (fun _ => rfl) ?_ | refine mi_wgf rfl (by assumption) rfl ?_ | refine mi_wal rfl (by assumption) rfl (by omega) (by decide) ?_)
        refine mi_wcs rfl (Nat.le_of_ble_eq_true rfl) ⟨Nat.le_of_ble_eq_true rfl, Nat.le_of_ble_eq_true rfl⟩ (ev_fst hq) ?_
        repeat (first | refine mi_s1 (fun _ => rfl) ?_ | refine mi_wgf rfl (by assumption) rfl ?_ | refine mi_wal rfl (by assumption) rfl (by omega) (by decide) ?_)
        rw [hf _ hq1]
        cases ho : V q.2.1 with
        | none =>
          refine mi_wcs rfl (Nat.le_of_ble_eq_true rfl) ⟨Nat.le_of_ble_eq_true rfl, Nat.le_of_ble_eq_true rfl⟩ (ev_isValueN) ?_
          repeat (first | refine mi_s1 (fun _ => rfl) ?_ | refine mi_wgf rfl (by assumption) rfl ?_ | refine mi_wal rfl (by assumption) rfl (by omega) (by decide) ?_)
          refine mi_r1 (fun _ => rfl) ?_
          refine ⟨⟨_, rfl, fun x hx => ?_⟩, rfl⟩
          rw [ri.2.2.2.2.1 x hx]
          simp [alB, z, z2, ho]
        | some y =>
          have hy := hb _ y hq1 ho
          refine mi_wcs rfl (Nat.le_of_ble_eq_true rfl) ⟨Nat.le_of_ble_eq_true rfl, Nat.le_of_ble_eq_true rfl⟩ (ev_isValueT hy) ?_
          repeat (first | refine mi_s1 (fun _ => rfl) ?_ | refine mi_wgf rfl (by assumption) rfl ?_ | refine mi_wal rfl (by assumption) rfl (by omega) (by decide) ?_)
          refine mi_r1 (fun _ => rfl) ?_
          refine ⟨⟨_, rfl, fun x hx => ?_⟩, rfl⟩
          rw [ri.2.1 y x hy hx]
          simp [alB, z, z2, ho]
      · have z2 : ¬ q.2.2 = v := fun h => z2 (by rw [h])
        repeat (first | refine mi_s1 (fun _ => rfl) ?_ | refine mi_wgf rfl (by assumption) rfl ?_ | refine mi_wal rfl (by assumption) rfl (by omega) (by decide) ?_)
        refine mi_r1 (fun _ => rfl) ?_
        refine ⟨⟨_, rfl, fun x hx => ?_⟩, rfl⟩
        rw [bt_all x hx]
        simp [alB, z, z2]
  obtain ⟨r, w1, k1, ⟨y, rfl, k2⟩, rfl⟩ := key
  exact ⟨y, k1, k2⟩
theorem ev_allowedValues_loop {F : Nat → Nat → Nat → Bool} {V : sp_V} {o : Nat} {as : List sp_A} (HS : St w F) (H : Se w V) (HA : At w o as) {v : Nat} (hv : v < 4) : ∀ f i (x : Int32) (G : Nat → Bool), i + f = as.length → (∀ p, p < 32 → bt x p = G p) → mi_wp X mi_P 2 m_Se_allowedValues (6, [some (.ref 23), some (.ref o), some (.int (nI v)), some (.int x), some (.int (nI i))], [], w) (fun r w1 => (∃ y : Int32, r = some (.int y) ∧ ∀ p, p < 32 → bt y p = (G p && (as.drop i).all (fun q => alB F V q v p))) ∧ w1 = w)
  | 0, i, x, G, hi, hx => by
    obtain ⟨fc, a0, a1, hl, hf⟩ := id HA
    have hi : i = as.length := by omega
    repeat (first | refine mi_s1 (fun _ => rfl) ?_ | refine mi_wgf rfl (by assumption) rfl ?_ | refine mi_wal rfl (by assumption) rfl (by omega) (by decide) ?_)
    refine mi_wif (fun _ => ?_) (fun q => absurd (nI_le (a := as.length) (b := i) (by omega) (by omega)) q)
    repeat (first | refine mi_s1 (fun _ => rfl) ?_ | refine mi_wgf rfl (by assumption) rfl ?_ | refine mi_wal rfl (by assumption) rfl (by omega) (by decide) ?_)
    refine mi_r1 (fun _ => rfl) ?_
    refine ⟨⟨x, rfl, fun p hp => ?_⟩, rfl⟩
    rw [hx p hp, hi, List.drop_length]
    simp
  | f + 1, i, x, G, hi, hx => by
    obtain ⟨fc, a0, a1, hl, hf⟩ := id HA
    obtain ⟨q, hq, hd⟩ := drop_at (l := as) (i := i) (by omega)
    obtain ⟨hc, hok⟩ := hf i q hq
    obtain ⟨h0, -, hb⟩ := id H
    rw [hd]
    repeat (first | refine mi_s1 (fun _ => rfl) ?_ | refine mi_wgf rfl (by assumption) rfl ?_ | refine mi_wal rfl (by assumption) rfl (by omega) (by decide) ?_)
    refine mi_wif (fun z => absurd z (nI_ge (a := i) (b := as.length) (by omega) (by omega))) (fun _ => ?_)
    repeat (first | refine mi_s1 (fun _ => rfl) ?_ | refine mi_wgf rfl (by assumption) rfl ?_ | refine mi_wal rfl (by assumption) rfl (by omega) (by decide) ?_)
    rw [hc]
    obtain ⟨y, he, hy⟩ := ev_allowedBy (X := X) HS H hok hv
    refine mi_wcv rfl rfl (Nat.le_of_ble_eq_true rfl) h0 rfl (he) ?_
    refine mi_s1 (fun _ => rfl) ?_; refine mi_s1 (fun _ => rfl) ?_; refine mi_s1 (fun _ => rfl) ?_; refine mi_s1 (fun _ => rfl) ?_
    rw [show nI i + nI 1 = nI (i + 1) from nI_1 i]
    refine (ev_allowedValues_loop HS H HA hv f (i + 1) _ (fun p => G p && alB F V q v p) (by omega) (fun p hp => ?_)).imp (fun r w1 h => ?_)
    · rw [b_and, hx p hp, hy p hp]
    · obtain ⟨⟨u, k1, k2⟩, k3⟩ := h
      refine ⟨⟨u, k1, fun p hp => ?_⟩, k3⟩
      rw [k2 p hp]
      simp [Bool.and_assoc]
theorem ev_allowedValues {F : Nat → Nat → Nat → Bool} {V : sp_V} {o : Nat} {as : List sp_A} (HS : St w F) (H : Se w V) (HA : At w o as) {v : Nat} (hv : v < 4) : ∃ y : Int32, mi_Ev X mi_P 3 k_Se_allowedValues [.ref 23, .ref o, .int (nI v)] w (some (.int y)) w ∧ ∀ x, x < 32 → bt y x = alV F V as v x := by
  have key : mi_Ex X 3 k_Se_allowedValues [.ref 23, .ref o, .int (nI v)] w (fun r w1 => (∃ y : Int32, r = some (.int y) ∧ ∀ p, p < 32 → bt y p = (decide (p < 24) && (as.drop 0).all (fun q => alB F V q v p))) ∧ w1 = w) := by
    refine mi_Ex.of (M := m_Se_allowedValues) rfl (Nat.le_of_ble_eq_true rfl) ?_
    refine mi_s1 (fun _ => rfl) ?_; refine mi_s1 (fun _ => rfl) ?_; refine mi_s1 (fun _ => rfl) ?_; refine mi_s1 (fun _ => rfl) ?_
    exact ev_allowedValues_loop HS H HA hv as.length 0 _ (fun p => decide (p < 24)) (Nat.zero_add _) bt_all
  obtain ⟨r, w1, k1, ⟨y, rfl, k2⟩, rfl⟩ := key
  exact ⟨y, k1, fun x hx => by rw [k2 x hx, List.drop_zero]; rfl⟩
theorem Se.set {V : sp_V} {w1 : mi_H} {f : Nat → Int32} {v : Nat} {o : Option Nat} (H : Se w V) (hf : ∀ u, u < 4 → f u = enc (V u)) (h1 : w1[24]? = some (.inl (0, 4, .inl (upd f v (enc o))))) (hF : mi_Fr w w1 [24]) (ho : ∀ x, o = some x → x < 24) : Se w1 (updS V v o) := by
  obtain ⟨h0, -, hb⟩ := H
  refine ⟨hF.get (by simp) h0, ⟨_, h1, fun u hu => ?_⟩, fun u x hu hx => ?_⟩
  · unfold upd updS
    by_cases q : u = v
    · rw [if_pos q, if_pos q]
    · rw [if_neg q, if_neg q]
      exact hf u hu
  · unfold updS at hx
    by_cases q : u = v
    · rw [if_pos q] at hx
      exact ho x hx
    · rw [if_neg q] at hx
      exact hb u x hu hx
theorem Se.g {V : sp_V} {w1 : mi_H} {lo hi : Nat} (H : Se w V) (hF : mi_Fg w w1 lo hi) (ho : hi ≤ 23 ∨ 25 ≤ lo) : Se w1 V := by
  obtain ⟨h0, ⟨f, h1, hf⟩, hb⟩ := H
  exact ⟨hF.get (by omega) h0, ⟨f, hF.get (by omega) h1, hf⟩, hb⟩
theorem ev_forgetValues_loop {w0 : mi_H} : ∀ f m (w : mi_H) (V : sp_V), m + f = 4 → Se w V → (∀ v, v < m → V v = none) → mi_Fg w0 w 24 25 → mi_wp X mi_P 0 m_Se_forgetValues (2, [some (.ref 23), some (.int (nI m))], [], w) (fun r w1 => r = none ∧ Se w1 (fun _ => none) ∧ mi_Fg w0 w1 24 25)
  | 0, m, w, V, hm, H, hn, hFr => by
    have hm : m = 4 := by omega
    subst hm
    repeat (first | refine mi_s1 (fun _ => rfl) ?_ | refine mi_wgf rfl (by assumption) rfl ?_ | refine mi_wal rfl (by assumption) rfl (by omega) (by decide) ?_)
    refine mi_r1 (fun _ => rfl) ?_
    obtain ⟨h0, ⟨f, h1, hf⟩, hb⟩ := H
    exact ⟨rfl, ⟨h0, ⟨f, h1, fun v hv => by rw [hf v hv, hn v hv]⟩, fun v x _ hx => by cases hx⟩, hFr⟩
  | f + 1, m, w, V, hm, H, hn, hFr => by
    obtain ⟨h0, ⟨fa, h1, hf⟩, hb⟩ := id H
    repeat (first | refine mi_s1 (fun _ => rfl) ?_ | refine mi_wgf rfl (by assumption) rfl ?_ | refine mi_wal rfl (by assumption) rfl (by omega) (by decide) ?_)
    refine mi_wif (fun z => absurd z (nI_ge (a := m) (b := 4) (by omega) (by omega))) (fun _ => ?_)
    repeat (first | refine mi_s1 (fun _ => rfl) ?_ | refine mi_wgf rfl (by assumption) rfl ?_ | refine mi_wal rfl (by assumption) rfl (by omega) (by decide) ?_)
    refine mi_wag rfl h1 rfl (by omega) (by decide) (fun w1 k1 hF1 => ?_)
    refine mi_s1 (fun _ => rfl) ?_; refine mi_s1 (fun _ => rfl) ?_
    rw [show nI m + nI 1 = nI (m + 1) from nI_1 m]
    refine ev_forgetValues_loop f (m + 1) w1 _ (by omega) (H.set (o := none) hf k1 hF1 (fun x hx => by cases hx)) (fun v hv => ?_) (hFr.tr (mi_Fg.of1 hF1 (by omega) (by omega)))
    unfold updS
    by_cases q : v = m
    · rw [if_pos q]
    · rw [if_neg q]
      exact hn v (by omega)
theorem ev_forgetValues {V : sp_V} (H : Se w V) : mi_Ex X 1 k_Se_forgetValues [.ref 23] w (fun r w1 => r = none ∧ Se w1 (fun _ => none) ∧ mi_Fg w w1 24 25) := by
  refine mi_Ex.of (M := m_Se_forgetValues) rfl (Nat.le_of_ble_eq_true rfl) ?_
  refine mi_s1 (fun _ => rfl) ?_; refine mi_s1 (fun _ => rfl) ?_
  exact ev_forgetValues_loop 4 0 w V rfl H (fun v hv => absurd hv (Nat.not_lt_zero v)) mi_Fg.rf
end Search
