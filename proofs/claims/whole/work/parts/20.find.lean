/-! class Search: the first match that is not satisfied -/
/-- satisfied, by the values that are known -/
def satV (F : Nat → Nat → Nat → Bool) (R : sp_R) (V : sp_V) : Bool :=
  if R.1 = 0 then kf F V R.2.2.1 && ch F R.2.2.1 4 0 V else match R.2.2.2 with
    | some (v, u) => decide (V v = V u)
    | none => false
def fu (F : Nat → Nat → Nat → Bool) (R : sp_R) (s : Nat) : Nat → Nat → sp_V → Option sp_V
  | 0, v, V => if v = s ∧ satV F R V = true then none else some V
  | n + 1, v, V => if v = s ∧ satV F R V = true then none else if inB R.2.1 v = false then fu F R s n (v + 1) V else (List.range 24).findSome? (fun x => if alV F V R.2.1 v x = true then fu F R s n (v + 1) (updS V v (some x)) else none)
theorem enc_inj {o p : Option Nat} (ho : ∀ x, o = some x → x < 24) (hp : ∀ x, p = some x → x < 24) : enc o = enc p ↔ o = p := by
  constructor
  · intro h
    cases o with
    | none => exact ((enc_m1 hp).mp h.symm).symm
    | some x =>
      cases p with
      | none => exact absurd ((enc_m1 ho).mp h) (fun z => by cases z)
      | some y =>
        have h1 := ho x rfl
        have h2 := hp y rfl
        have : x = y := (nI_eq (by omega) (by omega)).mp h
        rw [this]
  · intro h
    rw [h]
theorem fs_to {α : Type} {g : Nat → Option α} {m : Nat} (h : ∀ x, x < m → g x = none) (hm : m ≤ 24) (h2 : ∀ x, m ≤ x → x < 24 → g x = none) : (List.range 24).findSome? g = none := by
  rw [List.findSome?_eq_none_iff]
  intro x hx
  rw [List.mem_range] at hx
  by_cases q : x < m
  · exact h x q
  · exact h2 x (by omega) hx
theorem fs_at {α : Type} {g : Nat → Option α} {m : Nat} {y : α} (hm : m < 24) (h : ∀ x, x < m → g x = none) (h2 : g m = some y) : (List.range 24).findSome? g = some y := by
  have e : List.range 24 = List.range m ++ (m :: List.range' (m + 1) (23 - m)) := by
    rw [List.range_eq_range', List.range_eq_range', show (24 : Nat) = m + (1 + (23 - m)) by omega, ← List.range'_append_1, Nat.zero_add, Nat.add_comm 1 (23 - m)]
    rfl
  rw [e, List.findSome?_append]
  have e2 : (List.range m).findSome? g = none := by
    rw [List.findSome?_eq_none_iff]
    intro x hx
    exact h x (List.mem_range.mp hx)
  rw [e2, List.findSome?_cons, h2]
  rfl
section Find
variable {X : mi_X}
theorem ev_isSatisfied {w : mi_H} {F : Nat → Nat → Nat → Bool} {V : sp_V} {r : Nat} {R : sp_R} (hr : 25 ≤ r) (HS : St w F) (H : Se w V) (HR : Ru w r R) (hc : R.1 ≠ 0 → R.2.2.2 ≠ none) : mi_Ex X 9 k_Se_isSatisfied [.ref 23, .ref r] w (fun q w1 => q = some (.int (jb (satV F R V = true))) ∧ Se w1 V ∧ mi_Fg w w1 24 25) := by
  obtain ⟨fi, se, r0, rb, rh, hk, hh, hp⟩ := id HR
  obtain ⟨h0, ⟨f, h1, hf⟩, hb⟩ := id H
  refine mi_Ex.of (M := m_Se_isSatisfied) rfl (Nat.le_of_ble_eq_true rfl) ?_
  repeat (first | refine mi_s1 (fun _ => rfl) ?_ | refine mi_wgf rfl (by assumption) rfl ?_ | refine mi_wal rfl (by assumption) rfl (by omega) (by decide) ?_)
  refine mi_wif (fun z => ?_) (fun z => ?_)
  · have z := (nI_z (by omega)).mp z
    have e : satV F R V = (kf F V R.2.2.1 && ch F R.2.2.1 4 0 V) := if_pos z
    rw [e]
    repeat (first | refine mi_s1 (fun _ => rfl) ?_ | refine mi_wgf rfl (by assumption) rfl ?_ | refine mi_wal rfl (by assumption) rfl (by omega) (by decide) ?_)
    refine mi_wcv rfl rfl (Nat.le_of_ble_eq_true rfl) h0 rfl ((ev_knownAreFacts HS H rh).up (by decide)) ?_
    repeat (first | refine mi_s1 (fun _ => rfl) ?_ | refine mi_wgf rfl (by assumption) rfl ?_ | refine mi_wal rfl (by assumption) rfl (by omega) (by decide) ?_)
    refine mi_wif (fun z2 => ?_) (fun z2 => ?_)
    · repeat (first | refine mi_s1 (fun _ => rfl) ?_ | refine mi_wgf rfl (by assumption) rfl ?_ | refine mi_wal rfl (by assumption) rfl (by omega) (by decide) ?_)
      refine mi_wrz rfl rfl rfl ?_
      refine ⟨?_, H, mi_Fg.rf⟩
      exact (jb_f (w := w) (fun q => jb_0.mp z2 (by rw [Bool.and_eq_true] at q; exact q.1))).1
    · have z2 : kf F V R.2.2.1 = true := Decidable.not_not.mp (fun q => z2 (jb_0.mpr q))
      obtain ⟨r1, w1, he, rfl, H1, hF1⟩ := ev_canHold (X := X) (F := F) (o := r + 3) (as := R.2.2.1) (by omega) 4 0 V w rfl HS H rh
      repeat (first | refine mi_s1 (fun _ => rfl) ?_ | refine mi_wgf rfl (by assumption) rfl ?_ | refine mi_wal rfl (by assumption) rfl (by omega) (by decide) ?_)
      refine mi_wcv rfl rfl (Nat.le_of_ble_eq_true rfl) h0 rfl (he) ?_
      repeat (first | refine mi_s1 (fun _ => rfl) ?_ | refine mi_wgf rfl (by assumption) rfl ?_ | refine mi_wal rfl (by assumption) rfl (by omega) (by decide) ?_)
      rw [z2, Bool.true_and]
      refine mi_wif (fun z3 => ?_) (fun z3 => ?_)
      · repeat (first | refine mi_s1 (fun _ => rfl) ?_ | refine mi_wgf rfl (by assumption) rfl ?_ | refine mi_wal rfl (by assumption) rfl (by omega) (by decide) ?_)
        refine mi_wrz rfl rfl rfl ?_
        exact ⟨(jb_f (w := w) (jb_0.mp z3)).1, H1, hF1⟩
      · repeat (first | refine mi_s1 (fun _ => rfl) ?_ | refine mi_wgf rfl (by assumption) rfl ?_ | refine mi_wal rfl (by assumption) rfl (by omega) (by decide) ?_)
        refine mi_wrz rfl rfl rfl ?_
        exact ⟨(jb_t (w := w) (Decidable.not_not.mp (fun q => z3 (jb_0.mpr q)))).1, H1, hF1⟩
  · have z : ¬ R.1 = 0 := fun q => z ((nI_z (by omega)).mpr q)
    cases hq : R.2.2.2 with
    | none => exact absurd hq (hc z)
    | some p =>
      obtain ⟨v, u⟩ := p
      obtain ⟨rfl, rfl, hv, hu⟩ := hp v u hq
      have e : satV F R V = decide (V v = V u) := by
        unfold satV
        rw [if_neg z, hq]
      rw [e]
      repeat (first | refine mi_s1 (fun _ => rfl) ?_ | refine mi_wgf rfl (by assumption) rfl ?_ | refine mi_wal rfl (by assumption) rfl (by omega) (by decide) ?_)
      rw [hf v hv, hf u hu]
      repeat (first | refine mi_s1 (fun _ => rfl) ?_ | refine mi_wgf rfl (by assumption) rfl ?_ | refine mi_wal rfl (by assumption) rfl (by omega) (by decide) ?_)
      have ei := enc_inj (o := V v) (p := V u) (fun x hx => hb v x hv hx) (fun x hx => hb u x hu hx)
      refine mi_wif (fun z2 => ?_) (fun z2 => ?_)
      · repeat (first | refine mi_s1 (fun _ => rfl) ?_ | refine mi_wgf rfl (by assumption) rfl ?_ | refine mi_wal rfl (by assumption) rfl (by omega) (by decide) ?_)
        refine mi_wrz rfl rfl rfl ?_
        exact ⟨(jb_t (w := w) (decide_eq_true (ei.mp z2))).1, H, mi_Fg.rf⟩
      · repeat (first | refine mi_s1 (fun _ => rfl) ?_ | refine mi_wgf rfl (by assumption) rfl ?_ | refine mi_wal rfl (by assumption) rfl (by omega) (by decide) ?_)
        refine mi_wrz rfl rfl rfl ?_
        exact ⟨(jb_f (w := w) (fun q => z2 (ei.mpr (of_decide_eq_true q)))).1, H, mi_Fg.rf⟩
/-- the values behind the search -/
def outV (V : sp_V) (o : Option sp_V) : sp_V := match o with
  | some V' => V'
  | none => V
theorem ev_findUnsatisfied {F : Nat → Nat → Nat → Bool} {r : Nat} {R : sp_R} {s : Nat} (hr : 25 ≤ r) (hs : s ≤ 4) (hc : R.1 ≠ 0 → R.2.2.2 ≠ none) : ∀ n v (V : sp_V) (w : mi_H), v + n = 4 → (∀ u, v ≤ u → V u = none) → St w F → Se w V → Ru w r R → mi_Ex X (10 + n) k_Se_findUnsatisfied [.ref 23, .ref r, .int (nI v), .int (nI s)] w (fun q w1 => q = some (.int (jb ((fu F R s n v V).isSome = true))) ∧ Se w1 (outV V (fu F R s n v V)) ∧ mi_Fg w w1 24 25) := by
  intro n
  induction n with
  | zero =>
    intro v V w hv hV HS H HR
    have hv : v = 4 := by omega
    subst hv
    obtain ⟨h0, -⟩ := id H
    refine mi_Ex.of (M := m_Se_findUnsatisfied) rfl (Nat.le_of_ble_eq_true rfl) ?_
    have e : fu F R s 0 4 V = if 4 = s ∧ satV F R V = true then none else some V := rfl
    rw [e]
    repeat (first | refine mi_s1 (fun _ => rfl) ?_ | refine mi_wgf rfl (by assumption) rfl ?_ | refine mi_wal rfl (by assumption) rfl (by omega) (by decide) ?_)
    refine mi_wif (fun z => ?_) (fun z => ?_)
    · have z : 4 = s := (nI_eq (by decide) (by omega)).mp z
      obtain ⟨r1, w1, he, rfl, H1, hF1⟩ := ev_isSatisfied (X := X) hr HS H HR hc
      repeat (first | refine mi_s1 (fun _ => rfl) ?_ | refine mi_wgf rfl (by assumption) rfl ?_ | refine mi_wal rfl (by assumption) rfl (by omega) (by decide) ?_)
      refine mi_wcv rfl rfl (Nat.le_of_ble_eq_true rfl) h0 rfl (he) ?_
      repeat (first | refine mi_s1 (fun _ => rfl) ?_ | refine mi_wgf rfl (by assumption) rfl ?_ | refine mi_wal rfl (by assumption) rfl (by omega) (by decide) ?_)
      refine mi_wif (fun z2 => ?_) (fun z2 => ?_)
      · rw [if_neg (fun q => jb_0.mp z2 q.2)]
        repeat (first | refine mi_s1 (fun _ => rfl) ?_ | refine mi_wgf rfl (by assumption) rfl ?_ | refine mi_wal rfl (by assumption) rfl (by omega) (by decide) ?_)
        refine mi_wrz rfl rfl rfl ?_
        exact ⟨rfl, H1, hF1⟩
      · rw [if_pos ⟨z, Decidable.not_not.mp (fun q => z2 (jb_0.mpr q))⟩]
        repeat (first | refine mi_s1 (fun _ => rfl) ?_ | refine mi_wgf rfl (by assumption) rfl ?_ | refine mi_wal rfl (by assumption) rfl (by omega) (by decide) ?_)
        refine mi_wrz rfl rfl rfl ?_
        exact ⟨rfl, H1, hF1⟩
    · rw [if_neg (fun q => z (by rw [q.1]))]
      repeat (first | refine mi_s1 (fun _ => rfl) ?_ | refine mi_wgf rfl (by assumption) rfl ?_ | refine mi_wal rfl (by assumption) rfl (by omega) (by decide) ?_)
      refine mi_wrz rfl rfl rfl ?_
      exact ⟨rfl, H, mi_Fg.rf⟩
  | succ n ih =>
    intro v V w hv hV HS H HR
    obtain ⟨fi, se, r0, rb, rh, hk, hh, hp⟩ := id HR
    obtain ⟨fb, b0, -⟩ := id rb
    -- behind the test of being satisfied
    have main : ∀ w : mi_H, St w F → Se w V → Ru w r R → ¬ (v = s ∧ satV F R V = true) → ∀ w0, mi_Fg w0 w 24 25 → mi_wp X mi_P (10 + n) m_Se_findUnsatisfied (15, [some (.ref 23), some (.ref r), some (.int (nI v)), some (.int (nI s)), none, none], [], w) (fun q w1 => q = some (.int (jb ((fu F R s (n + 1) v V).isSome = true))) ∧ Se w1 (outV V (fu F R s (n + 1) v V)) ∧ mi_Fg w0 w1 24 25) := by
      intro w HS H HR hn w0 hw0
      obtain ⟨fi, se, r0, rb, rh, hk, hh, hp⟩ := id HR
      obtain ⟨fb, b0, -⟩ := id rb
      obtain ⟨h0, ⟨f, h1, hf⟩, hb⟩ := id H
      have e0 : fu F R s (n + 1) v V = if inB R.2.1 v = false then fu F R s n (v + 1) V else (List.range 24).findSome? (fun x => if alV F V R.2.1 v x = true then fu F R s n (v + 1) (updS V v (some x)) else none) := if_neg hn
      rw [e0]
      repeat (first | refine mi_s1 (fun _ => rfl) ?_ | refine mi_wgf rfl (by assumption) rfl ?_ | refine mi_wal rfl (by assumption) rfl (by omega) (by decide) ?_)
      refine mi_wif (fun _ => ?_) (fun z => absurd (nI_lt (a := v) (b := 4) (by omega) (by omega)) z)
      repeat (first | refine mi_s1 (fun _ => rfl) ?_ | refine mi_wgf rfl (by assumption) rfl ?_ | refine mi_wal rfl (by assumption) rfl (by omega) (by decide) ?_)
      refine mi_wcv rfl rfl (Nat.le_of_ble_eq_true rfl) b0 rfl ((ev_hasVariable rb (by omega)).up (by omega)) ?_
      repeat (first | refine mi_s1 (fun _ => rfl) ?_ | refine mi_wgf rfl (by assumption) rfl ?_ | refine mi_wal rfl (by assumption) rfl (by omega) (by decide) ?_)
      refine mi_wif (fun z => ?_) (fun z => ?_)
      · have z : inB R.2.1 v = false := by simpa using jb_0.mp z
        rw [if_pos z]
        obtain ⟨r1, w1, he, rfl, H1, hF1⟩ := ih (v + 1) V w (by omega) (fun u hu => hV u (by omega)) HS H HR
        repeat (first | refine mi_s1 (fun _ => rfl) ?_ | refine mi_wgf rfl (by assumption) rfl ?_ | refine mi_wal rfl (by assumption) rfl (by omega) (by decide) ?_)
        rw [show nI v + nI 1 = nI (v + 1) from nI_1 v]
        refine mi_wcv rfl rfl (Nat.le_of_ble_eq_true rfl) h0 rfl (he) ?_
        refine mi_wrz rfl rfl (jb_fit _) ?_
        exact ⟨rfl, H1, hw0.tr hF1⟩
      · have z : inB R.2.1 v = true := Decidable.not_not.mp (fun q => z (jb_0.mpr q))
        rw [if_neg (by rw [z]; decide)]
        repeat (first | refine mi_s1 (fun _ => rfl) ?_ | refine mi_wgf rfl (by assumption) rfl ?_ | refine mi_wal rfl (by assumption) rfl (by omega) (by decide) ?_)
        obtain ⟨al, he, hal⟩ := ev_allowedValues (X := X) HS H rb (v := v) (by omega)
        refine mi_wcv rfl rfl (Nat.le_of_ble_eq_true rfl) h0 rfl (he.up (by omega)) ?_
        refine mi_s1 (fun _ => rfl) ?_; refine mi_s1 (fun _ => rfl) ?_; refine mi_s1 (fun _ => rfl) ?_
        have none_at : ∀ x, x < 24 → bt al x = false → (if alV F V R.2.1 v x = true then fu F R s n (v + 1) (updS V v (some x)) else none) = none := fun x hx hx2 => by
          rw [if_neg]
          rw [← hal x (by omega), hx2]
          decide
        have loop : ∀ f m (w1 : mi_H), m + f = 24 → Se w1 V → mi_Fg w w1 24 25 → (∀ x, x < m → (if alV F V R.2.1 v x = true then fu F R s n (v + 1) (updS V v (some x)) else none) = none) → mi_wp X mi_P (10 + n) m_Se_findUnsatisfied (57, [some (.ref 23), some (.ref r), some (.int (nI v)), some (.int (nI s)), some (.int al), some (.int (nI m))], [], w1) (fun q w1 => q = some (.int (jb (((List.range 24).findSome? (fun x => if alV F V R.2.1 v x = true then fu F R s n (v + 1) (updS V v (some x)) else none)).isSome = true))) ∧ Se w1 (outV V ((List.range 24).findSome? (fun x => if alV F V R.2.1 v x = true then fu F R s n (v + 1) (updS V v (some x)) else none))) ∧ mi_Fg w0 w1 24 25) := by
          intro f
          induction f with
          | zero =>
            intro m w1 hm H1 hF1 hn1
            have hm : m = 24 := by omega
            subst hm
            rw [fs_to hn1 (by omega) (fun x h1 h2 => absurd h1 (by omega))]
            repeat (first | refine mi_s1 (fun _ => rfl) ?_ | refine mi_wgf rfl (by assumption) rfl ?_ | refine mi_wal rfl (by assumption) rfl (by omega) (by decide) ?_)
            refine mi_wrz rfl rfl rfl ?_
            exact ⟨rfl, H1, hw0.tr hF1⟩
          | succ f ihf =>
            intro m w1 hm H1 hF1 hn1
            repeat (first | refine mi_s1 (fun _ => rfl) ?_ | refine mi_wgf rfl (by assumption) rfl ?_ | refine mi_wal rfl (by assumption) rfl (by omega) (by decide) ?_)
            refine mi_wif (fun q => absurd q (nI_ge (a := m) (b := 24) (by omega) (by omega))) (fun _ => ?_)
            repeat (first | refine mi_s1 (fun _ => rfl) ?_ | refine mi_wgf rfl (by assumption) rfl ?_ | refine mi_wal rfl (by assumption) rfl (by omega) (by decide) ?_)
            refine mi_wif (fun q1 => ?_) (fun q1 => ?_)
            · have q1 := (bt_ush0 (by omega) al).mp q1
              rw [fs_to hn1 (by omega) (fun x h1 h2 => none_at x h2 (q1 x h1 (by omega)))]
              repeat (first | refine mi_s1 (fun _ => rfl) ?_ | refine mi_wgf rfl (by assumption) rfl ?_ | refine mi_wal rfl (by assumption) rfl (by omega) (by decide) ?_)
              refine mi_wrz rfl rfl rfl ?_
              exact ⟨rfl, H1, hw0.tr hF1⟩
            · have HS1 : St w1 F := HS.g hF1 (by omega)
              have HR1 : Ru w1 r R := HR.g hF1 (by omega)
              repeat (first | refine mi_s1 (fun _ => rfl) ?_ | refine mi_wgf rfl (by assumption) rfl ?_ | refine mi_wal rfl (by assumption) rfl (by omega) (by decide) ?_)
              refine mi_wcs rfl (Nat.le_of_ble_eq_true rfl) ⟨Nat.le_of_ble_eq_true rfl, Nat.le_of_ble_eq_true rfl⟩ ((ev_isIn al (n := m) (by omega)).up (by omega)) ?_
              repeat (first | refine mi_s1 (fun _ => rfl) ?_ | refine mi_wgf rfl (by assumption) rfl ?_ | refine mi_wal rfl (by assumption) rfl (by omega) (by decide) ?_)
              refine mi_wif (fun q3 => ?_) (fun q3 => ?_)
              · have q3 : bt al m = false := by simpa using jb_0.mp q3
                refine mi_s1 (fun _ => rfl) ?_; refine mi_s1 (fun _ => rfl) ?_
                rw [show nI m + nI 1 = nI (m + 1) from nI_1 m]
                refine ihf (m + 1) w1 (by omega) H1 hF1 (fun x hx => ?_)
                by_cases q : x = m
                · rw [q]
                  exact none_at m (by omega) q3
                · exact hn1 x (by omega)
              · have q3 : bt al m = true := Decidable.not_not.mp (fun h => q3 (jb_0.mpr h))
                have q4 : alV F V R.2.1 v m = true := by
                  rw [← hal m (by omega)]
                  exact q3
                obtain ⟨k0, ⟨f1, k1, kf1⟩, kb⟩ := id H1
                repeat (first | refine mi_s1 (fun _ => rfl) ?_ | refine mi_wgf rfl (by assumption) rfl ?_ | refine mi_wal rfl (by assumption) rfl (by omega) (by decide) ?_)
                refine mi_wag rfl k1 rfl (by omega) (by decide) (fun w2 k2 hF2 => ?_)
                have hG2 : mi_Fg w1 w2 24 25 := mi_Fg.of1 hF2 (by omega) (by omega)
                have H2 := H1.set (o := some m) kf1 k2 hF2 (fun x hx => by cases hx; omega)
                repeat (first | refine mi_s1 (fun _ => rfl) ?_ | refine mi_wgf rfl (by assumption) rfl ?_ | refine mi_wal rfl (by assumption) rfl (by omega) (by decide) ?_)
                rw [show nI v + nI 1 = nI (v + 1) from nI_1 v]
                obtain ⟨r3, w3, he3, rfl, H3, hF3⟩ := ih (v + 1) _ w2 (by omega) (fun u hu => by
                  unfold updS
                  rw [if_neg (by omega)]
                  exact hV u (by omega)) (HS1.g hG2 (by omega)) H2 (HR1.g hG2 (by omega))
                have k0' := hG2.get (by omega) k0
                refine mi_wcv rfl rfl (Nat.le_of_ble_eq_true rfl) k0' rfl (he3) ?_
                repeat (first | refine mi_s1 (fun _ => rfl) ?_ | refine mi_wgf rfl (by assumption) rfl ?_ | refine mi_wal rfl (by assumption) rfl (by omega) (by decide) ?_)
                cases hfu : fu F R s n (v + 1) (updS V v (some m)) with
                | some V' =>
                  rw [hfu] at H3
                  refine mi_wif (fun q => absurd rfl (jb_0.mp q)) (fun _ => ?_)
                  repeat (first | refine mi_s1 (fun _ => rfl) ?_ | refine mi_wgf rfl (by assumption) rfl ?_ | refine mi_wal rfl (by assumption) rfl (by omega) (by decide) ?_)
                  refine mi_wrz rfl rfl rfl ?_
                  rw [fs_at (m := m) (by omega) hn1 (by rw [if_pos q4, hfu])]
                  exact ⟨rfl, H3, hw0.tr ((hF1.tr hG2).tr hF3)⟩
                | none =>
                  rw [hfu] at H3
                  refine mi_wif (fun _ => ?_) (fun q => absurd rfl q)
                  have H3 : Se w3 (updS V v (some m)) := H3
                  obtain ⟨j0, ⟨f3, j1, jf3⟩, jb3⟩ := id H3
                  repeat (first | refine mi_s1 (fun _ => rfl) ?_ | refine mi_wgf rfl (by assumption) rfl ?_ | refine mi_wal rfl (by assumption) rfl (by omega) (by decide) ?_)
                  refine mi_wag rfl j1 rfl (by omega) (by decide) (fun w4 k4 hF4 => ?_)
                  have H4 := H3.set (o := none) jf3 k4 hF4 (fun x hx => by cases hx)
                  rw [updS_back (hV v (Nat.le_refl v))] at H4
                  have hG4 : mi_Fg w3 w4 24 25 := mi_Fg.of1 hF4 (by omega) (by omega)
                  refine mi_s1 (fun _ => rfl) ?_; refine mi_s1 (fun _ => rfl) ?_
                  rw [show nI m + nI 1 = nI (m + 1) from nI_1 m]
                  refine ihf (m + 1) w4 (by omega) H4 (((hF1.tr hG2).tr hF3).tr hG4) (fun x hx => ?_)
                  by_cases q : x = m
                  · rw [q, if_pos q4, hfu]
                  · exact hn1 x (by omega)
        exact loop 24 0 w rfl H mi_Fg.rf (fun x hx => absurd hx (Nat.not_lt_zero x))
    obtain ⟨h0, -⟩ := id H
    show mi_Ex X ((10 + n) + 1) k_Se_findUnsatisfied _ w _
    refine mi_Ex.of (M := m_Se_findUnsatisfied) rfl (Nat.le_of_ble_eq_true rfl) ?_
    refine mi_s1 (fun _ => rfl) ?_; refine mi_s1 (fun _ => rfl) ?_; refine mi_s1 (fun _ => rfl) ?_
    refine mi_wif (fun z => ?_) (fun z => ?_)
    · have z : v = s := (nI_eq (by omega) (by omega)).mp z
      obtain ⟨r1, w1, he, rfl, H1, hF1⟩ := ev_isSatisfied (X := X) hr HS H HR hc
      repeat (first | refine mi_s1 (fun _ => rfl) ?_ | refine mi_wgf rfl (by assumption) rfl ?_ | refine mi_wal rfl (by assumption) rfl (by omega) (by decide) ?_)
      refine mi_wcv rfl rfl (Nat.le_of_ble_eq_true rfl) h0 rfl (he.up (by omega)) ?_
      refine mi_s1 (fun _ => rfl) ?_
      refine mi_wif (fun z2 => ?_) (fun z2 => ?_)
      · exact main w1 (HS.g hF1 (by omega)) H1 (HR.g hF1 (by omega)) (fun q => jb_0.mp z2 q.2) w hF1
      · have e : fu F R s (n + 1) v V = none := if_pos ⟨z, Decidable.not_not.mp (fun q => z2 (jb_0.mpr q))⟩
        rw [e]
        repeat (first | refine mi_s1 (fun _ => rfl) ?_ | refine mi_wgf rfl (by assumption) rfl ?_ | refine mi_wal rfl (by assumption) rfl (by omega) (by decide) ?_)
        refine mi_wrz rfl rfl rfl ?_
        exact ⟨rfl, H1, hF1⟩
    · exact main w HS H HR (fun q => z (by rw [q.1])) w mi_Fg.rf
end Find
