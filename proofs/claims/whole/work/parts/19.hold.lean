/-! class Search: whether unknown variables can be given values -/
def ch (F : Nat → Nat → Nat → Bool) (as : List sp_A) : Nat → Nat → sp_V → Bool
  | 0, _, _ => true
  | n + 1, v, V => if V v ≠ none ∨ inB as v = false then ch F as n (v + 1) V else (List.range 24).any (fun x => alV F V as v x && ch F as n (v + 1) (updS V v (some x)))
theorem At.g {w w1 : mi_H} {o lo hi : Nat} {as : List sp_A} (H : At w o as) (hF : mi_Fg w w1 lo hi) (ho : o + 2 ≤ lo ∨ hi ≤ o) : At w1 o as := H.at (hF.2 _ (by omega)) (hF.2 _ (by omega))
theorem any_to {g : Nat → Bool} {m : Nat} (hm : m ≤ 24) (h : ∀ x, m ≤ x → x < 24 → g x = false) : (List.range 24).any g = (List.range m).any g := by
  rw [Bool.eq_iff_iff, List.any_eq_true, List.any_eq_true]
  constructor
  · rintro ⟨x, h1, h2⟩
    rw [List.mem_range] at h1
    by_cases q : x < m
    · exact ⟨x, List.mem_range.mpr q, h2⟩
    · rw [h x (by omega) h1] at h2
      cases h2
  · rintro ⟨x, h1, h2⟩
    rw [List.mem_range] at h1
    exact ⟨x, List.mem_range.mpr (by omega), h2⟩
theorem any_up {g : Nat → Bool} {m : Nat} (hm : m ≤ 24) (h : (List.range m).any g = true) : (List.range 24).any g = true := by
  rw [List.any_eq_true] at h ⊢
  obtain ⟨x, h1, h2⟩ := h
  rw [List.mem_range] at h1
  exact ⟨x, List.mem_range.mpr (by omega), h2⟩
theorem any_s {g : Nat → Bool} {m : Nat} : (List.range (m + 1)).any g = ((List.range m).any g || g m) := by
  rw [List.range_succ, List.any_append]
  simp
theorem updS_back {V : sp_V} {v : Nat} {o : Option Nat} (h : V v = none) : updS (updS V v o) v none = V := by
  funext u
  unfold updS
  by_cases q : u = v
  · rw [if_pos q, q, h]
  · rw [if_neg q, if_neg q]
theorem updS_self {V : sp_V} {v : Nat} (h : V v = none) : updS V v none = V := by
  funext u
  unfold updS
  by_cases q : u = v
  · rw [if_pos q, q, h]
  · rw [if_neg q]
theorem updS_twice {V : sp_V} {v : Nat} {o p : Option Nat} : updS (updS V v o) v p = updS V v p := by
  funext u
  unfold updS
  by_cases q : u = v
  · rw [if_pos q, if_pos q]
  · rw [if_neg q, if_neg q, if_neg q]
section Hold
variable {X : mi_X}
theorem ev_canHold {F : Nat → Nat → Nat → Bool} {o : Nat} {as : List sp_A} (ho : 25 ≤ o) : ∀ n v (V : sp_V) (w : mi_H), v + n = 4 → St w F → Se w V → At w o as → mi_Ex X (4 + n) k_Se_canHold [.ref 23, .ref o, .int (nI v)] w (fun r w1 => r = some (.int (jb (ch F as n v V = true))) ∧ Se w1 V ∧ mi_Fg w w1 24 25)
  | 0, v, V, w, hv, HS, H, HA => by
    have hv : v = 4 := by omega
    subst hv
    refine mi_Ex.of (M := m_Se_canHold) rfl (Nat.le_of_ble_eq_true rfl) ?_
    repeat (first | refine mi_s1 (fun _ => rfl) ?_ | refine mi_wgf rfl (by assumption) rfl ?_ | refine mi_wal rfl (by assumption) rfl (by omega) (by decide) ?_)
    refine mi_wrz rfl rfl rfl ?_
    exact ⟨rfl, H, mi_Fg.rf⟩
  | n + 1, v, V, w, hv, HS, H, HA => by
    have ih := ev_canHold (F := F) (as := as) ho n
    obtain ⟨h0, ⟨f, h1, hf⟩, hb⟩ := id H
    obtain ⟨fc, a0, -⟩ := id HA
    -- pass on to the next variable
    have nxt : ch F as (n + 1) v V = ch F as n (v + 1) V → mi_wp X mi_P (4 + n) m_Se_canHold (25, [some (.ref 23), some (.ref o), some (.int (nI v)), none, none, none], [], w) (fun r w1 => r = some (.int (jb (ch F as (n + 1) v V = true))) ∧ Se w1 V ∧ mi_Fg w w1 24 25) := by
      intro e
      rw [e]
      obtain ⟨r1, w1, he, rfl, H1, hF1⟩ := ih (v + 1) V w (by omega) HS H HA
      repeat (first | refine mi_s1 (fun _ => rfl) ?_ | refine mi_wgf rfl (by assumption) rfl ?_ | refine mi_wal rfl (by assumption) rfl (by omega) (by decide) ?_)
      rw [show nI v + nI 1 = nI (v + 1) from nI_1 v]
      refine mi_wcv rfl rfl (Nat.le_of_ble_eq_true rfl) h0 rfl (he) ?_
      refine mi_wrz rfl rfl (jb_fit _) ?_
      exact ⟨rfl, H1, hF1⟩
    show mi_Ex X ((4 + n) + 1) k_Se_canHold _ w _
    refine mi_Ex.of (M := m_Se_canHold) rfl (Nat.le_of_ble_eq_true rfl) ?_
    repeat (first | refine mi_s1 (fun _ => rfl) ?_ | refine mi_wgf rfl (by assumption) rfl ?_ | refine mi_wal rfl (by assumption) rfl (by omega) (by decide) ?_)
    refine mi_wif (fun _ => ?_) (fun z => absurd (nI_lt (a := v) (b := 4) (by omega) (by omega)) z)
    repeat (first | refine mi_s1 (fun _ => rfl) ?_ | refine mi_wgf rfl (by assumption) rfl ?_ | refine mi_wal rfl (by assumption) rfl (by omega) (by decide) ?_)
    rw [hf v (by omega)]
    repeat (first | refine mi_s1 (fun _ => rfl) ?_ | refine mi_wgf rfl (by assumption) rfl ?_ | refine mi_wal rfl (by assumption) rfl (by omega) (by decide) ?_)
    refine mi_wif (fun z => ?_) (fun z => ?_)
    · have z : V v = none := (enc_m1 (fun x hx => hb v x (by omega) hx)).mp z
      repeat (first | refine mi_s1 (fun _ => rfl) ?_ | refine mi_wgf rfl (by assumption) rfl ?_ | refine mi_wal rfl (by assumption) rfl (by omega) (by decide) ?_)
      refine mi_wcv rfl rfl (Nat.le_of_ble_eq_true rfl) a0 rfl ((ev_hasVariable HA (by omega)).up (by omega)) ?_
      repeat (first | refine mi_s1 (fun _ => rfl) ?_ | refine mi_wgf rfl (by assumption) rfl ?_ | refine mi_wal rfl (by assumption) rfl (by omega) (by decide) ?_)
      refine mi_wif (fun z2 => ?_) (fun z2 => ?_)
      · have z2 : inB as v = false := by simpa using jb_0.mp z2
        exact nxt (if_pos (Or.inr z2))
      · have z2 : inB as v = true := Decidable.not_not.mp (fun q => z2 (jb_0.mpr q))
        repeat (first | refine mi_s1 (fun _ => rfl) ?_ | refine mi_wgf rfl (by assumption) rfl ?_ | refine mi_wal rfl (by assumption) rfl (by omega) (by decide) ?_)
        obtain ⟨al, he, hal⟩ := ev_allowedValues (X := X) HS H HA (v := v) (by omega)
        refine mi_wcv rfl rfl (Nat.le_of_ble_eq_true rfl) h0 rfl (he.up (by omega)) ?_
        refine mi_s1 (fun _ => rfl) ?_; refine mi_s1 (fun _ => rfl) ?_; refine mi_s1 (fun _ => rfl) ?_; refine mi_s1 (fun _ => rfl) ?_; refine mi_s1 (fun _ => rfl) ?_
        -- the loop
        have ec : ch F as (n + 1) v V = (List.range 24).any (fun x => alV F V as v x && ch F as n (v + 1) (updS V v (some x))) := if_neg (by
          rintro (q | q)
          · exact q z
          · rw [z2] at q
            cases q)
        have fin : ∀ (w1 : mi_H) (oo : Option Nat) (b : Bool) (m : Nat), Se w1 (updS V v oo) → mi_Fg w w1 24 25 → (List.range 24).any (fun x => alV F V as v x && ch F as n (v + 1) (updS V v (some x))) = b → mi_wp X mi_P (4 + n) m_Se_canHold (99, [some (.ref 23), some (.ref o), some (.int (nI v)), some (.int al), some (.int (jb (b = true))), some (.int (nI m))], [], w1) (fun r w1 => r = some (.int (jb (ch F as (n + 1) v V = true))) ∧ Se w1 V ∧ mi_Fg w w1 24 25) := by
          intro w1 oo b m H1 hF1 hbb
          obtain ⟨k0, ⟨f1, k1, kf1⟩, kb⟩ := id H1
          repeat (first | refine mi_s1 (fun _ => rfl) ?_ | refine mi_wgf rfl (by assumption) rfl ?_ | refine mi_wal rfl (by assumption) rfl (by omega) (by decide) ?_)
          refine mi_wag rfl k1 rfl (by omega) (by decide) (fun w2 k2 hF2 => ?_)
          have H2 := H1.set (o := none) kf1 k2 hF2 (fun x hx => by cases hx)
          rw [updS_back z] at H2
          repeat (first | refine mi_s1 (fun _ => rfl) ?_ | refine mi_wgf rfl (by assumption) rfl ?_ | refine mi_wal rfl (by assumption) rfl (by omega) (by decide) ?_)
          refine mi_wrz rfl rfl (jb_fit _) ?_
          refine ⟨?_, H2, hF1.tr (mi_Fg.of1 hF2 (by omega) (by omega))⟩
          rw [ec, hbb]
        have loop : ∀ f m (w1 : mi_H) (oo : Option Nat), m + f = 24 → Se w1 (updS V v oo) → mi_Fg w w1 24 25 → mi_wp X mi_P (4 + n) m_Se_canHold (47, [some (.ref 23), some (.ref o), some (.int (nI v)), some (.int al), some (.int (jb ((List.range m).any (fun x => alV F V as v x && ch F as n (v + 1) (updS V v (some x))) = true))), some (.int (nI m))], [], w1) (fun r w1 => r = some (.int (jb (ch F as (n + 1) v V = true))) ∧ Se w1 V ∧ mi_Fg w w1 24 25) := by
          intro f
          induction f with
          | zero =>
            intro m w1 oo hm H1 hF1
            have hm : m = 24 := by omega
            subst hm
            refine mi_s1 (fun _ => rfl) ?_; refine mi_s1 (fun _ => rfl) ?_; refine mi_s1 (fun _ => rfl) ?_
            exact fin w1 oo _ 24 H1 hF1 rfl
          | succ f ihf =>
            intro m w1 oo hm H1 hF1
            have hal2 : ∀ x, m ≤ x → x < 24 → alV F V as v x = false → (alV F V as v x && ch F as n (v + 1) (updS V v (some x))) = false := fun x _ _ h => by rw [h]; rfl
            repeat (first | refine mi_s1 (fun _ => rfl) ?_ | refine mi_wgf rfl (by assumption) rfl ?_ | refine mi_wal rfl (by assumption) rfl (by omega) (by decide) ?_)
            refine mi_wif (fun q => absurd q (nI_ge (a := m) (b := 24) (by omega) (by omega))) (fun _ => ?_)
            repeat (first | refine mi_s1 (fun _ => rfl) ?_ | refine mi_wgf rfl (by assumption) rfl ?_ | refine mi_wal rfl (by assumption) rfl (by omega) (by decide) ?_)
            refine mi_wif (fun q1 => ?_) (fun q1 => ?_)
            · have q1 := (bt_ush0 (by omega) al).mp q1
              exact fin w1 oo _ m H1 hF1 (any_to (by omega) (fun x h1 h2 => hal2 x h1 h2 (by rw [← hal x (by omega)]; exact q1 x h1 (by omega))))
            · repeat (first | refine mi_s1 (fun _ => rfl) ?_ | refine mi_wgf rfl (by assumption) rfl ?_ | refine mi_wal rfl (by assumption) rfl (by omega) (by decide) ?_)
              refine mi_wif (fun q2 => ?_) (fun q2 => ?_)
              · have q2 : ¬ (List.range m).any (fun x => alV F V as v x && ch F as n (v + 1) (updS V v (some x))) = true := jb_0.mp q2
                have HS1 : St w1 F := HS.g hF1 (by omega)
                have HA1 : At w1 o as := HA.g hF1 (by omega)
                repeat (first | refine mi_s1 (fun _ => rfl) ?_ | refine mi_wgf rfl (by assumption) rfl ?_ | refine mi_wal rfl (by assumption) rfl (by omega) (by decide) ?_)
                refine mi_wcs rfl (Nat.le_of_ble_eq_true rfl) ⟨Nat.le_of_ble_eq_true rfl, Nat.le_of_ble_eq_true rfl⟩ ((ev_isIn al (n := m) (by omega)).up (by omega)) ?_
                repeat (first | refine mi_s1 (fun _ => rfl) ?_ | refine mi_wgf rfl (by assumption) rfl ?_ | refine mi_wal rfl (by assumption) rfl (by omega) (by decide) ?_)
                refine mi_wif (fun q3 => ?_) (fun q3 => ?_)
                · have q3 : alV F V as v m = false := by
                    rw [← hal m (by omega)]
                    simpa using jb_0.mp q3
                  refine mi_s1 (fun _ => rfl) ?_; refine mi_s1 (fun _ => rfl) ?_
                  rw [show nI m + nI 1 = nI (m + 1) from nI_1 m]
                  have := ihf (m + 1) w1 oo (by omega) H1 hF1
                  rw [any_s, hal2 m (Nat.le_refl m) (by omega) q3, Bool.or_false] at this
                  exact this
                · have q3 : alV F V as v m = true := by
                    rw [← hal m (by omega)]
                    exact Decidable.not_not.mp (fun h => q3 (jb_0.mpr h))
                  obtain ⟨k0, ⟨f1, k1, kf1⟩, kb⟩ := id H1
                  repeat (first | refine mi_s1 (fun _ => rfl) ?_ | refine mi_wgf rfl (by assumption) rfl ?_ | refine mi_wal rfl (by assumption) rfl (by omega) (by decide) ?_)
                  refine mi_wag rfl k1 rfl (by omega) (by decide) (fun w2 k2 hF2 => ?_)
                  have hG2 : mi_Fg w1 w2 24 25 := mi_Fg.of1 hF2 (by omega) (by omega)
                  have H2 := H1.set (o := some m) kf1 k2 hF2 (fun x hx => by cases hx; omega)
                  rw [updS_twice] at H2
                  repeat (first | refine mi_s1 (fun _ => rfl) ?_ | refine mi_wgf rfl (by assumption) rfl ?_ | refine mi_wal rfl (by assumption) rfl (by omega) (by decide) ?_)
                  rw [show nI v + nI 1 = nI (v + 1) from nI_1 v]
                  obtain ⟨r3, w3, he3, rfl, H3, hF3⟩ := ih (v + 1) _ w2 (by omega) (HS1.g hG2 (by omega)) H2 (HA1.g hG2 (by omega))
                  have k0' := hG2.get (by omega) k0
                  refine mi_wcv rfl rfl (Nat.le_of_ble_eq_true rfl) k0' rfl (he3) ?_
                  refine mi_s1 (fun _ => rfl) ?_; refine mi_s1 (fun _ => rfl) ?_; refine mi_s1 (fun _ => rfl) ?_
                  rw [show nI m + nI 1 = nI (m + 1) from nI_1 m]
                  have := ihf (m + 1) w3 (some m) (by omega) H3 ((hF1.tr hG2).tr hF3)
                  have q2' : (List.range m).any (fun x => alV F V as v x && ch F as n (v + 1) (updS V v (some x))) = false := by simpa using q2
                  rw [any_s, q2', q3, Bool.false_or, Bool.true_and] at this
                  exact this
              · have q2 : (List.range m).any (fun x => alV F V as v x && ch F as n (v + 1) (updS V v (some x))) = true := Decidable.not_not.mp (fun h => q2 (jb_0.mpr h))
                rw [q2]
                exact fin w1 oo true m H1 hF1 (any_up (by omega) q2)
        exact loop 24 0 w none rfl (by rw [updS_self z]; exact H) mi_Fg.rf
    · have z : V v ≠ none := fun h => z ((enc_m1 (fun x hx => hb v x (by omega) hx)).mpr h)
      exact nxt (if_pos (Or.inl z))
end Hold
