/-! class MappingChase: its own state, and the calls that build -/
abbrev sp_S : Type := (Nat → Nat → Nat → Bool) × (Nat → sp_R) × Nat × Bool × Bool × Nat
abbrev sp_S.F (S : sp_S) : Nat → Nat → Nat → Bool := S.1
abbrev sp_S.R (S : sp_S) : Nat → sp_R := S.2.1
abbrev sp_S.n (S : sp_S) : Nat := S.2.2.1
abbrev sp_S.hd (S : sp_S) : Bool := S.2.2.2.1
abbrev sp_S.hq (S : sp_S) : Bool := S.2.2.2.2.1
abbrev sp_S.s (S : sp_S) : Nat := S.2.2.2.2.2
def ob (pl : Nat → Nat) (n : Nat) (hd hq : Bool) (s : Nat) : va_E := .inr (0, [.ref 1, .ref 23, .ref 25, .ref 27, .ref 30, .int (nI n), .ref (pl 7), .int (jb (hd = true)), .ref (pl 6), .int (jb (hq = true)), .int (nI s)])
def MB (w : mi_H) (F : Nat → Nat → Nat → Bool) (pl : Nat → Nat) (R : Nat → sp_R) : Prop := St w F ∧ (∃ V, Se w V) ∧ (∃ mp oc tl gu, Fo w mp oc tl gu) ∧ (∃ E S, Gr w E S) ∧ (∃ g : Nat → Option Nat, w[30]? = some (.inl (3, 6, .inr (.inr (.inr (.inr g))))) ∧ ∀ i, i < 6 → g i = some (pl i)) ∧ (∀ i, i < 8 → (∃ j, j < 8 ∧ pl i = 31 + 5 * j) ∧ Ru w (pl i) (R i)) ∧ (∀ i j, i < 8 → j < 8 → pl i = pl j → i = j)
def MC (w : mi_H) (S : sp_S) : Prop := ∃ pl : Nat → Nat, w[0]? = some (ob pl S.n S.hd S.hq S.s) ∧ MB w S.F pl S.R ∧ S.n ≤ 6 ∧ S.s ≤ 4
def updX (R : Nat → sp_R) (i : Nat) (q : sp_R) : Nat → sp_R := fun j => if j = i then q else R j
theorem MB.g0 {w w1 : mi_H} {F : Nat → Nat → Nat → Bool} {pl : Nat → Nat} {R : Nat → sp_R} (H : MB w F pl R) (hF : mi_Fg w w1 0 1) : MB w1 F pl R := by
  obtain ⟨h1, ⟨V, h2⟩, ⟨mp, oc, tl, gu, h3⟩, ⟨E, S, h4⟩, ⟨g, h5, h5'⟩, h6, h7⟩ := H
  refine ⟨?_, ⟨V, h2.g hF (by omega)⟩, ⟨mp, oc, tl, gu, h3.g hF (by omega)⟩, ⟨E, S, h4.g hF (by omega)⟩, ⟨g, hF.get (by omega) h5, h5'⟩, fun i hi => ⟨(h6 i hi).1, ?_⟩, h7⟩
  · obtain ⟨s1, ⟨g, s2, hg⟩, ⟨f3, s3⟩, ⟨f4, s4⟩, s5⟩ := h1
    exact ⟨hF.get (by omega) s1, ⟨g, hF.get (by omega) s2, hg⟩, ⟨f3, hF.get (by omega) s3⟩, ⟨f4, hF.get (by omega) s4⟩, fun i hi => (s5 i hi).g hF (by omega)⟩
  · obtain ⟨⟨j, hj, e⟩, h⟩ := h6 i hi
    exact h.g hF (by omega)
theorem MB.st {w w1 : mi_H} {F F' : Nat → Nat → Nat → Bool} {pl : Nat → Nat} {R : Nat → sp_R} (H : MB w F pl R) (hF : mi_Fg w w1 3 23) (h1 : St w1 F') : MB w1 F' pl R := by
  obtain ⟨-, ⟨V, h2⟩, ⟨mp, oc, tl, gu, h3⟩, ⟨E, S, h4⟩, ⟨g, h5, h5'⟩, h6, h7⟩ := H
  refine ⟨h1, ⟨V, h2.g hF (by omega)⟩, ⟨mp, oc, tl, gu, h3.g hF (by omega)⟩, ⟨E, S, h4.g hF (by omega)⟩, ⟨g, hF.get (by omega) h5, h5'⟩, fun i hi => ⟨(h6 i hi).1, ?_⟩, h7⟩
  obtain ⟨⟨j, hj, e⟩, h⟩ := h6 i hi
  exact h.g hF (by omega)
theorem MB.se {w w1 : mi_H} {F : Nat → Nat → Nat → Bool} {pl : Nat → Nat} {R : Nat → sp_R} (H : MB w F pl R) (hF : mi_Fg w w1 24 25) (h2 : ∃ V, Se w1 V) : MB w1 F pl R := by
  obtain ⟨h1, -, ⟨mp, oc, tl, gu, h3⟩, ⟨E, S, h4⟩, ⟨g, h5, h5'⟩, h6, h7⟩ := H
  refine ⟨h1.g hF (by omega), h2, ⟨mp, oc, tl, gu, h3.g hF (by omega)⟩, ⟨E, S, h4.g hF (by omega)⟩, ⟨g, hF.get (by omega) h5, h5'⟩, fun i hi => ⟨(h6 i hi).1, ?_⟩, h7⟩
  obtain ⟨⟨j, hj, e⟩, h⟩ := h6 i hi
  exact h.g hF (by omega)
theorem MB.fo {w w1 : mi_H} {F : Nat → Nat → Nat → Bool} {pl : Nat → Nat} {R : Nat → sp_R} (H : MB w F pl R) (hF : mi_Fg w w1 25 27) (h3 : ∃ mp oc tl gu, Fo w1 mp oc tl gu) : MB w1 F pl R := by
  obtain ⟨h1, ⟨V, h2⟩, -, ⟨E, S, h4⟩, ⟨g, h5, h5'⟩, h6, h7⟩ := H
  refine ⟨h1.g hF (by omega), ⟨V, h2.g hF (by omega)⟩, h3, ⟨E, S, h4.g hF (by omega)⟩, ⟨g, hF.get (by omega) h5, h5'⟩, fun i hi => ⟨(h6 i hi).1, ?_⟩, h7⟩
  obtain ⟨⟨j, hj, e⟩, h⟩ := h6 i hi
  exact h.g hF (by omega)
theorem MB.gr {w w1 : mi_H} {F : Nat → Nat → Nat → Bool} {pl : Nat → Nat} {R : Nat → sp_R} (H : MB w F pl R) (hF : mi_Fg w w1 28 30) (h4 : ∃ E S, Gr w1 E S) : MB w1 F pl R := by
  obtain ⟨h1, ⟨V, h2⟩, ⟨mp, oc, tl, gu, h3⟩, -, ⟨g, h5, h5'⟩, h6, h7⟩ := H
  refine ⟨h1.g hF (by omega), ⟨V, h2.g hF (by omega)⟩, ⟨mp, oc, tl, gu, h3.g hF (by omega)⟩, h4, ⟨g, hF.get (by omega) h5, h5'⟩, fun i hi => ⟨(h6 i hi).1, ?_⟩, h7⟩
  obtain ⟨⟨j, hj, e⟩, h⟩ := h6 i hi
  exact h.g hF (by omega)
theorem MB.ru {w w1 : mi_H} {F : Nat → Nat → Nat → Bool} {pl : Nat → Nat} {R : Nat → sp_R} {i : Nat} {q : sp_R} (H : MB w F pl R) (hi : i < 8) (hF : mi_Fg w w1 (pl i) (pl i + 5)) (h : Ru w1 (pl i) q) : MB w1 F pl (updX R i q) := by
  obtain ⟨h1, ⟨V, h2⟩, ⟨mp, oc, tl, gu, h3⟩, ⟨E, S, h4⟩, ⟨g, h5, h5'⟩, h6, h7⟩ := H
  obtain ⟨⟨j, hj, e⟩, -⟩ := h6 i hi
  refine ⟨h1.g hF (by omega), ⟨V, h2.g hF (by omega)⟩, ⟨mp, oc, tl, gu, h3.g hF (by omega)⟩, ⟨E, S, h4.g hF (by omega)⟩, ⟨g, hF.get (by omega) h5, h5'⟩, fun k hk => ⟨(h6 k hk).1, ?_⟩, h7⟩
  unfold updX
  by_cases z : k = i
  · rw [if_pos z, z]
    exact h
  · rw [if_neg z]
    obtain ⟨⟨l, hl, e2⟩, hr⟩ := h6 k hk
    have hne : j ≠ l := fun q => z (h7 k i hk hi (by rw [e, e2, q]))
    exact hr.g hF (by omega)
theorem MB.rg {w : mi_H} {F : Nat → Nat → Nat → Bool} {pl : Nat → Nat} {R : Nat → sp_R} {i : Nat} (H : MB w F pl R) (hi : i < 8) : 31 ≤ pl i ∧ pl i + 5 ≤ 71 ∧ Ru w (pl i) (R i) := by
  obtain ⟨⟨j, hj, e⟩, h⟩ := H.2.2.2.2.2.1 i hi
  exact ⟨by omega, by omega, h⟩
/-! what the calls do -/
abbrev inR (x : Int32) (k : Nat) : Prop := 0 ≤ x ∧ x < nI k
abbrev atm (r v u : Int32) : sp_A := (r.toNatClampNeg, v.toNatClampNeg, u.toNatClampNeg)
def op_open (S : sp_S) (x : Int32) : Int32 × sp_S := if inR x 3 then (1, (S.F, updX S.R 7 (x.toNatClampNeg, [], [], none), S.n, true, S.hq, S.s)) else (0, S)
def op_body (S : sp_S) (r v u : Int32) : Int32 × sp_S := if S.hd = true ∧ (S.R 7).2.1.length < 3 ∧ inR r 6 ∧ inR v 4 ∧ inR u 4 then (nI ((S.R 7).2.1.length + 1), (S.F, updX S.R 7 ((S.R 7).1, (S.R 7).2.1 ++ [atm r v u], (S.R 7).2.2), S.n, S.hd, S.hq, S.s)) else (-3, S)
def op_head (S : sp_S) (r v u : Int32) : Int32 × sp_S := if S.hd = true ∧ (S.R 7).1 = 0 ∧ (S.R 7).2.2.1.length < 2 ∧ inR r 6 ∧ inR v 4 ∧ inR u 4 then (nI ((S.R 7).2.2.1.length + 1), (S.F, updX S.R 7 ((S.R 7).1, (S.R 7).2.1, (S.R 7).2.2.1 ++ [atm r v u], (S.R 7).2.2.2), S.n, S.hd, S.hq, S.s)) else (-3, S)
def op_pair (S : sp_S) (v u : Int32) : Int32 × sp_S := if S.hd = true ∧ (S.R 7).1 ≠ 0 ∧ inR v 4 ∧ inR u 4 then (1, (S.F, updX S.R 7 ((S.R 7).1, (S.R 7).2.1, (S.R 7).2.2.1, some (v.toNatClampNeg, u.toNatClampNeg)), S.n, S.hd, S.hq, S.s)) else (0, S)
/-- the draft goes to slot d -/
def swp (R : Nat → sp_R) (d : Nat) : Nat → sp_R := fun j => if j = d then R 7 else if j = 7 then R d else R j
def op_close (S : sp_S) : Int32 × sp_S :=
  if S.hd = true ∧ ((S.R 7).1 = 2 ∨ S.s = 0) then
    (if faultR (S.R 7) ≠ 0 then (faultR (S.R 7), S)
     else if (S.R 7).1 = 2 then (0, (S.F, swp S.R 6, S.n, false, true, S.s))
     else if S.n < 6 then (nI S.n, (S.F, swp S.R S.n, S.n + 1, false, S.hq, S.s))
     else (-8, S))
  else (-3, S)
def op_drop (S : sp_S) : Int32 × sp_S := if S.s = 0 then (nI (S.n - 1), (S.F, S.R, S.n - 1, S.hd, S.hq, S.s)) else (-3, S)
theorem rng_nat {x : Int32} {k : Nat} (hk : k < 2 ^ 31) (h : inR x k) : x = nI x.toNatClampNeg ∧ x.toNatClampNeg < k := by
  obtain ⟨n, hn, e⟩ := (mi_rng hk).mp h
  rw [e, nI_clamp (by omega)]
  exact ⟨rfl, hn⟩
theorem okA_atm {r v u : Int32} (h1 : inR r 6) (h2 : inR v 4) (h3 : inR u 4) : okA (atm r v u) := ⟨(rng_nat (by decide) h1).2, (rng_nat (by decide) h2).2, (rng_nat (by decide) h3).2⟩
theorem sp_eta (q : sp_R) : (q.1, q.2.1, q.2.2.1, q.2.2.2) = q := rfl
section Build
variable {X : mi_X} {w : mi_H} {S : sp_S}
theorem ev_open (H : MC w S) (x : Int32) : mi_Ex X 2 k_MC_opn [.ref 0, .int x] w (fun r w1 => r = some (.int (op_open S x).1) ∧ MC w1 (op_open S x).2 ∧ mi_Fg w w1 0 71) := by
  obtain ⟨pl, h0, HB, hn, hs⟩ := id H
  have go : ∀ k, k < 3 → x = nI k → mi_wp X mi_P 1 m_MC_opn (16, [some (.ref 0), some (.int x)], [], w) (fun r w1 => r = some (.int (op_open S x).1) ∧ MC w1 (op_open S x).2 ∧ mi_Fg w w1 0 71) := by
    intro k hk hx
    have e : op_open S x = (1, (S.F, updX S.R 7 (k, [], [], none), S.n, true, S.hq, S.s)) := by
      have hr : inR x 3 := (mi_rng (by decide)).mpr ⟨k, hk, hx⟩
      unfold op_open
      rw [if_pos hr, hx, nI_clamp (by omega)]
    rw [e, hx]
    obtain ⟨p1, p2, hr⟩ := HB.rg (i := 7) (by decide)
    obtain ⟨r1, w1, he, rfl, H1, hF1⟩ := ev_begin (X := X) hr hk
    obtain ⟨fi, se, k0, -⟩ := id hr
    repeat (first | refine mi_s1 (fun _ => rfl) ?_ | refine mi_wgf rfl (by assumption) rfl ?_ | refine mi_wal rfl (by assumption) rfl (by omega) (by decide) ?_)
    refine mi_wcv rfl rfl (Nat.le_of_ble_eq_true rfl) k0 rfl (he) ?_
    have h0 := hF1.get (by omega) h0
    repeat (first | refine mi_s1 (fun _ => rfl) ?_ | refine mi_wgf rfl (by assumption) rfl ?_ | refine mi_wal rfl (by assumption) rfl (by omega) (by decide) ?_)
    refine mi_wpg rfl h0 (Nat.le_of_ble_eq_true rfl) rfl (fun w2 h0 hF2 => ?_)
    repeat (first | refine mi_s1 (fun _ => rfl) ?_ | refine mi_wgf rfl (by assumption) rfl ?_ | refine mi_wal rfl (by assumption) rfl (by omega) (by decide) ?_)
    refine mi_wrz rfl rfl rfl ?_
    have HB1 := (HB.ru (by decide) hF1 H1).g0 (mi_Fg.of1 hF2 (by omega) (by omega))
    exact ⟨rfl, ⟨pl, h0, HB1, hn, hs⟩, (hF1.wide (by omega) (by omega)).tr (mi_Fg.of1 hF2 (by omega) (by omega))⟩
  refine mi_Ex.of (M := m_MC_opn) rfl (Nat.le_of_ble_eq_true rfl) ?_
  repeat (first | refine mi_s1 (fun _ => rfl) ?_ | refine mi_wgf rfl (by assumption) rfl ?_ | refine mi_wal rfl (by assumption) rfl (by omega) (by decide) ?_)
  refine mi_wif (fun z0 => ?_) (fun z0 => ?_)
  · exact go 0 (by decide) z0
  · repeat (first | refine mi_s1 (fun _ => rfl) ?_ | refine mi_wgf rfl (by assumption) rfl ?_ | refine mi_wal rfl (by assumption) rfl (by omega) (by decide) ?_)
    refine mi_wif (fun z1 => ?_) (fun z1 => ?_)
    · exact go 1 (by decide) z1
    · repeat (first | refine mi_s1 (fun _ => rfl) ?_ | refine mi_wgf rfl (by assumption) rfl ?_ | refine mi_wal rfl (by assumption) rfl (by omega) (by decide) ?_)
      refine mi_wif (fun z2 => ?_) (fun z2 => ?_)
      · exact go 2 (by decide) z2
      · repeat (first | refine mi_s1 (fun _ => rfl) ?_ | refine mi_wgf rfl (by assumption) rfl ?_ | refine mi_wal rfl (by assumption) rfl (by omega) (by decide) ?_)
        refine mi_wrz rfl rfl rfl ?_
        have e : op_open S x = (0, S) := if_neg (fun h => by
          obtain ⟨k, hk, e⟩ := (mi_rng (by decide)).mp h
          have : k = 0 ∨ k = 1 ∨ k = 2 := by omega
          rcases this with rfl | rfl | rfl
          · exact z0 e
          · exact z1 e
          · exact z2 e)
        rw [e]
        exact ⟨rfl, H, mi_Fg.rf⟩
theorem ev_body (H : MC w S) (r v u : Int32) : mi_Ex X 3 k_MC_body [.ref 0, .int r, .int v, .int u] w (fun q w1 => q = some (.int (op_body S r v u).1) ∧ MC w1 (op_body S r v u).2 ∧ mi_Fg w w1 0 71) := by
  obtain ⟨pl, h0, HB, hn, hs⟩ := id H
  obtain ⟨p1, p2, hr⟩ := HB.rg (i := 7) (by decide)
  obtain ⟨fi, se, k0, hA, hA2, hk, hh, hp⟩ := id hr
  obtain ⟨f1, k1, k2, hl, -⟩ := id hA
  have bad : ¬ (S.hd = true ∧ (S.R 7).2.1.length < 3 ∧ inR r 6 ∧ inR v 4 ∧ inR u 4) → mi_wp X mi_P 2 m_MC_body (30, [some (.ref 0), some (.int r), some (.int v), some (.int u)], [], w) (fun q w1 => q = some (.int (op_body S r v u).1) ∧ MC w1 (op_body S r v u).2 ∧ mi_Fg w w1 0 71) := by
    intro h
    have e : op_body S r v u = (-3, S) := if_neg h
    rw [e]
    repeat (first | refine mi_s1 (fun _ => rfl) ?_ | refine mi_wgf rfl (by assumption) rfl ?_ | refine mi_wal rfl (by assumption) rfl (by omega) (by decide) ?_)
    refine mi_r1 (fun _ => rfl) ?_
    exact ⟨rfl, H, mi_Fg.rf⟩
  refine mi_Ex.of (M := m_MC_body) rfl (Nat.le_of_ble_eq_true rfl) ?_
  repeat (first | refine mi_s1 (fun _ => rfl) ?_ | refine mi_wgf rfl (by assumption) rfl ?_ | refine mi_wal rfl (by assumption) rfl (by omega) (by decide) ?_)
  refine mi_wif (fun z0 => ?_) (fun z0 => ?_)
  · exact bad (fun q => jb_0.mp z0 q.1)
  · repeat (first | refine mi_s1 (fun _ => rfl) ?_ | refine mi_wgf rfl (by assumption) rfl ?_ | refine mi_wal rfl (by assumption) rfl (by omega) (by decide) ?_)
    refine mi_wif (fun z1 => ?_) (fun z1 => ?_)
    · exact bad (fun q => nI_ge q.2.1 (by omega) z1)
    · repeat (first | refine mi_s1 (fun _ => rfl) ?_ | refine mi_wgf rfl (by assumption) rfl ?_ | refine mi_wal rfl (by assumption) rfl (by omega) (by decide) ?_)
      refine mi_wcs rfl (Nat.le_of_ble_eq_true rfl) ⟨Nat.le_of_ble_eq_true rfl, Nat.le_of_ble_eq_true rfl⟩ (ev_isAtom r v u) ?_
      repeat (first | refine mi_s1 (fun _ => rfl) ?_ | refine mi_wgf rfl (by assumption) rfl ?_ | refine mi_wal rfl (by assumption) rfl (by omega) (by decide) ?_)
      refine mi_wif (fun z2 => ?_) (fun z2 => ?_)
      · exact bad (fun q => jb_0.mp z2 q.2.2)
      · have z2 := Decidable.not_not.mp (fun q => z2 (jb_0.mpr q))
        have z0 := Decidable.not_not.mp (fun q => z0 (jb_0.mpr q))
        have hl3 : (S.R 7).2.1.length < 3 := by
          rcases Nat.lt_or_ge (S.R 7).2.1.length 3 with q | q
          · exact q
          · exact absurd (nI_le q (by omega)) z1
        have e : op_body S r v u = (nI ((S.R 7).2.1.length + 1), (S.F, updX S.R 7 ((S.R 7).1, (S.R 7).2.1 ++ [atm r v u], (S.R 7).2.2), S.n, S.hd, S.hq, S.s)) := if_pos ⟨z0, hl3, z2⟩
        rw [e]
        obtain ⟨q1, w1, he, rfl, H1, hF1⟩ := ev_atAdd (X := X) hA hl3 (okA_atm z2.1 z2.2.1 z2.2.2)
        have he : mi_Ev X mi_P 1 k_At_add [.ref (pl 7 + 1), .int r, .int v, .int u] w (some (.int (nI ((S.R 7).2.1.length + 1)))) w1 := by
          rw [(rng_nat (by decide) z2.1).1, (rng_nat (by decide) z2.2.1).1, (rng_nat (by decide) z2.2.2).1]
          exact he
        repeat (first | refine mi_s1 (fun _ => rfl) ?_ | refine mi_wgf rfl (by assumption) rfl ?_ | refine mi_wal rfl (by assumption) rfl (by omega) (by decide) ?_)
        refine mi_wcv rfl rfl (Nat.le_of_ble_eq_true rfl) k1 rfl (he.up (by decide)) ?_
        refine mi_r1 (fun _ => rfl) ?_
        have hG : mi_Fg w w1 (pl 7 + 1) (pl 7 + 3) := mi_Fg.of hF1 (fun o ho => by
          simp only [List.mem_cons, List.not_mem_nil, or_false] at ho
          omega)
        have h0 := hG.get (by omega) h0
        refine ⟨rfl, ⟨pl, h0, HB.ru (by decide) (hG.wide (by omega) (by omega)) ⟨fi, se, hG.get (by omega) k0, H1, hA2.g hG (by omega), hk, hh, hp⟩, hn, hs⟩, hG.wide (by omega) (by omega)⟩
theorem ev_head (H : MC w S) (r v u : Int32) : mi_Ex X 3 k_MC_head [.ref 0, .int r, .int v, .int u] w (fun q w1 => q = some (.int (op_head S r v u).1) ∧ MC w1 (op_head S r v u).2 ∧ mi_Fg w w1 0 71) := by
  obtain ⟨pl, h0, HB, hn, hs⟩ := id H
  obtain ⟨p1, p2, hr⟩ := HB.rg (i := 7) (by decide)
  obtain ⟨fi, se, k0, hA2, hA, hk, hh, hp⟩ := id hr
  obtain ⟨f1, k1, k2, hl, -⟩ := id hA
  have bad : ∀ pc, pc = 31 ∨ pc = 43 → ¬ (S.hd = true ∧ (S.R 7).1 = 0 ∧ (S.R 7).2.2.1.length < 2 ∧ inR r 6 ∧ inR v 4 ∧ inR u 4) → mi_wp X mi_P 2 m_MC_head (pc, [some (.ref 0), some (.int r), some (.int v), some (.int u)], [], w) (fun q w1 => q = some (.int (op_head S r v u).1) ∧ MC w1 (op_head S r v u).2 ∧ mi_Fg w w1 0 71) := by
    intro pc hpc h
    have e : op_head S r v u = (-3, S) := if_neg h
    rw [e]
    rcases hpc with rfl | rfl
    · repeat (first | refine mi_s1 (fun _ => rfl) ?_ | refine mi_wgf rfl (by assumption) rfl ?_ | refine mi_wal rfl (by assumption) rfl (by omega) (by decide) ?_)
      refine mi_r1 (fun _ => rfl) ?_
      exact ⟨rfl, H, mi_Fg.rf⟩
    · repeat (first | refine mi_s1 (fun _ => rfl) ?_ | refine mi_wgf rfl (by assumption) rfl ?_ | refine mi_wal rfl (by assumption) rfl (by omega) (by decide) ?_)
      refine mi_r1 (fun _ => rfl) ?_
      exact ⟨rfl, H, mi_Fg.rf⟩
  refine mi_Ex.of (M := m_MC_head) rfl (Nat.le_of_ble_eq_true rfl) ?_
  repeat (first | refine mi_s1 (fun _ => rfl) ?_ | refine mi_wgf rfl (by assumption) rfl ?_ | refine mi_wal rfl (by assumption) rfl (by omega) (by decide) ?_)
  refine mi_wif (fun z0 => ?_) (fun z0 => ?_)
  · exact bad 31 (Or.inl rfl) (fun q => jb_0.mp z0 q.1)
  · repeat (first | refine mi_s1 (fun _ => rfl) ?_ | refine mi_wgf rfl (by assumption) rfl ?_ | refine mi_wal rfl (by assumption) rfl (by omega) (by decide) ?_)
    refine mi_wif (fun zk => ?_) (fun zk => ?_)
    · repeat (first | refine mi_s1 (fun _ => rfl) ?_ | refine mi_wgf rfl (by assumption) rfl ?_ | refine mi_wal rfl (by assumption) rfl (by omega) (by decide) ?_)
      refine mi_wif (fun z1 => ?_) (fun z1 => ?_)
      · have hl3 : (S.R 7).2.2.1.length < 2 := (nI_ltI (by omega) (by decide)).mp z1
        repeat (first | refine mi_s1 (fun _ => rfl) ?_ | refine mi_wgf rfl (by assumption) rfl ?_ | refine mi_wal rfl (by assumption) rfl (by omega) (by decide) ?_)
        refine mi_wcs rfl (Nat.le_of_ble_eq_true rfl) ⟨Nat.le_of_ble_eq_true rfl, Nat.le_of_ble_eq_true rfl⟩ (ev_isAtom r v u) ?_
        repeat (first | refine mi_s1 (fun _ => rfl) ?_ | refine mi_wgf rfl (by assumption) rfl ?_ | refine mi_wal rfl (by assumption) rfl (by omega) (by decide) ?_)
        refine mi_wif (fun z2 => ?_) (fun z2 => ?_)
        · exact bad 43 (Or.inr rfl) (fun q => jb_0.mp z2 q.2.2.2)
        · have z2 := Decidable.not_not.mp (fun q => z2 (jb_0.mpr q))
          have z0 := Decidable.not_not.mp (fun q => z0 (jb_0.mpr q))
          have e : op_head S r v u = (nI ((S.R 7).2.2.1.length + 1), (S.F, updX S.R 7 ((S.R 7).1, (S.R 7).2.1, (S.R 7).2.2.1 ++ [atm r v u], (S.R 7).2.2.2), S.n, S.hd, S.hq, S.s)) := if_pos ⟨z0, (nI_z (by omega)).mp zk, hl3, z2⟩
          rw [e]
          obtain ⟨q1, w1, he, rfl, H1, hF1⟩ := ev_atAdd (X := X) hA (by omega) (okA_atm z2.1 z2.2.1 z2.2.2)
          have he : mi_Ev X mi_P 1 k_At_add [.ref (pl 7 + 3), .int r, .int v, .int u] w (some (.int (nI ((S.R 7).2.2.1.length + 1)))) w1 := by
            rw [(rng_nat (by decide) z2.1).1, (rng_nat (by decide) z2.2.1).1, (rng_nat (by decide) z2.2.2).1]
            exact he
          repeat (first | refine mi_s1 (fun _ => rfl) ?_ | refine mi_wgf rfl (by assumption) rfl ?_ | refine mi_wal rfl (by assumption) rfl (by omega) (by decide) ?_)
          refine mi_wcv rfl rfl (Nat.le_of_ble_eq_true rfl) k1 rfl (he.up (by decide)) ?_
          refine mi_r1 (fun _ => rfl) ?_
          have hG : mi_Fg w w1 (pl 7 + 3) (pl 7 + 5) := mi_Fg.of hF1 (fun o ho => by
            simp only [List.mem_cons, List.not_mem_nil, or_false] at ho
            omega)
          have h0 := hG.get (by omega) h0
          refine ⟨rfl, ⟨pl, h0, HB.ru (by decide) (hG.wide (by omega) (by omega)) ⟨fi, se, hG.get (by omega) k0, hA2.g hG (by omega), H1, hk, ?_, hp⟩, hn, hs⟩, hG.wide (by omega) (by omega)⟩
          rw [List.length_append]
          simp
          omega
      · exact bad 31 (Or.inl rfl) (fun q => z1 (nI_lt q.2.2.1 (by omega)))
    · exact bad 31 (Or.inl rfl) (fun q => zk (by rw [q.2.1]; rfl))
theorem ev_pair (H : MC w S) (v u : Int32) : mi_Ex X 2 k_MC_pair [.ref 0, .int v, .int u] w (fun q w1 => q = some (.int (op_pair S v u).1) ∧ MC w1 (op_pair S v u).2 ∧ mi_Fg w w1 0 71) := by
  obtain ⟨pl, h0, HB, hn, hs⟩ := id H
  obtain ⟨p1, p2, hr⟩ := HB.rg (i := 7) (by decide)
  obtain ⟨fi, se, k0, hA2, hA, hk, hh, hp⟩ := id hr
  have bad : ¬ (S.hd = true ∧ (S.R 7).1 ≠ 0 ∧ inR v 4 ∧ inR u 4) → mi_wp X mi_P 1 m_MC_pair (31, [some (.ref 0), some (.int v), some (.int u)], [], w) (fun q w1 => q = some (.int (op_pair S v u).1) ∧ MC w1 (op_pair S v u).2 ∧ mi_Fg w w1 0 71) := by
    intro h
    have e : op_pair S v u = (0, S) := if_neg h
    rw [e]
    repeat (first | refine mi_s1 (fun _ => rfl) ?_ | refine mi_wgf rfl (by assumption) rfl ?_ | refine mi_wal rfl (by assumption) rfl (by omega) (by decide) ?_)
    refine mi_wrz rfl rfl rfl ?_
    exact ⟨rfl, H, mi_Fg.rf⟩
  refine mi_Ex.of (M := m_MC_pair) rfl (Nat.le_of_ble_eq_true rfl) ?_
  repeat (first | refine mi_s1 (fun _ => rfl) ?_ | refine mi_wgf rfl (by assumption) rfl ?_ | refine mi_wal rfl (by assumption) rfl (by omega) (by decide) ?_)
  refine mi_wif (fun z0 => ?_) (fun z0 => ?_)
  · exact bad (fun q => jb_0.mp z0 q.1)
  · repeat (first | refine mi_s1 (fun _ => rfl) ?_ | refine mi_wgf rfl (by assumption) rfl ?_ | refine mi_wal rfl (by assumption) rfl (by omega) (by decide) ?_)
    refine mi_wif (fun zk => ?_) (fun zk => ?_)
    · exact bad (fun q => q.2.1 ((nI_z (by omega)).mp zk))
    · repeat (first | refine mi_s1 (fun _ => rfl) ?_ | refine mi_wgf rfl (by assumption) rfl ?_ | refine mi_wal rfl (by assumption) rfl (by omega) (by decide) ?_)
      refine mi_wcs rfl (Nat.le_of_ble_eq_true rfl) ⟨Nat.le_of_ble_eq_true rfl, Nat.le_of_ble_eq_true rfl⟩ (ev_isVariable v) ?_
      repeat (first | refine mi_s1 (fun _ => rfl) ?_ | refine mi_wgf rfl (by assumption) rfl ?_ | refine mi_wal rfl (by assumption) rfl (by omega) (by decide) ?_)
      refine mi_wif (fun z1 => ?_) (fun z1 => ?_)
      · exact bad (fun q => jb_0.mp z1 q.2.2.1)
      · repeat (first | refine mi_s1 (fun _ => rfl) ?_ | refine mi_wgf rfl (by assumption) rfl ?_ | refine mi_wal rfl (by assumption) rfl (by omega) (by decide) ?_)
        refine mi_wcs rfl (Nat.le_of_ble_eq_true rfl) ⟨Nat.le_of_ble_eq_true rfl, Nat.le_of_ble_eq_true rfl⟩ (ev_isVariable u) ?_
        repeat (first | refine mi_s1 (fun _ => rfl) ?_ | refine mi_wgf rfl (by assumption) rfl ?_ | refine mi_wal rfl (by assumption) rfl (by omega) (by decide) ?_)
        refine mi_wif (fun z2 => ?_) (fun z2 => ?_)
        · exact bad (fun q => jb_0.mp z2 q.2.2.2)
        · have z1 := Decidable.not_not.mp (fun q => z1 (jb_0.mpr q))
          have z2 := Decidable.not_not.mp (fun q => z2 (jb_0.mpr q))
          have z0 := Decidable.not_not.mp (fun q => z0 (jb_0.mpr q))
          have e : op_pair S v u = (1, (S.F, updX S.R 7 ((S.R 7).1, (S.R 7).2.1, (S.R 7).2.2.1, some (v.toNatClampNeg, u.toNatClampNeg)), S.n, S.hd, S.hq, S.s)) := if_pos ⟨z0, fun q => zk (by rw [q]; rfl), z1, z2⟩
          rw [e]
          obtain ⟨q1, w1, he, rfl, H1, hF1⟩ := ev_setPair (X := X) hr (rng_nat (by decide) z1).2 (rng_nat (by decide) z2).2
          have he : mi_Ev X mi_P 1 k_Ru_setPair [.ref (pl 7), .int v, .int u] w none w1 := by
            rw [(rng_nat (by decide) z1).1, (rng_nat (by decide) z2).1]
            exact he
          repeat (first | refine mi_s1 (fun _ => rfl) ?_ | refine mi_wgf rfl (by assumption) rfl ?_ | refine mi_wal rfl (by assumption) rfl (by omega) (by decide) ?_)
          refine mi_wcv rfl rfl (Nat.le_of_ble_eq_true rfl) k0 rfl (he) ?_
          repeat (first | refine mi_s1 (fun _ => rfl) ?_ | refine mi_wgf rfl (by assumption) rfl ?_ | refine mi_wal rfl (by assumption) rfl (by omega) (by decide) ?_)
          refine mi_wrz rfl rfl rfl ?_
          exact ⟨rfl, ⟨pl, hF1.get (by omega) h0, HB.ru (by decide) hF1 H1, hn, hs⟩, hF1.wide (by omega) (by omega)⟩
/-- the places change as the rules do -/
def swl (pl : Nat → Nat) (d : Nat) : Nat → Nat := fun j => if j = d then pl 7 else if j = 7 then pl d else pl j
theorem swl_cases (pl : Nat → Nat) (d j : Nat) : (j = d ∧ swl pl d j = pl 7) ∨ (j ≠ d ∧ j = 7 ∧ swl pl d j = pl d) ∨ (j ≠ d ∧ j ≠ 7 ∧ swl pl d j = pl j) := by
  unfold swl
  by_cases h : j = d
  · exact Or.inl ⟨h, if_pos h⟩
  · by_cases h2 : j = 7
    · exact Or.inr (Or.inl ⟨h, h2, by rw [if_neg h, if_pos h2]⟩)
    · exact Or.inr (Or.inr ⟨h, h2, by rw [if_neg h, if_neg h2]⟩)
theorem MB.sw {w w1 : mi_H} {F : Nat → Nat → Nat → Bool} {pl : Nat → Nat} {R : Nat → sp_R} {d : Nat} {g : Nat → Option Nat} (H : MB w F pl R) (hd : d < 7) (hF : mi_Fg w w1 30 31) (hg : w1[30]? = some (.inl (3, 6, .inr (.inr (.inr (.inr g)))))) (hg2 : ∀ i, i < 6 → g i = some (swl pl d i)) : MB w1 F (swl pl d) (swp R d) := by
  obtain ⟨h1, ⟨V, h2⟩, ⟨mp, oc, tl, gu, h3⟩, ⟨E, S, h4⟩, -, h6, h7⟩ := H
  refine ⟨h1.g hF (by omega), ⟨V, h2.g hF (by omega)⟩, ⟨mp, oc, tl, gu, h3.g hF (by omega)⟩, ⟨E, S, h4.g hF (by omega)⟩, ⟨g, hg, hg2⟩, fun i hi => ?_, fun i j hi hj hij => ?_⟩
  · unfold swp swl
    by_cases z : i = d
    · rw [if_pos z, if_pos z]
      obtain ⟨⟨j, hj, e⟩, h⟩ := h6 7 (by decide)
      exact ⟨⟨j, hj, e⟩, h.g hF (by omega)⟩
    · rw [if_neg z, if_neg z]
      by_cases z2 : i = 7
      · rw [if_pos z2, if_pos z2]
        obtain ⟨⟨j, hj, e⟩, h⟩ := h6 d (by omega)
        exact ⟨⟨j, hj, e⟩, h.g hF (by omega)⟩
      · rw [if_neg z2, if_neg z2]
        obtain ⟨⟨j, hj, e⟩, h⟩ := h6 i hi
        exact ⟨⟨j, hj, e⟩, h.g hF (by omega)⟩
  · have a7 := h7 i 7 hi (by decide)
    have b7 := h7 7 j (by decide) hj
    have ad := h7 i d hi (by omega)
    have bd := h7 d j (by omega) hj
    have ij := h7 i j hi hj
    have d7 := h7 d 7 (by omega) (by omega)
    have d8 := h7 7 d (by omega) (by omega)
    rcases swl_cases pl d i with ⟨e1, e2⟩ | ⟨e1, e1', e2⟩ | ⟨e1, e1', e2⟩ <;> rcases swl_cases pl d j with ⟨e3, e4⟩ | ⟨e3, e3', e4⟩ | ⟨e3, e3', e4⟩ <;> rw [e2, e4] at hij <;> omega
theorem ev_keepQuery (H : MC w S) : mi_Ex X 1 k_MC_keepQuery [.ref 0] w (fun q w1 => q = none ∧ MC w1 (S.F, swp S.R 6, S.n, false, true, S.s) ∧ mi_Fg w w1 0 71) := by
  obtain ⟨pl, h0, HB, hn, hs⟩ := id H
  have hFr : mi_Fr w w [0] := mi_Fr.rf
  refine mi_Ex.of (M := m_MC_keepQuery) rfl (Nat.le_of_ble_eq_true rfl) ?_
  unfold ob at h0
  have w0 := w
  repeat (first | refine mi_s1 (fun _ => rfl) ?_ | refine mi_wgf rfl (by assumption) rfl ?_ | refine mi_wal rfl (by assumption) rfl (by omega) (by decide) ?_)
  refine mi_wpg rfl h0 (Nat.le_of_ble_eq_true rfl) rfl (fun w h0 hF => ?_)
  dsimp only [List.set] at h0
  have hFr := hFr.tr (hF.mono (by simp))
  repeat (first | refine mi_s1 (fun _ => rfl) ?_ | refine mi_wgf rfl (by assumption) rfl ?_ | refine mi_wal rfl (by assumption) rfl (by omega) (by decide) ?_)
  refine mi_wpg rfl h0 (Nat.le_of_ble_eq_true rfl) rfl (fun w h0 hF => ?_)
  dsimp only [List.set] at h0
  have hFr := hFr.tr (hF.mono (by simp))
  repeat (first | refine mi_s1 (fun _ => rfl) ?_ | refine mi_wgf rfl (by assumption) rfl ?_ | refine mi_wal rfl (by assumption) rfl (by omega) (by decide) ?_)
  refine mi_wpg rfl h0 (Nat.le_of_ble_eq_true rfl) rfl (fun w h0 hF => ?_)
  dsimp only [List.set] at h0
  have hFr := hFr.tr (hF.mono (by simp))
  repeat (first | refine mi_s1 (fun _ => rfl) ?_ | refine mi_wgf rfl (by assumption) rfl ?_ | refine mi_wal rfl (by assumption) rfl (by omega) (by decide) ?_)
  refine mi_wpg rfl h0 (Nat.le_of_ble_eq_true rfl) rfl (fun w h0 hF => ?_)
  dsimp only [List.set] at h0
  have hFr := hFr.tr (hF.mono (by simp))
  refine mi_r1 (fun _ => rfl) ?_
  have hG := mi_Fg.of1 (lo := 0) (hi := 1) hFr (by omega) (by omega)
  have HB1 := HB.g0 hG
  obtain ⟨g, k1, k2⟩ := HB1.2.2.2.2.1
  refine ⟨rfl, ⟨swl pl 6, h0, HB1.sw (by decide) mi_Fg.rf k1 (fun i hi => ?_), hn, hs⟩, hG.wide (by omega) (by omega)⟩
  rw [k2 i hi]
  unfold swl
  rw [if_neg (by omega), if_neg (by omega)]
theorem ev_keepDependency (H : MC w S) (hn6 : S.n < 6) : mi_Ex X 1 k_MC_keepDependency [.ref 0] w (fun q w1 => q = some (.int (nI S.n)) ∧ MC w1 (S.F, swp S.R S.n, S.n + 1, false, S.hq, S.s) ∧ mi_Fg w w1 0 71) := by
  obtain ⟨pl, h0, HB, hn, hs⟩ := id H
  obtain ⟨g, k1, k2⟩ := HB.2.2.2.2.1
  obtain ⟨p1, p2, hr⟩ := HB.rg (i := 7) (by decide)
  obtain ⟨fi, se, k0, -⟩ := id hr
  refine mi_Ex.of (M := m_MC_keepDependency) rfl (Nat.le_of_ble_eq_true rfl) ?_
  unfold ob at h0
  repeat (first | refine mi_s1 (fun _ => rfl) ?_ | refine mi_wgf rfl (by assumption) rfl ?_ | refine mi_wal rfl (by assumption) rfl (by omega) (by decide) ?_)
  refine mi_waa rfl k1 ⟨by decide, by decide⟩ rfl (by omega) (by decide) ?_
  rw [k2 S.n hn6]
  repeat (first | refine mi_s1 (fun _ => rfl) ?_ | refine mi_wgf rfl (by assumption) rfl ?_ | refine mi_wal rfl (by assumption) rfl (by omega) (by decide) ?_)
  refine mi_waas (i := S.n) rfl k1 k0 ⟨by decide, by decide, rfl⟩ rfl (by omega) (by decide) ?_
  have hF1 : mi_Fg w (w.set 30 (.inl (3, 6, .inr (.inr (.inr (.inr (va_up g S.n (some (pl 7))))))))) 30 31 := mi_Fg.of1 (mi_Fr.one) (by omega) (by omega)
  have HB1 := HB.sw (d := S.n) (g := va_up g S.n (some (pl 7))) (by omega) hF1 (mi_gs k1) (fun i hi => by
    unfold swl va_up
    by_cases z : i = S.n
    · rw [if_pos z, if_pos z]
    · rw [if_neg z, if_neg z, if_neg (by omega)]
      exact k2 i hi)
  have h0 := hF1.get (by omega) h0
  generalize w.set 30 (.inl (3, 6, .inr (.inr (.inr (.inr (va_up g S.n (some (pl 7)))))))) = w1 at hF1 HB1 h0 ⊢
  have hFr : mi_Fr w1 w1 [0] := mi_Fr.rf
  have w := w1
  repeat (first | refine mi_s1 (fun _ => rfl) ?_ | refine mi_wgf rfl (by assumption) rfl ?_ | refine mi_wal rfl (by assumption) rfl (by omega) (by decide) ?_)
  refine mi_wpg rfl h0 (Nat.le_of_ble_eq_true rfl) rfl (fun w2 h0 hF2 => ?_)
  dsimp only [List.set] at h0
  repeat (first | refine mi_s1 (fun _ => rfl) ?_ | refine mi_wgf rfl (by assumption) rfl ?_ | refine mi_wal rfl (by assumption) rfl (by omega) (by decide) ?_)
  refine mi_wpg rfl h0 (Nat.le_of_ble_eq_true rfl) rfl (fun w3 h0 hF3 => ?_)
  dsimp only [List.set] at h0
  repeat (first | refine mi_s1 (fun _ => rfl) ?_ | refine mi_wgf rfl (by assumption) rfl ?_ | refine mi_wal rfl (by assumption) rfl (by omega) (by decide) ?_)
  refine mi_wpg rfl h0 (Nat.le_of_ble_eq_true rfl) rfl (fun w4 h0 hF4 => ?_)
  dsimp only [List.set] at h0
  repeat (first | refine mi_s1 (fun _ => rfl) ?_ | refine mi_wgf rfl (by assumption) rfl ?_ | refine mi_wal rfl (by assumption) rfl (by omega) (by decide) ?_)
  refine mi_r1 (fun _ => rfl) ?_
  have hG := mi_Fg.of1 (lo := 0) (hi := 1) ((hF2.tr hF3).tr hF4) (by omega) (by omega)
  have e7 : swl pl S.n 7 = pl S.n := by
    unfold swl
    rw [if_neg (by omega), if_pos rfl]
  have e6 : swl pl S.n 6 = pl 6 := by
    unfold swl
    rw [if_neg (by omega), if_neg (by omega)]
  rw [nI_add] at h0
  refine ⟨rfl, ⟨swl pl S.n, ?_, HB1.g0 hG, hn6, hs⟩, (hF1.wide (by omega) (by omega)).tr (hG.wide (by omega) (by omega))⟩
  unfold ob
  rw [e7, e6]
  exact h0
theorem ev_close (H : MC w S) : mi_Ex X 5 k_MC_close [.ref 0] w (fun q w1 => q = some (.int (op_close S).1) ∧ MC w1 (op_close S).2 ∧ mi_Fg w w1 0 71) := by
  obtain ⟨pl, h0, HB, hn, hs⟩ := id H
  obtain ⟨p1, p2, hr⟩ := HB.rg (i := 7) (by decide)
  obtain ⟨fi, se, k0, hA2, hA, hk, hh, hp⟩ := id hr
  have bad : ∀ L1, ¬ (S.hd = true ∧ ((S.R 7).1 = 2 ∨ S.s = 0)) → mi_wp X mi_P 4 m_MC_close (25, [some (.ref 0), L1], [], w) (fun q w1 => q = some (.int (op_close S).1) ∧ MC w1 (op_close S).2 ∧ mi_Fg w w1 0 71) := by
    intro L1 h
    have e : op_close S = (-3, S) := if_neg h
    rw [e]
    repeat (first | refine mi_s1 (fun _ => rfl) ?_ | refine mi_wgf rfl (by assumption) rfl ?_ | refine mi_wal rfl (by assumption) rfl (by omega) (by decide) ?_)
    refine mi_r1 (fun _ => rfl) ?_
    exact ⟨rfl, H, mi_Fg.rf⟩
  have go : ∀ L1, (S.hd = true ∧ ((S.R 7).1 = 2 ∨ S.s = 0)) → mi_wp X mi_P 4 m_MC_close (28, [some (.ref 0), L1], [], w) (fun q w1 => q = some (.int (op_close S).1) ∧ MC w1 (op_close S).2 ∧ mi_Fg w w1 0 71) := by
    intro L1 h
    have e : op_close S = _ := if_pos h
    rw [e]
    clear e
    repeat (first | refine mi_s1 (fun _ => rfl) ?_ | refine mi_wgf rfl (by assumption) rfl ?_ | refine mi_wal rfl (by assumption) rfl (by omega) (by decide) ?_)
    refine mi_wcv rfl rfl (Nat.le_of_ble_eq_true rfl) k0 rfl (ev_faultInside hr) ?_
    repeat (first | refine mi_s1 (fun _ => rfl) ?_ | refine mi_wgf rfl (by assumption) rfl ?_ | refine mi_wal rfl (by assumption) rfl (by omega) (by decide) ?_)
    refine mi_wif (fun z0 => ?_) (fun z0 => ?_)
    · rw [if_neg (fun q => q z0)]
      repeat (first | refine mi_s1 (fun _ => rfl) ?_ | refine mi_wgf rfl (by assumption) rfl ?_ | refine mi_wal rfl (by assumption) rfl (by omega) (by decide) ?_)
      refine mi_wif (fun z1 => ?_) (fun z1 => ?_)
      · have z1 := (nI_eq (by omega) (by decide)).mp z1
        rw [if_pos z1]
        obtain ⟨r1, w1, he, rfl, H1, hF1⟩ := ev_keepQuery (X := X) H
        repeat (first | refine mi_s1 (fun _ => rfl) ?_ | refine mi_wgf rfl (by assumption) rfl ?_ | refine mi_wal rfl (by assumption) rfl (by omega) (by decide) ?_)
        refine mi_wcv rfl rfl (Nat.le_of_ble_eq_true rfl) h0 rfl (he.up (by decide)) ?_
        repeat (first | refine mi_s1 (fun _ => rfl) ?_ | refine mi_wgf rfl (by assumption) rfl ?_ | refine mi_wal rfl (by assumption) rfl (by omega) (by decide) ?_)
        refine mi_r1 (fun _ => rfl) ?_
        exact ⟨rfl, H1, hF1⟩
      · have z1 : ¬ (S.R 7).1 = 2 := fun q => z1 (by rw [q])
        rw [if_neg z1]
        repeat (first | refine mi_s1 (fun _ => rfl) ?_ | refine mi_wgf rfl (by assumption) rfl ?_ | refine mi_wal rfl (by assumption) rfl (by omega) (by decide) ?_)
        refine mi_wif (fun z2 => ?_) (fun z2 => ?_)
        · have z2 : ¬ S.n < 6 := fun q => nI_ge q (by decide) z2
          rw [if_neg z2]
          repeat (first | refine mi_s1 (fun _ => rfl) ?_ | refine mi_wgf rfl (by assumption) rfl ?_ | refine mi_wal rfl (by assumption) rfl (by omega) (by decide) ?_)
          refine mi_r1 (fun _ => rfl) ?_
          exact ⟨rfl, H, mi_Fg.rf⟩
        · have z2 : S.n < 6 := by
            rcases Nat.lt_or_ge S.n 6 with q | q
            · exact q
            · exact absurd (nI_le q (by omega)) z2
          rw [if_pos z2]
          obtain ⟨r1, w1, he, rfl, H1, hF1⟩ := ev_keepDependency (X := X) H z2
          repeat (first | refine mi_s1 (fun _ => rfl) ?_ | refine mi_wgf rfl (by assumption) rfl ?_ | refine mi_wal rfl (by assumption) rfl (by omega) (by decide) ?_)
          refine mi_wcv rfl rfl (Nat.le_of_ble_eq_true rfl) h0 rfl (he.up (by decide)) ?_
          repeat (first | refine mi_s1 (fun _ => rfl) ?_ | refine mi_wgf rfl (by assumption) rfl ?_ | refine mi_wal rfl (by assumption) rfl (by omega) (by decide) ?_)
          refine mi_r1 (fun _ => rfl) ?_
          exact ⟨rfl, H1, hF1⟩
    · rw [if_pos z0]
      repeat (first | refine mi_s1 (fun _ => rfl) ?_ | refine mi_wgf rfl (by assumption) rfl ?_ | refine mi_wal rfl (by assumption) rfl (by omega) (by decide) ?_)
      refine mi_r1 (fun _ => rfl) ?_
      exact ⟨rfl, H, mi_Fg.rf⟩
  refine mi_Ex.of (M := m_MC_close) rfl (Nat.le_of_ble_eq_true rfl) ?_
  repeat (first | refine mi_s1 (fun _ => rfl) ?_ | refine mi_wgf rfl (by assumption) rfl ?_ | refine mi_wal rfl (by assumption) rfl (by omega) (by decide) ?_)
  refine mi_wif (fun z0 => ?_) (fun z0 => ?_)
  · exact bad _ (fun q => jb_0.mp z0 q.1)
  · have z0 := Decidable.not_not.mp (fun q => z0 (jb_0.mpr q))
    repeat (first | refine mi_s1 (fun _ => rfl) ?_ | refine mi_wgf rfl (by assumption) rfl ?_ | refine mi_wal rfl (by assumption) rfl (by omega) (by decide) ?_)
    refine mi_wif (fun z1 => ?_) (fun z1 => ?_)
    · exact go _ ⟨z0, Or.inl ((nI_eq (by omega) (by decide)).mp z1)⟩
    · have z1 : ¬ (S.R 7).1 = 2 := fun q => z1 (by rw [q])
      repeat (first | refine mi_s1 (fun _ => rfl) ?_ | refine mi_wgf rfl (by assumption) rfl ?_ | refine mi_wal rfl (by assumption) rfl (by omega) (by decide) ?_)
      refine mi_wif (fun z2 => ?_) (fun z2 => ?_)
      · exact go _ ⟨z0, Or.inr ((nI_z (by omega)).mp z2)⟩
      · exact bad _ (fun q => q.2.elim z1 (fun h => z2 (by rw [h]; rfl)))
theorem ev_drop (H : MC w S) : mi_Ex X 1 k_MC_drop [.ref 0] w (fun q w1 => q = some (.int (op_drop S).1) ∧ MC w1 (op_drop S).2 ∧ mi_Fg w w1 0 71) := by
  obtain ⟨pl, h0, HB, hn, hs⟩ := id H
  refine mi_Ex.of (M := m_MC_drop) rfl (Nat.le_of_ble_eq_true rfl) ?_
  unfold ob at h0
  repeat (first | refine mi_s1 (fun _ => rfl) ?_ | refine mi_wgf rfl (by assumption) rfl ?_ | refine mi_wal rfl (by assumption) rfl (by omega) (by decide) ?_)
  refine mi_wif (fun z => ?_) (fun z => ?_)
  · have e : op_drop S = (nI (S.n - 1), (S.F, S.R, S.n - 1, S.hd, S.hq, S.s)) := if_pos ((nI_z (by omega)).mp z)
    rw [e]
    repeat (first | refine mi_s1 (fun _ => rfl) ?_ | refine mi_wgf rfl (by assumption) rfl ?_ | refine mi_wal rfl (by assumption) rfl (by omega) (by decide) ?_)
    refine mi_wif (fun z1 => ?_) (fun z1 => ?_)
    · have z1 : S.n = 0 := by
        rcases Nat.eq_zero_or_pos S.n with q | q
        · exact q
        · exact absurd z1 (nI_nle q (by omega))
      repeat (first | refine mi_s1 (fun _ => rfl) ?_ | refine mi_wgf rfl (by assumption) rfl ?_ | refine mi_wal rfl (by assumption) rfl (by omega) (by decide) ?_)
      refine mi_r1 (fun _ => rfl) ?_
      rw [show S.n - 1 = S.n by omega]
      exact ⟨rfl, H, mi_Fg.rf⟩
    · have z1 : 0 < S.n := by
        rcases Nat.eq_zero_or_pos S.n with q | q
        · exact absurd (by rw [q]; decide) z1
        · exact q
      repeat (first | refine mi_s1 (fun _ => rfl) ?_ | refine mi_wgf rfl (by assumption) rfl ?_ | refine mi_wal rfl (by assumption) rfl (by omega) (by decide) ?_)
      refine mi_wpg rfl h0 (Nat.le_of_ble_eq_true rfl) rfl (fun w2 h0 hF2 => ?_)
      dsimp only [List.set] at h0
      repeat (first | refine mi_s1 (fun _ => rfl) ?_ | refine mi_wgf rfl (by assumption) rfl ?_ | refine mi_wal rfl (by assumption) rfl (by omega) (by decide) ?_)
      refine mi_r1 (fun _ => rfl) ?_
      have e1 : nI S.n - nI 1 = nI (S.n - 1) := pk_sub z1
      rw [e1] at h0
      have hG := mi_Fg.of1 (lo := 0) (hi := 1) hF2 (by omega) (by omega)
      exact ⟨by rw [e1], ⟨pl, h0, HB.g0 hG, by show S.n - 1 ≤ 6; omega, hs⟩, hG.wide (by omega) (by omega)⟩
  · have e : op_drop S = (-3, S) := if_neg (fun q => z (by rw [q]; rfl))
    rw [e]
    repeat (first | refine mi_s1 (fun _ => rfl) ?_ | refine mi_wgf rfl (by assumption) rfl ?_ | refine mi_wal rfl (by assumption) rfl (by omega) (by decide) ?_)
    refine mi_r1 (fun _ => rfl) ?_
    exact ⟨rfl, H, mi_Fg.rf⟩
end Build
