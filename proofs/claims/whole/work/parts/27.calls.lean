/-! class MappingChase: facts, the graph, what is read -/
def op_fact (S : sp_S) (r a b : Int32) : Int32 × sp_S :=
  if S.s = 0 ∧ inR r 2 ∧ inR a 16 ∧ inR b 16 then
    (if S.F r.toNatClampNeg a.toNatClampNeg b.toNatClampNeg = false ∧ 12 ≤ cts S.F 0 2 then (-8, S)
     else (nI (cts (updR S.F r.toNatClampNeg (addF (S.F r.toNatClampNeg) a.toNatClampNeg b.toNatClampNeg)) 0 2), (updR S.F r.toNatClampNeg (addF (S.F r.toNatClampNeg) a.toNatClampNeg b.toNatClampNeg), S.2)))
  else (-3, S)
def op_take (S : sp_S) (r a b : Int32) : Int32 × sp_S :=
  if S.s = 0 ∧ inR r 2 ∧ FI (S.F r.toNatClampNeg) a b = true then (1, (updR S.F r.toNatClampNeg (delF (S.F r.toNatClampNeg) a.toNatClampNeg b.toNatClampNeg), S.2)) else (0, S)
def edE (S : sp_S) (m p q : Nat) : Bool := (List.range m).any (fun i => decide ((S.R i).1 = 0) && egE (S.R i) 4 p q)
def edS (S : sp_S) (m p q : Nat) : Bool := (List.range m).any (fun i => decide ((S.R i).1 = 0) && egS (S.R i) 4 p q)
abbrev acyB (S : sp_S) : Prop := ¬ cyc (wa (edE S S.n) 8) (edS S S.n) = true
def clrT (F : Nat → Nat → Nat → Bool) : Nat → Nat → Nat → Bool := fun i => if 2 ≤ i ∧ i < 6 then fun _ _ => false else F i
def setFs (S : sp_S) (F : Nat → Nat → Nat → Bool) (s : Nat) : sp_S := (F, S.R, S.n, S.hd, S.hq, s)
def op_start (S : sp_S) : Int32 × sp_S := if S.s = 0 then (if acyB S then (0, setFs S (clrT S.F) 1) else (-9, S)) else (-3, S)
def op_reset (S : sp_S) : sp_S := setFs S (clrT S.F) 0
def op_size (S : sp_S) (r : Int32) : Int32 := if inR r 6 then nI (cnt (S.F r.toNatClampNeg)) else -3
def op_at (S : sp_S) (r k : Int32) : Int32 := if inR r 6 ∧ 0 ≤ k ∧ k.toNatClampNeg < cnt (S.F r.toNatClampNeg) then kbR (kp (S.F r.toNatClampNeg) 0 24 k.toNatClampNeg) else -3
def op_nulls (S : sp_S) : Int32 := nI (cn (fun i => occ S.F 2 4 (16 + i)) 8)
abbrev tfS (S : sp_S) : sp_O := tf S.F (occ S.F 2 4) 8 16 (fun u => u) 0 false
def op_fold (S : sp_S) : Int32 × sp_S := if S.s = 2 then (if (tfS S).1 = true then (nI (cts S.F 2 4) - nI (cts (repF S.F (tfS S).2.1) 2 4), (repF S.F (tfS S).2.1, S.2)) else if (tfS S).2.2.2 = true then (-8, S) else (0, S)) else (-3, S)
/-- what is certain -/
def ctn (S : sp_S) (a b : Nat) : Bool := match (S.R 6).2.2.2 with
  | some (v, u) => cst S.F (S.R 6).2.1 v u a b && decide (b < 16)
  | none => false
def op_answers (S : sp_S) : Int32 := if S.s = 2 ∧ S.hq = true then nI (sm (fun a => cn (ctn S a) 24) 16) else -3
def kq (G : Nat → Nat → Bool) : Nat → Nat → Nat → Int32
  | 0, _, _ => -3
  | f + 1, a, k => if k < cn (G a) 24 then nI (16 * a + kp.kf (G a) 0 24 k) else kq G f (a + 1) (k - cn (G a) 24)
def op_answer (S : sp_S) (k : Int32) : Int32 := if S.s = 2 ∧ S.hq = true ∧ 0 ≤ k then kq (ctn S) 16 0 k.toNatClampNeg else -3
def wfS (S : sp_S) : Prop := (∀ i, i < S.n → (S.R i).1 < 2 ∧ faultR (S.R i) = 0) ∧ (S.hq = true → (S.R 6).1 = 2 ∧ faultR (S.R 6) = 0)
theorem fault0 {R : sp_R} (h : faultR R = 0) : R.2.1 ≠ [] ∧ (R.1 = 0 → R.2.2.1 ≠ []) ∧ (R.1 ≠ 0 → R.2.2.2 ≠ none) ∧ (csn R.2.1 = 0 ∨ (R.1 = 0 ∧ csn R.2.1 = R.2.1.length)) ∧ csn R.2.2.1 = 0 ∧ (∀ v u, R.2.2.2 = some (v, u) → inB R.2.1 v = true ∧ inB R.2.1 u = true) := by
  unfold faultR at h
  have c1 := csn_le R.2.1
  split at h
  · exact absurd h (by decide)
  · rename_i z
    split at h
    · exact absurd h (by decide)
    · rename_i z2
      split at h
      · exact absurd h (by decide)
      · rename_i z3
        refine ⟨fun q => z (Or.inl q), fun q q2 => z (Or.inr (Or.inl ⟨q, q2⟩)), fun q q2 => z (Or.inr (Or.inr ⟨q, q2⟩)), ?_, by omega, fun v u hvu => ?_⟩
        · rcases Nat.eq_zero_or_pos (csn R.2.1) with q | q
          · exact Or.inl q
          · refine Or.inr ⟨Decidable.not_not.mp (fun q2 => z2 ⟨q, Or.inl q2⟩), ?_⟩
            rcases Nat.lt_or_ge (csn R.2.1) R.2.1.length with q2 | q2
            · exact absurd ⟨q, Or.inr q2⟩ z2
            · omega
        · rw [hvu] at h
          unfold faultP at h
          dsimp only at h
          split at h
          · rename_i q
            exact q
          · exact absurd h (by decide)
section Calls
variable {X : mi_X} {w : mi_H} {S : sp_S}
theorem MC.out (H : MC w S) : ∃ pl : Nat → Nat, w[0]? = some (.inr (0, [.ref 1, .ref 23, .ref 25, .ref 27, .ref 30, .int (nI S.n), .ref (pl 7), .int (jb (S.hd = true)), .ref (pl 6), .int (jb (S.hq = true)), .int (nI S.s)])) ∧ MB w S.F pl S.R ∧ S.n ≤ 6 ∧ S.s ≤ 4 := H
theorem cts_le (F : Nat → Nat → Nat → Bool) : ∀ f m, cts F m f ≤ 576 * f
  | 0, m => Nat.le_refl 0
  | f + 1, m => by
    have h1 := cts_le F f (m + 1)
    have h2 := cnt_le (F m)
    show cnt (F m) + cts F (m + 1) f ≤ _
    omega
theorem ev_fact (H : MC w S) (r a b : Int32) : mi_Ex X 3 k_MC_fact [.ref 0, .int r, .int a, .int b] w (fun q w1 => q = some (.int (op_fact S r a b).1) ∧ MC w1 (op_fact S r a b).2 ∧ mi_Fg w w1 0 71) := by
  obtain ⟨pl, h0, HB, hn, hs⟩ := H.out
  have bad : ∀ L4, ¬ (S.s = 0 ∧ inR r 2 ∧ inR a 16 ∧ inR b 16) → mi_wp X mi_P 2 m_MC_fact (28, [some (.ref 0), some (.int r), some (.int a), some (.int b), L4], [], w) (fun q w1 => q = some (.int (op_fact S r a b).1) ∧ MC w1 (op_fact S r a b).2 ∧ mi_Fg w w1 0 71) := by
    intro L4 h
    have e : op_fact S r a b = (-3, S) := if_neg h
    rw [e]
    repeat (first | refine mi_s1 (fun _ => rfl) ?_ | refine mi_wgf rfl (by assumption) rfl ?_ | refine mi_wal rfl (by assumption) rfl (by omega) (by decide) ?_)
    refine mi_r1 (fun _ => rfl) ?_
    exact ⟨rfl, H, mi_Fg.rf⟩
  refine mi_Ex.of (M := m_MC_fact) rfl (Nat.le_of_ble_eq_true rfl) ?_
  repeat (first | refine mi_s1 (fun _ => rfl) ?_ | refine mi_wgf rfl (by assumption) rfl ?_ | refine mi_wal rfl (by assumption) rfl (by omega) (by decide) ?_)
  refine mi_wif (fun z0 => ?_) (fun z0 => ?_)
  · have z0 := (nI_z (by omega)).mp z0
    repeat (first | refine mi_s1 (fun _ => rfl) ?_ | refine mi_wgf rfl (by assumption) rfl ?_ | refine mi_wal rfl (by assumption) rfl (by omega) (by decide) ?_)
    refine mi_wcs rfl (Nat.le_of_ble_eq_true rfl) ⟨Nat.le_of_ble_eq_true rfl, Nat.le_of_ble_eq_true rfl⟩ ((ev_isSource r).up (by decide)) ?_
    repeat (first | refine mi_s1 (fun _ => rfl) ?_ | refine mi_wgf rfl (by assumption) rfl ?_ | refine mi_wal rfl (by assumption) rfl (by omega) (by decide) ?_)
    refine mi_wif (fun z1 => ?_) (fun z1 => ?_)
    · exact bad _ (fun q => jb_0.mp z1 q.2.1)
    · repeat (first | refine mi_s1 (fun _ => rfl) ?_ | refine mi_wgf rfl (by assumption) rfl ?_ | refine mi_wal rfl (by assumption) rfl (by omega) (by decide) ?_)
      refine mi_wcs rfl (Nat.le_of_ble_eq_true rfl) ⟨Nat.le_of_ble_eq_true rfl, Nat.le_of_ble_eq_true rfl⟩ ((ev_isConstant a).up (by decide)) ?_
      repeat (first | refine mi_s1 (fun _ => rfl) ?_ | refine mi_wgf rfl (by assumption) rfl ?_ | refine mi_wal rfl (by assumption) rfl (by omega) (by decide) ?_)
      refine mi_wif (fun z2 => ?_) (fun z2 => ?_)
      · exact bad _ (fun q => jb_0.mp z2 q.2.2.1)
      · repeat (first | refine mi_s1 (fun _ => rfl) ?_ | refine mi_wgf rfl (by assumption) rfl ?_ | refine mi_wal rfl (by assumption) rfl (by omega) (by decide) ?_)
        refine mi_wcs rfl (Nat.le_of_ble_eq_true rfl) ⟨Nat.le_of_ble_eq_true rfl, Nat.le_of_ble_eq_true rfl⟩ ((ev_isConstant b).up (by decide)) ?_
        repeat (first | refine mi_s1 (fun _ => rfl) ?_ | refine mi_wgf rfl (by assumption) rfl ?_ | refine mi_wal rfl (by assumption) rfl (by omega) (by decide) ?_)
        refine mi_wif (fun z3 => ?_) (fun z3 => ?_)
        · exact bad _ (fun q => jb_0.mp z3 q.2.2.2)
        · have z1 := Decidable.not_not.mp (fun q => z1 (jb_0.mpr q))
          have z2 := Decidable.not_not.mp (fun q => z2 (jb_0.mpr q))
          have z3 := Decidable.not_not.mp (fun q => z3 (jb_0.mpr q))
          have e : op_fact S r a b = _ := if_pos ⟨z0, z1, z2, z3⟩
          rw [e]
          clear e bad
          obtain ⟨n, hn2, rfl⟩ := (mi_rng (by decide)).mp z1
          obtain ⟨x, hx, rfl⟩ := (mi_rng (by decide)).mp z2
          obtain ⟨y, hy, rfl⟩ := (mi_rng (by decide)).mp z3
          rw [nI_clamp (n := n) (by omega), nI_clamp (n := x) (by omega), nI_clamp (n := y) (by omega)]
          have HS := HB.1
          obtain ⟨s1, ⟨g, s2, hg⟩, -, -, s5⟩ := id HS
          obtain ⟨rows, cols, fi, se, du, ct, k0, -⟩ := s5 n (by omega)
          have hc := cts_le S.F 2 0
          have go : ∀ L4, L4 = some (Value.ref (5 + 3 * n)) → mi_wp X mi_P 2 m_MC_fact (67, [some (.ref 0), some (.int (nI n)), some (.int (nI x)), some (.int (nI y)), L4], [], w) (fun q w1 => q = some (.int (nI (cts (updR S.F n (addF (S.F n) x y)) 0 2))) ∧ MC w1 (updR S.F n (addF (S.F n) x y), S.2) ∧ mi_Fg w w1 0 71) := by
            intro L4 hL
            subst hL
            obtain ⟨r1, w1, he, rfl, H1, hF1⟩ := ev_add (X := X) (s5 n (by omega)) (a := x) (b := y) (by omega) (by omega)
            repeat (first | refine mi_s1 (fun _ => rfl) ?_ | refine mi_wgf rfl (by assumption) rfl ?_ | refine mi_wal rfl (by assumption) rfl (by omega) (by decide) ?_)
            refine mi_wcv rfl rfl (Nat.le_of_ble_eq_true rfl) k0 rfl (he) ?_
            have HS1 := HS.one (by omega) H1 hF1
            have hG := mi_Fg.of3 (lo := 3) (hi := 23) hF1 (by omega) (by omega)
            have h0 := hG.get (by omega) h0
            have s1 := hG.get (by omega) s1
            repeat (first | refine mi_s1 (fun _ => rfl) ?_ | refine mi_wgf rfl (by assumption) rfl ?_ | refine mi_wal rfl (by assumption) rfl (by omega) (by decide) ?_)
            refine mi_wcv rfl rfl (Nat.le_of_ble_eq_true rfl) s1 rfl ((ev_sourceCount HS1).up (by decide)) ?_
            refine mi_r1 (fun _ => rfl) ?_
            exact ⟨rfl, ⟨pl, h0, HB.st hG HS1, hn, hs⟩, hG.wide (by omega) (by omega)⟩
          repeat (first | refine mi_s1 (fun _ => rfl) ?_ | refine mi_wgf rfl (by assumption) rfl ?_ | refine mi_wal rfl (by assumption) rfl (by omega) (by decide) ?_)
          refine mi_waa rfl s2 ⟨by decide, by decide⟩ rfl (by omega) (by decide) ?_
          rw [hg n (by omega)]
          repeat (first | refine mi_s1 (fun _ => rfl) ?_ | refine mi_wgf rfl (by assumption) rfl ?_ | refine mi_wal rfl (by assumption) rfl (by omega) (by decide) ?_)
          refine mi_wcv rfl rfl (Nat.le_of_ble_eq_true rfl) k0 rfl (ev_has (s5 n (by omega)) (nI x) (nI y)) ?_
          repeat (first | refine mi_s1 (fun _ => rfl) ?_ | refine mi_wgf rfl (by assumption) rfl ?_ | refine mi_wal rfl (by assumption) rfl (by omega) (by decide) ?_)
          refine mi_wif (fun z4 => ?_) (fun z4 => ?_)
          · rw [FI_nI (by omega) (by omega)] at z4
            repeat (first | refine mi_s1 (fun _ => rfl) ?_ | refine mi_wgf rfl (by assumption) rfl ?_ | refine mi_wal rfl (by assumption) rfl (by omega) (by decide) ?_)
            refine mi_wcv rfl rfl (Nat.le_of_ble_eq_true rfl) s1 rfl ((ev_sourceCount HS).up (by decide)) ?_
            repeat (first | refine mi_s1 (fun _ => rfl) ?_ | refine mi_wgf rfl (by assumption) rfl ?_ | refine mi_wal rfl (by assumption) rfl (by omega) (by decide) ?_)
            refine mi_wif (fun z5 => ?_) (fun z5 => ?_)
            · have z5 := (nI_ltI (by omega) (by omega)).mp z5
              rw [if_neg (by omega)]
              exact go _ rfl
            · have z5 : 12 ≤ cts S.F 0 2 := by
                rcases Nat.lt_or_ge (cts S.F 0 2) 12 with q | q
                · exact absurd (nI_lt q (by omega)) z5
                · exact q
              rw [if_pos ⟨by simpa using jb_0.mp z4, z5⟩]
              repeat (first | refine mi_s1 (fun _ => rfl) ?_ | refine mi_wgf rfl (by assumption) rfl ?_ | refine mi_wal rfl (by assumption) rfl (by omega) (by decide) ?_)
              refine mi_r1 (fun _ => rfl) ?_
              exact ⟨rfl, H, mi_Fg.rf⟩
          · rw [FI_nI (by omega) (by omega)] at z4
            have z4 := Decidable.not_not.mp (fun q => z4 (jb_0.mpr q))
            rw [if_neg (fun q => by rw [z4] at q; cases q.1)]
            exact go _ rfl
  · exact bad _ (fun q => z0 (by rw [q.1]; rfl))
theorem ev_take (H : MC w S) (r a b : Int32) : mi_Ex X 4 k_MC_take [.ref 0, .int r, .int a, .int b] w (fun q w1 => q = some (.int (op_take S r a b).1) ∧ MC w1 (op_take S r a b).2 ∧ mi_Fg w w1 0 71) := by
  obtain ⟨pl, h0, HB, hn, hs⟩ := H.out
  have bad : ¬ (S.s = 0 ∧ inR r 2 ∧ FI (S.F r.toNatClampNeg) a b = true) → mi_wp X mi_P 3 m_MC_take (14, [some (.ref 0), some (.int r), some (.int a), some (.int b)], [], w) (fun q w1 => q = some (.int (op_take S r a b).1) ∧ MC w1 (op_take S r a b).2 ∧ mi_Fg w w1 0 71) := by
    intro h
    have e : op_take S r a b = (0, S) := if_neg h
    rw [e]
    repeat (first | refine mi_s1 (fun _ => rfl) ?_ | refine mi_wgf rfl (by assumption) rfl ?_ | refine mi_wal rfl (by assumption) rfl (by omega) (by decide) ?_)
    refine mi_wrz rfl rfl rfl ?_
    exact ⟨rfl, H, mi_Fg.rf⟩
  refine mi_Ex.of (M := m_MC_take) rfl (Nat.le_of_ble_eq_true rfl) ?_
  repeat (first | refine mi_s1 (fun _ => rfl) ?_ | refine mi_wgf rfl (by assumption) rfl ?_ | refine mi_wal rfl (by assumption) rfl (by omega) (by decide) ?_)
  refine mi_wif (fun z0 => ?_) (fun z0 => ?_)
  · have z0 := (nI_z (by omega)).mp z0
    repeat (first | refine mi_s1 (fun _ => rfl) ?_ | refine mi_wgf rfl (by assumption) rfl ?_ | refine mi_wal rfl (by assumption) rfl (by omega) (by decide) ?_)
    refine mi_wcs rfl (Nat.le_of_ble_eq_true rfl) ⟨Nat.le_of_ble_eq_true rfl, Nat.le_of_ble_eq_true rfl⟩ ((ev_isSource r).up (by decide)) ?_
    repeat (first | refine mi_s1 (fun _ => rfl) ?_ | refine mi_wgf rfl (by assumption) rfl ?_ | refine mi_wal rfl (by assumption) rfl (by omega) (by decide) ?_)
    refine mi_wif (fun z1 => ?_) (fun z1 => ?_)
    · exact bad (fun q => jb_0.mp z1 q.2.1)
    · have z1 := Decidable.not_not.mp (fun q => z1 (jb_0.mpr q))
      have e : op_take S r a b = if FI (S.F r.toNatClampNeg) a b = true then (1, (updR S.F r.toNatClampNeg (delF (S.F r.toNatClampNeg) a.toNatClampNeg b.toNatClampNeg), S.2)) else (0, S) := by
        unfold op_take
        by_cases q : FI (S.F r.toNatClampNeg) a b = true
        · rw [if_pos q, if_pos ⟨z0, z1, q⟩]
        · rw [if_neg q, if_neg (fun h => q h.2.2)]
      rw [e]
      clear e bad
      obtain ⟨n, hn2, rfl⟩ := (mi_rng (by decide)).mp z1
      rw [nI_clamp (n := n) (by omega)]
      have HS := HB.1
      obtain ⟨s1, ⟨g, s2, hg⟩, -, -, s5⟩ := id HS
      obtain ⟨rows, cols, fi, se, du, ct, k0, -⟩ := s5 n (by omega)
      obtain ⟨r1, w1, he, rfl, H1, hF1⟩ := ev_remove (X := X) (s5 n (by omega)) a b
      repeat (first | refine mi_s1 (fun _ => rfl) ?_ | refine mi_wgf rfl (by assumption) rfl ?_ | refine mi_wal rfl (by assumption) rfl (by omega) (by decide) ?_)
      refine mi_waa rfl s2 ⟨by decide, by decide⟩ rfl (by omega) (by decide) ?_
      rw [hg n (by omega)]
      repeat (first | refine mi_s1 (fun _ => rfl) ?_ | refine mi_wgf rfl (by assumption) rfl ?_ | refine mi_wal rfl (by assumption) rfl (by omega) (by decide) ?_)
      refine mi_wcv rfl rfl (Nat.le_of_ble_eq_true rfl) k0 rfl (he) ?_
      refine mi_wrz rfl rfl (jb_fit _) ?_
      have HS1 := HS.one (by omega) H1 hF1
      have hG := mi_Fg.of3 (lo := 3) (hi := 23) hF1 (by omega) (by omega)
      have h0 := hG.get (by omega) h0
      by_cases q : FI (S.F n) a b = true
      · rw [if_pos q] at HS1
        rw [if_pos q]
        refine ⟨?_, ⟨pl, h0, HB.st hG HS1, hn, hs⟩, hG.wide (by omega) (by omega)⟩
        show some (Value.int (if _ then _ else _)) = _
        rw [if_pos q]
      · rw [if_neg q] at HS1
        rw [if_neg q]
        have e : updR S.F n (S.F n) = S.F := by
          funext i
          unfold updR
          by_cases z : i = n
          · rw [if_pos z, z]
          · rw [if_neg z]
        rw [e] at HS1
        refine ⟨?_, ⟨pl, h0, HB.st hG HS1, hn, hs⟩, hG.wide (by omega) (by omega)⟩
        show some (Value.int (if _ then _ else _)) = _
        rw [if_neg q]
  · exact bad (fun q => z0 (by rw [q.1]; rfl))
theorem ev_acyclic_loop {w0 : mi_H} : ∀ f m (w : mi_H), m + f = S.n → MC w S → Gr w (edE S m) (edS S m) → mi_Fg w0 w 0 71 → mi_wp X mi_P 5 m_MC_acyclic (9, [some (.ref 0), some (.int (nI m))], [], w) (fun q w1 => q = some (.int (jb (acyB S))) ∧ MC w1 S ∧ mi_Fg w0 w1 0 71)
  | 0, m, w, hm, H, HG, hF0 => by
    obtain ⟨pl, h0, HB, hn, hs⟩ := H.out
    have hm : m = S.n := by omega
    subst hm
    obtain ⟨k0, -⟩ := id HG
    obtain ⟨r1, w1, he, rfl, H1, hF1⟩ := ev_hasSpecialCycle (X := X) HG
    repeat (first | refine mi_s1 (fun _ => rfl) ?_ | refine mi_wgf rfl (by assumption) rfl ?_ | refine mi_wal rfl (by assumption) rfl (by omega) (by decide) ?_)
    refine mi_wif (fun _ => ?_) (fun q => absurd (nI_le (Nat.le_refl S.n) (by omega)) q)
    repeat (first | refine mi_s1 (fun _ => rfl) ?_ | refine mi_wgf rfl (by assumption) rfl ?_ | refine mi_wal rfl (by assumption) rfl (by omega) (by decide) ?_)
    refine mi_wcv rfl rfl (Nat.le_of_ble_eq_true rfl) k0 rfl (he.up (by decide)) ?_
    have fin : MC w1 S ∧ mi_Fg w0 w1 0 71 := ⟨⟨pl, hF1.get (by omega) h0, HB.gr hF1 ⟨_, _, H1⟩, hn, hs⟩, hF0.tr (hF1.wide (by omega) (by omega))⟩
    repeat (first | refine mi_s1 (fun _ => rfl) ?_ | refine mi_wgf rfl (by assumption) rfl ?_ | refine mi_wal rfl (by assumption) rfl (by omega) (by decide) ?_)
    refine mi_wif (fun z => ?_) (fun z => ?_)
    · repeat (first | refine mi_s1 (fun _ => rfl) ?_ | refine mi_wgf rfl (by assumption) rfl ?_ | refine mi_wal rfl (by assumption) rfl (by omega) (by decide) ?_)
      refine mi_wrz rfl rfl rfl ?_
      refine ⟨?_, fin⟩
      rw [show jb (acyB S) = 1 from if_pos (jb_0.mp z)]
      rfl
    · repeat (first | refine mi_s1 (fun _ => rfl) ?_ | refine mi_wgf rfl (by assumption) rfl ?_ | refine mi_wal rfl (by assumption) rfl (by omega) (by decide) ?_)
      refine mi_wrz rfl rfl rfl ?_
      refine ⟨?_, fin⟩
      rw [show jb (acyB S) = 0 from if_neg (fun q => z (jb_0.mpr q))]
      rfl
  | f + 1, m, w, hm, H, HG, hF0 => by
    obtain ⟨pl, h0, HB, hn, hs⟩ := H.out
    obtain ⟨k0, -⟩ := id HG
    obtain ⟨g, k1, k2⟩ := HB.2.2.2.2.1
    obtain ⟨p1, p2, hr⟩ := HB.rg (i := m) (by omega)
    obtain ⟨fi, se, k3, -, -, hk, -⟩ := id hr
    have eE : ∀ p q, edE S (m + 1) p q = (edE S m p q || (decide ((S.R m).1 = 0) && egE (S.R m) 4 p q)) := fun p q => any_s
    have eS : ∀ p q, edS S (m + 1) p q = (edS S m p q || (decide ((S.R m).1 = 0) && egS (S.R m) 4 p q)) := fun p q => any_s
    repeat (first | refine mi_s1 (fun _ => rfl) ?_ | refine mi_wgf rfl (by assumption) rfl ?_ | refine mi_wal rfl (by assumption) rfl (by omega) (by decide) ?_)
    refine mi_wif (fun q => absurd q (nI_ge (a := m) (b := S.n) (by omega) (by omega))) (fun _ => ?_)
    repeat (first | refine mi_s1 (fun _ => rfl) ?_ | refine mi_wgf rfl (by assumption) rfl ?_ | refine mi_wal rfl (by assumption) rfl (by omega) (by decide) ?_)
    refine mi_waa rfl k1 ⟨by decide, by decide⟩ rfl (by omega) (by decide) ?_
    rw [k2 m (by omega)]
    repeat (first | refine mi_s1 (fun _ => rfl) ?_ | refine mi_wgf rfl (by assumption) rfl ?_ | refine mi_wal rfl (by assumption) rfl (by omega) (by decide) ?_)
    refine mi_wif (fun z => ?_) (fun z => ?_)
    · have z := (nI_z (by omega)).mp z
      obtain ⟨r1, w1, he, rfl, H1, hF1⟩ := ev_addEdges (X := X) (by omega) HG hr
      repeat (first | refine mi_s1 (fun _ => rfl) ?_ | refine mi_wgf rfl (by assumption) rfl ?_ | refine mi_wal rfl (by assumption) rfl (by omega) (by decide) ?_)
      refine mi_waa rfl k1 ⟨by decide, by decide⟩ rfl (by omega) (by decide) ?_
      rw [k2 m (by omega)]
      refine mi_wcv rfl rfl (Nat.le_of_ble_eq_true rfl) k0 rfl (he) ?_
      refine mi_s1 (fun _ => rfl) ?_; refine mi_s1 (fun _ => rfl) ?_
      rw [show nI m + nI 1 = nI (m + 1) from nI_1 m]
      refine ev_acyclic_loop f (m + 1) w1 (by omega) ⟨pl, hF1.get (by omega) h0, HB.gr hF1 ⟨_, _, H1⟩, hn, hs⟩ (H1.congr (fun p q _ => ?_)) (hF0.tr (hF1.wide (by omega) (by omega)))
      rw [eE, eS, decide_eq_true z, Bool.true_and, Bool.true_and]
      exact ⟨rfl, rfl⟩
    · have z : ¬ (S.R m).1 = 0 := fun q => z (by rw [q]; rfl)
      refine mi_s1 (fun _ => rfl) ?_; refine mi_s1 (fun _ => rfl) ?_
      rw [show nI m + nI 1 = nI (m + 1) from nI_1 m]
      refine ev_acyclic_loop f (m + 1) w (by omega) H (HG.congr (fun p q _ => ?_)) hF0
      rw [eE, eS, decide_eq_false z, Bool.false_and, Bool.false_and, Bool.or_false, Bool.or_false]
      exact ⟨rfl, rfl⟩
theorem ev_acyclic (H : MC w S) : mi_Ex X 6 k_MC_acyclic [.ref 0] w (fun q w1 => q = some (.int (jb (acyB S))) ∧ MC w1 S ∧ mi_Fg w w1 0 71) := by
  obtain ⟨pl, h0, HB, hn, hs⟩ := H.out
  obtain ⟨E, T, HG⟩ := HB.2.2.2.1
  obtain ⟨k0, -⟩ := id HG
  obtain ⟨r1, w1, he, rfl, H1, hF1⟩ := ev_grClear (X := X) HG
  refine mi_Ex.of (M := m_MC_acyclic) rfl (Nat.le_of_ble_eq_true rfl) ?_
  repeat (first | refine mi_s1 (fun _ => rfl) ?_ | refine mi_wgf rfl (by assumption) rfl ?_ | refine mi_wal rfl (by assumption) rfl (by omega) (by decide) ?_)
  refine mi_wcv rfl rfl (Nat.le_of_ble_eq_true rfl) k0 rfl (he.up (by decide)) ?_
  refine mi_s1 (fun _ => rfl) ?_; refine mi_s1 (fun _ => rfl) ?_
  exact ev_acyclic_loop S.n 0 w1 (by omega) ⟨pl, hF1.get (by omega) h0, HB.gr hF1 ⟨_, _, H1⟩, hn, hs⟩ H1 (hF1.wide (by omega) (by omega))
theorem ev_start (H : MC w S) : mi_Ex X 7 k_MC_start [.ref 0] w (fun q w1 => q = some (.int (op_start S).1) ∧ MC w1 (op_start S).2 ∧ mi_Fg w w1 0 71) := by
  obtain ⟨pl, h0, HB, hn, hs⟩ := H.out
  refine mi_Ex.of (M := m_MC_start) rfl (Nat.le_of_ble_eq_true rfl) ?_
  repeat (first | refine mi_s1 (fun _ => rfl) ?_ | refine mi_wgf rfl (by assumption) rfl ?_ | refine mi_wal rfl (by assumption) rfl (by omega) (by decide) ?_)
  refine mi_wif (fun z => ?_) (fun z => ?_)
  · have z := (nI_z (by omega)).mp z
    have e : op_start S = _ := if_pos z
    rw [e]
    clear e
    obtain ⟨r1, w1, he, rfl, H1, hF1⟩ := ev_acyclic (X := X) H
    repeat (first | refine mi_s1 (fun _ => rfl) ?_ | refine mi_wgf rfl (by assumption) rfl ?_ | refine mi_wal rfl (by assumption) rfl (by omega) (by decide) ?_)
    refine mi_wcv rfl rfl (Nat.le_of_ble_eq_true rfl) h0 rfl (he) ?_
    repeat (first | refine mi_s1 (fun _ => rfl) ?_ | refine mi_wgf rfl (by assumption) rfl ?_ | refine mi_wal rfl (by assumption) rfl (by omega) (by decide) ?_)
    refine mi_wif (fun z1 => ?_) (fun z1 => ?_)
    · have z1 := jb_0.mp z1
      rw [if_neg z1]
      repeat (first | refine mi_s1 (fun _ => rfl) ?_ | refine mi_wgf rfl (by assumption) rfl ?_ | refine mi_wal rfl (by assumption) rfl (by omega) (by decide) ?_)
      refine mi_r1 (fun _ => rfl) ?_
      exact ⟨rfl, H1, hF1⟩
    · have z1 := Decidable.not_not.mp (fun q => z1 (jb_0.mpr q))
      rw [if_pos z1]
      obtain ⟨pl1, h01, HB1, -, -⟩ := H1.out
      obtain ⟨s1, -⟩ := id HB1.1
      obtain ⟨r2, w2, he2, rfl, H2, hF2⟩ := ev_clearTargets (X := X) HB1.1
      repeat (first | refine mi_s1 (fun _ => rfl) ?_ | refine mi_wgf rfl (by assumption) rfl ?_ | refine mi_wal rfl (by assumption) rfl (by omega) (by decide) ?_)
      refine mi_wcv rfl rfl (Nat.le_of_ble_eq_true rfl) s1 rfl (he2.up (by decide)) ?_
      have HB2 := HB1.st (hF2.wide (by omega) (by omega)) H2
      have h02 := hF2.get (by omega) h01
      repeat (first | refine mi_s1 (fun _ => rfl) ?_ | refine mi_wgf rfl (by assumption) rfl ?_ | refine mi_wal rfl (by assumption) rfl (by omega) (by decide) ?_)
      refine mi_wpg rfl h02 (Nat.le_of_ble_eq_true rfl) rfl (fun w3 h03 hF3 => ?_)
      have hG := mi_Fg.of1 (lo := 0) (hi := 1) hF3 (by omega) (by omega)
      repeat (first | refine mi_s1 (fun _ => rfl) ?_ | refine mi_wgf rfl (by assumption) rfl ?_ | refine mi_wal rfl (by assumption) rfl (by omega) (by decide) ?_)
      refine mi_r1 (fun _ => rfl) ?_
      exact ⟨rfl, ⟨pl1, h03, HB2.g0 hG, hn, by show 1 ≤ 4; omega⟩, (hF1.tr (hF2.wide (by omega) (by omega))).tr (hG.wide (by omega) (by omega))⟩
  · have e : op_start S = (-3, S) := if_neg (fun q => z (by rw [q]; rfl))
    rw [e]
    repeat (first | refine mi_s1 (fun _ => rfl) ?_ | refine mi_wgf rfl (by assumption) rfl ?_ | refine mi_wal rfl (by assumption) rfl (by omega) (by decide) ?_)
    refine mi_r1 (fun _ => rfl) ?_
    exact ⟨rfl, H, mi_Fg.rf⟩
theorem ev_reset (H : MC w S) : mi_Ex X 3 k_MC_reset [.ref 0] w (fun q w1 => q = none ∧ MC w1 (op_reset S) ∧ mi_Fg w w1 0 71) := by
  obtain ⟨pl, h0, HB, hn, hs⟩ := H.out
  refine mi_Ex.of (M := m_MC_reset) rfl (Nat.le_of_ble_eq_true rfl) ?_
  obtain ⟨s1, -⟩ := id HB.1
  obtain ⟨r2, w2, he2, rfl, H2, hF2⟩ := ev_clearTargets (X := X) HB.1
  repeat (first | refine mi_s1 (fun _ => rfl) ?_ | refine mi_wgf rfl (by assumption) rfl ?_ | refine mi_wal rfl (by assumption) rfl (by omega) (by decide) ?_)
  refine mi_wcv rfl rfl (Nat.le_of_ble_eq_true rfl) s1 rfl (he2.up (by decide)) ?_
  have HB2 := HB.st (hF2.wide (by omega) (by omega)) H2
  have h02 := hF2.get (by omega) h0
  repeat (first | refine mi_s1 (fun _ => rfl) ?_ | refine mi_wgf rfl (by assumption) rfl ?_ | refine mi_wal rfl (by assumption) rfl (by omega) (by decide) ?_)
  refine mi_wpg rfl h02 (Nat.le_of_ble_eq_true rfl) rfl (fun w3 h03 hF3 => ?_)
  have hG := mi_Fg.of1 (lo := 0) (hi := 1) hF3 (by omega) (by omega)
  repeat (first | refine mi_s1 (fun _ => rfl) ?_ | refine mi_wgf rfl (by assumption) rfl ?_ | refine mi_wal rfl (by assumption) rfl (by omega) (by decide) ?_)
  refine mi_r1 (fun _ => rfl) ?_
  exact ⟨rfl, ⟨pl, h03, HB2.g0 hG, hn, by show 0 ≤ 4; omega⟩, (hF2.wide (by omega) (by omega)).tr (hG.wide (by omega) (by omega))⟩
theorem ev_state (H : MC w S) : mi_Ev X mi_P 1 k_MC_state [.ref 0] w (some (.int (nI S.s))) w := by
  obtain ⟨pl, h0, HB, hn, hs⟩ := H.out
  refine mi_Ev.of (M := m_MC_state) rfl (Nat.le_of_ble_eq_true rfl) ?_
  repeat (first | refine mi_s1 (fun _ => rfl) ?_ | refine mi_wgf rfl (by assumption) rfl ?_ | refine mi_wal rfl (by assumption) rfl (by omega) (by decide) ?_)
  refine mi_r1 (fun _ => rfl) ?_
  exact ⟨rfl, rfl⟩
theorem ev_size (H : MC w S) (r : Int32) : mi_Ev X mi_P 2 k_MC_size [.ref 0, .int r] w (some (.int (op_size S r))) w := by
  obtain ⟨pl, h0, HB, hn, hs⟩ := H.out
  refine mi_Ev.of (M := m_MC_size) rfl (Nat.le_of_ble_eq_true rfl) ?_
  repeat (first | refine mi_s1 (fun _ => rfl) ?_ | refine mi_wgf rfl (by assumption) rfl ?_ | refine mi_wal rfl (by assumption) rfl (by omega) (by decide) ?_)
  refine mi_wcs rfl (Nat.le_of_ble_eq_true rfl) ⟨Nat.le_of_ble_eq_true rfl, Nat.le_of_ble_eq_true rfl⟩ ((ev_isRelation r)) ?_
  repeat (first | refine mi_s1 (fun _ => rfl) ?_ | refine mi_wgf rfl (by assumption) rfl ?_ | refine mi_wal rfl (by assumption) rfl (by omega) (by decide) ?_)
  refine mi_wif (fun z => ?_) (fun z => ?_)
  · have e : op_size S r = -3 := if_neg (jb_0.mp z)
    rw [e]
    repeat (first | refine mi_s1 (fun _ => rfl) ?_ | refine mi_wgf rfl (by assumption) rfl ?_ | refine mi_wal rfl (by assumption) rfl (by omega) (by decide) ?_)
    refine mi_r1 (fun _ => rfl) ?_
    exact ⟨rfl, rfl⟩
  · have z1 := Decidable.not_not.mp (fun q => z (jb_0.mpr q))
    have e : op_size S r = _ := if_pos z1
    rw [e]
    obtain ⟨n, hn2, rfl⟩ := (mi_rng (by decide)).mp z1
    rw [nI_clamp (n := n) (by omega)]
    obtain ⟨s1, ⟨g, s2, hg⟩, -, -, s5⟩ := id HB.1
    obtain ⟨rows, cols, fi, se, du, ct, k0, -, -, hi⟩ := s5 n (by omega)
    repeat (first | refine mi_s1 (fun _ => rfl) ?_ | refine mi_wgf rfl (by assumption) rfl ?_ | refine mi_wal rfl (by assumption) rfl (by omega) (by decide) ?_)
    refine mi_waa rfl s2 ⟨by decide, by decide⟩ rfl (by omega) (by decide) ?_
    rw [hg n (by omega)]
    repeat (first | refine mi_s1 (fun _ => rfl) ?_ | refine mi_wgf rfl (by assumption) rfl ?_ | refine mi_wal rfl (by assumption) rfl (by omega) (by decide) ?_)
    refine mi_r1 (fun _ => rfl) ?_
    rw [hi.2.2.2.2.2.2]
    exact ⟨rfl, rfl⟩
theorem ev_at (H : MC w S) (r k : Int32) : mi_Ev X mi_P 4 k_MC_at [.ref 0, .int r, .int k] w (some (.int (op_at S r k))) w := by
  obtain ⟨pl, h0, HB, hn, hs⟩ := H.out
  refine mi_Ev.of (M := m_MC_at) rfl (Nat.le_of_ble_eq_true rfl) ?_
  repeat (first | refine mi_s1 (fun _ => rfl) ?_ | refine mi_wgf rfl (by assumption) rfl ?_ | refine mi_wal rfl (by assumption) rfl (by omega) (by decide) ?_)
  refine mi_wcs rfl (Nat.le_of_ble_eq_true rfl) ⟨Nat.le_of_ble_eq_true rfl, Nat.le_of_ble_eq_true rfl⟩ ((ev_isRelation r).up (by decide)) ?_
  repeat (first | refine mi_s1 (fun _ => rfl) ?_ | refine mi_wgf rfl (by assumption) rfl ?_ | refine mi_wal rfl (by assumption) rfl (by omega) (by decide) ?_)
  refine mi_wif (fun z => ?_) (fun z => ?_)
  · have e : op_at S r k = -3 := if_neg (fun q => jb_0.mp z q.1)
    rw [e]
    repeat (first | refine mi_s1 (fun _ => rfl) ?_ | refine mi_wgf rfl (by assumption) rfl ?_ | refine mi_wal rfl (by assumption) rfl (by omega) (by decide) ?_)
    refine mi_r1 (fun _ => rfl) ?_
    exact ⟨rfl, rfl⟩
  · have z1 := Decidable.not_not.mp (fun q => z (jb_0.mpr q))
    have e : op_at S r k = if 0 ≤ k ∧ k.toNatClampNeg < cnt (S.F r.toNatClampNeg) then kbR (kp (S.F r.toNatClampNeg) 0 24 k.toNatClampNeg) else -3 := by
      unfold op_at
      by_cases q : 0 ≤ k ∧ k.toNatClampNeg < cnt (S.F r.toNatClampNeg)
      · rw [if_pos q, if_pos ⟨z1, q⟩]
      · rw [if_neg q, if_neg (fun h => q h.2)]
    rw [e]
    obtain ⟨n, hn2, rfl⟩ := (mi_rng (by decide)).mp z1
    rw [nI_clamp (n := n) (by omega)]
    obtain ⟨s1, ⟨g, s2, hg⟩, -, -, s5⟩ := id HB.1
    obtain ⟨rows, cols, fi, se, du, ct, k0, -, -, hi⟩ := s5 n (by omega)
    repeat (first | refine mi_s1 (fun _ => rfl) ?_ | refine mi_wgf rfl (by assumption) rfl ?_ | refine mi_wal rfl (by assumption) rfl (by omega) (by decide) ?_)
    refine mi_waa rfl s2 ⟨by decide, by decide⟩ rfl (by omega) (by decide) ?_
    rw [hg n (by omega)]
    repeat (first | refine mi_s1 (fun _ => rfl) ?_ | refine mi_wgf rfl (by assumption) rfl ?_ | refine mi_wal rfl (by assumption) rfl (by omega) (by decide) ?_)
    refine mi_wcv rfl rfl (Nat.le_of_ble_eq_true rfl) k0 rfl (ev_factAt (s5 n (by omega)) k) ?_
    repeat (first | refine mi_s1 (fun _ => rfl) ?_ | refine mi_wgf rfl (by assumption) rfl ?_ | refine mi_wal rfl (by assumption) rfl (by omega) (by decide) ?_)
    refine mi_r1 (fun _ => rfl) ?_
    exact ⟨rfl, rfl⟩
theorem occ_lt {F : Nat → Nat → Nat → Bool} (h : ∀ i, i < 6 → ∀ a b, F i a b = true → a < 24 ∧ b < 24) : ∀ f m v, m + f ≤ 6 → occ F m f v = true → v < 24
  | 0, m, v, hm, q => by cases q
  | f + 1, m, v, hm, q => by
    unfold occ at q
    rw [Bool.or_eq_true, Bool.or_eq_true] at q
    rcases q with (q | q) | q
    · obtain ⟨i, hi, q⟩ := anyB_iff.mp q
      exact (h m (by omega) v i q).1
    · obtain ⟨i, hi, q⟩ := anyB_iff.mp q
      exact (h m (by omega) i v q).2
    · exact occ_lt h f (m + 1) v (by omega) q
theorem St.lt {F : Nat → Nat → Nat → Bool} (H : St w F) : ∀ i, i < 6 → ∀ a b, F i a b = true → a < 24 ∧ b < 24 := fun i hi => by
  obtain ⟨rows, cols, fi, se, du, ct, k0, -, -, hr⟩ := H.2.2.2.2 i hi
  exact hr.1
theorem cn_zero {f : Nat → Bool} : ∀ n, (∀ i, i < n → f i = false) → cn f n = 0
  | 0, _ => rfl
  | n + 1, h => by
    unfold cn
    rw [cn_zero n (fun i hi => h i (by omega)), h n (by omega)]
    rfl
theorem ev_nulls (H : MC w S) : mi_Ev X mi_P 2 k_MC_nulls [.ref 0] w (some (.int (op_nulls S))) w := by
  obtain ⟨pl, h0, HB, hn, hs⟩ := H.out
  obtain ⟨s1, -⟩ := id HB.1
  obtain ⟨y, he, hy⟩ := ev_targetValues (X := X) HB.1
  have ho : ∀ v, 24 ≤ v → occ S.F 2 4 v = false := fun v hv => by
    cases q : occ S.F 2 4 v with
    | false => rfl
    | true => exact absurd (occ_lt HB.1.lt 4 2 v (by omega) q) (by omega)
  refine mi_Ev.of (M := m_MC_nulls) rfl (Nat.le_of_ble_eq_true rfl) ?_
  repeat (first | refine mi_s1 (fun _ => rfl) ?_ | refine mi_wgf rfl (by assumption) rfl ?_ | refine mi_wal rfl (by assumption) rfl (by omega) (by decide) ?_)
  refine mi_wcv rfl rfl (Nat.le_of_ble_eq_true rfl) s1 rfl (he) ?_
  repeat (first | refine mi_s1 (fun _ => rfl) ?_ | refine mi_wgf rfl (by assumption) rfl ?_ | refine mi_wal rfl (by assumption) rfl (by omega) (by decide) ?_)
  have hb : ∀ i, i < 32 → bt ((y.toUInt32 >>> ((nI 16).toUInt32 &&& Int32.toUInt32 31)).toInt32) i = occ S.F 2 4 (16 + i) := by
    intro i hi
    rw [b_ushr 16 (by decide)]
    by_cases q : 16 + i < 32
    · exact hy _ q
    · rw [b_big (by omega), ho _ (by omega)]
  refine mi_wcs rfl (Nat.le_of_ble_eq_true rfl) ⟨Nat.le_of_ble_eq_true rfl, Nat.le_of_ble_eq_true rfl⟩ (ev_bitCount (fun i hi => hb i (by omega)) (fun i h1 h2 => by rw [hb i h2, ho _ (by omega)])) ?_
  refine mi_r1 (fun _ => rfl) ?_
  refine ⟨?_, rfl⟩
  unfold op_nulls
  rw [show (24 : Nat) = 8 + 16 from rfl, cn_add, cn_zero 16 (fun i hi => ho _ (by omega)), Nat.add_zero]
theorem ev_fold (H : MC w S) : mi_Ex X 14 k_MC_fold [.ref 0] w (fun q w1 => q = some (.int (op_fold S).1) ∧ MC w1 (op_fold S).2 ∧ mi_Fg w w1 0 71) := by
  obtain ⟨pl, h0, HB, hn, hs⟩ := H.out
  refine mi_Ex.of (M := m_MC_fold) rfl (Nat.le_of_ble_eq_true rfl) ?_
  repeat (first | refine mi_s1 (fun _ => rfl) ?_ | refine mi_wgf rfl (by assumption) rfl ?_ | refine mi_wal rfl (by assumption) rfl (by omega) (by decide) ?_)
  refine mi_wif (fun z => ?_) (fun z => ?_)
  · have z := (nI_eq (by omega) (by decide)).mp z
    have e : op_fold S = _ := if_pos z
    rw [e]
    clear e
    obtain ⟨mp, oc, tl, gu, HF⟩ := HB.2.2.1
    obtain ⟨ma, xo, k0, -⟩ := id HF
    obtain ⟨r1, w1, he, rfl, H1, hF1⟩ := ev_findMap (X := X) HB.1 HF
    repeat (first | refine mi_s1 (fun _ => rfl) ?_ | refine mi_wgf rfl (by assumption) rfl ?_ | refine mi_wal rfl (by assumption) rfl (by omega) (by decide) ?_)
    refine mi_wcv rfl rfl (Nat.le_of_ble_eq_true rfl) k0 rfl (he) ?_
    have HB1 := HB.fo hF1 ⟨_, _, _, _, H1⟩
    have h01 := hF1.get (by omega) h0
    obtain ⟨ma, xo, k0, k1, k2, -⟩ := id H1
    repeat (first | refine mi_s1 (fun _ => rfl) ?_ | refine mi_wgf rfl (by assumption) rfl ?_ | refine mi_wal rfl (by assumption) rfl (by omega) (by decide) ?_)
    refine mi_wif (fun z1 => ?_) (fun z1 => ?_)
    · have z1 := jb_0.mp z1
      rw [if_neg z1]
      repeat (first | refine mi_s1 (fun _ => rfl) ?_ | refine mi_wgf rfl (by assumption) rfl ?_ | refine mi_wal rfl (by assumption) rfl (by omega) (by decide) ?_)
      refine mi_wif (fun z2 => ?_) (fun z2 => ?_)
      · rw [if_neg (jb_0.mp z2)]
        repeat (first | refine mi_s1 (fun _ => rfl) ?_ | refine mi_wgf rfl (by assumption) rfl ?_ | refine mi_wal rfl (by assumption) rfl (by omega) (by decide) ?_)
        refine mi_r1 (fun _ => rfl) ?_
        exact ⟨rfl, ⟨pl, h01, HB1, hn, hs⟩, hF1.wide (by omega) (by omega)⟩
      · rw [if_pos (Decidable.not_not.mp (fun q => z2 (jb_0.mpr q)))]
        repeat (first | refine mi_s1 (fun _ => rfl) ?_ | refine mi_wgf rfl (by assumption) rfl ?_ | refine mi_wal rfl (by assumption) rfl (by omega) (by decide) ?_)
        refine mi_r1 (fun _ => rfl) ?_
        exact ⟨rfl, ⟨pl, h01, HB1, hn, hs⟩, hF1.wide (by omega) (by omega)⟩
    · rw [if_pos (Decidable.not_not.mp (fun q => z1 (jb_0.mpr q)))]
      obtain ⟨s1, -⟩ := id HB1.1
      obtain ⟨r2, w2, he2, rfl, H2, hF2⟩ := ev_replaceAll (X := X) (o := 26) (Or.inr (by decide)) k2 HB1.1 k1
      repeat (first | refine mi_s1 (fun _ => rfl) ?_ | refine mi_wgf rfl (by assumption) rfl ?_ | refine mi_wal rfl (by assumption) rfl (by omega) (by decide) ?_)
      refine mi_wcv rfl rfl (Nat.le_of_ble_eq_true rfl) s1 rfl ((ev_targetCount HB1.1).up (by decide)) ?_
      repeat (first | refine mi_s1 (fun _ => rfl) ?_ | refine mi_wgf rfl (by assumption) rfl ?_ | refine mi_wal rfl (by assumption) rfl (by omega) (by decide) ?_)
      refine mi_wcv rfl rfl (Nat.le_of_ble_eq_true rfl) s1 rfl (he2.up (by decide)) ?_
      have HB2 := HB1.st hF2 H2
      have h02 := hF2.get (by omega) h01
      obtain ⟨s1, -⟩ := id H2
      repeat (first | refine mi_s1 (fun _ => rfl) ?_ | refine mi_wgf rfl (by assumption) rfl ?_ | refine mi_wal rfl (by assumption) rfl (by omega) (by decide) ?_)
      refine mi_wcv rfl rfl (Nat.le_of_ble_eq_true rfl) s1 rfl ((ev_targetCount H2).up (by decide)) ?_
      repeat (first | refine mi_s1 (fun _ => rfl) ?_ | refine mi_wgf rfl (by assumption) rfl ?_ | refine mi_wal rfl (by assumption) rfl (by omega) (by decide) ?_)
      refine mi_r1 (fun _ => rfl) ?_
      exact ⟨rfl, ⟨pl, h02, HB2, hn, hs⟩, (hF1.wide (by omega) (by omega)).tr (hF2.wide (by omega) (by omega))⟩
  · have e : op_fold S = (-3, S) := if_neg (fun q => z (by rw [q]))
    rw [e]
    repeat (first | refine mi_s1 (fun _ => rfl) ?_ | refine mi_wgf rfl (by assumption) rfl ?_ | refine mi_wal rfl (by assumption) rfl (by omega) (by decide) ?_)
    refine mi_r1 (fun _ => rfl) ?_
    exact ⟨rfl, H, mi_Fg.rf⟩
theorem ctn_y {v u a : Nat} (hp : (S.R 6).2.2.2 = some (v, u)) {y : Int32} (hy : ∀ i, i < 32 → bt y i = (cst S.F (S.R 6).2.1 v u a i && decide (i < 16))) : ∀ i, i < 32 → bt y i = ctn S a i := by
  intro i hi
  unfold ctn
  rw [hp, hy i hi]
theorem ctn_16 {a i : Nat} (h : 16 ≤ i) : ctn S a i = false := by
  unfold ctn
  split
  · rw [decide_eq_false (by omega), Bool.and_false]
  · rfl
theorem ev_answers_loop {w0 : mi_H} {v u : Nat} (hp : (S.R 6).2.2.2 = some (v, u)) : ∀ f a (w : mi_H), a + f = 16 → MC w S → mi_Fg w0 w 0 71 → mi_wp X mi_P 9 m_MC_answers (22, [some (.ref 0), some (.int (nI (sm (fun a => cn (ctn S a) 24) a))), some (.int (nI a))], [], w) (fun q w1 => q = some (.int (nI (sm (fun a => cn (ctn S a) 24) 16))) ∧ MC w1 S ∧ mi_Fg w0 w1 0 71)
  | 0, a, w, ha, H, hF0 => by
    have ha : a = 16 := by omega
    subst ha
    repeat (first | refine mi_s1 (fun _ => rfl) ?_ | refine mi_wgf rfl (by assumption) rfl ?_ | refine mi_wal rfl (by assumption) rfl (by omega) (by decide) ?_)
    refine mi_r1 (fun _ => rfl) ?_
    exact ⟨rfl, H, hF0⟩
  | f + 1, a, w, ha, H, hF0 => by
    obtain ⟨pl, h0, HB, hn, hs⟩ := H.out
    obtain ⟨V, HV⟩ := HB.2.1
    obtain ⟨p1, p2, hr⟩ := HB.rg (i := 6) (by omega)
    obtain ⟨k0, -⟩ := id HV
    obtain ⟨r1, w1, he, ⟨y, rfl, hy⟩, HV1, hF1⟩ := ev_certainSeconds (X := X) (a := a) (by omega) hp (by omega) HB.1 HV hr
    have hy := ctn_y hp hy
    repeat (first | refine mi_s1 (fun _ => rfl) ?_ | refine mi_wgf rfl (by assumption) rfl ?_ | refine mi_wal rfl (by assumption) rfl (by omega) (by decide) ?_)
    refine mi_wif (fun q => absurd q (nI_ge (a := a) (b := 16) (by omega) (by omega))) (fun _ => ?_)
    repeat (first | refine mi_s1 (fun _ => rfl) ?_ | refine mi_wgf rfl (by assumption) rfl ?_ | refine mi_wal rfl (by assumption) rfl (by omega) (by decide) ?_)
    refine mi_wcv rfl rfl (Nat.le_of_ble_eq_true rfl) k0 rfl (he) ?_
    repeat (first | refine mi_s1 (fun _ => rfl) ?_ | refine mi_wgf rfl (by assumption) rfl ?_ | refine mi_wal rfl (by assumption) rfl (by omega) (by decide) ?_)
    refine mi_wcs rfl (Nat.le_of_ble_eq_true rfl) ⟨Nat.le_of_ble_eq_true rfl, Nat.le_of_ble_eq_true rfl⟩ ((ev_bitCount (fun i hi => hy i (by omega)) (fun i h1 h2 => by rw [hy i h2, ctn_16 (by omega)])).up (by decide)) ?_
    refine mi_s1 (fun _ => rfl) ?_; refine mi_s1 (fun _ => rfl) ?_; refine mi_s1 (fun _ => rfl) ?_; refine mi_s1 (fun _ => rfl) ?_
    rw [show nI a + nI 1 = nI (a + 1) from nI_1 a, nI_add]
    exact ev_answers_loop hp f (a + 1) w1 (by omega) ⟨pl, hF1.get (by omega) h0, HB.se hF1 HV1, hn, hs⟩ (hF0.tr (hF1.wide (by omega) (by omega)))
theorem wfS.q (hw : wfS S) (hq : S.hq = true) : ∃ v u, (S.R 6).2.2.2 = some (v, u) ∧ inB (S.R 6).2.1 v = true ∧ inB (S.R 6).2.1 u = true := by
  obtain ⟨h1, h2⟩ := hw.2 hq
  obtain ⟨-, -, h3, -, -, h4⟩ := fault0 h2
  cases e : (S.R 6).2.2.2 with
  | none => exact absurd e (h3 (by omega))
  | some p => exact ⟨p.1, p.2, rfl, h4 p.1 p.2 e⟩
theorem ev_answers (H : MC w S) (hw : wfS S) : mi_Ex X 10 k_MC_answers [.ref 0] w (fun q w1 => q = some (.int (op_answers S)) ∧ MC w1 S ∧ mi_Fg w w1 0 71) := by
  obtain ⟨pl, h0, HB, hn, hs⟩ := H.out
  have bad : ∀ L1 L2, ¬ (S.s = 2 ∧ S.hq = true) → mi_wp X mi_P 9 m_MC_answers (15, [some (.ref 0), L1, L2], [], w) (fun q w1 => q = some (.int (op_answers S)) ∧ MC w1 S ∧ mi_Fg w w1 0 71) := by
    intro L1 L2 h
    have e : op_answers S = -3 := if_neg h
    rw [e]
    repeat (first | refine mi_s1 (fun _ => rfl) ?_ | refine mi_wgf rfl (by assumption) rfl ?_ | refine mi_wal rfl (by assumption) rfl (by omega) (by decide) ?_)
    refine mi_r1 (fun _ => rfl) ?_
    exact ⟨rfl, H, mi_Fg.rf⟩
  refine mi_Ex.of (M := m_MC_answers) rfl (Nat.le_of_ble_eq_true rfl) ?_
  repeat (first | refine mi_s1 (fun _ => rfl) ?_ | refine mi_wgf rfl (by assumption) rfl ?_ | refine mi_wal rfl (by assumption) rfl (by omega) (by decide) ?_)
  refine mi_wif (fun z => ?_) (fun z => ?_)
  · have z := (nI_eq (by omega) (by decide)).mp z
    repeat (first | refine mi_s1 (fun _ => rfl) ?_ | refine mi_wgf rfl (by assumption) rfl ?_ | refine mi_wal rfl (by assumption) rfl (by omega) (by decide) ?_)
    refine mi_wif (fun z1 => ?_) (fun z1 => ?_)
    · exact bad _ _ (fun q => jb_0.mp z1 q.2)
    · have z1 := Decidable.not_not.mp (fun q => z1 (jb_0.mpr q))
      obtain ⟨v, u, hp, -⟩ := hw.q z1
      have e : op_answers S = _ := if_pos ⟨z, z1⟩
      rw [e]
      refine mi_s1 (fun _ => rfl) ?_; refine mi_s1 (fun _ => rfl) ?_; refine mi_s1 (fun _ => rfl) ?_; refine mi_s1 (fun _ => rfl) ?_
      exact ev_answers_loop hp 16 0 w rfl H mi_Fg.rf
  · exact bad _ _ (fun q => z (by rw [q.1]))
theorem ev_answer_loop {w0 : mi_H} {v u : Nat} (hp : (S.R 6).2.2.2 = some (v, u)) : ∀ f a k (w : mi_H) (z z4 z5 : Option Value), a + f = 16 → k < 2 ^ 31 → MC w S → mi_Fg w0 w 0 71 → mi_wp X mi_P 9 m_MC_answer (26, [some (.ref 0), z, some (.int (nI k)), some (.int (nI a)), z4, z5], [], w) (fun q w1 => q = some (.int (kq (ctn S) f a k)) ∧ MC w1 S ∧ mi_Fg w0 w1 0 71)
  | 0, a, k, w, z, z4, z5, ha, hk, H, hF0 => by
    have ha : a = 16 := by omega
    subst ha
    repeat (first | refine mi_s1 (fun _ => rfl) ?_ | refine mi_wgf rfl (by assumption) rfl ?_ | refine mi_wal rfl (by assumption) rfl (by omega) (by decide) ?_)
    refine mi_r1 (fun _ => rfl) ?_
    exact ⟨rfl, H, hF0⟩
  | f + 1, a, k, w, z, z4, z5, ha, hk, H, hF0 => by
    obtain ⟨pl, h0, HB, hn, hs⟩ := H.out
    obtain ⟨V, HV⟩ := HB.2.1
    obtain ⟨p1, p2, hr⟩ := HB.rg (i := 6) (by omega)
    obtain ⟨k0, -⟩ := id HV
    obtain ⟨r1, w1, he, ⟨y, rfl, hy⟩, HV1, hF1⟩ := ev_certainSeconds (X := X) (a := a) (by omega) hp (by omega) HB.1 HV hr
    have hy := ctn_y hp hy
    have fin : MC w1 S ∧ mi_Fg w0 w1 0 71 := ⟨⟨pl, hF1.get (by omega) h0, HB.se hF1 HV1, hn, hs⟩, hF0.tr (hF1.wide (by omega) (by omega))⟩
    have hc := cn_le (ctn S a) 24
    repeat (first | refine mi_s1 (fun _ => rfl) ?_ | refine mi_wgf rfl (by assumption) rfl ?_ | refine mi_wal rfl (by assumption) rfl (by omega) (by decide) ?_)
    refine mi_wif (fun q => absurd q (nI_ge (a := a) (b := 16) (by omega) (by omega))) (fun _ => ?_)
    repeat (first | refine mi_s1 (fun _ => rfl) ?_ | refine mi_wgf rfl (by assumption) rfl ?_ | refine mi_wal rfl (by assumption) rfl (by omega) (by decide) ?_)
    refine mi_wcv rfl rfl (Nat.le_of_ble_eq_true rfl) k0 rfl (he) ?_
    repeat (first | refine mi_s1 (fun _ => rfl) ?_ | refine mi_wgf rfl (by assumption) rfl ?_ | refine mi_wal rfl (by assumption) rfl (by omega) (by decide) ?_)
    refine mi_wcs rfl (Nat.le_of_ble_eq_true rfl) ⟨Nat.le_of_ble_eq_true rfl, Nat.le_of_ble_eq_true rfl⟩ ((ev_bitCount (fun i hi => hy i (by omega)) (fun i h1 h2 => by rw [hy i h2, ctn_16 (by omega)])).up (by decide)) ?_
    repeat (first | refine mi_s1 (fun _ => rfl) ?_ | refine mi_wgf rfl (by assumption) rfl ?_ | refine mi_wal rfl (by assumption) rfl (by omega) (by decide) ?_)
    unfold kq
    refine mi_wif (fun z6 => ?_) (fun z6 => ?_)
    · have z6 : ¬ k < cn (ctn S a) 24 := fun q => nI_ge q (by omega) z6
      rw [if_neg z6]
      refine mi_s1 (fun _ => rfl) ?_; refine mi_s1 (fun _ => rfl) ?_; refine mi_s1 (fun _ => rfl) ?_; refine mi_s1 (fun _ => rfl) ?_; refine mi_s1 (fun _ => rfl) ?_; refine mi_s1 (fun _ => rfl) ?_
      rw [show nI a + nI 1 = nI (a + 1) from nI_1 a, pk_sub (by omega)]
      exact ev_answer_loop hp f (a + 1) _ w1 _ _ _ (by omega) (by omega) fin.1 fin.2
    · have z6 : k < cn (ctn S a) 24 := by
        rcases Nat.lt_or_ge k (cn (ctn S a) 24) with q | q
        · exact q
        · exact absurd (nI_le q (by omega)) z6
      rw [if_pos z6]
      repeat (first | refine mi_s1 (fun _ => rfl) ?_ | refine mi_wgf rfl (by assumption) rfl ?_ | refine mi_wal rfl (by assumption) rfl (by omega) (by decide) ?_)
      refine mi_wcs rfl (Nat.le_of_ble_eq_true rfl) ⟨Nat.le_of_ble_eq_true rfl, Nat.le_of_ble_eq_true rfl⟩ ((ev_bitAt y (k := k) (by omega)).up (by decide)) ?_
      repeat (first | refine mi_s1 (fun _ => rfl) ?_ | refine mi_wgf rfl (by assumption) rfl ?_ | refine mi_wal rfl (by assumption) rfl (by omega) (by decide) ?_)
      refine mi_r1 (fun _ => rfl) ?_
      refine ⟨?_, fin⟩
      have e : kb y 0 24 k = some (kp.kf (ctn S a) 0 24 k) := kb_kf (fun i hi => hy i (by omega)) 24 0 k rfl (by
        have : (fun i => ctn S a (0 + i)) = ctn S a := by
          funext i
          rw [Nat.zero_add]
        rw [this]
        exact z6)
      rw [e]
      show some (Value.int (nI 16 * nI a + nI _)) = _
      rw [pk_mul, nI_add]
theorem ev_answer (H : MC w S) (hw : wfS S) (k : Int32) : mi_Ex X 10 k_MC_answer [.ref 0, .int k] w (fun q w1 => q = some (.int (op_answer S k)) ∧ MC w1 S ∧ mi_Fg w w1 0 71) := by
  obtain ⟨pl, h0, HB, hn, hs⟩ := H.out
  have bad : ∀ L2 L3 L4 L5, ¬ (S.s = 2 ∧ S.hq = true ∧ 0 ≤ k) → mi_wp X mi_P 9 m_MC_answer (19, [some (.ref 0), some (.int k), L2, L3, L4, L5], [], w) (fun q w1 => q = some (.int (op_answer S k)) ∧ MC w1 S ∧ mi_Fg w w1 0 71) := by
    intro L2 L3 L4 L5 h
    have e : op_answer S k = -3 := if_neg h
    rw [e]
    repeat (first | refine mi_s1 (fun _ => rfl) ?_ | refine mi_wgf rfl (by assumption) rfl ?_ | refine mi_wal rfl (by assumption) rfl (by omega) (by decide) ?_)
    refine mi_r1 (fun _ => rfl) ?_
    exact ⟨rfl, H, mi_Fg.rf⟩
  refine mi_Ex.of (M := m_MC_answer) rfl (Nat.le_of_ble_eq_true rfl) ?_
  repeat (first | refine mi_s1 (fun _ => rfl) ?_ | refine mi_wgf rfl (by assumption) rfl ?_ | refine mi_wal rfl (by assumption) rfl (by omega) (by decide) ?_)
  refine mi_wif (fun z => ?_) (fun z => ?_)
  · have z := (nI_eq (by omega) (by decide)).mp z
    repeat (first | refine mi_s1 (fun _ => rfl) ?_ | refine mi_wgf rfl (by assumption) rfl ?_ | refine mi_wal rfl (by assumption) rfl (by omega) (by decide) ?_)
    refine mi_wif (fun z1 => ?_) (fun z1 => ?_)
    · exact bad _ _ _ _ (fun q => jb_0.mp z1 q.2.1)
    · have z1 := Decidable.not_not.mp (fun q => z1 (jb_0.mpr q))
      obtain ⟨v, u, hp, -⟩ := hw.q z1
      repeat (first | refine mi_s1 (fun _ => rfl) ?_ | refine mi_wgf rfl (by assumption) rfl ?_ | refine mi_wal rfl (by assumption) rfl (by omega) (by decide) ?_)
      refine mi_wif (fun z2 => ?_) (fun z2 => ?_)
      · have e : op_answer S k = _ := if_pos ⟨z, z1, z2⟩
        rw [e]
        refine mi_s1 (fun _ => rfl) ?_; refine mi_s1 (fun _ => rfl) ?_; refine mi_s1 (fun _ => rfl) ?_; refine mi_s1 (fun _ => rfl) ?_
        have hk : k.toNatClampNeg < 2 ^ 31 := by
          obtain ⟨j, hj, e⟩ := nI_of (x := k) (by simpa using z2)
          rw [e, nI_clamp hj]
          exact hj
        have hk2 := nI_back z2
        rw [← hk2]
        rw [nI_clamp hk]
        exact ev_answer_loop hp 16 0 _ w _ _ _ rfl hk H mi_Fg.rf
      · exact bad _ _ _ _ (fun q => z2 q.2.2)
  · exact bad _ _ _ _ (fun q => z (by rw [q.1]))
end Calls
