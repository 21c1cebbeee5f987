/-! class MappingChase: the chase -/
def gv (V : sp_V) (v : Nat) : Nat := (V v).getD 0
/-- one dependency at a match that is not satisfied: done, facts, state -/
def eqO (F : Nat → Nat → Nat → Bool) (R : sp_R) (V : sp_V) : Bool × (Nat → Nat → Nat → Bool) × Nat := match R.2.2.2 with
  | some (v, u) => if max (gv V v) (gv V u) < 16 then (false, F, 3) else (true, repF F (fun x => if x = max (gv V v) (gv V u) then min (gv V v) (gv V u) else x), 1)
  | none => (false, F, 3)
def geO (F : Nat → Nat → Nat → Bool) (R : sp_R) (V : sp_V) : Bool × (Nat → Nat → Nat → Bool) × Nat := match nfr (frR R) 4 0 (occ F 2 4) V with
  | some V' => if cts F 2 4 + cms F V' R.2.2.1 R.2.2.1.length 0 ≤ 24 then (true, R.2.2.1.foldl (addA V') F, 1) else (false, F, 4)
  | none => (false, F, 4)
def stO (F : Nat → Nat → Nat → Bool) (R : sp_R) (V : sp_V) : Bool × (Nat → Nat → Nat → Bool) × Nat := if R.1 = 1 then eqO F R V else geO F R V
def onc (F : Nat → Nat → Nat → Bool) (R : Nat → sp_R) : Nat → Nat → Int32 × (Nat → Nat → Nat → Bool) × Nat
  | 0, _ => (0, F, 2)
  | f + 1, d => match fu F (R d) (stR (R d)) 4 0 (fun _ => none) with
    | none => onc F R f (d + 1)
    | some V => (if (stO F (R d) V).1 = true then nI (1 + d) else if (stO F (R d) V).2.2 = 3 then -1 else -2, (stO F (R d) V).2)
abbrev onS (S : sp_S) : Int32 × (Nat → Nat → Nat → Bool) × Nat := onc S.F S.R S.n 0
def op_once (S : sp_S) : Int32 × sp_S := ((onS S).1, setFs S (onS S).2.1 (onS S).2.2)
def op_step (S : sp_S) : Int32 × sp_S := if S.s = 1 then op_once S else (-3, S)
def rnl : Nat → Nat → sp_S → Nat × sp_S
  | 0, m, S => (m, S)
  | f + 1, m, S => if 0 < (op_once S).1 then rnl f (m + 1) (op_once S).2 else (m, (op_once S).2)
def op_run (S : sp_S) (x : Int32) : Int32 × sp_S := if S.s = 1 then (nI (rnl x.toNatClampNeg 0 S).1, (rnl x.toNatClampNeg 0 S).2) else (-3, S)
theorem fsm {α : Type} {g : Nat → Option α} : ∀ {l : List Nat} {y : α}, l.findSome? g = some y → ∃ x ∈ l, g x = some y
  | [], y, h => by cases h
  | a :: l, y, h => by
    rw [List.findSome?_cons] at h
    cases q : g a with
    | some z =>
      rw [q] at h
      cases h
      exact ⟨a, List.mem_cons_self, q⟩
    | none =>
      rw [q] at h
      obtain ⟨x, h1, h2⟩ := fsm h
      exact ⟨x, List.mem_cons_of_mem _ h1, h2⟩
/-- the match gives values to the body's variables, and to no others -/
theorem fu_dom {F : Nat → Nat → Nat → Bool} {R : sp_R} {s : Nat} : ∀ n v (V V' : sp_V), (∀ u, v ≤ u → V u = none) → fu F R s n v V = some V' → (∀ u, u < v → V' u = V u) ∧ (∀ u, v ≤ u → u < v + n → (V' u ≠ none ↔ inB R.2.1 u = true)) ∧ (∀ u, v + n ≤ u → V' u = none)
  | 0, v, V, V', hV, h => by
    unfold fu at h
    split at h
    · cases h
    · cases h
      exact ⟨fun u _ => rfl, fun u h1 h2 => absurd h2 (by omega), fun u hu => hV u (by omega)⟩
  | n + 1, v, V, V', hV, h => by
    unfold fu at h
    split at h
    · cases h
    · split at h
      · rename_i z
        obtain ⟨h1, h2, h3⟩ := fu_dom n (v + 1) V V' (fun u hu => hV u (by omega)) h
        refine ⟨fun u hu => h1 u (by omega), fun u q1 q2 => ?_, fun u hu => h3 u (by omega)⟩
        by_cases q : u = v
        · subst q
          rw [h1 u (by omega), hV u (by omega), z]
          simp
        · exact h2 u (by omega) (by omega)
      · rename_i z
        obtain ⟨x, hx, h⟩ := fsm h
        split at h
        · obtain ⟨h1, h2, h3⟩ := fu_dom n (v + 1) (updS V v (some x)) V' (fun u hu => by
            unfold updS
            rw [if_neg (by omega)]
            exact hV u (by omega)) h
          refine ⟨fun u hu => ?_, fun u q1 q2 => ?_, fun u hu => h3 u (by omega)⟩
          · rw [h1 u (by omega)]
            unfold updS
            rw [if_neg (by omega)]
          · by_cases q : u = v
            · subst q
              rw [h1 u (by omega)]
              unfold updS
              rw [if_pos rfl]
              simpa using z
            · exact h2 u (by omega) (by omega)
        · cases h
theorem nfr_dom {fr : Nat → Bool} : ∀ n v (us : Nat → Bool) (V V' : sp_V), nfr fr n v us V = some V' → ∀ u, (V' u ≠ none ↔ (V u ≠ none ∨ (v ≤ u ∧ u < v + n ∧ fr u = true)))
  | 0, v, us, V, V', h, u => by
    cases h
    constructor
    · exact Or.inl
    · rintro (q | ⟨q1, q2, -⟩)
      · exact q
      · omega
  | n + 1, v, us, V, V', h, u => by
    unfold nfr at h
    split at h
    · rename_i z
      split at h
      · rename_i x hx
        rw [nfr_dom n (v + 1) _ _ V' h u]
        unfold updS
        by_cases q : u = v
        · subst q
          rw [if_pos rfl]
          exact ⟨fun _ => Or.inr ⟨Nat.le_refl u, by omega, z⟩, fun _ => Or.inl (by simp)⟩
        · rw [if_neg q]
          constructor
          · rintro (a | ⟨a, b, c⟩)
            · exact Or.inl a
            · exact Or.inr ⟨by omega, by omega, c⟩
          · rintro (a | ⟨a, b, c⟩)
            · exact Or.inl a
            · exact Or.inr ⟨by omega, by omega, c⟩
      · cases h
    · rename_i z
      rw [nfr_dom n (v + 1) _ _ V' h u]
      constructor
      · rintro (a | ⟨a, b, c⟩)
        · exact Or.inl a
        · exact Or.inr ⟨by omega, by omega, c⟩
      · rintro (a | ⟨a, b, c⟩)
        · exact Or.inl a
        · by_cases q : u = v
          · subst q
            exact absurd c z
          · exact Or.inr ⟨by omega, by omega, c⟩
theorem stR_le {R : sp_R} (h : ∀ v u, R.2.2.2 = some (v, u) → v < 4 ∧ u < 4) : stR R ≤ 4 := by
  unfold stR
  split
  · exact stl_le _ _ 4
  · split
    · rename_i v u e
      obtain ⟨h1, h2⟩ := h v u e
      omega
    · omega
theorem inB_mem {as : List sp_A} {q : sp_A} (h : q ∈ as) : inB as q.2.1 = true ∧ inB as q.2.2 = true := by
  unfold inB
  rw [List.any_eq_true, List.any_eq_true]
  exact ⟨⟨q, h, by simp⟩, ⟨q, h, by simp⟩⟩
section Chase
variable {X : mi_X} {w : mi_H} {S : sp_S}
theorem At.okA {o : Nat} {as : List sp_A} (H : At w o as) : ∀ q ∈ as, okA q := by
  intro q hq
  obtain ⟨i, hi, e⟩ := List.mem_iff_getElem.mp hq
  exact (H.choose_spec.2.2.2 i q (by rw [List.getElem?_eq_getElem hi, e])).2
theorem ev_outcome (H : MC w S) : mi_Ev X mi_P 1 k_MC_outcome [.ref 0] w (some (.int (if S.s = 3 then -1 else -2))) w := by
  obtain ⟨pl, h0, HB, hn, hs⟩ := H.out
  refine mi_Ev.of (M := m_MC_outcome) rfl (Nat.le_of_ble_eq_true rfl) ?_
  repeat (first | refine mi_s1 (fun _ => rfl) ?_ | refine mi_wgf rfl (by assumption) rfl ?_ | refine mi_wal rfl (by assumption) rfl (by omega) (by decide) ?_)
  refine mi_wif (fun z => ?_) (fun z => ?_)
  · rw [if_pos ((nI_eq (by omega) (by decide)).mp z)]
    repeat (first | refine mi_s1 (fun _ => rfl) ?_ | refine mi_wgf rfl (by assumption) rfl ?_ | refine mi_wal rfl (by assumption) rfl (by omega) (by decide) ?_)
    refine mi_r1 (fun _ => rfl) ?_
    exact ⟨rfl, rfl⟩
  · rw [if_neg (fun q => z (by rw [q]))]
    repeat (first | refine mi_s1 (fun _ => rfl) ?_ | refine mi_wgf rfl (by assumption) rfl ?_ | refine mi_wal rfl (by assumption) rfl (by omega) (by decide) ?_)
    refine mi_r1 (fun _ => rfl) ?_
    exact ⟨rfl, rfl⟩
theorem MC.put {w1 : mi_H} {pl : Nat → Nat} {s : Nat} (HB : MB w S.F pl S.R) (hn : S.n ≤ 6) (hs : s ≤ 4) (h0 : w1[0]? = some (ob pl S.n S.hd S.hq s)) (hF : mi_Fr w w1 [0]) : MC w1 (setFs S S.F s) := ⟨pl, h0, HB.g0 (mi_Fg.of1 hF (by omega) (by omega)), hn, hs⟩
theorem ev_makeEqual {pl : Nat → Nat} {V : sp_V} {d : Nat} (h0 : w[0]? = some (.inr (0, [.ref 1, .ref 23, .ref 25, .ref 27, .ref 30, .int (nI S.n), .ref (pl 7), .int (jb (S.hd = true)), .ref (pl 6), .int (jb (S.hq = true)), .int (nI S.s)]))) (HB : MB w S.F pl S.R) (hn : S.n ≤ 6) (hs : S.s = 1) (hd : d < 8) (HV : Se w V) {v u : Nat} (hp : (S.R d).2.2.2 = some (v, u)) (hv : V v ≠ none) (hu : V u ≠ none) : mi_Ex X 6 k_MC_makeEqual [.ref 0, .ref (pl d)] w (fun q w1 => q = some (.int (jb ((eqO S.F (S.R d) V).1 = true))) ∧ MC w1 (setFs S (eqO S.F (S.R d) V).2.1 (eqO S.F (S.R d) V).2.2) ∧ mi_Fg w w1 0 71) := by
  obtain ⟨p1, p2, hr⟩ := HB.rg hd
  obtain ⟨fi, se, k3, hA, -, hk, -, hq⟩ := id hr
  obtain ⟨rfl, rfl, hv4, hu4⟩ := hq v u hp
  obtain ⟨k0, ⟨f, k1, hf⟩, hx⟩ := id HV
  obtain ⟨s1, -⟩ := id HB.1
  cases ev : V v with
  | none => exact absurd ev hv
  | some x =>
  cases eu : V u with
  | none => exact absurd eu hu
  | some y =>
  have hx24 := hx v x hv4 ev
  have hy24 := hx u y hu4 eu
  have e : eqO S.F (S.R d) V = if max x y < 16 then (false, S.F, 3) else (true, repF S.F (fun z => if z = max x y then min x y else z), 1) := by
    unfold eqO gv
    rw [hp]
    simp only [ev, eu, Option.getD_some]
  rw [e]
  have fv : f v = nI x := by rw [hf v hv4, ev]; rfl
  have fu' : f u = nI y := by rw [hf u hu4, eu]; rfl
  refine mi_Ex.of (M := m_MC_makeEqual) rfl (Nat.le_of_ble_eq_true rfl) ?_
  repeat (first | refine mi_s1 (fun _ => rfl) ?_ | refine mi_wgf rfl (by assumption) rfl ?_ | refine mi_wal rfl (by assumption) rfl (by omega) (by decide) ?_)
  rw [fv, fu']
  repeat (first | refine mi_s1 (fun _ => rfl) ?_ | refine mi_wgf rfl (by assumption) rfl ?_ | refine mi_wal rfl (by assumption) rfl (by omega) (by decide) ?_)
  have em : (if nI x < nI y then nI y else nI x) = nI (max x y) := by
    by_cases q : x < y
    · rw [if_pos (nI_lt q (by omega)), Nat.max_eq_right (by omega)]
    · rw [if_neg (nI_nlt (by omega) (by omega)), Nat.max_eq_left (by omega)]
  have en : (if nI y < nI x then nI y else nI x) = nI (min x y) := by
    by_cases q : y < x
    · rw [if_pos (nI_lt q (by omega)), Nat.min_eq_right (by omega)]
    · rw [if_neg (nI_nlt (by omega) (by omega)), Nat.min_eq_left (by omega)]
  rw [em]
  refine mi_wcs rfl (Nat.le_of_ble_eq_true rfl) ⟨Nat.le_of_ble_eq_true rfl, Nat.le_of_ble_eq_true rfl⟩ ((ev_isConstant _).up (by decide)) ?_
  repeat (first | refine mi_s1 (fun _ => rfl) ?_ | refine mi_wgf rfl (by assumption) rfl ?_ | refine mi_wal rfl (by assumption) rfl (by omega) (by decide) ?_)
  refine mi_wif (fun z => ?_) (fun z => ?_)
  · have z : ¬ max x y < 16 := fun q => jb_0.mp z ((mi_rng (by decide)).mpr ⟨_, q, rfl⟩)
    rw [if_neg z]
    obtain ⟨r1, w1, he, rfl, H1, hF1⟩ := ev_replaceOne (X := X) (x := max x y) (y := min x y) (F := S.F) (by omega) (by omega) HB.1
    repeat (first | refine mi_s1 (fun _ => rfl) ?_ | refine mi_wgf rfl (by assumption) rfl ?_ | refine mi_wal rfl (by assumption) rfl (by omega) (by decide) ?_)
    rw [en]
    refine mi_wcv rfl rfl (Nat.le_of_ble_eq_true rfl) s1 rfl (he) ?_
    repeat (first | refine mi_s1 (fun _ => rfl) ?_ | refine mi_wgf rfl (by assumption) rfl ?_ | refine mi_wal rfl (by assumption) rfl (by omega) (by decide) ?_)
    refine mi_wrz rfl rfl rfl ?_
    refine ⟨rfl, ⟨pl, ?_, HB.st hF1 H1, hn, by show 1 ≤ 4; omega⟩, hF1.wide (by omega) (by omega)⟩
    rw [hs] at h0
    exact hF1.get (by omega) h0
  · have z : max x y < 16 := by
      have := Decidable.not_not.mp (fun q => z (jb_0.mpr q))
      obtain ⟨n, h1, h2⟩ := (mi_rng (by decide)).mp this
      rw [(nI_eq (by omega) (by omega)).mp h2]
      exact h1
    rw [if_pos z]
    repeat (first | refine mi_s1 (fun _ => rfl) ?_ | refine mi_wgf rfl (by assumption) rfl ?_ | refine mi_wal rfl (by assumption) rfl (by omega) (by decide) ?_)
    refine mi_wpg rfl h0 (Nat.le_of_ble_eq_true rfl) rfl (fun w3 h03 hF3 => ?_)
    repeat (first | refine mi_s1 (fun _ => rfl) ?_ | refine mi_wgf rfl (by assumption) rfl ?_ | refine mi_wal rfl (by assumption) rfl (by omega) (by decide) ?_)
    refine mi_wrz rfl rfl rfl ?_
    exact ⟨rfl, MC.put HB hn (Nat.le_of_ble_eq_true rfl) h03 hF3, mi_Fg.of1 hF3 (by omega) (by omega)⟩
theorem cms_le (F : Nat → Nat → Nat → Bool) (V : sp_V) (as : List sp_A) : ∀ f i, cms F V as f i ≤ f
  | 0, i => Nat.le_refl 0
  | f + 1, i => by
    have := cms_le F V as f (i + 1)
    unfold cms
    split
    · split <;> omega
    · omega
theorem ev_makeFacts {pl : Nat → Nat} {V : sp_V} {d : Nat} (h0 : w[0]? = some (.inr (0, [.ref 1, .ref 23, .ref 25, .ref 27, .ref 30, .int (nI S.n), .ref (pl 7), .int (jb (S.hd = true)), .ref (pl 6), .int (jb (S.hq = true)), .int (nI S.s)]))) (HB : MB w S.F pl S.R) (hn : S.n ≤ 6) (hs : S.s = 1) (hd : d < 8) (HV : Se w V) (hV : ∀ u, u < 4 → inB (S.R d).2.1 u = true → V u ≠ none) : mi_Ex X 5 k_MC_makeFacts [.ref 0, .ref (pl d)] w (fun q w1 => q = some (.int (jb ((geO S.F (S.R d) V).1 = true))) ∧ MC w1 (setFs S (geO S.F (S.R d) V).2.1 (geO S.F (S.R d) V).2.2) ∧ mi_Fg w w1 0 71) := by
  obtain ⟨p1, p2, hr⟩ := HB.rg hd
  obtain ⟨k0, -⟩ := id HV
  obtain ⟨r1, w1, he, rfl, ⟨V', HV1, hV1⟩, hF1⟩ := ev_nameFree (X := X) (by omega) HB.1 HV hr
  have HB1 := HB.se hF1 ⟨V', HV1⟩
  have h01 := hF1.get (by omega) h0
  obtain ⟨p1, p2, hr1⟩ := HB1.rg hd
  obtain ⟨fi, se, k3, hA, hA2, hk, hh, hq⟩ := id hr1
  obtain ⟨s1, -⟩ := id HB1.1
  obtain ⟨k01, -⟩ := id HV1
  refine mi_Ex.of (M := m_MC_makeFacts) rfl (Nat.le_of_ble_eq_true rfl) ?_
  have bad : (geO S.F (S.R d) V) = (false, S.F, 4) → mi_wp X mi_P 4 m_MC_makeFacts (35, [some (.ref 0), some (.ref (pl d))], [], w1) (fun q w1 => q = some (.int (jb ((geO S.F (S.R d) V).1 = true))) ∧ MC w1 (setFs S (geO S.F (S.R d) V).2.1 (geO S.F (S.R d) V).2.2) ∧ mi_Fg w w1 0 71) := by
    intro e
    rw [e]
    repeat (first | refine mi_s1 (fun _ => rfl) ?_ | refine mi_wgf rfl (by assumption) rfl ?_ | refine mi_wal rfl (by assumption) rfl (by omega) (by decide) ?_)
    refine mi_wpg rfl h01 (Nat.le_of_ble_eq_true rfl) rfl (fun w3 h03 hF3 => ?_)
    repeat (first | refine mi_s1 (fun _ => rfl) ?_ | refine mi_wgf rfl (by assumption) rfl ?_ | refine mi_wal rfl (by assumption) rfl (by omega) (by decide) ?_)
    refine mi_wrz rfl rfl rfl ?_
    exact ⟨rfl, MC.put HB1 hn (Nat.le_of_ble_eq_true rfl) h03 hF3, (hF1.wide (by omega) (by omega)).tr (mi_Fg.of1 hF3 (by omega) (by omega))⟩
  repeat (first | refine mi_s1 (fun _ => rfl) ?_ | refine mi_wgf rfl (by assumption) rfl ?_ | refine mi_wal rfl (by assumption) rfl (by omega) (by decide) ?_)
  refine mi_wcv rfl rfl (Nat.le_of_ble_eq_true rfl) k0 rfl (he) ?_
  repeat (first | refine mi_s1 (fun _ => rfl) ?_ | refine mi_wgf rfl (by assumption) rfl ?_ | refine mi_wal rfl (by assumption) rfl (by omega) (by decide) ?_)
  refine mi_wif (fun z => ?_) (fun z => ?_)
  · refine bad ?_
    have z := jb_0.mp z
    unfold geO
    cases q : nfr (frR (S.R d)) 4 0 (occ S.F 2 4) V with
    | none => rfl
    | some V2 =>
      rw [q] at z
      exact absurd rfl z
  · have z := Decidable.not_not.mp (fun q => z (jb_0.mpr q))
    cases q : nfr (frR (S.R d)) 4 0 (occ S.F 2 4) V with
    | none =>
      rw [q] at z
      cases z
    | some V2 =>
    have e2 := hV1 V2 q
    subst e2
    have e : geO S.F (S.R d) V = if cts S.F 2 4 + cms S.F V' (S.R d).2.2.1 (S.R d).2.2.1.length 0 ≤ 24 then (true, (S.R d).2.2.1.foldl (addA V') S.F, 1) else (false, S.F, 4) := by
      unfold geO
      rw [q]
    have hc := cts_le S.F 4 2
    have hm := cms_le S.F V' (S.R d).2.2.1 (S.R d).2.2.1.length 0
    repeat (first | refine mi_s1 (fun _ => rfl) ?_ | refine mi_wgf rfl (by assumption) rfl ?_ | refine mi_wal rfl (by assumption) rfl (by omega) (by decide) ?_)
    refine mi_wcv rfl rfl (Nat.le_of_ble_eq_true rfl) s1 rfl ((ev_targetCount HB1.1).up (by decide)) ?_
    repeat (first | refine mi_s1 (fun _ => rfl) ?_ | refine mi_wgf rfl (by assumption) rfl ?_ | refine mi_wal rfl (by assumption) rfl (by omega) (by decide) ?_)
    refine mi_wcv rfl rfl (Nat.le_of_ble_eq_true rfl) k01 rfl (ev_countMissing HB1.1 HV1 hA2) ?_
    repeat (first | refine mi_s1 (fun _ => rfl) ?_ | refine mi_wgf rfl (by assumption) rfl ?_ | refine mi_wal rfl (by assumption) rfl (by omega) (by decide) ?_)
    rw [nI_add]
    refine mi_wif (fun z2 => ?_) (fun z2 => ?_)
    · have z2 := (nI_leI (by omega) (by decide)).mp z2
      rw [if_pos z2] at e
      rw [e]
      obtain ⟨r2, w2, he2, rfl, H2, hF2⟩ := ev_addFacts (X := X) (by omega) (fun a ha => by
        obtain ⟨i1, i2⟩ := inB_mem ha
        obtain ⟨-, o1, o2⟩ := hA2.okA a ha
        have key : ∀ x, x < 4 → inB (S.R d).2.2.1 x = true → V' x ≠ none := fun x hx hi => by
          rw [nfr_dom 4 0 _ V V' q x]
          cases hb : inB (S.R d).2.1 x with
          | true => exact Or.inl (hV x hx hb)
          | false => exact Or.inr ⟨by omega, by omega, by unfold frR; rw [hi, hb]; rfl⟩
        exact ⟨key _ o1 i1, key _ o2 i2⟩) HB1.1 HV1 hA2
      repeat (first | refine mi_s1 (fun _ => rfl) ?_ | refine mi_wgf rfl (by assumption) rfl ?_ | refine mi_wal rfl (by assumption) rfl (by omega) (by decide) ?_)
      refine mi_wcv rfl rfl (Nat.le_of_ble_eq_true rfl) k01 rfl (he2.up (by decide)) ?_
      repeat (first | refine mi_s1 (fun _ => rfl) ?_ | refine mi_wgf rfl (by assumption) rfl ?_ | refine mi_wal rfl (by assumption) rfl (by omega) (by decide) ?_)
      refine mi_wrz rfl rfl rfl ?_
      refine ⟨rfl, ⟨pl, ?_, HB1.st (hF2.wide (by omega) (by omega)) H2, hn, by show 1 ≤ 4; omega⟩, (hF1.wide (by omega) (by omega)).tr (hF2.wide (by omega) (by omega))⟩
      rw [hs] at h01
      exact hF2.get (by omega) h01
    · have z2 : ¬ cts S.F 2 4 + cms S.F V' (S.R d).2.2.1 (S.R d).2.2.1.length 0 ≤ 24 := fun q => z2 (nI_le q (by omega))
      rw [if_neg z2] at e
      exact bad e
theorem ev_chaseOnce_loop {w0 : mi_H} (hw : wfS S) (hs : S.s = 1) : ∀ f m (w : mi_H) (z2 z3 : Option Value), m + f = S.n → MC w S → mi_Fg w0 w 0 71 → mi_wp X mi_P 14 m_MC_chaseOnce (2, [some (.ref 0), some (.int (nI m)), z2, z3], [], w) (fun q w1 => q = some (.int (onc S.F S.R f m).1) ∧ MC w1 (setFs S (onc S.F S.R f m).2.1 (onc S.F S.R f m).2.2) ∧ mi_Fg w0 w1 0 71)
  | 0, m, w, z2, z3, hm, H, hF0 => by
    obtain ⟨pl, h0, HB, hn, -⟩ := H.out
    have hm : m = S.n := by omega
    repeat (first | refine mi_s1 (fun _ => rfl) ?_ | refine mi_wgf rfl (by assumption) rfl ?_ | refine mi_wal rfl (by assumption) rfl (by omega) (by decide) ?_)
    refine mi_wif (fun _ => ?_) (fun q => absurd (nI_le (a := S.n) (b := m) (by omega) (by omega)) q)
    repeat (first | refine mi_s1 (fun _ => rfl) ?_ | refine mi_wgf rfl (by assumption) rfl ?_ | refine mi_wal rfl (by assumption) rfl (by omega) (by decide) ?_)
    refine mi_wpg rfl h0 (Nat.le_of_ble_eq_true rfl) rfl (fun w3 h03 hF3 => ?_)
    repeat (first | refine mi_s1 (fun _ => rfl) ?_ | refine mi_wgf rfl (by assumption) rfl ?_ | refine mi_wal rfl (by assumption) rfl (by omega) (by decide) ?_)
    refine mi_r1 (fun _ => rfl) ?_
    exact ⟨rfl, MC.put HB hn (Nat.le_of_ble_eq_true rfl) h03 hF3, hF0.tr (mi_Fg.of1 hF3 (by omega) (by omega))⟩
  | f + 1, m, w, z2, z3, hm, H, hF0 => by
    obtain ⟨pl, h0, HB, hn, -⟩ := H.out
    obtain ⟨g, k1, k2⟩ := HB.2.2.2.2.1
    obtain ⟨V, HV⟩ := HB.2.1
    obtain ⟨k0, -⟩ := id HV
    obtain ⟨hk2, hf0⟩ := hw.1 m (by omega)
    obtain ⟨-, hh, hc, -, -, hpb⟩ := fault0 hf0
    obtain ⟨r1, w1, he, rfl, HV1, hF1⟩ := ev_forgetValues (X := X) HV
    have HB1 := HB.se hF1 ⟨_, HV1⟩
    have h01 := hF1.get (by omega) h0
    obtain ⟨p1, p2, hr1⟩ := HB1.rg (i := m) (by omega)
    obtain ⟨fi, se, k3, hA, hA2, hk, -, hpq⟩ := id hr1
    obtain ⟨k01, -⟩ := id HV1
    have hsle : stR (S.R m) ≤ 4 := stR_le (fun v u e => ⟨(hpq v u e).2.2.1, (hpq v u e).2.2.2⟩)
    obtain ⟨r2, w2, he2, rfl, HV2, hF2⟩ := ev_findUnsatisfied (X := X) (F := S.F) (r := pl m) (R := S.R m) (s := stR (S.R m)) (by omega) hsle hc 4 0 (fun _ => none) w1 rfl (fun _ _ => rfl) HB1.1 HV1 hr1
    have HB2 := HB1.se hF2 ⟨_, HV2⟩
    have h02 := hF2.get (by omega) h01
    have k32 := hF2.get (by omega) k3
    repeat (first | refine mi_s1 (fun _ => rfl) ?_ | refine mi_wgf rfl (by assumption) rfl ?_ | refine mi_wal rfl (by assumption) rfl (by omega) (by decide) ?_)
    refine mi_wif (fun q => absurd q (nI_ge (a := m) (b := S.n) (by omega) (by omega))) (fun _ => ?_)
    repeat (first | refine mi_s1 (fun _ => rfl) ?_ | refine mi_wgf rfl (by assumption) rfl ?_ | refine mi_wal rfl (by assumption) rfl (by omega) (by decide) ?_)
    refine mi_waa rfl k1 ⟨by decide, by decide⟩ rfl (by omega) (by decide) ?_
    rw [k2 m (by omega)]
    repeat (first | refine mi_s1 (fun _ => rfl) ?_ | refine mi_wgf rfl (by assumption) rfl ?_ | refine mi_wal rfl (by assumption) rfl (by omega) (by decide) ?_)
    refine mi_wcv rfl rfl (Nat.le_of_ble_eq_true rfl) k0 rfl (he.up (by decide)) ?_
    repeat (first | refine mi_s1 (fun _ => rfl) ?_ | refine mi_wgf rfl (by assumption) rfl ?_ | refine mi_wal rfl (by assumption) rfl (by omega) (by decide) ?_)
    refine mi_wcv rfl rfl (Nat.le_of_ble_eq_true rfl) k3 rfl ((ev_settledBy hr1 hc).up (by decide)) ?_
    repeat (first | refine mi_s1 (fun _ => rfl) ?_ | refine mi_wgf rfl (by assumption) rfl ?_ | refine mi_wal rfl (by assumption) rfl (by omega) (by decide) ?_)
    refine mi_wcv rfl rfl (Nat.le_of_ble_eq_true rfl) k01 rfl (he2) ?_
    repeat (first | refine mi_s1 (fun _ => rfl) ?_ | refine mi_wgf rfl (by assumption) rfl ?_ | refine mi_wal rfl (by assumption) rfl (by omega) (by decide) ?_)
    refine mi_wif (fun z => ?_) (fun z => ?_)
    · have e : fu S.F (S.R m) (stR (S.R m)) 4 0 (fun _ => none) = none := by
        have z := jb_0.mp z
        cases q : fu S.F (S.R m) (stR (S.R m)) 4 0 (fun _ => none) with
        | none => rfl
        | some V2 =>
          rw [q] at z
          exact absurd rfl z
      have eo : onc S.F S.R (f + 1) m = onc S.F S.R f (m + 1) := by
        show (match fu S.F (S.R m) (stR (S.R m)) 4 0 (fun _ => none) with
          | none => _
          | some V => _) = _
        rw [e]
      rw [eo]
      refine mi_s1 (fun _ => rfl) ?_; refine mi_s1 (fun _ => rfl) ?_
      rw [show nI m + nI 1 = nI (m + 1) from nI_1 m]
      exact ev_chaseOnce_loop hw hs f (m + 1) w2 _ _ (by omega) ⟨pl, h02, HB2, hn, by omega⟩ ((hF0.tr (hF1.wide (by omega) (by omega))).tr (hF2.wide (by omega) (by omega)))
    · have z := Decidable.not_not.mp (fun q => z (jb_0.mpr q))
      cases q : fu S.F (S.R m) (stR (S.R m)) 4 0 (fun _ => none) with
      | none =>
        rw [q] at z
        cases z
      | some V2 =>
      rw [q] at HV2
      have HV2 : Se w2 V2 := HV2
      obtain ⟨-, hd1, -⟩ := fu_dom 4 0 _ V2 (fun _ _ => rfl) q
      have eo : onc S.F S.R (f + 1) m = (if (stO S.F (S.R m) V2).1 = true then nI (1 + m) else if (stO S.F (S.R m) V2).2.2 = 3 then -1 else -2, (stO S.F (S.R m) V2).2) := by
        show (match fu S.F (S.R m) (stR (S.R m)) 4 0 (fun _ => none) with
          | none => _
          | some V => _) = _
        rw [q]
      rw [eo]
      -- behind the making
      have fin : ∀ (w3 : mi_H) (P : Bool × (Nat → Nat → Nat → Bool) × Nat) (L3 : Option Value), MC w3 (setFs S P.2.1 P.2.2) → mi_Fg w2 w3 0 71 → mi_wp X mi_P 14 m_MC_chaseOnce (61, [some (.ref 0), some (.int (nI m)), some (.ref (pl m)), L3], [.int (jb (P.1 = true))], w3) (fun q w1 => q = some (.int (if P.1 = true then nI (1 + m) else if P.2.2 = 3 then -1 else -2)) ∧ MC w1 (setFs S P.2.1 P.2.2) ∧ mi_Fg w0 w1 0 71) := by
        intro w3 P L3 H3 hF3
        obtain ⟨pl3, h03, -⟩ := H3.out
        have hG := ((hF0.tr (hF1.wide (by omega) (by omega))).tr (hF2.wide (by omega) (by omega))).tr hF3
        repeat (first | refine mi_s1 (fun _ => rfl) ?_ | refine mi_wgf rfl (by assumption) rfl ?_ | refine mi_wal rfl (by assumption) rfl (by omega) (by decide) ?_)
        refine mi_wif (fun z4 => ?_) (fun z4 => ?_)
        · rw [if_neg (jb_0.mp z4)]
          repeat (first | refine mi_s1 (fun _ => rfl) ?_ | refine mi_wgf rfl (by assumption) rfl ?_ | refine mi_wal rfl (by assumption) rfl (by omega) (by decide) ?_)
          refine mi_wcv rfl rfl (Nat.le_of_ble_eq_true rfl) h03 rfl ((ev_outcome H3).up (by decide)) ?_
          refine mi_r1 (fun _ => rfl) ?_
          exact ⟨rfl, H3, hG⟩
        · rw [if_pos (Decidable.not_not.mp (fun q => z4 (jb_0.mpr q)))]
          repeat (first | refine mi_s1 (fun _ => rfl) ?_ | refine mi_wgf rfl (by assumption) rfl ?_ | refine mi_wal rfl (by assumption) rfl (by omega) (by decide) ?_)
          refine mi_r1 (fun _ => rfl) ?_
          rw [nI_add]
          exact ⟨rfl, H3, hG⟩
      repeat (first | refine mi_s1 (fun _ => rfl) ?_ | refine mi_wgf rfl (by assumption) rfl ?_ | refine mi_wal rfl (by assumption) rfl (by omega) (by decide) ?_)
      refine mi_wif (fun zk => ?_) (fun zk => ?_)
      · have zk := (nI_eq (by omega) (by decide)).mp zk
        have es : stO S.F (S.R m) V2 = eqO S.F (S.R m) V2 := if_pos zk
        cases hpp : (S.R m).2.2.2 with
        | none => exact absurd hpp (hc (by omega))
        | some p =>
        obtain ⟨v, u⟩ := p
        obtain ⟨i1, i2⟩ := hpb v u hpp
        obtain ⟨-, -, o1, o2⟩ := hpq v u hpp
        obtain ⟨r3, w3, he3, rfl, H3, hF3⟩ := ev_makeEqual (X := X) (d := m) h02 HB2 hn hs (by omega) HV2 hpp ((hd1 v (by omega) (by omega)).mpr i1) ((hd1 u (by omega) (by omega)).mpr i2)
        repeat (first | refine mi_s1 (fun _ => rfl) ?_ | refine mi_wgf rfl (by assumption) rfl ?_ | refine mi_wal rfl (by assumption) rfl (by omega) (by decide) ?_)
        refine mi_wcv rfl rfl (Nat.le_of_ble_eq_true rfl) h02 rfl (he3.up (by decide)) ?_
        refine mi_s1 (fun _ => rfl) ?_
        rw [es]
        exact fin w3 _ _ H3 hF3
      · have zk : ¬ (S.R m).1 = 1 := fun q => zk (by rw [q])
        have es : stO S.F (S.R m) V2 = geO S.F (S.R m) V2 := if_neg zk
        obtain ⟨r3, w3, he3, rfl, H3, hF3⟩ := ev_makeFacts (X := X) (d := m) h02 HB2 hn hs (by omega) HV2 (fun u hu hi => (hd1 u (by omega) (by omega)).mpr hi)
        repeat (first | refine mi_s1 (fun _ => rfl) ?_ | refine mi_wgf rfl (by assumption) rfl ?_ | refine mi_wal rfl (by assumption) rfl (by omega) (by decide) ?_)
        refine mi_wcv rfl rfl (Nat.le_of_ble_eq_true rfl) h02 rfl (he3.up (by decide)) ?_
        rw [es]
        exact fin w3 _ _ H3 hF3
theorem ev_chaseOnce (hw : wfS S) (hs : S.s = 1) (H : MC w S) : mi_Ex X 15 k_MC_chaseOnce [.ref 0] w (fun q w1 => q = some (.int (op_once S).1) ∧ MC w1 (op_once S).2 ∧ mi_Fg w w1 0 71) := by
  refine mi_Ex.of (M := m_MC_chaseOnce) rfl (Nat.le_of_ble_eq_true rfl) ?_
  refine mi_s1 (fun _ => rfl) ?_; refine mi_s1 (fun _ => rfl) ?_
  exact ev_chaseOnce_loop hw hs S.n 0 w _ _ (by omega) H mi_Fg.rf
theorem ev_step (hw : wfS S) (H : MC w S) : mi_Ex X 16 k_MC_step [.ref 0] w (fun q w1 => q = some (.int (op_step S).1) ∧ MC w1 (op_step S).2 ∧ mi_Fg w w1 0 71) := by
  obtain ⟨pl, h0, HB, hn, hs4⟩ := H.out
  refine mi_Ex.of (M := m_MC_step) rfl (Nat.le_of_ble_eq_true rfl) ?_
  repeat (first | refine mi_s1 (fun _ => rfl) ?_ | refine mi_wgf rfl (by assumption) rfl ?_ | refine mi_wal rfl (by assumption) rfl (by omega) (by decide) ?_)
  refine mi_wif (fun z => ?_) (fun z => ?_)
  · have z := (nI_eq (by omega) (by decide)).mp z
    have e : op_step S = op_once S := if_pos z
    rw [e]
    obtain ⟨r1, w1, he, rfl, H1, hF1⟩ := ev_chaseOnce (X := X) hw z H
    repeat (first | refine mi_s1 (fun _ => rfl) ?_ | refine mi_wgf rfl (by assumption) rfl ?_ | refine mi_wal rfl (by assumption) rfl (by omega) (by decide) ?_)
    refine mi_wcv rfl rfl (Nat.le_of_ble_eq_true rfl) h0 rfl (he) ?_
    repeat (first | refine mi_s1 (fun _ => rfl) ?_ | refine mi_wgf rfl (by assumption) rfl ?_ | refine mi_wal rfl (by assumption) rfl (by omega) (by decide) ?_)
    refine mi_r1 (fun _ => rfl) ?_
    exact ⟨rfl, H1, hF1⟩
  · have e : op_step S = (-3, S) := if_neg (fun q => z (by rw [q]))
    rw [e]
    repeat (first | refine mi_s1 (fun _ => rfl) ?_ | refine mi_wgf rfl (by assumption) rfl ?_ | refine mi_wal rfl (by assumption) rfl (by omega) (by decide) ?_)
    refine mi_r1 (fun _ => rfl) ?_
    exact ⟨rfl, H, mi_Fg.rf⟩
theorem stO_s {F : Nat → Nat → Nat → Bool} {R : sp_R} {V : sp_V} : (stO F R V).1 = true → (stO F R V).2.2 = 1 := by
  unfold stO
  split
  · unfold eqO
    split
    · split
      · intro h; cases h
      · intro _; rfl
    · intro h; cases h
  · unfold geO
    split
    · split
      · intro _; rfl
      · intro h; cases h
    · intro h; cases h
theorem onc_s {F : Nat → Nat → Nat → Bool} {R : Nat → sp_R} : ∀ f m, m + f ≤ 6 → (0 < (onc F R f m).1 ↔ (onc F R f m).2.2 = 1)
  | 0, m, _ => by
    show (0 : Int32) < 0 ↔ (2 : Nat) = 1
    constructor
    · intro h
      exact absurd h (by decide)
    · intro h
      cases h
  | f + 1, m, hm => by
    unfold onc
    cases fu F (R m) (stR (R m)) 4 0 (fun _ => none) with
    | none => exact onc_s f (m + 1) (by omega)
    | some V =>
      dsimp only
      by_cases q : (stO F (R m) V).1 = true
      · rw [if_pos q, stO_s q]
        constructor
        · intro _
          rfl
        · intro _
          exact nI_lt (a := 0) (by omega) (by omega)
      · rw [if_neg q]
        constructor
        · intro h
          split at h
          · exact absurd h (by decide)
          · exact absurd h (by decide)
        · intro h
          exfalso
          revert q h
          unfold stO
          split
          · unfold eqO
            split
            · split
              · intro _ h; cases h
              · intro q _; exact q rfl
            · intro _ h; cases h
          · unfold geO
            split
            · split
              · intro q _; exact q rfl
              · intro _ h; cases h
            · intro _ h; cases h
theorem ev_run_loop {w0 : mi_H} {x : Int32} : ∀ f m (w : mi_H) (S : sp_S), m + f = x.toNatClampNeg → wfS S → S.s = 1 → MC w S → mi_Fg w0 w 0 71 → mi_wp X mi_P 15 m_MC_run (13, [some (.ref 0), some (.int x), some (.int (nI m))], [], w) (fun q w1 => q = some (.int (nI (rnl f m S).1)) ∧ MC w1 (rnl f m S).2 ∧ mi_Fg w0 w1 0 71)
  | 0, m, w, S, hm, hw, hs, H, hF0 => by
    repeat (first | refine mi_s1 (fun _ => rfl) ?_ | refine mi_wgf rfl (by assumption) rfl ?_ | refine mi_wal rfl (by assumption) rfl (by omega) (by decide) ?_)
    have hx : x ≤ nI m := by
      by_cases q : x < 0
      · have := x.toNatClampNeg_lt
        have h2 : (0 : Int32) ≤ nI m := nI_pos' (by omega)
        exact Int32.le_of_lt (Int32.lt_of_lt_of_le q h2)
      · obtain ⟨j, hj, e⟩ := nI_of q
        rw [e, nI_clamp hj] at hm
        rw [e]
        exact nI_le (by omega) (by omega)
    refine mi_wif (fun _ => ?_) (fun q => absurd hx q)
    repeat (first | refine mi_s1 (fun _ => rfl) ?_ | refine mi_wgf rfl (by assumption) rfl ?_ | refine mi_wal rfl (by assumption) rfl (by omega) (by decide) ?_)
    refine mi_r1 (fun _ => rfl) ?_
    exact ⟨rfl, H, hF0⟩
  | f + 1, m, w, S, hm, hw, hs, H, hF0 => by
    have hlt := x.toNatClampNeg_lt
    obtain ⟨pl, h0, HB, hn, hs4⟩ := H.out
    have hx : nI m < x := by
      by_cases q : x < 0
      · exfalso
        have : x.toNatClampNeg = 0 := by
          rw [Int32.toNatClampNeg_eq_zero_iff]
          exact Int32.le_of_lt q
        omega
      · obtain ⟨j, hj, e⟩ := nI_of q
        rw [e, nI_clamp hj] at hm
        rw [e]
        exact nI_lt (by omega) (by omega)
    obtain ⟨r1, w1, he, rfl, H1, hF1⟩ := ev_chaseOnce (X := X) hw hs H
    repeat (first | refine mi_s1 (fun _ => rfl) ?_ | refine mi_wgf rfl (by assumption) rfl ?_ | refine mi_wal rfl (by assumption) rfl (by omega) (by decide) ?_)
    refine mi_wif (fun q => absurd hx (by simpa using q)) (fun _ => ?_)
    repeat (first | refine mi_s1 (fun _ => rfl) ?_ | refine mi_wgf rfl (by assumption) rfl ?_ | refine mi_wal rfl (by assumption) rfl (by omega) (by decide) ?_)
    refine mi_wcv rfl rfl (Nat.le_of_ble_eq_true rfl) h0 rfl (he) ?_
    repeat (first | refine mi_s1 (fun _ => rfl) ?_ | refine mi_wgf rfl (by assumption) rfl ?_ | refine mi_wal rfl (by assumption) rfl (by omega) (by decide) ?_)
    unfold rnl
    refine mi_wif (fun z => ?_) (fun z => ?_)
    · rw [if_neg (by simpa using z)]
      repeat (first | refine mi_s1 (fun _ => rfl) ?_ | refine mi_wgf rfl (by assumption) rfl ?_ | refine mi_wal rfl (by assumption) rfl (by omega) (by decide) ?_)
      refine mi_r1 (fun _ => rfl) ?_
      exact ⟨rfl, H1, hF0.tr hF1⟩
    · have z : 0 < (op_once S).1 := by simpa using z
      rw [if_pos z]
      refine mi_s1 (fun _ => rfl) ?_; refine mi_s1 (fun _ => rfl) ?_
      rw [show nI m + nI 1 = nI (m + 1) from nI_1 m]
      exact ev_run_loop f (m + 1) w1 (op_once S).2 (by omega) hw ((onc_s S.n 0 (by omega)).mp z) H1 (hF0.tr hF1)
theorem ev_run (hw : wfS S) (H : MC w S) (x : Int32) : mi_Ex X 16 k_MC_run [.ref 0, .int x] w (fun q w1 => q = some (.int (op_run S x).1) ∧ MC w1 (op_run S x).2 ∧ mi_Fg w w1 0 71) := by
  obtain ⟨pl, h0, HB, hn, hs4⟩ := H.out
  refine mi_Ex.of (M := m_MC_run) rfl (Nat.le_of_ble_eq_true rfl) ?_
  repeat (first | refine mi_s1 (fun _ => rfl) ?_ | refine mi_wgf rfl (by assumption) rfl ?_ | refine mi_wal rfl (by assumption) rfl (by omega) (by decide) ?_)
  refine mi_wif (fun z => ?_) (fun z => ?_)
  · have z := (nI_eq (by omega) (by decide)).mp z
    have e : op_run S x = _ := if_pos z
    rw [e]
    refine mi_s1 (fun _ => rfl) ?_; refine mi_s1 (fun _ => rfl) ?_
    exact ev_run_loop _ 0 w S (by omega) hw z H mi_Fg.rf
  · have e : op_run S x = (-3, S) := if_neg (fun q => z (by rw [q]))
    rw [e]
    repeat (first | refine mi_s1 (fun _ => rfl) ?_ | refine mi_wgf rfl (by assumption) rfl ?_ | refine mi_wal rfl (by assumption) rfl (by omega) (by decide) ?_)
    refine mi_r1 (fun _ => rfl) ?_
    exact ⟨rfl, H, mi_Fg.rf⟩
end Chase
