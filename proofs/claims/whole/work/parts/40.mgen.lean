/-! the model: new facts, with new nulls -/
theorem lst_at {us : Nat → Bool} {x : Nat} (h1 : ∀ y, 16 ≤ y → y < x → us y = true) (h2 : 16 ≤ x) (h3 : x < 24) (h4 : us x = false) : lst us = some x := by
  unfold lst
  rw [List.find?_range_eq_some]
  refine ⟨by rw [h4, decide_eq_true h2]; rfl, List.mem_range.mpr h3, fun j hj => ?_⟩
  by_cases z : 16 ≤ j
  · rw [h1 j z hj]
    simp
  · rw [decide_eq_false z]
    rfl
theorem lst_no {us : Nat → Bool} (h1 : ∀ y, 16 ≤ y → y < 24 → us y = true) : lst us = none := by
  unfold lst
  rw [List.find?_range_eq_none]
  intro j hj
  by_cases z : 16 ≤ j
  · rw [h1 j z hj]
    simp
  · rw [decide_eq_false z]
    rfl
def atV (V : sp_V) (p : sp_A) : sp_A := (p.1, gv V p.2.1, gv V p.2.2)
theorem cms_s (F : Nat → Nat → Nat → Bool) (V : sp_V) (as : List sp_A) (f i : Nat) {q : sp_A} (h : as[i]? = some q) : cms F V as (f + 1) i = (if vfA F V q = true ∨ (as.take i).any (fun p => sameA V p q) = true then 0 else 1) + cms F V as f (i + 1) := by
  show (match as[i]? with
    | some q => if vfA F V q = true ∨ (as.take i).any (fun p => sameA V p q) = true then 0 else 1
    | none => 0) + cms F V as f (i + 1) = _
  rw [h]
section MGen
variable {X : mi_X} {w : mi_H} {a : mo_a} {T : mo_T} {ls lt : List sp_A} {F : Nat → Nat → Nat → Bool} {n s : Nat} {ak dr : Bool} {d : Nat} {R : sp_R} {S : sp_S}
theorem mv_gen_fail {w0 : mi_H} (hd : d < 8) (HR : Rm a d R) {z4 z5 z6 : Option Value} {Q : Option Value → mi_H → Prop} (k2 : ∀ (w1 : mi_H) (a1 : mo_a) (fr : Nat) (z3 : Option Value), 24 < fr → fr < 100 → MoG w0 w1 a a1 T → mi_wp X mi_P 3 m_Mo_generate (69, [some (.ref 71), some (.int (nI d)), some (.int (nI fr)), z3, z4, z5, z6], [], w1) Q) : ∀ k v (w : mi_H) (a1 : mo_a) (fr : Nat), v + k = 4 → 24 < fr → fr + k < 100 → MoG w0 w a a1 T → mi_wp X mi_P 3 m_Mo_generate (10, [some (.ref 71), some (.int (nI d)), some (.int (nI fr)), some (.int (nI v)), z4, z5, z6], [], w) Q
  | 0, v, w, a1, fr, hv, h1, h2, HG => by
    have hv : v = 4 := by omega
    subst hv
    refine mi_s1 (fun _ => rfl) ?_; refine mi_s1 (fun _ => rfl) ?_; refine mi_s1 (fun _ => rfl) ?_
    refine mi_wif (fun _ => ?_) (fun q => absurd (by decide) q)
    exact k2 w a1 fr _ h1 (by omega) HG
  | k + 1, v, w, a1, fr, hv, h1, h2, HG => by
    obtain ⟨HM, ha, hG⟩ := id HG
    have nxt : ∀ (w : mi_H) (a1 : mo_a) (fr : Nat), 24 < fr → fr + k < 100 → MoG w0 w a a1 T → mi_wp X mi_P 3 m_Mo_generate (63, [some (.ref 71), some (.int (nI d)), some (.int (nI fr)), some (.int (nI v)), z4, z5, z6], [], w) Q := by
      intro w a1 fr h1 h2 HG
      refine mi_s1 (fun _ => rfl) ?_; refine mi_s1 (fun _ => rfl) ?_
      rw [show nI v + nI 1 = nI (v + 1) from nI_1 v]
      exact mv_gen_fail hd HR k2 k (v + 1) w a1 fr (by omega) h1 h2 HG
    refine mi_s1 (fun _ => rfl) ?_; refine mi_s1 (fun _ => rfl) ?_; refine mi_s1 (fun _ => rfl) ?_
    refine mi_wif (fun z => absurd z (nI_ge (a := v) (b := 4) (by omega) (by omega))) (fun _ => ?_)
    refine mi_s1 (fun _ => rfl) ?_; refine mi_s1 (fun _ => rfl) ?_; refine mi_s1 (fun _ => rfl) ?_
    refine mi_wcv rfl rfl (Nat.le_of_ble_eq_true rfl) HM.1 rfl ((mv_inHead HM hd (HR.c87 ha) (by omega)).up (by decide)) ?_
    refine mi_s1 (fun _ => rfl) ?_
    refine mi_wif (fun z => ?_) (fun z => ?_)
    · exact nxt w a1 fr h1 (by omega) HG
    · refine mi_s1 (fun _ => rfl) ?_; refine mi_s1 (fun _ => rfl) ?_; refine mi_s1 (fun _ => rfl) ?_
      refine mi_wcv rfl rfl (Nat.le_of_ble_eq_true rfl) HM.1 rfl ((mv_inBody HM hd (HR.c87 ha) (by omega)).up (by decide)) ?_
      refine mi_s1 (fun _ => rfl) ?_
      refine mi_wif (fun z2 => ?_) (fun z2 => ?_)
      · refine mi_s1 (fun _ => rfl) ?_; refine mi_s1 (fun _ => rfl) ?_; refine mi_s1 (fun _ => rfl) ?_
        refine mi_wif (fun _ => ?_) (fun q => absurd (nI_le (a := 24) (b := fr) (by omega) (by omega)) q)
        repeat (first | refine mi_s1 (fun _ => rfl) ?_ | refine mi_wgf rfl HM.1 rfl ?_ | refine mi_wal rfl (HM.2.1 _ _ rfl) rfl (by omega) (by decide) ?_ | refine mi_wbl rfl (HM.2.2 _ _ rfl) rfl (by omega) (by decide) ?_)
        refine HM.was rfl rfl rfl (by omega) (fun w HM hF => ?_)
        have hG := hG.tr hF
        refine mi_s1 (fun _ => rfl) ?_
        rw [show nI fr + nI 1 = nI (fr + 1) from nI_1 fr]
        exact nxt w _ (fr + 1) (by omega) (by omega) ⟨HM, fun o ho => by rw [upA_o ho]; exact ha o ho, hG⟩
      · exact nxt w a1 fr h1 (by omega) HG
theorem mv_gen_while (HM : Mo w a (ls.length, lt.length, n, ak, dr, s)) (HF : Fm a ls lt F) {z1 z3 z4 z5 z6 : Option Value} {Q : Option Value → mi_H → Prop} : ∀ g fr, 24 - fr = g → fr ≤ 24 → (∀ fr', fr ≤ fr' → fr' ≤ 24 → (∀ y, fr ≤ y → y < fr' → inB lt y = true) → (fr' < 24 → inB lt fr' = false) → mi_wp X mi_P 3 m_Mo_generate (53, [some (.ref 71), z1, some (.int (nI fr')), z3, z4, z5, z6], [], w) Q) → mi_wp X mi_P 3 m_Mo_generate (33, [some (.ref 71), z1, some (.int (nI fr)), z3, z4, z5, z6], [], w) Q
  | 0, fr, hg, hfr, kk => by
    have e : fr = 24 := by omega
    subst e
    refine mi_s1 (fun _ => rfl) ?_; refine mi_s1 (fun _ => rfl) ?_; refine mi_s1 (fun _ => rfl) ?_
    refine mi_wif (fun _ => ?_) (fun q => absurd (by decide) q)
    exact kk 24 (Nat.le_refl _) (Nat.le_refl _) (fun y h1 h2 => absurd h1 (by omega)) (fun h => absurd h (by omega))
  | g + 1, fr, hg, hfr, kk => by
    refine mi_s1 (fun _ => rfl) ?_; refine mi_s1 (fun _ => rfl) ?_; refine mi_s1 (fun _ => rfl) ?_
    refine mi_wif (fun z => absurd z (nI_ge (a := fr) (b := 24) (by omega) (by omega))) (fun _ => ?_)
    refine mi_s1 (fun _ => rfl) ?_; refine mi_s1 (fun _ => rfl) ?_
    refine mi_wcv rfl rfl (Nat.le_of_ble_eq_true rfl) HM.1 rfl ((mv_occurs HM HF (by omega)).up (by decide)) ?_
    refine mi_s1 (fun _ => rfl) ?_
    refine mi_wif (fun z => ?_) (fun z => ?_)
    · have z : inB lt fr = false := by simpa using jb_0.mp z
      exact kk fr (Nat.le_refl _) hfr (fun y h1 h2 => absurd h1 (by omega)) (fun _ => z)
    · have z := Decidable.not_not.mp (fun q => z (jb_0.mpr q))
      refine mi_s1 (fun _ => rfl) ?_; refine mi_s1 (fun _ => rfl) ?_
      rw [show nI fr + nI 1 = nI (fr + 1) from nI_1 fr]
      refine mv_gen_while HM HF g (fr + 1) (by omega) (by omega) (fun fr' h1 h2 h3 h4 => kk fr' (by omega) h2 (fun y h5 h6 => ?_) h4)
      by_cases e : y = fr
      · rw [e]
        exact z
      · exact h3 y (by omega) h6
theorem mv_gen_free {w0 : mi_H} (HF : Fm a ls lt F) (hd : d < 8) (HR : Rm a d R) {z4 z5 z6 : Option Value} {Q : Option Value → mi_H → Prop} {O : Option sp_V} (k1 : ∀ (w1 : mi_H) (a1 : mo_a) (V' : sp_V) (fr : Nat) (z3 : Option Value), O = some V' → fr ≤ 24 → MoG w0 w1 a a1 (ls.length, lt.length, n, ak, dr, s) → Gv (a1 87) V' → mi_wp X mi_P 3 m_Mo_generate (69, [some (.ref 71), some (.int (nI d)), some (.int (nI fr)), z3, z4, z5, z6], [], w1) Q) (k2 : O = none → ∀ (w1 : mi_H) (a1 : mo_a) (fr : Nat) (z3 : Option Value), 24 < fr → fr < 100 → MoG w0 w1 a a1 (ls.length, lt.length, n, ak, dr, s) → mi_wp X mi_P 3 m_Mo_generate (69, [some (.ref 71), some (.int (nI d)), some (.int (nI fr)), z3, z4, z5, z6], [], w1) Q) : ∀ k v (w : mi_H) (a1 : mo_a) (V : sp_V) (us : Nat → Bool) (fr : Nat), v + k = 4 → nfr (frR R) k v us V = O → fr ≤ 24 → 16 ≤ fr → MoG w0 w a a1 (ls.length, lt.length, n, ak, dr, s) → Gv (a1 87) V → (∀ y, 16 ≤ y → y < fr → us y = true) → (∀ y, fr ≤ y → us y = inB lt y) → mi_wp X mi_P 3 m_Mo_generate (10, [some (.ref 71), some (.int (nI d)), some (.int (nI fr)), some (.int (nI v)), z4, z5, z6], [], w) Q
  | 0, v, w, a1, V, us, fr, hv, hO, h1, h2, HG, HV, hu1, hu2 => by
    have hv : v = 4 := by omega
    subst hv
    refine mi_s1 (fun _ => rfl) ?_; refine mi_s1 (fun _ => rfl) ?_; refine mi_s1 (fun _ => rfl) ?_
    refine mi_wif (fun _ => ?_) (fun q => absurd (by decide) q)
    exact k1 w a1 V fr _ hO.symm h1 HG HV
  | k + 1, v, w, a1, V, us, fr, hv, hO, h1, h2, HG, HV, hu1, hu2 => by
    obtain ⟨HM, ha, hG⟩ := id HG
    have skip : frR R v = false → mi_wp X mi_P 3 m_Mo_generate (63, [some (.ref 71), some (.int (nI d)), some (.int (nI fr)), some (.int (nI v)), z4, z5, z6], [], w) Q := by
      intro e
      have hO2 : nfr (frR R) k (v + 1) us V = O := by
        rw [← hO]
        show _ = (if frR R v = true then _ else _)
        rw [if_neg (by rw [e]; decide)]
      refine mi_s1 (fun _ => rfl) ?_; refine mi_s1 (fun _ => rfl) ?_
      rw [show nI v + nI 1 = nI (v + 1) from nI_1 v]
      exact mv_gen_free HF hd HR k1 k2 k (v + 1) w a1 V us fr (by omega) hO2 h1 h2 HG HV hu1 hu2
    refine mi_s1 (fun _ => rfl) ?_; refine mi_s1 (fun _ => rfl) ?_; refine mi_s1 (fun _ => rfl) ?_
    refine mi_wif (fun z => absurd z (nI_ge (a := v) (b := 4) (by omega) (by omega))) (fun _ => ?_)
    refine mi_s1 (fun _ => rfl) ?_; refine mi_s1 (fun _ => rfl) ?_; refine mi_s1 (fun _ => rfl) ?_
    refine mi_wcv rfl rfl (Nat.le_of_ble_eq_true rfl) HM.1 rfl ((mv_inHead HM hd (HR.c87 ha) (by omega)).up (by decide)) ?_
    refine mi_s1 (fun _ => rfl) ?_
    refine mi_wif (fun z => ?_) (fun z => ?_)
    · have z : inB R.2.2.1 v = false := by simpa using jb_0.mp z
      exact skip (by unfold frR; rw [z]; rfl)
    · have z := Decidable.not_not.mp (fun q => z (jb_0.mpr q))
      refine mi_s1 (fun _ => rfl) ?_; refine mi_s1 (fun _ => rfl) ?_; refine mi_s1 (fun _ => rfl) ?_
      refine mi_wcv rfl rfl (Nat.le_of_ble_eq_true rfl) HM.1 rfl ((mv_inBody HM hd (HR.c87 ha) (by omega)).up (by decide)) ?_
      refine mi_s1 (fun _ => rfl) ?_
      refine mi_wif (fun z2 => ?_) (fun z2 => ?_)
      · have z2 : inB R.2.1 v = false := by simpa using jb_0.mp z2
        have ef : frR R v = true := by unfold frR; rw [z, z2]; rfl
        have hO2 : (match lst us with
          | some x => nfr (frR R) k (v + 1) (fun y => us y || decide (y = x)) (updS V v (some x))
          | none => none) = O := by
          rw [← hO]
          show _ = (if frR R v = true then _ else _)
          rw [if_pos ef]
          rfl
        refine mv_gen_while HM (HF.c87 ha) _ fr rfl h1 (fun fr' h3 h4 h5 h6 => ?_)
        have hus : ∀ y, 16 ≤ y → y < fr' → us y = true := fun y q1 q2 => by
          by_cases e : y < fr
          · exact hu1 y q1 e
          · rw [hu2 y (by omega)]
            exact h5 y (by omega) q2
        repeat (first | refine mi_s1 (fun _ => rfl) ?_ | refine mi_wgf rfl HM.1 rfl ?_ | refine mi_wal rfl (HM.2.1 _ _ rfl) rfl (by omega) (by decide) ?_ | refine mi_wbl rfl (HM.2.2 _ _ rfl) rfl (by omega) (by decide) ?_)
        refine HM.was rfl rfl rfl (by omega) (fun w HM hF => ?_)
        have hG := hG.tr hF
        refine mi_s1 (fun _ => rfl) ?_; refine mi_s1 (fun _ => rfl) ?_; refine mi_s1 (fun _ => rfl) ?_
        rw [show nI fr' + nI 1 = nI (fr' + 1) from nI_1 fr', show nI v + nI 1 = nI (v + 1) from nI_1 v]
        by_cases e : fr' < 24
        · rw [lst_at hus (by omega) e (by rw [hu2 fr' h3]; exact h6 e)] at hO2
          refine mv_gen_free HF hd HR k1 k2 k (v + 1) w _ _ _ (fr' + 1) (by omega) hO2 (by omega) (by omega) ⟨HM, fun o ho => by rw [upA_o ho]; exact ha o ho, hG⟩ ?_ (fun y q1 q2 => ?_) (fun y q1 => ?_)
          · rw [upA_s]
            exact HV.up e
          · by_cases e2 : y = fr'
            · rw [e2]
              simp
            · show (us y || decide (y = fr')) = true
              rw [hus y q1 (by omega)]
              rfl
          · show (us y || decide (y = fr')) = inB lt y
            rw [hu2 y (by omega), decide_eq_false (by omega), Bool.or_false]
        · rw [lst_no (fun y q1 q2 => hus y q1 (by omega))] at hO2
          exact mv_gen_fail hd HR (k2 hO2.symm) k (v + 1) w _ (fr' + 1) (by omega) (by omega) (by omega) ⟨HM, fun o ho => by rw [upA_o ho]; exact ha o ho, hG⟩
      · have z2 := Decidable.not_not.mp (fun q => z2 (jb_0.mpr q))
        exact skip (by unfold frR; rw [z2]; simp)
theorem sameA_iff {V : sp_V} {p q : sp_A} : sameA V p q = true ↔ p.1 = q.1 ∧ V p.2.1 = V q.2.1 ∧ V p.2.2 = V q.2.2 := by
  unfold sameA
  rw [Bool.and_eq_true, Bool.and_eq_true, decide_eq_true_iff, decide_eq_true_iff, decide_eq_true_iff, and_assoc]
theorem mv_gen_count (HM : Mo w a (ls.length, lt.length, n, ak, dr, s)) (HF : Fm a ls lt F) (hd : d < 8) (HR : Rm a d R) {V : sp_V} (HV : Gv (a 87) V) (hkn : ∀ q ∈ R.2.2.1, V q.2.1 ≠ none ∧ V q.2.2 ≠ none) {z2 : Option Value} {Q : Option Value → mi_H → Prop} {C : Nat} (kk : ∀ z5 z6, mi_wp X mi_P 3 m_Mo_generate (260, [some (.ref 71), some (.int (nI d)), z2, some (.int (nI 1)), some (.int (nI C)), z5, z6], [], w) Q) : ∀ f i c (z6 : Option Value), i + f = R.2.2.1.length → c + cms F V R.2.2.1 f i = C → mi_wp X mi_P 3 m_Mo_generate (89, [some (.ref 71), some (.int (nI d)), z2, some (.int (nI 1)), some (.int (nI c)), some (.int (nI (2 * d + i))), z6], [], w) Q
  | 0, i, c, z6, hi, hC => by
    obtain ⟨-, -, -, -, r5, r6, -, r8, -⟩ := id HR
    have hC : c = C := hC
    subst hC
    repeat (first | refine mi_s1 (fun _ => rfl) ?_ | refine mi_wgf rfl HM.1 rfl ?_ | refine mi_wal rfl (HM.2.1 _ _ rfl) rfl (by omega) (by decide) ?_ | refine mi_wbl rfl (HM.2.2 _ _ rfl) rfl (by omega) (by decide) ?_)
    rw [r5, pk_mul, nI_add]
    refine mi_wif (fun _ => ?_) (fun z => absurd (nI_le (a := 2 * d + R.2.2.1.length) (b := 2 * d + i) (by omega) (by omega)) z)
    exact kk _ _
  | f + 1, i, c, z6, hi, hC => by
    obtain ⟨-, -, -, -, r5, r6, -, r8, -⟩ := id HR
    obtain ⟨q, hq, -⟩ := drop_at (l := R.2.2.1) (i := i) (by omega)
    have hqm := List.mem_of_getElem? hq
    obtain ⟨e1, e2, e3, hok⟩ := r8 i q hq
    have o1 := hok.1
    have o2 := hok.2.1
    have o3 := hok.2.2
    rw [cms_s F V R.2.2.1 f i hq] at hC
    obtain ⟨x, hx⟩ : ∃ x, V q.2.1 = some x := Option.ne_none_iff_exists'.mp (hkn q hqm).1
    obtain ⟨y, hy⟩ : ∃ y, V q.2.2 = some y := Option.ne_none_iff_exists'.mp (hkn q hqm).2
    have hx24 := HV.2 _ x o2 hx
    have hy24 := HV.2 _ y o3 hy
    have ex : a 87 q.2.1 = nI x := by rw [HV.1 _ o2, hx]; rfl
    have ey : a 87 q.2.2 = nI y := by rw [HV.1 _ o3, hy]; rfl
    have evf : vfA F V q = F q.1 x y := by
      unfold vfA
      rw [hx, hy]
    have old : (vfA F V q = true ∨ (R.2.2.1.take i).any (fun p => sameA V p q) = true) → ∀ z6, mi_wp X mi_P 3 m_Mo_generate (243, [some (.ref 71), some (.int (nI d)), z2, some (.int (nI 1)), some (.int (nI c)), some (.int (nI (2 * d + i))), z6], [], w) Q := by
      intro h z6
      rw [if_pos h, Nat.zero_add] at hC
      refine mi_s1 (fun _ => rfl) ?_; refine mi_s1 (fun _ => rfl) ?_; refine mi_s1 (fun _ => rfl) ?_; refine mi_s1 (fun _ => rfl) ?_; refine mi_s1 (fun _ => rfl) ?_
      rw [show nI (2 * d + i) + nI 1 = nI (2 * d + (i + 1)) from nI_1 (2 * d + i)]
      exact mv_gen_count HM HF hd HR HV hkn kk f (i + 1) c z6 (by omega) hC
    have aft : ∀ sm : Bool, sm = (R.2.2.1.take i).any (fun p => sameA V p q) → mi_wp X mi_P 3 m_Mo_generate (198, [some (.ref 71), some (.int (nI d)), z2, some (.int (nI 1)), some (.int (nI c)), some (.int (nI (2 * d + i))), z6], [.int (jb (sm = true))], w) Q := by
      intro sm hsm
      refine mi_s1 (fun _ => rfl) ?_; refine mi_s1 (fun _ => rfl) ?_; refine mi_s1 (fun _ => rfl) ?_
      refine mi_wif (fun z => ?_) (fun z => ?_)
      · have z : ¬ sm = true := jb_0.mp z
        rw [hsm] at z
        repeat (first | refine mi_s1 (fun _ => rfl) ?_ | refine mi_wgf rfl HM.1 rfl ?_ | refine mi_wal rfl (HM.2.1 _ _ rfl) rfl (by omega) (by decide) ?_ | refine mi_wbl rfl (HM.2.2 _ _ rfl) rfl (by omega) (by decide) ?_)
        rw [e1, e2]
        repeat (first | refine mi_s1 (fun _ => rfl) ?_ | refine mi_wgf rfl HM.1 rfl ?_ | refine mi_wal rfl (HM.2.1 _ _ rfl) rfl (by omega) (by decide) ?_ | refine mi_wbl rfl (HM.2.2 _ _ rfl) rfl (by omega) (by decide) ?_)
        rw [e3]
        repeat (first | refine mi_s1 (fun _ => rfl) ?_ | refine mi_wgf rfl HM.1 rfl ?_ | refine mi_wal rfl (HM.2.1 _ _ rfl) rfl (by omega) (by decide) ?_ | refine mi_wbl rfl (HM.2.2 _ _ rfl) rfl (by omega) (by decide) ?_)
        rw [ex, ey]
        have hpl := HF.pl (r := q.1) (x := x) (y := y) (by omega)
        have hlt := plc_lt (q := (q.1, x, y)) HF.2.2.1 HF.2.2.2.1
        refine mi_wcv rfl rfl (Nat.le_of_ble_eq_true rfl) HM.1 rfl ((mv_place HM HF (by omega) (by omega) (by omega)).up (by decide)) ?_
        refine mi_s1 (fun _ => rfl) ?_
        refine mi_wif (fun z3 => ?_) (fun z3 => ?_)
        · rw [enc_neg (fun j hj => by have := hlt j hj; omega), hpl] at z3
          rw [if_neg (fun h => by
            rcases h with h | h
            · rw [evf, z3] at h
              cases h
            · exact z h)] at hC
          refine mi_s1 (fun _ => rfl) ?_; refine mi_s1 (fun _ => rfl) ?_; refine mi_s1 (fun _ => rfl) ?_; refine mi_s1 (fun _ => rfl) ?_; refine mi_s1 (fun _ => rfl) ?_; refine mi_s1 (fun _ => rfl) ?_
          rw [nI_add, show nI (2 * d + i) + nI 1 = nI (2 * d + (i + 1)) from nI_1 (2 * d + i)]
          exact mv_gen_count HM HF hd HR HV hkn kk f (i + 1) (c + 1) _ (by omega) (by omega)
        · rw [enc_neg (fun j hj => by have := hlt j hj; omega), hpl] at z3
          exact old (Or.inl (by rw [evf]; simpa using z3)) _
      · have z : sm = true := Decidable.not_not.mp (fun q => z (jb_0.mpr q))
        exact old (Or.inr (by rw [← hsm]; exact z)) _
    repeat (first | refine mi_s1 (fun _ => rfl) ?_ | refine mi_wgf rfl HM.1 rfl ?_ | refine mi_wal rfl (HM.2.1 _ _ rfl) rfl (by omega) (by decide) ?_ | refine mi_wbl rfl (HM.2.2 _ _ rfl) rfl (by omega) (by decide) ?_)
    rw [r5, pk_mul, nI_add]
    refine mi_wif (fun z => absurd z (nI_ge (a := 2 * d + i) (b := 2 * d + R.2.2.1.length) (by omega) (by omega))) (fun _ => ?_)
    refine mi_s1 (fun _ => rfl) ?_; refine mi_s1 (fun _ => rfl) ?_
    refine mi_wif (fun z => absurd z (by decide)) (fun _ => ?_)
    refine mi_s1 (fun _ => rfl) ?_; refine mi_s1 (fun _ => rfl) ?_; refine mi_s1 (fun _ => rfl) ?_; refine mi_s1 (fun _ => rfl) ?_; refine mi_s1 (fun _ => rfl) ?_
    rw [pk_mul]
    by_cases hi0 : i = 0
    · subst hi0
      refine mi_wif (fun _ => ?_) (fun z => absurd (nI_le (a := 2 * d + 0) (b := 2 * d) (by omega) (by omega)) z)
      refine mi_s1 (fun _ => rfl) ?_
      exact aft false (by simp)
    · have hi1 : i = 1 := by omega
      subst hi1
      refine mi_wif (fun z => absurd ((nI_leI (by omega) (by omega)).mp z) (by omega)) (fun _ => ?_)
      obtain ⟨p, hp, -⟩ := drop_at (l := R.2.2.1) (i := 0) (by omega)
      have hpm := List.mem_of_getElem? hp
      obtain ⟨p1, p2, p3, hpk⟩ := r8 0 p hp
      have o4 := hpk.1
      have o5 := hpk.2.1
      have o6 := hpk.2.2
      have p1 : a 81 (2 * d) = nI p.1 := p1
      have p2 : a 82 (2 * d) = nI p.2.1 := p2
      have p3 : a 83 (2 * d) = nI p.2.2 := p3
      obtain ⟨x0, hx0⟩ : ∃ x, V p.2.1 = some x := Option.ne_none_iff_exists'.mp (hkn p hpm).1
      obtain ⟨y0, hy0⟩ : ∃ y, V p.2.2 = some y := Option.ne_none_iff_exists'.mp (hkn p hpm).2
      have hx024 := HV.2 _ x0 o5 hx0
      have hy024 := HV.2 _ y0 o6 hy0
      have ex0 : a 87 p.2.1 = nI x0 := by rw [HV.1 _ o5, hx0]; rfl
      have ey0 : a 87 p.2.2 = nI y0 := by rw [HV.1 _ o6, hy0]; rfl
      have etk : (R.2.2.1.take 1).any (fun p => sameA V p q) = sameA V p q := by
        have : R.2.2.1.take 1 = [p] := by
          rw [show (1 : Nat) = 0 + 1 from rfl, List.take_add_one, hp]
          rfl
        rw [this]
        simp
      have esub : nI (2 * d + 1) - nI 1 = nI (2 * d) := pk_sub (a := 2 * d + 1) (by omega)
      have diff : ¬ (p.1 = q.1 ∧ V p.2.1 = V q.2.1 ∧ V p.2.2 = V q.2.2) → mi_wp X mi_P 3 m_Mo_generate (197, [some (.ref 71), some (.int (nI d)), z2, some (.int (nI 1)), some (.int (nI c)), some (.int (nI (2 * d + 1))), z6], [], w) Q := by
        intro h
        refine mi_s1 (fun _ => rfl) ?_
        refine aft false ?_
        rw [etk]
        cases e : sameA V p q with
        | false => rfl
        | true => exact absurd (sameA_iff.mp e) h
      repeat (first | refine mi_s1 (fun _ => rfl) ?_ | refine mi_wgf rfl HM.1 rfl ?_ | refine mi_wal rfl (HM.2.1 _ _ rfl) rfl (by omega) (by decide) ?_ | refine mi_wbl rfl (HM.2.2 _ _ rfl) rfl (by omega) (by decide) ?_)
      rw [esub]
      repeat (first | refine mi_s1 (fun _ => rfl) ?_ | refine mi_wgf rfl HM.1 rfl ?_ | refine mi_wal rfl (HM.2.1 _ _ rfl) rfl (by omega) (by decide) ?_ | refine mi_wbl rfl (HM.2.2 _ _ rfl) rfl (by omega) (by decide) ?_)
      rw [e1, p1]
      refine mi_wif (fun z1 => ?_) (fun z1 => ?_)
      · have z1 : q.1 = p.1 := (nI_eq (by omega) (by omega)).mp z1
        repeat (first | refine mi_s1 (fun _ => rfl) ?_ | refine mi_wgf rfl HM.1 rfl ?_ | refine mi_wal rfl (HM.2.1 _ _ rfl) rfl (by omega) (by decide) ?_ | refine mi_wbl rfl (HM.2.2 _ _ rfl) rfl (by omega) (by decide) ?_)
        rw [e2]
        repeat (first | refine mi_s1 (fun _ => rfl) ?_ | refine mi_wgf rfl HM.1 rfl ?_ | refine mi_wal rfl (HM.2.1 _ _ rfl) rfl (by omega) (by decide) ?_ | refine mi_wbl rfl (HM.2.2 _ _ rfl) rfl (by omega) (by decide) ?_)
        rw [esub]
        repeat (first | refine mi_s1 (fun _ => rfl) ?_ | refine mi_wgf rfl HM.1 rfl ?_ | refine mi_wal rfl (HM.2.1 _ _ rfl) rfl (by omega) (by decide) ?_ | refine mi_wbl rfl (HM.2.2 _ _ rfl) rfl (by omega) (by decide) ?_)
        rw [p2]
        repeat (first | refine mi_s1 (fun _ => rfl) ?_ | refine mi_wgf rfl HM.1 rfl ?_ | refine mi_wal rfl (HM.2.1 _ _ rfl) rfl (by omega) (by decide) ?_ | refine mi_wbl rfl (HM.2.2 _ _ rfl) rfl (by omega) (by decide) ?_)
        rw [ex, ex0]
        refine mi_wif (fun zx => ?_) (fun zx => ?_)
        · have zx : x = x0 := (nI_eq (by omega) (by omega)).mp zx
          repeat (first | refine mi_s1 (fun _ => rfl) ?_ | refine mi_wgf rfl HM.1 rfl ?_ | refine mi_wal rfl (HM.2.1 _ _ rfl) rfl (by omega) (by decide) ?_ | refine mi_wbl rfl (HM.2.2 _ _ rfl) rfl (by omega) (by decide) ?_)
          rw [e3]
          repeat (first | refine mi_s1 (fun _ => rfl) ?_ | refine mi_wgf rfl HM.1 rfl ?_ | refine mi_wal rfl (HM.2.1 _ _ rfl) rfl (by omega) (by decide) ?_ | refine mi_wbl rfl (HM.2.2 _ _ rfl) rfl (by omega) (by decide) ?_)
          rw [esub]
          repeat (first | refine mi_s1 (fun _ => rfl) ?_ | refine mi_wgf rfl HM.1 rfl ?_ | refine mi_wal rfl (HM.2.1 _ _ rfl) rfl (by omega) (by decide) ?_ | refine mi_wbl rfl (HM.2.2 _ _ rfl) rfl (by omega) (by decide) ?_)
          rw [p3]
          repeat (first | refine mi_s1 (fun _ => rfl) ?_ | refine mi_wgf rfl HM.1 rfl ?_ | refine mi_wal rfl (HM.2.1 _ _ rfl) rfl (by omega) (by decide) ?_ | refine mi_wbl rfl (HM.2.2 _ _ rfl) rfl (by omega) (by decide) ?_)
          rw [ey, ey0]
          refine mi_wif (fun zy => ?_) (fun zy => ?_)
          · have zy : y = y0 := (nI_eq (by omega) (by omega)).mp zy
            refine mi_s1 (fun _ => rfl) ?_; refine mi_s1 (fun _ => rfl) ?_
            refine aft true ?_
            rw [etk]
            exact (sameA_iff.mpr ⟨z1.symm, by rw [hx0, hx, zx], by rw [hy0, hy, zy]⟩).symm
          · exact diff (fun h => zy (by rw [hy0, hy] at h; injection h.2.2 with h; rw [h]))
        · exact diff (fun h => zx (by rw [hx0, hx] at h; injection h.2.1 with h; rw [h]))
      · exact diff (fun h => z1 (by rw [h.1]))
theorem mv_gen_add {w0 : mi_H} {a0 : mo_a} (hd : d < 8) (HR : Rm a0 d R) (hh : ∀ q ∈ R.2.2.1, 2 ≤ q.1 ∧ q.1 < 6) {V : sp_V} (HV : Gv (a0 87) V) (HF0 : ∀ r x y, 2 ≤ r → r < 6 → (F r x y = true ↔ (r, x, y) ∈ lt)) (hkn : ∀ q ∈ R.2.2.1, V q.2.1 ≠ none ∧ V q.2.2 ≠ none) {z2 z3 z4 z6 : Option Value} : ∀ f i (w : mi_H) (a1 : mo_a) (l : List sp_A) (G : Nat → Nat → Nat → Bool), i + f = R.2.2.1.length → Mo w a1 (ls.length, l.length, n, ak, dr, s) → Fm a1 ls l G → (∀ o, 75 ≤ o → a1 o = a0 o) → mi_Fg w0 w 71 94 → l.length + cms F V R.2.2.1 f i ≤ 24 → (∀ p, p ∈ l ↔ p ∈ lt ∨ ∃ q ∈ R.2.2.1.take i, atV V q = p) → mi_wp X mi_P 3 m_Mo_generate (289, [some (.ref 71), some (.int (nI d)), z2, z3, z4, some (.int (nI (2 * d + i))), z6], [], w) (fun q w1 => q = some (.int (nI (1 + d))) ∧ (∃ b lt', Mo w1 b (ls.length, lt'.length, n, ak, dr, s) ∧ Fm b ls lt' ((R.2.2.1.drop i).foldl (addA V) G) ∧ ∀ o, 75 ≤ o → b o = a0 o) ∧ mi_Fg w0 w1 71 94)
  | 0, i, w, a1, l, G, hi, HM, HF, ha, hG, hC, hm => by
    obtain ⟨-, -, -, -, r5, r6, -, r8, -⟩ := id (HR.congr (b := a1) (fun o h1 h2 => ha o h1))
    repeat (first | refine mi_s1 (fun _ => rfl) ?_ | refine mi_wgf rfl HM.1 rfl ?_ | refine mi_wal rfl (HM.2.1 _ _ rfl) rfl (by omega) (by decide) ?_ | refine mi_wbl rfl (HM.2.2 _ _ rfl) rfl (by omega) (by decide) ?_)
    rw [r5, pk_mul, nI_add]
    refine mi_wif (fun _ => ?_) (fun z => absurd (nI_le (a := 2 * d + R.2.2.1.length) (b := 2 * d + i) (by omega) (by omega)) z)
    refine mi_s1 (fun _ => rfl) ?_; refine mi_s1 (fun _ => rfl) ?_; refine mi_s1 (fun _ => rfl) ?_
    refine mi_r1 (fun _ => rfl) ?_
    rw [nI_add, show i = R.2.2.1.length by omega, List.drop_length]
    exact ⟨rfl, ⟨a1, l, HM, HF, ha⟩, hG⟩
  | f + 1, i, w, a1, l, G, hi, HM, HF, ha, hG, hC, hm => by
    obtain ⟨-, -, -, -, r5, r6, -, r8, -⟩ := id (HR.congr (b := a1) (fun o h1 h2 => ha o h1))
    obtain ⟨q, hq, hdr⟩ := drop_at (l := R.2.2.1) (i := i) (by omega)
    have hqm := List.mem_of_getElem? hq
    obtain ⟨e1, e2, e3, hok⟩ := r8 i q hq
    have o1 := hok.1
    have o2 := hok.2.1
    have o3 := hok.2.2
    have hr := hh q hqm
    rw [cms_s F V R.2.2.1 f i hq] at hC
    obtain ⟨x, hx⟩ : ∃ x, V q.2.1 = some x := Option.ne_none_iff_exists'.mp (hkn q hqm).1
    obtain ⟨y, hy⟩ : ∃ y, V q.2.2 = some y := Option.ne_none_iff_exists'.mp (hkn q hqm).2
    have hx24 := HV.2 _ x o2 hx
    have hy24 := HV.2 _ y o3 hy
    have ex : a1 87 q.2.1 = nI x := by rw [ha 87 (by decide), HV.1 _ o2, hx]; rfl
    have ey : a1 87 q.2.2 = nI y := by rw [ha 87 (by decide), HV.1 _ o3, hy]; rfl
    have evf : vfA F V q = F q.1 x y := by
      unfold vfA
      rw [hx, hy]
    have hat : atV V q = (q.1, x, y) := by
      unfold atV gv
      rw [hx, hy]
      rfl
    have hin : (vfA F V q = true ∨ (R.2.2.1.take i).any (fun p => sameA V p q) = true) ↔ (q.1, x, y) ∈ l := by
      rw [hm, evf, HF0 _ _ _ hr.1 hr.2, List.any_eq_true]
      constructor
      · rintro (h | ⟨p, hp, h⟩)
        · exact Or.inl h
        · obtain ⟨h1, h2, h3⟩ := sameA_iff.mp h
          refine Or.inr ⟨p, hp, ?_⟩
          unfold atV gv
          rw [h1, h2, h3, hx, hy]
          rfl
      · rintro (h | ⟨p, hp, h⟩)
        · exact Or.inl h
        · refine Or.inr ⟨p, hp, ?_⟩
          have hpm : p ∈ R.2.2.1 := List.mem_of_mem_take hp
          obtain ⟨x0, hx0⟩ : ∃ x, V p.2.1 = some x := Option.ne_none_iff_exists'.mp (hkn p hpm).1
          obtain ⟨y0, hy0⟩ : ∃ y, V p.2.2 = some y := Option.ne_none_iff_exists'.mp (hkn p hpm).2
          unfold atV gv at h
          rw [hx0, hy0] at h
          injection h with h1 h2
          injection h2 with h2 h3
          have h2 : x0 = x := h2
          have h3 : y0 = y := h3
          exact sameA_iff.mpr ⟨h1, by rw [hx0, hx, h2], by rw [hy0, hy, h3]⟩
    have hroom : (q.1, x, y) ∈ l ∨ l.length < 24 := by
      by_cases z : (q.1, x, y) ∈ l
      · exact Or.inl z
      · rw [if_neg (fun h => z (hin.mp h))] at hC
        exact Or.inr (by omega)
    have hlen : (adl l (q.1, x, y)).length + cms F V R.2.2.1 f (i + 1) ≤ 24 := by
      unfold adl
      by_cases z : (q.1, x, y) ∈ l
      · rw [if_pos z]
        rw [if_pos (hin.mpr z)] at hC
        omega
      · rw [if_neg z, List.length_append]
        rw [if_neg (fun h => z (hin.mp h))] at hC
        show l.length + 1 + _ ≤ 24
        omega
    obtain ⟨t1, w1, he, rfl, ⟨b, HM1, HF1, hb1, -⟩, hG1⟩ := mv_add (X := X) HM HF (q := (q.1, x, y)) ⟨hr.1, hr.2, hx24, hy24⟩ hroom
    have eA : addA V G q = updR G q.1 (addF (G q.1) x y) := by
      unfold addA
      rw [hx, hy]
    repeat (first | refine mi_s1 (fun _ => rfl) ?_ | refine mi_wgf rfl HM.1 rfl ?_ | refine mi_wal rfl (HM.2.1 _ _ rfl) rfl (by omega) (by decide) ?_ | refine mi_wbl rfl (HM.2.2 _ _ rfl) rfl (by omega) (by decide) ?_)
    rw [r5, pk_mul, nI_add]
    refine mi_wif (fun z => absurd z (nI_ge (a := 2 * d + i) (b := 2 * d + R.2.2.1.length) (by omega) (by omega))) (fun _ => ?_)
    repeat (first | refine mi_s1 (fun _ => rfl) ?_ | refine mi_wgf rfl HM.1 rfl ?_ | refine mi_wal rfl (HM.2.1 _ _ rfl) rfl (by omega) (by decide) ?_ | refine mi_wbl rfl (HM.2.2 _ _ rfl) rfl (by omega) (by decide) ?_)
    rw [e1, e2]
    repeat (first | refine mi_s1 (fun _ => rfl) ?_ | refine mi_wgf rfl HM.1 rfl ?_ | refine mi_wal rfl (HM.2.1 _ _ rfl) rfl (by omega) (by decide) ?_ | refine mi_wbl rfl (HM.2.2 _ _ rfl) rfl (by omega) (by decide) ?_)
    rw [e3]
    repeat (first | refine mi_s1 (fun _ => rfl) ?_ | refine mi_wgf rfl HM.1 rfl ?_ | refine mi_wal rfl (HM.2.1 _ _ rfl) rfl (by omega) (by decide) ?_ | refine mi_wbl rfl (HM.2.2 _ _ rfl) rfl (by omega) (by decide) ?_)
    rw [ex, ey]
    refine mi_wcv rfl rfl (Nat.le_of_ble_eq_true rfl) HM.1 rfl (he.up (by decide)) ?_
    refine mi_s1 (fun _ => rfl) ?_; refine mi_s1 (fun _ => rfl) ?_
    rw [show nI (2 * d + i) + nI 1 = nI (2 * d + (i + 1)) from nI_1 (2 * d + i), hdr, List.foldl_cons, eA]
    refine mv_gen_add hd HR hh HV HF0 hkn f (i + 1) w1 b _ _ (by omega) HM1 HF1 (fun o ho => by rw [hb1 o ho]; exact ha o ho) (hG.tr hG1) hlen (fun p => ?_)
    rw [adl_mem, hm, List.take_add_one, hq]
    constructor
    · rintro ((h | ⟨p', h1, h2⟩) | h)
      · exact Or.inl h
      · exact Or.inr ⟨p', List.mem_append.mpr (Or.inl h1), h2⟩
      · exact Or.inr ⟨q, List.mem_append.mpr (Or.inr (by simp)), by rw [hat, h]⟩
    · rintro (h | ⟨p', h1, h2⟩)
      · exact Or.inl (Or.inl h)
      · rcases List.mem_append.mp h1 with h1 | h1
        · exact Or.inl (Or.inr ⟨p', h1, h2⟩)
        · have h1 : p' = q := by simpa using h1
          rw [h1, hat] at h2
          exact Or.inr h2.symm
theorem mv_generate (HM : Mo w a (ls.length, lt.length, n, ak, dr, 1)) (HF : Fm a ls lt F) (hd : d < 8) (HR : Rm a d R) (hk : R.1 = 0) (hf : faultR R = 0) {m : Nat → Nat} (hm : ∀ u, u < 4 → a 86 u = nI (m u) ∧ m u < 24) : mi_Ex X 4 k_Mo_generate [.ref 71, .int (nI d)] w (StQ w a ls n ak dr d (geO F R (tv R.2.1 4 m))) := by
  obtain ⟨-, f2, f3, -, f5, f6⟩ := fault0 hf
  have f2 := f2 hk
  have hoc : occ F 2 4 = inB lt := funext (fun v => HF.oc v)
  obtain ⟨t1, w1, he1, rfl, b1, ⟨HM1, hb1, hG1⟩, HV1⟩ := mv_begin (X := X) HM hd HR hm
  have HF1 := HF.c87 hb1
  have HR1 := HR.c87 hb1
  have h4 := HF.2.2.2.1
  have hlen : 0 < R.2.2.1.length := List.length_pos_iff.mpr f2
  obtain ⟨-, -, -, -, -, r6, -⟩ := id HR
  -- no room
  have bad : ∀ (w2 : mi_H) (a2 : mo_a) (L : mi_L), L[0]? = some (some (.ref 71)) → geO F R (tv R.2.1 4 m) = (false, F, 4) → MoG w w2 a a2 (ls.length, lt.length, n, ak, dr, 1) → mi_wp X mi_P 3 m_Mo_generate (276, L, [], w2) (StQ w a ls n ak dr d (geO F R (tv R.2.1 4 m))) := by
    intro w2 a2 L hL e HG
    obtain ⟨HM, ha, hG⟩ := HG
    rw [e]
    match L, hL with
    | y :: L, hL =>
      have hL : y = some (.ref 71) := by simpa using hL
      subst hL
      refine mi_s1 (fun _ => rfl) ?_; refine mi_s1 (fun _ => rfl) ?_
      refine mi_wpg rfl HM.1 (Nat.le_of_ble_eq_true rfl) rfl (fun w h0 hF => ?_)
      have HM := HM.sc ((ls.length, lt.length, n, ak, dr, 4)) h0 hF
      have hG := hG.tr (mi_Fg.of1 hF (by omega) (by omega))
      clear h0
      refine mi_s1 (fun _ => rfl) ?_
      refine mi_r1 (fun _ => rfl) ?_
      exact ⟨rfl, ⟨a2, lt, HM, HF.c87 ha, fun o h1 h2 => ha o (by omega)⟩, hG⟩
  refine mi_Ex.of (M := m_Mo_generate) rfl (Nat.le_of_ble_eq_true rfl) ?_
  refine mi_s1 (fun _ => rfl) ?_; refine mi_s1 (fun _ => rfl) ?_
  refine mi_wcv rfl rfl (Nat.le_of_ble_eq_true rfl) HM.1 rfl (he1.up (by decide)) ?_
  refine mi_s1 (fun _ => rfl) ?_; refine mi_s1 (fun _ => rfl) ?_; refine mi_s1 (fun _ => rfl) ?_; refine mi_s1 (fun _ => rfl) ?_
  refine mv_gen_free (w0 := w) (a := a) (O := nfr (frR R) 4 0 (inB lt) (tv R.2.1 4 m)) HF hd HR (fun w2 a2 V' fr z3 hO hfr HG HV => ?_) (fun hO w2 a2 fr z3 h1 h2 HG => ?_) 4 0 w1 b1 (tv R.2.1 4 m) (inB lt) 16 rfl rfl (by omega) (by omega) ⟨HM1, hb1, hG1⟩ HV1 (fun y h1 h2 => absurd h1 (by omega)) (fun y _ => rfl)
  · obtain ⟨HM2, ha2, hG2⟩ := id HG
    have eg : geO F R (tv R.2.1 4 m) = if lt.length + cms F V' R.2.2.1 R.2.2.1.length 0 ≤ 24 then (true, R.2.2.1.foldl (addA V') F, 1) else (false, F, 4) := by
      unfold geO
      rw [hoc, hO, HF.cts_t]
    have hkn : ∀ q ∈ R.2.2.1, V' q.2.1 ≠ none ∧ V' q.2.2 ≠ none := fun q hq => by
      obtain ⟨i1, i2⟩ := inB_mem hq
      obtain ⟨-, o1, o2⟩ := HR.okH q hq
      have key : ∀ x, x < 4 → inB R.2.2.1 x = true → V' x ≠ none := fun x hx hi => by
        rw [nfr_dom 4 0 _ _ V' hO x]
        cases hb : inB R.2.1 x with
        | true =>
          refine Or.inl ?_
          rw [tv_some hx hb]
          simp
        | false => exact Or.inr ⟨by omega, by omega, by unfold frR; rw [hi, hb]; rfl⟩
      exact ⟨key _ o1 i1, key _ o2 i2⟩
    have hcm := cms_le F V' R.2.2.1 R.2.2.1.length 0
    refine mi_s1 (fun _ => rfl) ?_; refine mi_s1 (fun _ => rfl) ?_; refine mi_s1 (fun _ => rfl) ?_
    refine mi_wif (fun z => absurd ((nI_ltI (by omega) (by omega)).mp z) (by omega)) (fun _ => ?_)
    refine mi_s1 (fun _ => rfl) ?_; refine mi_s1 (fun _ => rfl) ?_; refine mi_s1 (fun _ => rfl) ?_; refine mi_s1 (fun _ => rfl) ?_; refine mi_s1 (fun _ => rfl) ?_; refine mi_s1 (fun _ => rfl) ?_; refine mi_s1 (fun _ => rfl) ?_; refine mi_s1 (fun _ => rfl) ?_; refine mi_s1 (fun _ => rfl) ?_
    rw [pk_mul]
    refine mv_gen_count HM2 (HF.c87 ha2) hd (HR.c87 ha2) HV hkn (C := 0 + cms F V' R.2.2.1 R.2.2.1.length 0) (fun z5 z6 => ?_) R.2.2.1.length 0 0 _ (by omega) rfl
    rw [Nat.zero_add]
    refine mi_s1 (fun _ => rfl) ?_; refine mi_s1 (fun _ => rfl) ?_
    refine mi_wif (fun z => absurd z (by decide)) (fun _ => ?_)
    have HM := HM2
    repeat (first | refine mi_s1 (fun _ => rfl) ?_ | refine mi_wgf rfl HM.1 rfl ?_ | refine mi_wal rfl (HM.2.1 _ _ rfl) rfl (by omega) (by decide) ?_ | refine mi_wbl rfl (HM.2.2 _ _ rfl) rfl (by omega) (by decide) ?_)
    rw [nI_add]
    refine mi_wif (fun z => ?_) (fun z => ?_)
    · have z : lt.length + cms F V' R.2.2.1 R.2.2.1.length 0 ≤ 24 := (nI_leI (by omega) (by decide)).mp z
      rw [if_pos z] at eg
      rw [eg]
      refine mi_s1 (fun _ => rfl) ?_; refine mi_s1 (fun _ => rfl) ?_; refine mi_s1 (fun _ => rfl) ?_; refine mi_s1 (fun _ => rfl) ?_
      rw [pk_mul]
      refine (mv_gen_add (w0 := w) hd (HR.c87 ha2) (csn0 f5 HR.okH) HV (fun r x y h1 h2 => HF.mem_t h1 h2) hkn R.2.2.1.length 0 w2 a2 lt F (by omega) HM2 (HF.c87 ha2) (fun _ _ => rfl) hG2 z (fun p => ⟨Or.inl, fun h => ?_⟩)).imp (fun q w3 h => ?_)
      · rcases h with h | ⟨q, hq, -⟩
        · exact h
        · simp at hq
      · obtain ⟨h1, ⟨b, lt', h2, h3, h4⟩, h5⟩ := h
        exact ⟨h1, ⟨b, lt', h2, h3, fun o q1 q2 => by rw [h4 o q1]; exact ha2 o (by omega)⟩, h5⟩
    · have z : ¬ lt.length + cms F V' R.2.2.1 R.2.2.1.length 0 ≤ 24 := fun q => z (nI_le q (by omega))
      rw [if_neg z] at eg
      exact bad w2 a2 _ rfl eg HG
  · obtain ⟨HM2, ha2, hG2⟩ := id HG
    have eg : geO F R (tv R.2.1 4 m) = (false, F, 4) := by
      unfold geO
      rw [hoc, hO]
    obtain ⟨-, -, -, -, r5, -⟩ := id (HR.c87 ha2)
    refine mi_s1 (fun _ => rfl) ?_; refine mi_s1 (fun _ => rfl) ?_; refine mi_s1 (fun _ => rfl) ?_
    refine mi_wif (fun _ => ?_) (fun z => absurd (nI_lt h1 (by omega)) z)
    refine mi_s1 (fun _ => rfl) ?_; refine mi_s1 (fun _ => rfl) ?_; refine mi_s1 (fun _ => rfl) ?_; refine mi_s1 (fun _ => rfl) ?_; refine mi_s1 (fun _ => rfl) ?_; refine mi_s1 (fun _ => rfl) ?_; refine mi_s1 (fun _ => rfl) ?_; refine mi_s1 (fun _ => rfl) ?_
    rw [pk_mul]
    have HM := HM2
    repeat (first | refine mi_s1 (fun _ => rfl) ?_ | refine mi_wgf rfl HM.1 rfl ?_ | refine mi_wal rfl (HM.2.1 _ _ rfl) rfl (by omega) (by decide) ?_ | refine mi_wbl rfl (HM.2.2 _ _ rfl) rfl (by omega) (by decide) ?_)
    rw [r5, pk_mul, nI_add]
    refine mi_wif (fun z => absurd ((nI_leI (by omega) (by omega)).mp z) (by omega)) (fun _ => ?_)
    refine mi_s1 (fun _ => rfl) ?_; refine mi_s1 (fun _ => rfl) ?_
    refine mi_wif (fun _ => ?_) (fun z => absurd rfl z)
    refine mi_s1 (fun _ => rfl) ?_; refine mi_s1 (fun _ => rfl) ?_
    refine mi_wif (fun _ => ?_) (fun z => absurd rfl z)
    exact bad w2 a2 _ rfl eg HG
end MGen
