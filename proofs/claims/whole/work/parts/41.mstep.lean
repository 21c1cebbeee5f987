/-! the model: step and run -/
theorem stO_le {F : Nat → Nat → Nat → Bool} {R : sp_R} {V : sp_V} : (stO F R V).2.2 ≤ 4 := by
  unfold stO
  split
  · unfold eqO
    split
    · split
      · exact Nat.le_of_ble_eq_true rfl
      · exact Nat.le_of_ble_eq_true rfl
    · exact Nat.le_of_ble_eq_true rfl
  · unfold geO
    split
    · split
      · exact Nat.le_of_ble_eq_true rfl
      · exact Nat.le_of_ble_eq_true rfl
    · exact Nat.le_of_ble_eq_true rfl
section MStep
variable {X : mi_X} {w : mi_H} {a : mo_a} {T : mo_T} {ls lt : List sp_A} {F : Nat → Nat → Nat → Bool} {n s : Nat} {ak dr : Bool} {d : Nat} {R : sp_R} {S : sp_S}
/-- what lies below the scratch is the same -/
def MoL (w0 w : mi_H) (a a1 : mo_a) (T : mo_T) : Prop := Mo w a1 T ∧ (∀ o, o < 86 → a1 o = a o) ∧ mi_Fg w0 w 71 94
theorem Fm.cL {b : mo_a} (HF : Fm a ls lt F) (h : ∀ o, o < 86 → b o = a o) : Fm b ls lt F := HF.congr (fun o h1 h2 => h o (by omega))
theorem Rm.cL {b : mo_a} (HR : Rm a d R) (h : ∀ o, o < 86 → b o = a o) : Rm b d R := HR.congr (fun o h1 h2 => h o (by omega))
theorem mv_step_in {w0 : mi_H} (HF : Fm a ls lt F) (hd : d < 8) (HR : Rm a d R) (hk2 : R.1 < 2) (hf : faultR R = 0) {Q : Option Value → mi_H → Prop} {O : Option (Nat → Nat)} (k1 : ∀ (w1 : mi_H) (a1 : mo_a) (z2 : Option Value), O = none → MoL w0 w1 a a1 (ls.length, lt.length, n, ak, dr, s) → mi_wp X mi_P 4 m_Mo_step (74, [some (.ref 71), some (.int (nI d)), z2], [], w1) Q) (k2 : ∀ (w1 : mi_H) (a1 : mo_a) (z2 : Option Value) m', O = some m' → (∀ u, u < 4 → a1 86 u = nI (m' u) ∧ m' u < 24) → MoL w0 w1 a a1 (ls.length, lt.length, n, ak, dr, s) → mi_wp X mi_P 4 m_Mo_step (40, [some (.ref 71), some (.int (nI d)), z2], [], w1) Q) : ∀ (L : List (Nat → Nat)) (w : mi_H) (a1 : mo_a), (∀ m ∈ L, ∀ u, u < 4 → m u < 24) → (∀ m r, L = m :: r → mR F R.2.1 4 m = r) → L.find? (fun m' => !satV F R (tv R.2.1 (stR R) m')) = O → MoL w0 w a a1 (ls.length, lt.length, n, ak, dr, s) → (∀ m r, L = m :: r → ∀ u, u < 4 → a1 86 u = nI (m u)) → mi_wp X mi_P 4 m_Mo_step (28, [some (.ref 71), some (.int (nI d)), some (.int (jb (L.isEmpty = false)))], [], w) Q
  | [], w, a1, hL, ht, hO, HG, hv => by
    refine mi_s1 (fun _ => rfl) ?_; refine mi_s1 (fun _ => rfl) ?_
    refine mi_wif (fun _ => ?_) (fun z => absurd rfl z)
    exact k1 w a1 _ hO.symm HG
  | m :: r, w, a1, hL, ht, hO, HG, hv => by
    obtain ⟨HM, ha, hG⟩ := id HG
    have hm : ∀ u, u < 4 → a1 86 u = nI (m u) ∧ m u < 24 := fun u hu => ⟨hv m r rfl u hu, hL m List.mem_cons_self u hu⟩
    obtain ⟨t1, w1, he1, rfl, b1, HM1, hb1, hG1⟩ := mv_satisfied (X := X) HM (HF.cL ha) hd (HR.cL ha) hk2 hf hm
    have ha1 : ∀ o, o < 86 → b1 o = a o := fun o ho => by
      rw [hb1 o (by omega)]
      exact ha o ho
    have hm1 : ∀ u, u < 4 → b1 86 u = nI (m u) ∧ m u < 24 := fun u hu => by
      rw [hb1 86 (by decide)]
      exact hm u hu
    rw [List.find?_cons] at hO
    refine mi_s1 (fun _ => rfl) ?_; refine mi_s1 (fun _ => rfl) ?_
    refine mi_wif (fun z => absurd rfl (jb_0.mp z)) (fun _ => ?_)
    refine mi_s1 (fun _ => rfl) ?_; refine mi_s1 (fun _ => rfl) ?_
    refine mi_wcv rfl rfl (Nat.le_of_ble_eq_true rfl) HM.1 rfl (he1.up (by decide)) ?_
    refine mi_s1 (fun _ => rfl) ?_
    cases e : satV F R (tv R.2.1 (stR R) m) with
    | false =>
      rw [e] at hO
      refine mi_wif (fun _ => ?_) (fun z => absurd rfl z)
      exact k2 w1 b1 _ m hO.symm hm1 ⟨HM1, ha1, hG.tr hG1⟩
    | true =>
      rw [e] at hO
      refine mi_wif (fun z => absurd z (by decide)) (fun _ => ?_)
      obtain ⟨t2, w2, he2, b2, ⟨HM2, hb2, hG2⟩, rfl, hv2⟩ := mv_next0 (X := X) HM1 (HF.cL ha1) hd (HR.cL ha1) hm1
      rw [ht m r rfl] at he2 hv2
      refine mi_s1 (fun _ => rfl) ?_; refine mi_s1 (fun _ => rfl) ?_; refine mi_s1 (fun _ => rfl) ?_
      refine mi_wcv rfl rfl (Nat.le_of_ble_eq_true rfl) HM1.1 rfl (he2.up (by decide)) ?_
      refine mi_s1 (fun _ => rfl) ?_; refine mi_s1 (fun _ => rfl) ?_
      refine mv_step_in HF hd HR hk2 hf k1 k2 r w2 b2 (fun m' hm' => hL m' (List.mem_cons_of_mem _ hm')) (fun m2 r2 h2 => ?_) hO ⟨HM2, fun o ho => by rw [hb2 o (by omega)]; exact ha1 o ho, (hG.tr hG1).tr hG2⟩ hv2
      exact mR_rem 4 m m2 r2 (by omega) (by rw [ht m r rfl]; exact h2)
theorem Rm.okB2 (HR : Rm a d R) : ∀ q ∈ R.2.1, okA q := by
  intro q hq
  obtain ⟨k, hk⟩ := List.mem_iff_getElem?.mp hq
  obtain ⟨-, -, -, -, -, -, r7, -⟩ := HR
  exact (r7 k q hk).2.2.2
theorem mv_step_loop {w0 : mi_H} (hw : wfS S) (HF : Fm a ls lt S.F) (HR : ∀ i, i < S.n → Rm a i (S.R i)) (H6 : S.hq = true → Rm a 6 (S.R 6)) (H7 : S.hd = true → Rm a 7 (S.R 7)) (hn : S.n ≤ 6) : ∀ f d (w : mi_H) (a1 : mo_a) (z2 : Option Value), d + f = S.n → MoL w0 w a a1 (ls.length, lt.length, S.n, S.hq, S.hd, 1) → mi_wp X mi_P 4 m_Mo_step (13, [some (.ref 71), some (.int (nI d)), z2], [], w) (fun q w1 => q = some (.int (onc S.F S.R f d).1) ∧ Md w1 (setFs S (onc S.F S.R f d).2.1 (onc S.F S.R f d).2.2) ∧ mi_Fg w0 w1 71 94)
  | 0, d, w, a1, z2, hd, HG => by
    obtain ⟨HM, ha, hG⟩ := id HG
    repeat (first | refine mi_s1 (fun _ => rfl) ?_ | refine mi_wgf rfl HM.1 rfl ?_ | refine mi_wal rfl (HM.2.1 _ _ rfl) rfl (by omega) (by decide) ?_ | refine mi_wbl rfl (HM.2.2 _ _ rfl) rfl (by omega) (by decide) ?_)
    refine mi_wif (fun _ => ?_) (fun q => absurd (nI_le (a := S.n) (b := d) (by omega) (by omega)) q)
    refine mi_s1 (fun _ => rfl) ?_; refine mi_s1 (fun _ => rfl) ?_
    refine mi_wpg rfl HM.1 (Nat.le_of_ble_eq_true rfl) rfl (fun w h0 hF => ?_)
    have HM := HM.sc ((ls.length, lt.length, S.n, S.hq, S.hd, 2)) h0 hF
    have hG := hG.tr (mi_Fg.of1 hF (by omega) (by omega))
    clear h0
    refine mi_s1 (fun _ => rfl) ?_
    refine mi_r1 (fun _ => rfl) ?_
    exact ⟨rfl, ⟨a1, ls, lt, HM, HF.cL ha, fun i hi => (HR i hi).cL ha, fun q => (H6 q).cL ha, fun q => (H7 q).cL ha, hn, Nat.le_of_ble_eq_true rfl⟩, hG⟩
  | f + 1, d, w, a1, z2, hd, HG => by
    obtain ⟨HM, ha, hG⟩ := id HG
    have HRd := HR d (by omega)
    obtain ⟨hk2, hf0⟩ := hw.1 d (by omega)
    obtain ⟨t1, w1, he1, b1, ⟨HM1, hb1, hG1⟩, rfl, hv1⟩ := mv_next1 (X := X) HM (HF.cL ha) (by omega) (HRd.cL ha) (fun _ => 0)
    have hs4 : stR (S.R d) ≤ 4 := stR_le HRd.2.2.2.2.2.2.2.2.2.2.1
    have efu := fu_mM (F := S.F) (R := S.R d) (s := stR (S.R d)) hs4 HF.b24 HRd.okB2 4 0 (fun _ => 0) rfl (fun q _ h => absurd h (Nat.not_lt_zero _)) (fun h => absurd h (Nat.not_lt_zero _))
    rw [show tv (S.R d).2.1 0 (fun _ => 0) = fun _ => none from funext (fun u => tv_none (Nat.zero_le u))] at efu
    repeat (first | refine mi_s1 (fun _ => rfl) ?_ | refine mi_wgf rfl HM.1 rfl ?_ | refine mi_wal rfl (HM.2.1 _ _ rfl) rfl (by omega) (by decide) ?_ | refine mi_wbl rfl (HM.2.2 _ _ rfl) rfl (by omega) (by decide) ?_)
    refine mi_wif (fun q => absurd q (nI_ge (a := d) (b := S.n) (by omega) (by omega))) (fun _ => ?_)
    refine mi_s1 (fun _ => rfl) ?_; refine mi_s1 (fun _ => rfl) ?_; refine mi_s1 (fun _ => rfl) ?_
    refine mi_wcv rfl rfl (Nat.le_of_ble_eq_true rfl) HM.1 rfl (he1.up (by decide)) ?_
    refine mi_s1 (fun _ => rfl) ?_
    refine mv_step_in (w0 := w0) (a := a) HF (by omega) HRd hk2 hf0 (O := (mM S.F (S.R d).2.1 4 (fun _ => 0)).find? (fun m' => !satV S.F (S.R d) (tv (S.R d).2.1 (stR (S.R d)) m'))) (fun w2 a2 z2 hO H2 => ?_) (fun w2 a2 z2 m' hO hm H2 => ?_) (mM S.F (S.R d).2.1 4 (fun _ => 0)) w1 b1 (fun m hm u hu => mM_lt (by omega) hm u (by omega) hu) (fun m r h => ?_) rfl ⟨HM1, fun o ho => by rw [hb1 o (by omega)]; exact ha o ho, hG.tr hG1⟩ hv1
    · rw [hO] at efu
      have eo : onc S.F S.R (f + 1) d = onc S.F S.R f (d + 1) := by
        show (match fu S.F (S.R d) (stR (S.R d)) 4 0 (fun _ => none) with
          | none => _
          | some V => _) = _
        rw [efu]
        rfl
      rw [eo]
      refine mi_s1 (fun _ => rfl) ?_; refine mi_s1 (fun _ => rfl) ?_
      rw [show nI d + nI 1 = nI (d + 1) from nI_1 d]
      exact mv_step_loop hw HF HR H6 H7 hn f (d + 1) w2 a2 _ (by omega) H2
    · rw [hO] at efu
      have eo : onc S.F S.R (f + 1) d = (if (stO S.F (S.R d) (tv (S.R d).2.1 4 m')).1 = true then nI (1 + d) else if (stO S.F (S.R d) (tv (S.R d).2.1 4 m')).2.2 = 3 then -1 else -2, (stO S.F (S.R d) (tv (S.R d).2.1 4 m')).2) := by
        show (match fu S.F (S.R d) (stR (S.R d)) 4 0 (fun _ => none) with
          | none => _
          | some V => _) = _
        rw [efu]
        rfl
      rw [eo]
      obtain ⟨HM2, ha2, hG2⟩ := id H2
      have HRd2 := HRd.cL ha2
      have hsl := stO_le (F := S.F) (R := S.R d) (V := tv (S.R d).2.1 4 m')
      have fin : ∀ (q : Option Value) (w3 : mi_H), StQ w2 a2 ls S.n S.hq S.hd d (stO S.F (S.R d) (tv (S.R d).2.1 4 m')) q w3 → q = some (.int (if (stO S.F (S.R d) (tv (S.R d).2.1 4 m')).1 = true then nI (1 + d) else if (stO S.F (S.R d) (tv (S.R d).2.1 4 m')).2.2 = 3 then -1 else -2)) ∧ Md w3 (setFs S (stO S.F (S.R d) (tv (S.R d).2.1 4 m')).2.1 (stO S.F (S.R d) (tv (S.R d).2.1 4 m')).2.2) ∧ mi_Fg w0 w3 71 94 := by
        rintro q w3 ⟨h1, ⟨b, lt', h2, h3, h4⟩, h5⟩
        have hc : ∀ o, 75 ≤ o → o < 86 → b o = a o := fun o q1 q2 => by
          rw [h4 o q1 q2]
          exact ha2 o q2
        exact ⟨h1, ⟨b, ls, lt', h2, h3, fun i hi => (HR i hi).congr hc, fun q => (H6 q).congr hc, fun q => (H7 q).congr hc, hn, hsl⟩, hG2.tr h5⟩
      have HM := HM2
      repeat (first | refine mi_s1 (fun _ => rfl) ?_ | refine mi_wgf rfl HM.1 rfl ?_ | refine mi_wal rfl (HM.2.1 _ _ rfl) rfl (by omega) (by decide) ?_ | refine mi_wbl rfl (HM.2.2 _ _ rfl) rfl (by omega) (by decide) ?_)
      rw [HRd2.1]
      refine mi_wif (fun z => ?_) (fun z => ?_)
      · have z : (S.R d).1 = 1 := (nI_eq (by omega) (by decide)).mp z
        have es : stO S.F (S.R d) (tv (S.R d).2.1 4 m') = eqO S.F (S.R d) (tv (S.R d).2.1 4 m') := if_pos z
        obtain ⟨t3, w3, he3, h3⟩ := mv_equate (X := X) HM2 (HF.cL ha2) (by omega) HRd2 z hf0 hm
        rw [← es] at h3
        obtain ⟨rfl, h4, h5⟩ := fin t3 w3 h3
        refine mi_s1 (fun _ => rfl) ?_; refine mi_s1 (fun _ => rfl) ?_
        refine mi_wcv rfl rfl (Nat.le_of_ble_eq_true rfl) HM2.1 rfl (he3) ?_
        refine mi_s1 (fun _ => rfl) ?_
        refine mi_r1 (fun _ => rfl) ?_
        exact ⟨rfl, h4, h5⟩
      · have z : ¬ (S.R d).1 = 1 := fun q => z (by rw [q])
        have es : stO S.F (S.R d) (tv (S.R d).2.1 4 m') = geO S.F (S.R d) (tv (S.R d).2.1 4 m') := if_neg z
        obtain ⟨t3, w3, he3, h3⟩ := mv_generate (X := X) HM2 (HF.cL ha2) (by omega) HRd2 (by omega) hf0 hm
        rw [← es] at h3
        obtain ⟨rfl, h4, h5⟩ := fin t3 w3 h3
        refine mi_s1 (fun _ => rfl) ?_; refine mi_s1 (fun _ => rfl) ?_
        refine mi_wcv rfl rfl (Nat.le_of_ble_eq_true rfl) HM2.1 rfl (he3) ?_
        refine mi_r1 (fun _ => rfl) ?_
        exact ⟨rfl, h4, h5⟩
    · have := mM_rem 4 (fun _ => 0) m r (by omega) h
      rw [this, show mR S.F (S.R d).2.1 (4 - 4) (fun _ => 0) = [] from rfl, List.append_nil]
theorem mv_step (hw : wfS S) (H : Md w S) : mi_Ex X 5 k_Mo_step [.ref 71] w (fun q w1 => q = some (.int (op_step S).1) ∧ Md w1 (op_step S).2 ∧ mi_Fg w w1 71 94) := by
  obtain ⟨a, ls, lt, HM, HF, HR, H6, H7, hn, hs⟩ := id H
  refine mi_Ex.of (M := m_Mo_step) rfl (Nat.le_of_ble_eq_true rfl) ?_
  repeat (first | refine mi_s1 (fun _ => rfl) ?_ | refine mi_wgf rfl HM.1 rfl ?_ | refine mi_wal rfl (HM.2.1 _ _ rfl) rfl (by omega) (by decide) ?_ | refine mi_wbl rfl (HM.2.2 _ _ rfl) rfl (by omega) (by decide) ?_)
  refine mi_wif (fun z => ?_) (fun z => ?_)
  · have z : S.s = 1 := (nI_eq (a := S.s) (by omega) (by decide)).mp z
    have e : op_step S = op_once S := if_pos z
    rw [e]
    rw [z] at HM
    refine mi_s1 (fun _ => rfl) ?_; refine mi_s1 (fun _ => rfl) ?_
    exact mv_step_loop hw HF HR H6 H7 hn S.n 0 w a _ (by omega) ⟨HM, fun _ _ => rfl, mi_Fg.rf⟩
  · have e : op_step S = (-3, S) := if_neg (fun q => z (show nI S.s = nI 1 by rw [q]))
    rw [e]
    refine mi_s1 (fun _ => rfl) ?_
    refine mi_r1 (fun _ => rfl) ?_
    exact ⟨rfl, H, mi_Fg.rf⟩
theorem mv_run_loop {w0 : mi_H} {x : Int32} : ∀ f m (w : mi_H) (S : sp_S), m + f = x.toNatClampNeg → wfS S → S.s = 1 → Md w S → mi_Fg w0 w 71 94 → mi_wp X mi_P 5 m_Mo_run (13, [some (.ref 71), some (.int x), some (.int (nI m))], [], w) (fun q w1 => q = some (.int (nI (rnl f m S).1)) ∧ Md w1 (rnl f m S).2 ∧ mi_Fg w0 w1 71 94)
  | 0, m, w, S, hm, hw, hs, H, hF0 => by
    have hx : x ≤ nI m := by
      by_cases q : x < 0
      · have := x.toNatClampNeg_lt
        have h2 : (0 : Int32) ≤ nI m := nI_pos' (by omega)
        exact Int32.le_of_lt (Int32.lt_of_lt_of_le q h2)
      · obtain ⟨j, hj, e⟩ := nI_of q
        rw [e, nI_clamp hj] at hm
        rw [e]
        exact nI_le (by omega) (by omega)
    refine mi_s1 (fun _ => rfl) ?_; refine mi_s1 (fun _ => rfl) ?_; refine mi_s1 (fun _ => rfl) ?_
    refine mi_wif (fun _ => ?_) (fun q => absurd hx q)
    refine mi_s1 (fun _ => rfl) ?_
    refine mi_r1 (fun _ => rfl) ?_
    exact ⟨rfl, H, hF0⟩
  | f + 1, m, w, S, hm, hw, hs, H, hF0 => by
    have hlt := x.toNatClampNeg_lt
    have hx : nI m < x := by
      by_cases q : x < 0
      · exfalso
        have : x.toNatClampNeg = 0 := by
          rw [Int32.toNatClampNeg_eq_zero_iff]
          exact Int32.le_of_lt q
        omega
      · obtain ⟨j, hj, e⟩ := nI_of q
        rw [e, nI_clamp hj] at hm
        rw [e]
        exact nI_lt (by omega) (by omega)
    obtain ⟨a, ls, lt, HM, HF, HR, H6, H7, hn, hs4⟩ := id H
    obtain ⟨r1, w1, he, rfl, H1, hF1⟩ := mv_step (X := X) hw H
    have e : op_step S = op_once S := if_pos hs
    rw [e] at H1 he
    refine mi_s1 (fun _ => rfl) ?_; refine mi_s1 (fun _ => rfl) ?_; refine mi_s1 (fun _ => rfl) ?_
    refine mi_wif (fun q => absurd hx (by simpa using q)) (fun _ => ?_)
    repeat (first | refine mi_s1 (fun _ => rfl) ?_ | refine mi_wgf rfl HM.1 rfl ?_ | refine mi_wal rfl (HM.2.1 _ _ rfl) rfl (by omega) (by decide) ?_ | refine mi_wbl rfl (HM.2.2 _ _ rfl) rfl (by omega) (by decide) ?_)
    refine mi_wif (fun _ => ?_) (fun q => absurd (show nI S.s = nI 1 by rw [hs]) q)
    refine mi_s1 (fun _ => rfl) ?_
    refine mi_wcv rfl rfl (Nat.le_of_ble_eq_true rfl) HM.1 rfl (he) ?_
    refine mi_s1 (fun _ => rfl) ?_
    unfold rnl
    obtain ⟨a1, ls1, lt1, HM1, -⟩ := id H1
    have hsi := onc_s (F := S.F) (R := S.R) S.n 0 (by omega)
    refine mi_wif (fun z => ?_) (fun z => ?_)
    · rw [if_neg (by simpa using z)]
      have zz : ¬ 0 < (op_once S).1 := by simpa using z
      have hs1 : ¬ (op_once S).2.s = 1 := fun q => zz (hsi.mpr q)
      have hs5 : (op_once S).2.s ≤ 4 := by
        obtain ⟨_, _, _, _, _, _, _, _, _, h⟩ := H1
        exact h
      refine mi_s1 (fun _ => rfl) ?_; refine mi_s1 (fun _ => rfl) ?_; refine mi_s1 (fun _ => rfl) ?_
      have mbig : m < 2 ^ 31 := by omega
      refine mi_s1 (fun _ => rfl) ?_; refine mi_s1 (fun _ => rfl) ?_; refine mi_s1 (fun _ => rfl) ?_
      refine mi_wif (fun q => absurd hx (by simpa using q)) (fun _ => ?_)
      have HM := HM1
      repeat (first | refine mi_s1 (fun _ => rfl) ?_ | refine mi_wgf rfl HM.1 rfl ?_ | refine mi_wal rfl (HM.2.1 _ _ rfl) rfl (by omega) (by decide) ?_ | refine mi_wbl rfl (HM.2.2 _ _ rfl) rfl (by omega) (by decide) ?_)
      refine mi_wif (fun q => absurd ((nI_eq (a := (op_once S).2.s) (by omega) (by decide)).mp q) hs1) (fun _ => ?_)
      refine mi_s1 (fun _ => rfl) ?_
      refine mi_r1 (fun _ => rfl) ?_
      exact ⟨rfl, H1, hF0.tr hF1⟩
    · have z : 0 < (op_once S).1 := by simpa using z
      rw [if_pos z]
      refine mi_s1 (fun _ => rfl) ?_; refine mi_s1 (fun _ => rfl) ?_; refine mi_s1 (fun _ => rfl) ?_; refine mi_s1 (fun _ => rfl) ?_; refine mi_s1 (fun _ => rfl) ?_; refine mi_s1 (fun _ => rfl) ?_
      rw [nI_add]
      exact mv_run_loop f (m + 1) w1 (op_once S).2 (by omega) hw (hsi.mp z) H1 (hF0.tr hF1)
theorem mv_run (hw : wfS S) (H : Md w S) (x : Int32) : mi_Ex X 6 k_Mo_run [.ref 71, .int x] w (fun q w1 => q = some (.int (op_run S x).1) ∧ Md w1 (op_run S x).2 ∧ mi_Fg w w1 71 94) := by
  obtain ⟨a, ls, lt, HM, HF, HR, H6, H7, hn, hs⟩ := id H
  refine mi_Ex.of (M := m_Mo_run) rfl (Nat.le_of_ble_eq_true rfl) ?_
  repeat (first | refine mi_s1 (fun _ => rfl) ?_ | refine mi_wgf rfl HM.1 rfl ?_ | refine mi_wal rfl (HM.2.1 _ _ rfl) rfl (by omega) (by decide) ?_ | refine mi_wbl rfl (HM.2.2 _ _ rfl) rfl (by omega) (by decide) ?_)
  refine mi_wif (fun z => ?_) (fun z => ?_)
  · have z : S.s = 1 := (nI_eq (a := S.s) (by omega) (by decide)).mp z
    have e : op_run S x = _ := if_pos z
    rw [e]
    refine mi_s1 (fun _ => rfl) ?_; refine mi_s1 (fun _ => rfl) ?_
    exact mv_run_loop _ 0 w S (by omega) hw z H mi_Fg.rf
  · have e : op_run S x = (-3, S) := if_neg (fun q => z (show nI S.s = nI 1 by rw [q]))
    rw [e]
    refine mi_s1 (fun _ => rfl) ?_
    refine mi_r1 (fun _ => rfl) ?_
    exact ⟨rfl, H, mi_Fg.rf⟩
end MStep
