/-! the model: what is certain -/
theorem kf_stop {g : Nat → Bool} {e : Nat} : ∀ f m k, k < cn (fun i => g (m + i)) f → kp.kf g m (f + e) k = kp.kf g m f k
  | 0, m, k, h => absurd h (Nat.not_lt_zero k)
  | f + 1, m, k, h => by
    rw [cn_shift] at h
    rw [show f + 1 + e = (f + e) + 1 by omega]
    unfold kp.kf
    by_cases q : g m = true
    · rw [if_pos q] at h
      rw [if_pos q, if_pos q]
      by_cases z : k = 0
      · rw [if_pos z, if_pos z]
      · rw [if_neg z, if_neg z]
        exact kf_stop f (m + 1) (k - 1) (by omega)
    · rw [if_neg q, Nat.zero_add] at h
      rw [if_neg q, if_neg q]
      exact kf_stop f (m + 1) k h
theorem kc_none {G : Nat → Bool} : ∀ f c k, cn (fun i => G (c + i)) f ≤ k → kc G f c k = none
  | 0, c, k, h => rfl
  | f + 1, c, k, h => by
    rw [cn_shift] at h
    rw [kc_s]
    by_cases q : G c = true
    · rw [if_pos q] at h
      rw [if_pos q, if_neg (by omega)]
      exact kc_none f (c + 1) (k - 1) (by omega)
    · rw [if_neg q, Nat.zero_add] at h
      rw [if_neg q]
      exact kc_none f (c + 1) k h
def kcR (o : Option Nat) : Int32 := match o with
  | some c => nI c
  | none => -3
theorem cn16 {g : Nat → Bool} (h : ∀ i, 16 ≤ i → g i = false) : cn g 24 = cn g 16 := by
  rw [show (24 : Nat) = 16 + 8 from rfl, cn_add, cn_zero 8 (fun i _ => h (16 + i) (by omega)), Nat.add_zero]
theorem kq_kc {g : Nat → Nat → Bool} {G : Nat → Bool} (hG : ∀ a i, i < 16 → G (16 * a + i) = g a i) (h : ∀ a i, 16 ≤ i → g a i = false) : ∀ f a k, kq g f a k = kcR (kc G (16 * f) (16 * a) k)
  | 0, a, k => rfl
  | f + 1, a, k => by
    unfold kq
    have e := kc_scan (G := G) (c := 16 * a) (m := 16 * f) (g := g a) 16 0 k (fun i _ h2 => hG a i (by omega))
    have ez : (fun i => g a (0 + i)) = g a := by
      funext i
      rw [Nat.zero_add]
    rw [ez] at e
    rw [show 16 * (f + 1) = 16 + 16 * f by omega, show 16 * a = 16 * a + 0 from rfl, e, cn16 (h a)]
    by_cases z : k < cn (g a) 16
    · rw [if_pos z, if_pos z]
      have := kf_stop (g := g a) (e := 8) 16 0 k (by rw [ez]; exact z)
      show nI (16 * a + kp.kf (g a) 0 (16 + 8) k) = _
      rw [this]
      rfl
    · rw [if_neg z, if_neg z, kq_kc hG h f (a + 1) _, show 16 * a + 0 + 16 = 16 * (a + 1) by omega]
theorem sm_cn {g : Nat → Nat → Bool} {G : Nat → Bool} (hG : ∀ a i, i < 16 → G (16 * a + i) = g a i) : ∀ k, cn G (16 * k) = sm (fun a => cn (g a) 16) k
  | 0 => rfl
  | k + 1 => by
    rw [show 16 * (k + 1) = 16 * k + 16 by omega, cn_add, sm_cn hG k, cn_congr 16 (fun i hi => hG k i hi)]
    rfl
/-- what the matches of a list tell -/
def cG (v u : Nat) (L : List (Nat → Nat)) (c : Nat) : Bool := L.any (fun m => decide (m v < 16) && decide (m u < 16) && decide (16 * m v + m u = c))
theorem cG_app {v u c : Nat} {P : List (Nat → Nat)} {m : Nat → Nat} : cG v u (P ++ [m]) c = (cG v u P c || (decide (m v < 16) && decide (m u < 16) && decide (16 * m v + m u = c))) := by
  unfold cG
  rw [List.any_append]
  simp
theorem cG_ctn {S : sp_S} {v u : Nat} {m0 : Nat → Nat} (hp : (S.R 6).2.2.2 = some (v, u)) (hb24 : ∀ i, i < 6 → ∀ x y, S.F i x y = true → x < 24 ∧ y < 24) (hb : ∀ q ∈ (S.R 6).2.1, okA q) (hv : inB (S.R 6).2.1 v = true) (hu : inB (S.R 6).2.1 u = true) (hv4 : v < 4) (hu4 : u < 4) {a i : Nat} (ha : a < 16) (hi : i < 16) : cG v u (mM S.F (S.R 6).2.1 4 m0) (16 * a + i) = ctn S a i := by
  unfold ctn
  rw [hp]
  dsimp only
  rw [decide_eq_true hi, Bool.and_true, Bool.eq_iff_iff, cst_iff (m0 := m0) hb24 hb hv hu hv4 hu4]
  unfold cG
  rw [List.any_eq_true]
  constructor
  · rintro ⟨m, hm, h⟩
    rw [Bool.and_eq_true, Bool.and_eq_true] at h
    have h1 := of_decide_eq_true h.1.1
    have h2 := of_decide_eq_true h.1.2
    have h3 := of_decide_eq_true h.2
    exact ⟨m, hm, by omega, by omega⟩
  · rintro ⟨m, hm, h1, h2⟩
    refine ⟨m, hm, ?_⟩
    rw [h1, h2, decide_eq_true ha, decide_eq_true hi, decide_eq_true rfl]
    rfl
section MCertain
variable {X : mi_X} {w : mi_H} {a : mo_a} {T : mo_T} {ls lt : List sp_A} {F : Nat → Nat → Nat → Bool} {n s : Nat} {ak dr : Bool} {R : sp_R} {S : sp_S}
theorem mv_fc_clear {w0 : mi_H} {z2 z3 z4 : Option Value} {Q : Option Value → mi_H → Prop} (kk : ∀ (w1 : mi_H) (a1 : mo_a) (z1 : Option Value), MoL w0 w1 a a1 T → (∀ c, c < 256 → a1 93 c = 0) → mi_wp X mi_P 3 m_Mo_findCertain (22, [some (.ref 71), z1, z2, z3, z4], [], w1) Q) : ∀ f i (w : mi_H) (a1 : mo_a), i + f = 256 → MoL w0 w a a1 T → (∀ c, c < i → a1 93 c = 0) → mi_wp X mi_P 3 m_Mo_findCertain (2, [some (.ref 71), some (.int (nI i)), z2, z3, z4], [], w) Q
  | 0, i, w, a1, hi, HG, hz => by
    have hi : i = 256 := by omega
    subst hi
    refine mi_s1 (fun _ => rfl) ?_; refine mi_s1 (fun _ => rfl) ?_; refine mi_s1 (fun _ => rfl) ?_
    refine mi_wif (fun _ => ?_) (fun q => absurd (by decide) q)
    exact kk w a1 _ HG hz
  | f + 1, i, w, a1, hi, HG, hz => by
    obtain ⟨HM, ha, hG⟩ := HG
    refine mi_s1 (fun _ => rfl) ?_; refine mi_s1 (fun _ => rfl) ?_; refine mi_s1 (fun _ => rfl) ?_
    refine mi_wif (fun z => absurd z (nI_ge (a := i) (b := 256) (by omega) (by omega))) (fun _ => ?_)
    repeat (first | refine mi_s1 (fun _ => rfl) ?_ | refine mi_wgf rfl HM.1 rfl ?_ | refine mi_wal rfl (HM.2.1 _ _ rfl) rfl (by omega) (by decide) ?_ | refine mi_wbl rfl (HM.2.2 _ _ rfl) rfl (by omega) (by decide) ?_)
    refine HM.wbs rfl rfl rfl (by omega) (fun w HM hF => ?_)
    have hG := hG.tr hF
    refine mi_s1 (fun _ => rfl) ?_; refine mi_s1 (fun _ => rfl) ?_
    rw [show nI i + nI 1 = nI (i + 1) from nI_1 i]
    refine mv_fc_clear kk f (i + 1) w _ (by omega) ⟨HM, fun o ho => by rw [upA_o (by omega)]; exact ha o ho, hG⟩ (fun c hc => ?_)
    rw [upA_s]
    by_cases z : c = i
    · rw [z, pk_us]
      decide
    · rw [pk_un z]
      exact hz c (by omega)
theorem mv_fc_in {w0 : mi_H} (HF : Fm a ls lt F) (HR : Rm a 6 R) {v u : Nat} (hp : R.2.2.2 = some (v, u)) {Q : Option Value → mi_H → Prop} {A : List (Nat → Nat)} (kk : ∀ (w1 : mi_H) (a1 : mo_a) (z2 z3 z4 : Option Value), MoL w0 w1 a a1 (ls.length, lt.length, n, ak, dr, s) → (∀ c, c < 256 → a1 93 c = jb (cG v u A c = true)) → mi_wp X mi_P 3 m_Mo_findCertain (118, [some (.ref 71), some (.int (nI (cn (cG v u A) 256))), z2, z3, z4], [], w1) Q) : ∀ (L P : List (Nat → Nat)) (w : mi_H) (a1 : mo_a) (z3 z4 : Option Value), P ++ L = A → (∀ m ∈ L, ∀ u, u < 4 → m u < 24) → (∀ m r, L = m :: r → mR F R.2.1 4 m = r) → MoL w0 w a a1 (ls.length, lt.length, n, ak, dr, s) → (∀ m r, L = m :: r → ∀ u, u < 4 → a1 86 u = nI (m u)) → (∀ c, c < 256 → a1 93 c = jb (cG v u P c = true)) → mi_wp X mi_P 3 m_Mo_findCertain (32, [some (.ref 71), some (.int (nI (cn (cG v u P) 256))), some (.int (jb (L.isEmpty = false))), z3, z4], [], w) Q
  | [], P, w, a1, z3, z4, hA, hL, ht, HG, hv, hc => by
    rw [List.append_nil] at hA
    subst hA
    refine mi_s1 (fun _ => rfl) ?_; refine mi_s1 (fun _ => rfl) ?_
    refine mi_wif (fun _ => ?_) (fun z => absurd rfl z)
    exact kk w a1 _ _ _ HG hc
  | m :: r, P, w, a1, z3, z4, hA, hL, ht, HG, hv, hc => by
    obtain ⟨HM, ha, hG⟩ := id HG
    have hm : ∀ u, u < 4 → a1 86 u = nI (m u) ∧ m u < 24 := fun u hu => ⟨hv m r rfl u hu, hL m List.mem_cons_self u hu⟩
    obtain ⟨-, -, -, -, -, -, -, -, r9, r10, r11, -⟩ := id (HR.cL ha)
    obtain ⟨hv4, hu4⟩ := r11 v u hp
    have e84 : a1 84 6 = nI v := by rw [r9, hp]; rfl
    have e85 : a1 85 6 = nI u := by rw [r10, hp]; rfl
    have mv24 := (hm v hv4).2
    have mu24 := (hm u hu4).2
    -- behind the setting
    have nxt : ∀ (w2 : mi_H) (a2 : mo_a) (z3 z4 : Option Value), MoL w0 w2 a a2 (ls.length, lt.length, n, ak, dr, s) → (∀ u, u < 4 → a2 86 u = nI (m u) ∧ m u < 24) → (∀ c, c < 256 → a2 93 c = jb (cG v u (P ++ [m]) c = true)) → mi_wp X mi_P 3 m_Mo_findCertain (107, [some (.ref 71), some (.int (nI (cn (cG v u (P ++ [m])) 256))), some (.int (jb ((m :: r).isEmpty = false))), z3, z4], [], w2) Q := by
      intro w2 a2 z3 z4 H2 hm2 hc2
      obtain ⟨HM2, ha2, hG2⟩ := id H2
      obtain ⟨t3, w3, he3, b3, ⟨HM3, hb3, hG3⟩, rfl, hv3⟩ := mv_next0 (X := X) HM2 (HF.cL ha2) (d := 6) (by omega) (HR.cL ha2) hm2
      rw [ht m r rfl] at he3 hv3
      refine mi_s1 (fun _ => rfl) ?_; refine mi_s1 (fun _ => rfl) ?_; refine mi_s1 (fun _ => rfl) ?_
      refine mi_wcv rfl rfl (Nat.le_of_ble_eq_true rfl) HM2.1 rfl (he3) ?_
      refine mi_s1 (fun _ => rfl) ?_; refine mi_s1 (fun _ => rfl) ?_
      refine mv_fc_in HF HR hp kk r (P ++ [m]) w3 b3 _ _ (by rw [← hA, List.append_assoc]; rfl) (fun m' hm' => hL m' (List.mem_cons_of_mem _ hm')) (fun m2 r2 h2 => ?_) ⟨HM3, fun o ho => by rw [hb3 o (by omega)]; exact ha2 o ho, hG2.tr hG3⟩ hv3 (fun c h => by rw [hb3 93 (by decide)]; exact hc2 c h)
      exact mR_rem 4 m m2 r2 (by omega) (by rw [ht m r rfl]; exact h2)
    have same : (∀ c, c < 256 → cG v u (P ++ [m]) c = cG v u P c) → ∀ z3 z4, mi_wp X mi_P 3 m_Mo_findCertain (107, [some (.ref 71), some (.int (nI (cn (cG v u P) 256))), some (.int (jb ((m :: r).isEmpty = false))), z3, z4], [], w) Q := by
      intro e z3 z4
      have := nxt w a1 z3 z4 HG hm (fun c h => by rw [e c h]; exact hc c h)
      rw [cn_congr 256 e] at this
      exact this
    refine mi_s1 (fun _ => rfl) ?_; refine mi_s1 (fun _ => rfl) ?_
    refine mi_wif (fun z => absurd rfl (jb_0.mp z)) (fun _ => ?_)
    repeat (first | refine mi_s1 (fun _ => rfl) ?_ | refine mi_wgf rfl HM.1 rfl ?_ | refine mi_wal rfl (HM.2.1 _ _ rfl) rfl (by omega) (by decide) ?_ | refine mi_wbl rfl (HM.2.2 _ _ rfl) rfl (by omega) (by decide) ?_)
    rw [e84]
    repeat (first | refine mi_s1 (fun _ => rfl) ?_ | refine mi_wgf rfl HM.1 rfl ?_ | refine mi_wal rfl (HM.2.1 _ _ rfl) rfl (by omega) (by decide) ?_ | refine mi_wbl rfl (HM.2.2 _ _ rfl) rfl (by omega) (by decide) ?_)
    rw [e85]
    repeat (first | refine mi_s1 (fun _ => rfl) ?_ | refine mi_wgf rfl HM.1 rfl ?_ | refine mi_wal rfl (HM.2.1 _ _ rfl) rfl (by omega) (by decide) ?_ | refine mi_wbl rfl (HM.2.2 _ _ rfl) rfl (by omega) (by decide) ?_)
    rw [(hm v hv4).1, (hm u hu4).1]
    refine mi_wif (fun z1 => ?_) (fun z1 => ?_)
    · have z1 := (nI_leI (by omega) (by omega)).mp z1
      refine same (fun c _ => ?_) _ _
      rw [cG_app, decide_eq_false (by omega : ¬ m v < 16)]
      simp
    · have z1 : m v < 16 := by
        rcases Nat.lt_or_ge (m v) 16 with q | q
        · exact q
        · exact absurd (nI_le q (by omega)) z1
      refine mi_s1 (fun _ => rfl) ?_; refine mi_s1 (fun _ => rfl) ?_; refine mi_s1 (fun _ => rfl) ?_
      refine mi_wif (fun z2 => ?_) (fun z2 => ?_)
      · have z2 := (nI_leI (by omega) (by omega)).mp z2
        refine same (fun c _ => ?_) _ _
        rw [cG_app, decide_eq_false (by omega : ¬ m u < 16)]
        simp
      · have z2 : m u < 16 := by
          rcases Nat.lt_or_ge (m u) 16 with q | q
          · exact q
          · exact absurd (nI_le q (by omega)) z2
        repeat (first | refine mi_s1 (fun _ => rfl) ?_ | refine mi_wgf rfl HM.1 rfl ?_ | refine mi_wal rfl (HM.2.1 _ _ rfl) rfl (by omega) (by decide) ?_ | refine mi_wbl rfl (HM.2.2 _ _ rfl) rfl (by omega) (by decide) ?_)
        rw [pk_mul, nI_add]
        repeat (first | refine mi_s1 (fun _ => rfl) ?_ | refine mi_wgf rfl HM.1 rfl ?_ | refine mi_wal rfl (HM.2.1 _ _ rfl) rfl (by omega) (by decide) ?_ | refine mi_wbl rfl (HM.2.2 _ _ rfl) rfl (by omega) (by decide) ?_)
        rw [hc (16 * m v + m u) (by omega)]
        refine mi_wif (fun z3 => ?_) (fun z3 => ?_)
        · have z3 : cG v u P (16 * m v + m u) = false := by simpa using jb_0.mp z3
          repeat (first | refine mi_s1 (fun _ => rfl) ?_ | refine mi_wgf rfl HM.1 rfl ?_ | refine mi_wal rfl (HM.2.1 _ _ rfl) rfl (by omega) (by decide) ?_ | refine mi_wbl rfl (HM.2.2 _ _ rfl) rfl (by omega) (by decide) ?_)
          rw [pk_mul, nI_add]
          refine HM.wbs rfl rfl rfl (by omega) (fun w HM hF => ?_)
          have hG := hG.tr hF
          refine mi_s1 (fun _ => rfl) ?_
          rw [nI_add]
          have ecn : cn (cG v u P) 256 + 1 = cn (cG v u (P ++ [m])) 256 := by
            refine (cn_one (k := 16 * m v + m u) (fun i hi => ?_) z3 ?_ 256 (by omega)).symm
            · rw [cG_app, decide_eq_false (fun q : 16 * m v + m u = i => hi q.symm)]
              simp
            · rw [cG_app, decide_eq_true z1, decide_eq_true z2, decide_eq_true rfl]
              simp
          rw [ecn]
          refine nxt w _ _ _ ⟨HM, fun o ho => by rw [upA_o (by omega)]; exact ha o ho, hG⟩ (fun u hu => by rw [upA_o (by decide)]; exact hm u hu) (fun c h => ?_)
          rw [upA_s, cG_app]
          by_cases z : c = 16 * m v + m u
          · rw [z, pk_us, decide_eq_true z1, decide_eq_true z2, decide_eq_true rfl]
            simp
            rfl
          · rw [pk_un z, hc c h, decide_eq_false (fun q : 16 * m v + m u = c => z q.symm)]
            simp
        · have z3 := Decidable.not_not.mp (fun q => z3 (jb_0.mpr q))
          refine same (fun c _ => ?_) _ _
          rw [cG_app]
          by_cases z : 16 * m v + m u = c
          · rw [← z, z3]
            rfl
          · rw [decide_eq_false z]
            simp
theorem mv_findCertain (HM : Mo w a (ls.length, lt.length, n, ak, dr, s)) (HF : Fm a ls lt F) (HR : Rm a 6 R) {v u : Nat} (hp : R.2.2.2 = some (v, u)) : mi_Ex X 4 k_Mo_findCertain [.ref 71] w (fun q w1 => q = some (.int (nI (cn (cG v u (mM F R.2.1 4 (fun _ => 0))) 256))) ∧ ∃ b, MoL w w1 a b (ls.length, lt.length, n, ak, dr, s) ∧ ∀ c, c < 256 → b 93 c = jb (cG v u (mM F R.2.1 4 (fun _ => 0)) c = true)) := by
  refine mi_Ex.of (M := m_Mo_findCertain) rfl (Nat.le_of_ble_eq_true rfl) ?_
  refine mi_s1 (fun _ => rfl) ?_; refine mi_s1 (fun _ => rfl) ?_
  refine mv_fc_clear (w0 := w) (a := a) (fun w1 a1 z1 H1 hz => ?_) 256 0 w a rfl ⟨HM, fun _ _ => rfl, mi_Fg.rf⟩ (fun c hc => absurd hc (Nat.not_lt_zero c))
  obtain ⟨HM1, ha1, hG1⟩ := id H1
  obtain ⟨t2, w2, he2, b2, ⟨HM2, hb2, hG2⟩, rfl, hv2⟩ := mv_next1 (X := X) HM1 (HF.cL ha1) (d := 6) (by omega) (HR.cL ha1) (fun _ => 0)
  refine mi_s1 (fun _ => rfl) ?_; refine mi_s1 (fun _ => rfl) ?_; refine mi_s1 (fun _ => rfl) ?_; refine mi_s1 (fun _ => rfl) ?_; refine mi_s1 (fun _ => rfl) ?_
  refine mi_wcv rfl rfl (Nat.le_of_ble_eq_true rfl) HM1.1 rfl (he2) ?_
  refine mi_s1 (fun _ => rfl) ?_
  have e0 : cn (cG v u []) 256 = 0 := cn_zero 256 (fun _ _ => rfl)
  have e := mv_fc_in (X := X) (w0 := w) (a := a) (n := n) (s := s) (ak := ak) (dr := dr) HF HR hp (A := mM F R.2.1 4 (fun _ => 0)) (Q := fun q w1 => q = some (.int (nI (cn (cG v u (mM F R.2.1 4 (fun _ => 0))) 256))) ∧ ∃ b, MoL w w1 a b (ls.length, lt.length, n, ak, dr, s) ∧ ∀ c, c < 256 → b 93 c = jb (cG v u (mM F R.2.1 4 (fun _ => 0)) c = true)) (fun w3 a3 z2 z3 z4 H3 h3 => by
    refine mi_s1 (fun _ => rfl) ?_
    refine mi_r1 (fun _ => rfl) ?_
    exact ⟨rfl, a3, H3, h3⟩) (mM F R.2.1 4 (fun _ => 0)) [] w2 b2 none none rfl (fun m hm u hu => mM_lt (by omega) hm u (by omega) hu) (fun m r h => by
    have := mM_rem 4 (fun _ => 0) m r (by omega) h
    rw [this, show mR F R.2.1 (4 - 4) (fun _ => 0) = [] from rfl, List.append_nil]) ⟨HM2, fun o ho => by rw [hb2 o (by omega)]; exact ha1 o ho, hG1.tr hG2⟩ hv2 (fun c hc => by rw [hb2 93 (by decide), hz c hc]; rfl)
  rw [e0] at e
  exact e
theorem mv_ans {w0 : mi_H} (hw : wfS S) (HF : Fm a ls lt S.F) (H6 : S.hq = true → Rm a 6 (S.R 6)) (hq : S.hq = true) (HM : Mo w a (ls.length, lt.length, S.n, S.hq, S.hd, S.s)) (hG : mi_Fg w0 w 71 94) : ∃ G : Nat → Bool, (∀ x i, x < 16 → i < 16 → G (16 * x + i) = ctn S x i) ∧ mi_Ex X 4 k_Mo_findCertain [.ref 71] w (fun q w1 => q = some (.int (nI (cn G 256))) ∧ ∃ b, MoL w0 w1 a b (ls.length, lt.length, S.n, S.hq, S.hd, S.s) ∧ ∀ c, c < 256 → b 93 c = jb (G c = true)) := by
  obtain ⟨v, u, hp, i1, i2⟩ := hw.q hq
  have HR := H6 hq
  obtain ⟨hv4, hu4⟩ := HR.2.2.2.2.2.2.2.2.2.2.1 v u hp
  refine ⟨cG v u (mM S.F (S.R 6).2.1 4 (fun _ => 0)), fun x i hx hi => cG_ctn hp HF.b24 HR.okB2 i1 i2 hv4 hu4 hx hi, ?_⟩
  obtain ⟨t1, w1, he, rfl, b, ⟨h1, h2, h3⟩, h4⟩ := mv_findCertain (X := X) HM HF HR hp
  exact ⟨_, w1, he, rfl, b, ⟨h1, h2, hG.tr h3⟩, h4⟩
theorem cn_ctn {G : Nat → Bool} (h : ∀ x i, x < 16 → i < 16 → G (16 * x + i) = ctn S x i) : cn G 256 = sm (fun a => cn (ctn S a) 24) 16 := by
  have e1 : cn G 256 = cn (fun c => ctn S (c / 16) (c % 16)) (16 * 16) := cn_congr 256 (fun c hc => by
    rw [← h (c / 16) (c % 16) (by omega) (by omega)]
    congr 1
    omega)
  rw [e1, sm_cn (g := ctn S) (fun a i hi => by rw [show (16 * a + i) / 16 = a by omega, show (16 * a + i) % 16 = i by omega]) 16]
  exact sm_congr 16 (fun a _ => (cn16 (fun i hi => ctn_16 hi)).symm)
theorem mv_answers (H : Md w S) (hw : wfS S) : mi_Ex X 5 k_Mo_answers [.ref 71] w (fun q w1 => q = some (.int (op_answers S)) ∧ Md w1 S ∧ mi_Fg w w1 71 94) := by
  obtain ⟨a, ls, lt, HM, HF, HR, H6, H7, hn, hs⟩ := id H
  have bad : ¬ (S.s = 2 ∧ S.hq = true) → mi_wp X mi_P 4 m_Mo_answers (22, [some (.ref 71)], [], w) (fun q w1 => q = some (.int (op_answers S)) ∧ Md w1 S ∧ mi_Fg w w1 71 94) := by
    intro h
    have e : op_answers S = -3 := if_neg h
    rw [e]
    refine mi_s1 (fun _ => rfl) ?_
    refine mi_r1 (fun _ => rfl) ?_
    exact ⟨rfl, H, mi_Fg.rf⟩
  refine mi_Ex.of (M := m_Mo_answers) rfl (Nat.le_of_ble_eq_true rfl) ?_
  repeat (first | refine mi_s1 (fun _ => rfl) ?_ | refine mi_wgf rfl HM.1 rfl ?_ | refine mi_wal rfl (HM.2.1 _ _ rfl) rfl (by omega) (by decide) ?_ | refine mi_wbl rfl (HM.2.2 _ _ rfl) rfl (by omega) (by decide) ?_)
  refine mi_wif (fun z => ?_) (fun z => ?_)
  · have z : S.s = 2 := (nI_eq (a := S.s) (by omega) (by decide)).mp z
    repeat (first | refine mi_s1 (fun _ => rfl) ?_ | refine mi_wgf rfl HM.1 rfl ?_ | refine mi_wal rfl (HM.2.1 _ _ rfl) rfl (by omega) (by decide) ?_ | refine mi_wbl rfl (HM.2.2 _ _ rfl) rfl (by omega) (by decide) ?_)
    refine mi_wif (fun z2 => ?_) (fun z2 => ?_)
    · exact bad (fun q => jb_0.mp z2 q.2)
    · have z2 := Decidable.not_not.mp (fun q => z2 (jb_0.mpr q))
      obtain ⟨G, hGc, t1, w1, he, rfl, b, ⟨HM1, hb, hG1⟩, -⟩ := mv_ans (X := X) (w0 := w) hw HF H6 z2 HM mi_Fg.rf
      have e : op_answers S = nI (cn G 256) := by
        unfold op_answers
        rw [if_pos ⟨z, z2⟩, cn_ctn hGc]
      rw [e]
      refine mi_s1 (fun _ => rfl) ?_
      refine mi_wcv rfl rfl (Nat.le_of_ble_eq_true rfl) HM.1 rfl (he) ?_
      refine mi_s1 (fun _ => rfl) ?_
      refine mi_r1 (fun _ => rfl) ?_
      exact ⟨rfl, Md.scr (w := w) HM1 HF HR H6 H7 hn hs hb, hG1⟩
  · exact bad (fun q => z (show nI S.s = nI 2 by rw [q.1]))
theorem mv_answer_loop {G : Nat → Bool} (HM : Mo w a T) (hG : ∀ c, c < 256 → a 93 c = jb (G c = true)) {z1 : Option Value} : ∀ f c k, c + f = 256 → k < 2 ^ 31 → mi_wp X mi_P 4 m_Mo_answer (34, [some (.ref 71), z1, some (.int (nI k)), some (.int (nI c))], [], w) (fun q w1 => q = some (.int (kcR (kc G f c k))) ∧ w1 = w)
  | 0, c, k, hc, hk => by
    have hc : c = 256 := by omega
    subst hc
    refine mi_s1 (fun _ => rfl) ?_; refine mi_s1 (fun _ => rfl) ?_; refine mi_s1 (fun _ => rfl) ?_
    refine mi_wif (fun _ => ?_) (fun q => absurd (by decide) q)
    refine mi_s1 (fun _ => rfl) ?_
    refine mi_r1 (fun _ => rfl) ?_
    exact ⟨rfl, rfl⟩
  | f + 1, c, k, hc, hk => by
    refine mi_s1 (fun _ => rfl) ?_; refine mi_s1 (fun _ => rfl) ?_; refine mi_s1 (fun _ => rfl) ?_
    refine mi_wif (fun z => absurd z (nI_ge (a := c) (b := 256) (by omega) (by omega))) (fun _ => ?_)
    rw [kc_s]
    repeat (first | refine mi_s1 (fun _ => rfl) ?_ | refine mi_wgf rfl HM.1 rfl ?_ | refine mi_wal rfl (HM.2.1 _ _ rfl) rfl (by omega) (by decide) ?_ | refine mi_wbl rfl (HM.2.2 _ _ rfl) rfl (by omega) (by decide) ?_)
    rw [hG c (by omega)]
    refine mi_wif (fun z => ?_) (fun z => ?_)
    · rw [if_neg (jb_0.mp z)]
      refine mi_s1 (fun _ => rfl) ?_; refine mi_s1 (fun _ => rfl) ?_
      rw [show nI c + nI 1 = nI (c + 1) from nI_1 c]
      exact mv_answer_loop HM hG f (c + 1) k (by omega) hk
    · rw [if_pos (Decidable.not_not.mp (fun q => z (jb_0.mpr q)))]
      refine mi_s1 (fun _ => rfl) ?_; refine mi_s1 (fun _ => rfl) ?_
      refine mi_wif (fun z2 => ?_) (fun z2 => ?_)
      · rw [if_pos ((nI_z hk).mp z2)]
        refine mi_s1 (fun _ => rfl) ?_
        refine mi_r1 (fun _ => rfl) ?_
        exact ⟨rfl, rfl⟩
      · have z2 : k ≠ 0 := fun q => z2 (by rw [q]; rfl)
        rw [if_neg z2]
        refine mi_s1 (fun _ => rfl) ?_; refine mi_s1 (fun _ => rfl) ?_; refine mi_s1 (fun _ => rfl) ?_
        rw [show nI c + nI 1 = nI (c + 1) from nI_1 c, sb_m1 (by omega)]
        exact mv_answer_loop HM hG f (c + 1) (k - 1) (by omega) (by omega)
theorem mv_answer (H : Md w S) (hw : wfS S) (k : Int32) : mi_Ex X 5 k_Mo_answer [.ref 71, .int k] w (fun q w1 => q = some (.int (op_answer S k)) ∧ Md w1 S ∧ mi_Fg w w1 71 94) := by
  obtain ⟨a, ls, lt, HM, HF, HR, H6, H7, hn, hs⟩ := id H
  have bad : ∀ w1, op_answer S k = -3 → Md w1 S → mi_Fg w w1 71 94 → mi_wp X mi_P 4 m_Mo_answer (27, [some (.ref 71), some (.int k), none, none], [], w1) (fun q w1 => q = some (.int (op_answer S k)) ∧ Md w1 S ∧ mi_Fg w w1 71 94) := by
    intro w1 e H1 h1
    rw [e]
    refine mi_s1 (fun _ => rfl) ?_
    refine mi_r1 (fun _ => rfl) ?_
    exact ⟨rfl, H1, h1⟩
  refine mi_Ex.of (M := m_Mo_answer) rfl (Nat.le_of_ble_eq_true rfl) ?_
  repeat (first | refine mi_s1 (fun _ => rfl) ?_ | refine mi_wgf rfl HM.1 rfl ?_ | refine mi_wal rfl (HM.2.1 _ _ rfl) rfl (by omega) (by decide) ?_ | refine mi_wbl rfl (HM.2.2 _ _ rfl) rfl (by omega) (by decide) ?_)
  refine mi_wif (fun z => ?_) (fun z => ?_)
  · have z : S.s = 2 := (nI_eq (a := S.s) (by omega) (by decide)).mp z
    repeat (first | refine mi_s1 (fun _ => rfl) ?_ | refine mi_wgf rfl HM.1 rfl ?_ | refine mi_wal rfl (HM.2.1 _ _ rfl) rfl (by omega) (by decide) ?_ | refine mi_wbl rfl (HM.2.2 _ _ rfl) rfl (by omega) (by decide) ?_)
    refine mi_wif (fun z2 => ?_) (fun z2 => ?_)
    · exact bad w (if_neg (fun q => jb_0.mp z2 q.2.1)) H mi_Fg.rf
    · have z2 := Decidable.not_not.mp (fun q => z2 (jb_0.mpr q))
      refine mi_s1 (fun _ => rfl) ?_; refine mi_s1 (fun _ => rfl) ?_
      refine mi_wif (fun z3 => ?_) (fun z3 => ?_)
      · exact bad w (if_neg (fun q => absurd z3 (by simpa using q.2.2))) H mi_Fg.rf
      · obtain ⟨kn, hkn, rfl⟩ := nI_of z3
        obtain ⟨G, hGc, t1, w1, he, rfl, b, ⟨HM1, hb, hG1⟩, hb93⟩ := mv_ans (X := X) (w0 := w) hw HF H6 z2 HM mi_Fg.rf
        have hcl := cn_le G 256
        have H1 : Md w1 S := Md.scr (w := w) HM1 HF HR H6 H7 hn hs hb
        have ek : op_answer S (nI kn) = kcR (kc G 256 0 kn) := by
          unfold op_answer
          rw [if_pos ⟨z, z2, nI_pos' hkn⟩, nI_clamp hkn]
          have e1 := kq_kc (g := ctn S) (G := fun c => ctn S (c / 16) (c % 16)) (fun a i hi => by
            show ctn S ((16 * a + i) / 16) ((16 * a + i) % 16) = _
            rw [show (16 * a + i) / 16 = a by omega, show (16 * a + i) % 16 = i by omega]) (fun a i hi => ctn_16 hi) 16 0 kn
          rw [e1]
          congr 1
          have key : ∀ f c k, c + f ≤ 256 → kc (fun c => ctn S (c / 16) (c % 16)) f c k = kc G f c k := by
            intro f
            induction f with
            | zero => intro c k _; rfl
            | succ f ih =>
              intro c k hc
              rw [kc_s, kc_s]
              have : G c = ctn S (c / 16) (c % 16) := by
                rw [← hGc (c / 16) (c % 16) (by omega) (by omega)]
                congr 1
                omega
              rw [this, ih (c + 1) (k - 1) (by omega), ih (c + 1) k (by omega)]
          exact key 256 0 kn (by omega)
        refine mi_s1 (fun _ => rfl) ?_; refine mi_s1 (fun _ => rfl) ?_
        refine mi_wcv rfl rfl (Nat.le_of_ble_eq_true rfl) HM.1 rfl (he) ?_
        refine mi_s1 (fun _ => rfl) ?_
        refine mi_wif (fun z4 => ?_) (fun z4 => ?_)
        · have z4 := (nI_ltI hkn (by omega)).mp z4
          rw [ek]
          refine mi_s1 (fun _ => rfl) ?_; refine mi_s1 (fun _ => rfl) ?_; refine mi_s1 (fun _ => rfl) ?_; refine mi_s1 (fun _ => rfl) ?_
          refine (mv_answer_loop HM1 hb93 256 0 kn rfl hkn).imp (fun q w2 h => ?_)
          obtain ⟨h1, rfl⟩ := h
          exact ⟨h1, H1, hG1⟩
        · have z4 : ¬ kn < cn G 256 := fun q => z4 (nI_lt q (by omega))
          refine bad w1 ?_ H1 hG1
          rw [ek, kc_none 256 0 kn (by rw [show (fun i => G (0 + i)) = G from funext (fun i => by rw [Nat.zero_add])]; omega)]
          rfl
  · exact bad w (if_neg (fun q => z (show nI S.s = nI 2 by rw [q.1]))) H mi_Fg.rf
end MCertain
