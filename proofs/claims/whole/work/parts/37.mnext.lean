/-! the model: the next match -/
theorem okP_cons {F : Nat → Nat → Nat → Bool} {t : sp_A} {l : List sp_A} {v : Nat} {m : Nat → Nat} : okP F (t :: l) v m = ((decide (v < t.2.1) || decide (v < t.2.2) || F t.1 (m t.2.1) (m t.2.2)) && okP F l v m) := by
  unfold okP
  rw [List.all_cons]
/-- what stands in the cell before the value x is tried -/
def nx : Nat → Int32
  | 0 => -1
  | x + 1 => nI x
theorem nx_1 : ∀ x, nx x + nI 1 = nI x
  | 0 => by decide
  | x + 1 => nI_1 x
def Vl (e : Nat → Int32) (m : Nat → Nat) (v x : Nat) : Prop := (∀ u, u < v → e u = nI (m u)) ∧ e v = nx x ∧ ∀ u, v < u → u < 4 → e u = -1
theorem mxv_t {bo : List sp_A} {v : Nat} (h : inB bo v = true) : mxv bo v = 23 := if_pos h
theorem mxv_f {bo : List sp_A} {v : Nat} (h : inB bo v = false) : mxv bo v = 0 := if_neg (by rw [h]; decide)
section MNext
variable {X : mi_X} {w : mi_H} {a : mo_a} {ls lt : List sp_A} {F : Nat → Nat → Nat → Bool} {n s : Nat} {ak dr : Bool} {d : Nat} {R : sp_R}
theorem mv_holds_loop (HM : Mo w a (ls.length, lt.length, n, ak, dr, s)) (HF : Fm a ls lt F) (hd : d < 8) (HR : Rm a d R) {v : Nat} {m : Nat → Nat} (hv : v < 4) (hm : ∀ u, u ≤ v → a 86 u = nI (m u) ∧ m u < 2 ^ 31) : ∀ f i (z4 z5 : Option Value), i + f = R.2.1.length → mi_wp X mi_P 1 m_Mo_holds (4, [some (.ref 71), some (.int (nI d)), some (.int (nI v)), some (.int (nI (3 * d + i))), z4, z5], [], w) (fun r w1 => r = some (.int (jb (okP F (R.2.1.drop i) v m = true))) ∧ w1 = w)
  | 0, i, z4, z5, hi => by
    obtain ⟨-, -, r3, r4, -⟩ := id HR
    repeat (first | refine mi_s1 (fun _ => rfl) ?_ | refine mi_wgf rfl HM.1 rfl ?_ | refine mi_wal rfl (HM.2.1 _ _ rfl) rfl (by omega) (by decide) ?_ | refine mi_wbl rfl (HM.2.2 _ _ rfl) rfl (by omega) (by decide) ?_)
    rw [r3, pk_mul, nI_add]
    refine mi_wif (fun _ => ?_) (fun z => absurd (nI_le (a := 3 * d + R.2.1.length) (b := 3 * d + i) (by omega) (by omega)) z)
    repeat (first | refine mi_s1 (fun _ => rfl) ?_ | refine mi_wgf rfl (by assumption) rfl ?_ | refine mi_wal rfl (by assumption) rfl (by omega) (by decide) ?_)
    refine mi_wrz rfl rfl rfl ?_
    refine jb_t ?_
    rw [show i = R.2.1.length by omega, List.drop_length]
    rfl
  | f + 1, i, z4, z5, hi => by
    obtain ⟨-, -, r3, r4, -, -, r7, -⟩ := id HR
    obtain ⟨t, ht, hd'⟩ := drop_at (l := R.2.1) (i := i) (by omega)
    obtain ⟨e1, e2, e3, hok⟩ := r7 i t ht
    have o1 := hok.1
    have o2 := hok.2.1
    have o3 := hok.2.2
    rw [hd']
    have go : (decide (v < t.2.1) || decide (v < t.2.2) || F t.1 (m t.2.1) (m t.2.2)) = true → ∀ z4 z5, mi_wp X mi_P 1 m_Mo_holds (75, [some (.ref 71), some (.int (nI d)), some (.int (nI v)), some (.int (nI (3 * d + i))), z4, z5], [], w) (fun r w1 => r = some (.int (jb (okP F (t :: R.2.1.drop (i + 1)) v m = true))) ∧ w1 = w) := by
      intro h z4 z5
      rw [okP_cons, h, Bool.true_and]
      refine mi_s1 (fun _ => rfl) ?_; refine mi_s1 (fun _ => rfl) ?_
      rw [show nI (3 * d + i) + nI 1 = nI (3 * d + (i + 1)) from nI_1 (3 * d + i)]
      exact mv_holds_loop HM HF hd HR hv hm f (i + 1) z4 z5 (by omega)
    repeat (first | refine mi_s1 (fun _ => rfl) ?_ | refine mi_wgf rfl HM.1 rfl ?_ | refine mi_wal rfl (HM.2.1 _ _ rfl) rfl (by omega) (by decide) ?_ | refine mi_wbl rfl (HM.2.2 _ _ rfl) rfl (by omega) (by decide) ?_)
    rw [r3, pk_mul, nI_add]
    refine mi_wif (fun z => absurd z (nI_ge (a := 3 * d + i) (b := 3 * d + R.2.1.length) (by omega) (by omega))) (fun _ => ?_)
    repeat (first | refine mi_s1 (fun _ => rfl) ?_ | refine mi_wgf rfl HM.1 rfl ?_ | refine mi_wal rfl (HM.2.1 _ _ rfl) rfl (by omega) (by decide) ?_ | refine mi_wbl rfl (HM.2.2 _ _ rfl) rfl (by omega) (by decide) ?_)
    rw [e2, e3]
    refine mi_wif (fun z1 => ?_) (fun z1 => ?_)
    · have z1 := (nI_ltI (by omega) (by omega)).mp z1
      refine go ?_ _ _
      rw [decide_eq_true z1]
      rfl
    · have z1 : ¬ v < t.2.1 := fun q => z1 (nI_lt q (by omega))
      repeat (first | refine mi_s1 (fun _ => rfl) ?_ | refine mi_wgf rfl (by assumption) rfl ?_ | refine mi_wal rfl (by assumption) rfl (by omega) (by decide) ?_)
      refine mi_wif (fun z2 => ?_) (fun z2 => ?_)
      · have z2 := (nI_ltI (by omega) (by omega)).mp z2
        refine go ?_ _ _
        rw [decide_eq_true z2, Bool.or_true]
        rfl
      · have z2 : ¬ v < t.2.2 := fun q => z2 (nI_lt q (by omega))
        repeat (first | refine mi_s1 (fun _ => rfl) ?_ | refine mi_wgf rfl HM.1 rfl ?_ | refine mi_wal rfl (HM.2.1 _ _ rfl) rfl (by omega) (by decide) ?_ | refine mi_wbl rfl (HM.2.2 _ _ rfl) rfl (by omega) (by decide) ?_)
        rw [e1, (hm t.2.1 (by omega)).1, (hm t.2.2 (by omega)).1]
        have hpl := HF.pl (r := t.1) (x := m t.2.1) (y := m t.2.2) (by omega)
        refine mi_wcv rfl rfl (Nat.le_of_ble_eq_true rfl) HM.1 rfl (mv_place HM HF (by omega) (hm t.2.1 (by omega)).2 (hm t.2.2 (by omega)).2) ?_
        repeat (first | refine mi_s1 (fun _ => rfl) ?_ | refine mi_wgf rfl (by assumption) rfl ?_ | refine mi_wal rfl (by assumption) rfl (by omega) (by decide) ?_)
        cases q : F t.1 (m t.2.1) (m t.2.2) with
        | false =>
          rw [hpl.mpr q]
          refine mi_wif (fun q => absurd q (by decide)) (fun _ => ?_)
          repeat (first | refine mi_s1 (fun _ => rfl) ?_ | refine mi_wgf rfl (by assumption) rfl ?_ | refine mi_wal rfl (by assumption) rfl (by omega) (by decide) ?_)
          refine mi_wrz rfl rfl rfl ?_
          refine jb_f ?_
          rw [okP_cons, q, decide_eq_false z1, decide_eq_false z2]
          simp
        | true =>
          have hne : plc ls lt (t.1, m t.2.1, m t.2.2) ≠ none := fun e => by
            rw [hpl.mp e] at q
            cases q
          cases e : plc ls lt (t.1, m t.2.1, m t.2.2) with
          | none => exact absurd e hne
          | some j =>
            have hj := plc_lt HF.2.2.1 HF.2.2.2.1 j e
            refine mi_wif (fun _ => ?_) (fun z => absurd (nI_pos' (n := j) (by omega)) z)
            exact go (by rw [q, Bool.or_true]) _ _
theorem mv_holds (HM : Mo w a (ls.length, lt.length, n, ak, dr, s)) (HF : Fm a ls lt F) (hd : d < 8) (HR : Rm a d R) {v : Nat} {m : Nat → Nat} (hv : v < 4) (hm : ∀ u, u ≤ v → a 86 u = nI (m u) ∧ m u < 2 ^ 31) : mi_Ev X mi_P 2 k_Mo_holds [.ref 71, .int (nI d), .int (nI v)] w (some (.int (jb (okP F R.2.1 v m = true)))) w := by
  refine mi_Ev.of (M := m_Mo_holds) rfl (Nat.le_of_ble_eq_true rfl) ?_
  refine mi_s1 (fun _ => rfl) ?_; refine mi_s1 (fun _ => rfl) ?_; refine mi_s1 (fun _ => rfl) ?_; refine mi_s1 (fun _ => rfl) ?_
  rw [pk_mul]
  exact mv_holds_loop HM HF hd HR hv hm R.2.1.length 0 _ _ (by omega)
theorem Fm.c86 {b : mo_a} (HF : Fm a ls lt F) (h : ∀ o, o ≠ 86 → b o = a o) : Fm b ls lt F := HF.congr (fun o h1 h2 => h o (by omega))
theorem Rm.c86 {b : mo_a} (HR : Rm a d R) (h : ∀ o, o ≠ 86 → b o = a o) : Rm b d R := HR.congr (fun o h1 h2 => h o (by omega))
/-- the values alone have changed -/
def MoV (w0 w : mi_H) (a a1 : mo_a) (T : mo_T) : Prop := Mo w a1 T ∧ (∀ o, o ≠ 86 → a1 o = a o) ∧ mi_Fg w0 w 71 94
theorem mv_next_lev {w0 : mi_H} (HF : Fm a ls lt F) (hd : d < 8) (HR : Rm a d R) {fr : Option Value} {Q : Option Value → mi_H → Prop} {v : Nat} (hv : v < 4)
    (dn : ∀ (m : Nat → Nat) (w : mi_H) (a1 : mo_a) (z4 : Option Value), (∀ u, u < v + 1 → m u < 24) → MoV w0 w a a1 (ls.length, lt.length, n, ak, dr, s) → (∀ u, u < v + 1 → a1 86 u = nI (m u)) → (∀ u, v + 1 ≤ u → u < 4 → a1 86 u = -1) →
      (∀ (w1 : mi_H) (a2 : mo_a) (z4 : Option Value) m' r, mM F R.2.1 (3 - v) m = m' :: r → MoV w0 w1 a a2 (ls.length, lt.length, n, ak, dr, s) → (∀ u, u < 4 → a2 86 u = nI (m' u)) → mi_wp X mi_P 2 m_Mo_next (117, [some (.ref 71), some (.int (nI d)), fr, some (.int (nI 4)), z4], [], w1) Q) →
      (∀ (w1 : mi_H) (a2 : mo_a) (z4 : Option Value), mM F R.2.1 (3 - v) m = [] → MoV w0 w1 a a2 (ls.length, lt.length, n, ak, dr, s) → (∀ u, u < v + 1 → a2 86 u = nI (m u)) → (∀ u, v + 1 ≤ u → u < 4 → a2 86 u = -1) → mi_wp X mi_P 2 m_Mo_next (37, [some (.ref 71), some (.int (nI d)), fr, some (.int (nI v)), z4], [], w1) Q) →
      mi_wp X mi_P 2 m_Mo_next (37, [some (.ref 71), some (.int (nI d)), fr, some (.int (nI (v + 1))), z4], [], w) Q) :
    ∀ f x (m : Nat → Nat) (w : mi_H) (a1 : mo_a) (z4 : Option Value), mxv R.2.1 v + 1 - x = f → (∀ u, u < v → m u < 24) → x < 25 → MoV w0 w a a1 (ls.length, lt.length, n, ak, dr, s) → Vl (a1 86) m v x →
      (∀ (w1 : mi_H) (a2 : mo_a) (z4 : Option Value) m' r, mT F R.2.1 v m x = m' :: r → MoV w0 w1 a a2 (ls.length, lt.length, n, ak, dr, s) → (∀ u, u < 4 → a2 86 u = nI (m' u)) → mi_wp X mi_P 2 m_Mo_next (117, [some (.ref 71), some (.int (nI d)), fr, some (.int (nI 4)), z4], [], w1) Q) →
      (∀ (w1 : mi_H) (a2 : mo_a) (z4 : Option Value), mT F R.2.1 v m x = [] → MoV w0 w1 a a2 (ls.length, lt.length, n, ak, dr, s) → (∀ u, u < v → a2 86 u = nI (m u)) → (∀ u, v ≤ u → u < 4 → a2 86 u = -1) → mi_wp X mi_P 2 m_Mo_next (37, [some (.ref 71), some (.int (nI d)), fr, some (.int (nI v + -1)), z4], [], w1) Q) →
      mi_wp X mi_P 2 m_Mo_next (37, [some (.ref 71), some (.int (nI d)), fr, some (.int (nI v)), z4], [], w) Q := by
  intro f
  induction f with
  | zero =>
    intro x m w a1 z4 hx hm h25 HV hV k1 k2
    obtain ⟨HM, ha, hG⟩ := HV
    have hxm : mxv R.2.1 v < x := by omega
    repeat (first | refine mi_s1 (fun _ => rfl) ?_ | refine mi_wgf rfl (by assumption) rfl ?_ | refine mi_wal rfl (by assumption) rfl (by omega) (by decide) ?_)
    refine mi_wif (fun z => absurd z (nI_pos (by omega))) (fun _ => ?_)
    repeat (first | refine mi_s1 (fun _ => rfl) ?_ | refine mi_wgf rfl (by assumption) rfl ?_ | refine mi_wal rfl (by assumption) rfl (by omega) (by decide) ?_)
    refine mi_wif (fun z => absurd z (nI_ge (a := v) (b := 4) (by omega) (by omega))) (fun _ => ?_)
    repeat (first | refine mi_s1 (fun _ => rfl) ?_ | refine mi_wgf rfl HM.1 rfl ?_ | refine mi_wal rfl (HM.2.1 _ _ rfl) rfl (by omega) (by decide) ?_ | refine mi_wbl rfl (HM.2.2 _ _ rfl) rfl (by omega) (by decide) ?_)
    rw [hV.2.1, nx_1]
    refine HM.was rfl rfl rfl (by omega) (fun w HM hF => ?_)
    have hG := hG.tr hF
    have ha2 : ∀ o, o ≠ 86 → upA a1 86 v (nI x) o = a o := fun o ho => by
      rw [upA_o ho]
      exact ha o ho
    repeat (first | refine mi_s1 (fun _ => rfl) ?_ | refine mi_wgf rfl (by assumption) rfl ?_ | refine mi_wal rfl (by assumption) rfl (by omega) (by decide) ?_)
    refine mi_wcv rfl rfl (Nat.le_of_ble_eq_true rfl) HM.1 rfl ((mv_inBody HM hd (HR.c86 ha2) (by omega)).up (by decide)) ?_
    repeat (first | refine mi_s1 (fun _ => rfl) ?_ | refine mi_wgf rfl (by assumption) rfl ?_ | refine mi_wal rfl (by assumption) rfl (by omega) (by decide) ?_)
    have fin : ∀ z4, z4 = mxv R.2.1 v → mi_wp X mi_P 2 m_Mo_next (73, [some (.ref 71), some (.int (nI d)), fr, some (.int (nI v)), some (.int (nI z4))], [], w) Q := by
      intro z4 hz
      subst hz
      repeat (first | refine mi_s1 (fun _ => rfl) ?_ | refine mi_wgf rfl HM.1 rfl ?_ | refine mi_wal rfl (HM.2.1 _ _ rfl) rfl (by omega) (by decide) ?_ | refine mi_wbl rfl (HM.2.2 _ _ rfl) rfl (by omega) (by decide) ?_)
      rw [upA_s, pk_us]
      refine mi_wif (fun z => absurd ((nI_leI (by omega) (by omega)).mp z) (by omega)) (fun _ => ?_)
      repeat (first | refine mi_s1 (fun _ => rfl) ?_ | refine mi_wgf rfl HM.1 rfl ?_ | refine mi_wal rfl (HM.2.1 _ _ rfl) rfl (by omega) (by decide) ?_ | refine mi_wbl rfl (HM.2.2 _ _ rfl) rfl (by omega) (by decide) ?_)
      refine HM.was rfl rfl rfl (by omega) (fun w HM hF => ?_)
      have hG := hG.tr hF
      refine mi_s1 (fun _ => rfl) ?_; refine mi_s1 (fun _ => rfl) ?_; refine mi_s1 (fun _ => rfl) ?_
      refine k2 _ _ _ (mT_e hxm) ⟨HM, fun o ho => ?_, hG⟩ (fun u hu => ?_) (fun u h1 h2 => ?_)
      · rw [upA_o ho]
        exact ha2 o ho
      · rw [upA_s, pk_un (by omega), upA_s, pk_un (by omega)]
        exact hV.1 u hu
      · rw [upA_s]
        by_cases e : u = v
        · rw [e, pk_us]
        · rw [pk_un e, upA_s, pk_un e]
          exact hV.2.2 u (by omega) h2
    refine mi_wif (fun z => ?_) (fun z => ?_)
    · have z : inB R.2.1 v = false := by simpa using jb_0.mp z
      refine mi_s1 (fun _ => rfl) ?_; refine mi_s1 (fun _ => rfl) ?_
      exact fin 0 (mxv_f z).symm
    · have z := Decidable.not_not.mp (fun q => z (jb_0.mpr q))
      refine mi_s1 (fun _ => rfl) ?_; refine mi_s1 (fun _ => rfl) ?_; refine mi_s1 (fun _ => rfl) ?_
      exact fin 23 (mxv_t z).symm
  | succ f ih =>
    intro x m w a1 z4 hx hm h25 HV hV k1 k2
    obtain ⟨HM, ha, hG⟩ := HV
    have hxm : x ≤ mxv R.2.1 v := by omega
    have hmx : mxv R.2.1 v ≤ 23 := by
      unfold mxv
      split <;> omega
    repeat (first | refine mi_s1 (fun _ => rfl) ?_ | refine mi_wgf rfl (by assumption) rfl ?_ | refine mi_wal rfl (by assumption) rfl (by omega) (by decide) ?_)
    refine mi_wif (fun z => absurd z (nI_pos (by omega))) (fun _ => ?_)
    repeat (first | refine mi_s1 (fun _ => rfl) ?_ | refine mi_wgf rfl (by assumption) rfl ?_ | refine mi_wal rfl (by assumption) rfl (by omega) (by decide) ?_)
    refine mi_wif (fun z => absurd z (nI_ge (a := v) (b := 4) (by omega) (by omega))) (fun _ => ?_)
    repeat (first | refine mi_s1 (fun _ => rfl) ?_ | refine mi_wgf rfl HM.1 rfl ?_ | refine mi_wal rfl (HM.2.1 _ _ rfl) rfl (by omega) (by decide) ?_ | refine mi_wbl rfl (HM.2.2 _ _ rfl) rfl (by omega) (by decide) ?_)
    rw [hV.2.1, nx_1]
    refine HM.was rfl rfl rfl (by omega) (fun w HM hF => ?_)
    have hG := hG.tr hF
    have ha2 : ∀ o, o ≠ 86 → upA a1 86 v (nI x) o = a o := fun o ho => by
      rw [upA_o ho]
      exact ha o ho
    have hval : ∀ u, u < v + 1 → upA a1 86 v (nI x) 86 u = nI (upN m v x u) := fun u hu => by
      rw [upA_s]
      by_cases e : u = v
      · rw [e, pk_us, upN_v]
      · rw [pk_un e, upN_o e]
        exact hV.1 u (by omega)
    have hval1 : ∀ u, v + 1 ≤ u → u < 4 → upA a1 86 v (nI x) 86 u = -1 := fun u h1 h2 => by
      rw [upA_s, pk_un (by omega)]
      exact hV.2.2 u (by omega) h2
    have hup : ∀ u, u < v + 1 → upN m v x u < 24 := fun u hu => by
      by_cases e : u = v
      · rw [e, upN_v]
        omega
      · rw [upN_o e]
        exact hm u (by omega)
    repeat (first | refine mi_s1 (fun _ => rfl) ?_ | refine mi_wgf rfl (by assumption) rfl ?_ | refine mi_wal rfl (by assumption) rfl (by omega) (by decide) ?_)
    refine mi_wcv rfl rfl (Nat.le_of_ble_eq_true rfl) HM.1 rfl ((mv_inBody HM hd (HR.c86 ha2) (by omega)).up (by decide)) ?_
    repeat (first | refine mi_s1 (fun _ => rfl) ?_ | refine mi_wgf rfl (by assumption) rfl ?_ | refine mi_wal rfl (by assumption) rfl (by omega) (by decide) ?_)
    have es := mT_s (F := F) (bo := R.2.1) (v := v) (m := m) hxm
    have up : ∀ (w1 : mi_H) (a2 : mo_a) (z4 : Option Value), MoV w0 w1 a a2 (ls.length, lt.length, n, ak, dr, s) → (∀ u, u < v + 1 → a2 86 u = nI (upN m v x u)) → (∀ u, v + 1 ≤ u → u < 4 → a2 86 u = -1) → mT F R.2.1 v m x = mT F R.2.1 v m (x + 1) → mi_wp X mi_P 2 m_Mo_next (37, [some (.ref 71), some (.int (nI d)), fr, some (.int (nI v)), z4], [], w1) Q := by
      intro w1 a2 z4 H2 h1 h2 e
      refine ih (x + 1) m w1 a2 z4 (by omega) hm (by omega) H2 ⟨fun u hu => ?_, ?_, fun u h3 h4 => h2 u (by omega) h4⟩ (fun w1 a2 z4 m' r h => k1 w1 a2 z4 m' r (by rw [e]; exact h)) (fun w1 a2 z4 h => k2 w1 a2 z4 (by rw [e]; exact h))
      · rw [h1 u (by omega), upN_o (by omega)]
      · rw [h1 v (by omega), upN_v]
        rfl
    have adv : okQ F R.2.1 v (upN m v x) = true → ∀ z4, mi_wp X mi_P 2 m_Mo_next (111, [some (.ref 71), some (.int (nI d)), fr, some (.int (nI v)), z4], [], w) Q := by
      intro ok z4
      rw [if_pos ok] at es
      refine mi_s1 (fun _ => rfl) ?_; refine mi_s1 (fun _ => rfl) ?_
      rw [show nI v + nI 1 = nI (v + 1) from nI_1 v]
      refine dn (upN m v x) w _ z4 hup ⟨HM, ha2, hG⟩ hval hval1 (fun w1 a2 z4 m' r h => k1 w1 a2 z4 m' (r ++ mT F R.2.1 v m (x + 1)) (by rw [es, h, List.cons_append])) (fun w1 a2 z4 h H2 h1 h2 => ?_)
      rw [h, List.nil_append] at es
      exact up w1 a2 z4 H2 h1 h2 es
    have fin : ∀ z4, z4 = mxv R.2.1 v → mi_wp X mi_P 2 m_Mo_next (73, [some (.ref 71), some (.int (nI d)), fr, some (.int (nI v)), some (.int (nI z4))], [], w) Q := by
      intro z4 hz
      subst hz
      repeat (first | refine mi_s1 (fun _ => rfl) ?_ | refine mi_wgf rfl HM.1 rfl ?_ | refine mi_wal rfl (HM.2.1 _ _ rfl) rfl (by omega) (by decide) ?_ | refine mi_wbl rfl (HM.2.2 _ _ rfl) rfl (by omega) (by decide) ?_)
      rw [upA_s, pk_us]
      refine mi_wif (fun _ => ?_) (fun z => absurd (nI_le hxm (by omega)) z)
      repeat (first | refine mi_s1 (fun _ => rfl) ?_ | refine mi_wgf rfl (by assumption) rfl ?_ | refine mi_wal rfl (by assumption) rfl (by omega) (by decide) ?_)
      refine mi_wif (fun z => ?_) (fun z => ?_)
      · have z := (nI_z (by omega)).mp z
        refine adv ?_ _
        unfold okQ
        cases q : inB R.2.1 v with
        | false => rfl
        | true =>
          rw [mxv_t q] at z
          cases z
      · have hin : inB R.2.1 v = true := by
          cases q : inB R.2.1 v with
          | true => rfl
          | false =>
            rw [mxv_f q] at z
            exact absurd rfl z
        have eq : okQ F R.2.1 v (upN m v x) = okP F R.2.1 v (upN m v x) := by
          unfold okQ
          rw [hin]
          rfl
        repeat (first | refine mi_s1 (fun _ => rfl) ?_ | refine mi_wgf rfl (by assumption) rfl ?_ | refine mi_wal rfl (by assumption) rfl (by omega) (by decide) ?_)
        refine mi_wcv rfl rfl (Nat.le_of_ble_eq_true rfl) HM.1 rfl (mv_holds HM (HF.c86 ha2) hd (HR.c86 ha2) hv (m := upN m v x) (fun u hu => ⟨hval u (by omega), by have := hup u (by omega); omega⟩)) ?_
        repeat (first | refine mi_s1 (fun _ => rfl) ?_ | refine mi_wgf rfl (by assumption) rfl ?_ | refine mi_wal rfl (by assumption) rfl (by omega) (by decide) ?_)
        refine mi_wif (fun z2 => ?_) (fun z2 => ?_)
        · have z2 := jb_0.mp z2
          rw [if_neg (by rw [eq]; exact z2), List.nil_append] at es
          refine mi_s1 (fun _ => rfl) ?_
          exact up w _ _ ⟨HM, ha2, hG⟩ hval hval1 es
        · have z2 := Decidable.not_not.mp (fun q => z2 (jb_0.mpr q))
          exact adv (by rw [eq]; exact z2) _
    refine mi_wif (fun z => ?_) (fun z => ?_)
    · have z : inB R.2.1 v = false := by simpa using jb_0.mp z
      refine mi_s1 (fun _ => rfl) ?_; refine mi_s1 (fun _ => rfl) ?_
      exact fin 0 (mxv_f z).symm
    · have z := Decidable.not_not.mp (fun q => z (jb_0.mpr q))
      refine mi_s1 (fun _ => rfl) ?_; refine mi_s1 (fun _ => rfl) ?_; refine mi_s1 (fun _ => rfl) ?_
      exact fin 23 (mxv_t z).symm
theorem mv_next_level {w0 : mi_H} (HF : Fm a ls lt F) (hd : d < 8) (HR : Rm a d R) {fr : Option Value} {Q : Option Value → mi_H → Prop} : ∀ k v, v + k = 3 → ∀ x (m : Nat → Nat) (w : mi_H) (a1 : mo_a) (z4 : Option Value), (∀ u, u < v → m u < 24) → x < 25 → MoV w0 w a a1 (ls.length, lt.length, n, ak, dr, s) → Vl (a1 86) m v x →
      (∀ (w1 : mi_H) (a2 : mo_a) (z4 : Option Value) m' r, mT F R.2.1 v m x = m' :: r → MoV w0 w1 a a2 (ls.length, lt.length, n, ak, dr, s) → (∀ u, u < 4 → a2 86 u = nI (m' u)) → mi_wp X mi_P 2 m_Mo_next (117, [some (.ref 71), some (.int (nI d)), fr, some (.int (nI 4)), z4], [], w1) Q) →
      (∀ (w1 : mi_H) (a2 : mo_a) (z4 : Option Value), mT F R.2.1 v m x = [] → MoV w0 w1 a a2 (ls.length, lt.length, n, ak, dr, s) → (∀ u, u < v → a2 86 u = nI (m u)) → (∀ u, v ≤ u → u < 4 → a2 86 u = -1) → mi_wp X mi_P 2 m_Mo_next (37, [some (.ref 71), some (.int (nI d)), fr, some (.int (nI v + -1)), z4], [], w1) Q) →
      mi_wp X mi_P 2 m_Mo_next (37, [some (.ref 71), some (.int (nI d)), fr, some (.int (nI v)), z4], [], w) Q
  | 0, v, hv, x, m, w, a1, z4, hm, h25, HV, hV, k1, k2 => by
    refine mv_next_lev HF hd HR (by omega) (fun m w a1 z4 hm HV h1 h2 k1 k2 => ?_) _ x m w a1 z4 rfl hm h25 HV hV k1 k2
    have hv3 : v = 3 := by omega
    subst hv3
    refine mi_s1 (fun _ => rfl) ?_; refine mi_s1 (fun _ => rfl) ?_
    refine mi_wif (fun z => absurd z (by decide)) (fun _ => ?_)
    refine mi_s1 (fun _ => rfl) ?_; refine mi_s1 (fun _ => rfl) ?_; refine mi_s1 (fun _ => rfl) ?_
    refine mi_wif (fun _ => ?_) (fun z => absurd (by decide) z)
    exact k1 w a1 _ m [] rfl HV h1
  | k + 1, v, hv, x, m, w, a1, z4, hm, h25, HV, hV, k1, k2 => by
    refine mv_next_lev HF hd HR (by omega) (fun m w a1 z4 hm HV h1 h2 k1 k2 => ?_) _ x m w a1 z4 rfl hm h25 HV hV k1 k2
    have e : mM F R.2.1 (3 - v) m = mT F R.2.1 (v + 1) m 0 := by
      rw [show 3 - v = k + 1 by omega, mM_T (by omega), show 3 - k = v + 1 by omega]
    refine mv_next_level HF hd HR k (v + 1) (by omega) 0 m w a1 z4 hm (by omega) HV ⟨h1, h2 (v + 1) (by omega) (by omega), fun u h3 h4 => h2 u (by omega) h4⟩ (fun w1 a2 z4 m' r h => k1 w1 a2 z4 m' r (by rw [e]; exact h)) (fun w1 a2 z4 h H2 h3 h4 => ?_)
    rw [show nI (v + 1) + -1 = nI v from sb_m1 (by omega)]
    exact k2 w1 a2 z4 (by rw [e]; exact h) H2 h3 h4
/-- how next ends -/
def NxQ (w0 : mi_H) (a : mo_a) (T : mo_T) (L : List (Nat → Nat)) : Option Value → mi_H → Prop := fun q w1 => ∃ b, MoV w0 w1 a b T ∧ q = some (.int (jb (L.isEmpty = false))) ∧ ∀ m' r, L = m' :: r → ∀ u, u < 4 → b 86 u = nI (m' u)
theorem mv_next_run {w0 : mi_H} (HF : Fm a ls lt F) (hd : d < 8) (HR : Rm a d R) {fr : Option Value} : ∀ v, v < 4 → ∀ x (m : Nat → Nat) (w : mi_H) (a1 : mo_a) (z4 : Option Value), (∀ u, u < v → m u < 24) → x < 25 → MoV w0 w a a1 (ls.length, lt.length, n, ak, dr, s) → Vl (a1 86) m v x → mi_wp X mi_P 2 m_Mo_next (37, [some (.ref 71), some (.int (nI d)), fr, some (.int (nI v)), z4], [], w) (NxQ w0 a (ls.length, lt.length, n, ak, dr, s) (mT F R.2.1 v m x ++ mR F R.2.1 v m))
  | v, hv, x, m, w, a1, z4, hm, h25, HV, hV => by
    refine mv_next_level HF hd HR (3 - v) v (by omega) x m w a1 z4 hm h25 HV hV (fun w1 a2 z4 m' r h H2 hv2 => ?_) (fun w1 a2 z4 h H2 h1 h2 => ?_)
    · rw [h, List.cons_append]
      refine mi_s1 (fun _ => rfl) ?_; refine mi_s1 (fun _ => rfl) ?_; refine mi_s1 (fun _ => rfl) ?_
      refine mi_wif (fun _ => ?_) (fun z => absurd rfl z)
      refine mi_s1 (fun _ => rfl) ?_; refine mi_s1 (fun _ => rfl) ?_
      refine mi_wrz rfl rfl rfl ?_
      exact ⟨a2, H2, rfl, fun m2 r2 e => by injection e with e1 e2; rw [← e1]; exact hv2⟩
    · rw [h, List.nil_append]
      cases v with
      | zero =>
        refine mi_s1 (fun _ => rfl) ?_; refine mi_s1 (fun _ => rfl) ?_
        refine mi_wif (fun _ => ?_) (fun z => absurd (by decide) z)
        refine mi_s1 (fun _ => rfl) ?_; refine mi_s1 (fun _ => rfl) ?_; refine mi_s1 (fun _ => rfl) ?_
        refine mi_wif (fun z => absurd z (by decide)) (fun _ => ?_)
        refine mi_s1 (fun _ => rfl) ?_
        refine mi_wrz rfl rfl rfl ?_
        exact ⟨a2, H2, rfl, fun m2 r2 e => by cases e⟩
      | succ v =>
        rw [show nI (v + 1) + -1 = nI v from sb_m1 (by omega), mR_s]
        exact mv_next_run HF hd HR v (by omega) (m v + 1) m w1 a2 z4 (fun u hu => hm u (by omega)) (by have := hm v (by omega); omega) H2 ⟨fun u hu => h1 u (by omega), h1 v (by omega), fun u h3 h4 => h2 u (by omega) h4⟩
theorem mv_next_clear {w0 : mi_H} {z1 z3 : Option Value} {T : mo_T} {Q : Option Value → mi_H → Prop} (kk : ∀ (w1 : mi_H) (a1 : mo_a) (z4 : Option Value), MoV w0 w1 a a1 T → (∀ u, u < 4 → a1 86 u = -1) → mi_wp X mi_P 2 m_Mo_next (37, [some (.ref 71), z1, some (.int 1), z3, z4], [], w1) Q) : ∀ f m (w : mi_H) (a1 : mo_a), m + f = 4 → MoV w0 w a a1 T → (∀ u, u < m → a1 86 u = -1) → mi_wp X mi_P 2 m_Mo_next (13, [some (.ref 71), z1, some (.int 1), z3, some (.int (nI m))], [], w) Q
  | 0, m, w, a1, hm, HV, hz => by
    have hm : m = 4 := by omega
    subst hm
    refine mi_s1 (fun _ => rfl) ?_; refine mi_s1 (fun _ => rfl) ?_; refine mi_s1 (fun _ => rfl) ?_
    refine mi_wif (fun _ => ?_) (fun q => absurd (by decide) q)
    exact kk w a1 _ HV hz
  | f + 1, m, w, a1, hm, HV, hz => by
    obtain ⟨HM, ha, hG⟩ := HV
    refine mi_s1 (fun _ => rfl) ?_; refine mi_s1 (fun _ => rfl) ?_; refine mi_s1 (fun _ => rfl) ?_
    refine mi_wif (fun z => absurd z (nI_ge (a := m) (b := 4) (by omega) (by omega))) (fun _ => ?_)
    refine mi_s1 (fun _ => rfl) ?_; refine mi_s1 (fun _ => rfl) ?_
    refine mi_wif (fun z => absurd z (by decide)) (fun _ => ?_)
    repeat (first | refine mi_s1 (fun _ => rfl) ?_ | refine mi_wgf rfl HM.1 rfl ?_ | refine mi_wal rfl (HM.2.1 _ _ rfl) rfl (by omega) (by decide) ?_ | refine mi_wbl rfl (HM.2.2 _ _ rfl) rfl (by omega) (by decide) ?_)
    refine HM.was rfl rfl rfl (by omega) (fun w HM hF => ?_)
    have hG := hG.tr hF
    refine mi_s1 (fun _ => rfl) ?_; refine mi_s1 (fun _ => rfl) ?_
    rw [show nI m + nI 1 = nI (m + 1) from nI_1 m]
    refine mv_next_clear kk f (m + 1) w _ (by omega) ⟨HM, fun o ho => ?_, hG⟩ (fun u hu => ?_)
    · rw [upA_o ho]
      exact ha o ho
    · rw [upA_s]
      by_cases z : u = m
      · rw [z, pk_us]
      · rw [pk_un z]
        exact hz u (by omega)
theorem mv_next1 (HM : Mo w a (ls.length, lt.length, n, ak, dr, s)) (HF : Fm a ls lt F) (hd : d < 8) (HR : Rm a d R) (m : Nat → Nat) : mi_Ex X 3 k_Mo_next [.ref 71, .int (nI d), .int (nI 1)] w (NxQ w a (ls.length, lt.length, n, ak, dr, s) (mM F R.2.1 4 m)) := by
  refine mi_Ex.of (M := m_Mo_next) rfl (Nat.le_of_ble_eq_true rfl) ?_
  refine mi_s1 (fun _ => rfl) ?_; refine mi_s1 (fun _ => rfl) ?_
  refine mi_wif (fun z => absurd z (by decide)) (fun _ => ?_)
  refine mi_s1 (fun _ => rfl) ?_; refine mi_s1 (fun _ => rfl) ?_; refine mi_s1 (fun _ => rfl) ?_; refine mi_s1 (fun _ => rfl) ?_; refine mi_s1 (fun _ => rfl) ?_
  refine mv_next_clear (a := a) (fun w1 a1 z4 H1 h1 => ?_) 4 0 w a rfl ⟨HM, fun _ _ => rfl, mi_Fg.rf⟩ (fun u hu => absurd hu (Nat.not_lt_zero u))
  have e := mv_next_run (X := X) HF hd HR (fr := some (.int 1)) 0 (by omega) 0 m w1 a1 z4 (fun u hu => absurd hu (Nat.not_lt_zero u)) (by omega) H1 ⟨fun u hu => absurd hu (Nat.not_lt_zero u), h1 0 (by omega), fun u _ hu => h1 u hu⟩
  rw [show mR F R.2.1 0 m = [] from rfl, List.append_nil, show mT F R.2.1 0 m 0 = mM F R.2.1 4 m from (mM_T (n := 3) (by omega) m).symm] at e
  exact e
theorem mv_next0 (HM : Mo w a (ls.length, lt.length, n, ak, dr, s)) (HF : Fm a ls lt F) (hd : d < 8) (HR : Rm a d R) {m : Nat → Nat} (hm : ∀ u, u < 4 → a 86 u = nI (m u) ∧ m u < 24) : mi_Ex X 3 k_Mo_next [.ref 71, .int (nI d), .int (nI 0)] w (NxQ w a (ls.length, lt.length, n, ak, dr, s) (mR F R.2.1 4 m)) := by
  refine mi_Ex.of (M := m_Mo_next) rfl (Nat.le_of_ble_eq_true rfl) ?_
  refine mi_s1 (fun _ => rfl) ?_; refine mi_s1 (fun _ => rfl) ?_
  refine mi_wif (fun _ => ?_) (fun z => absurd rfl z)
  refine mi_s1 (fun _ => rfl) ?_; refine mi_s1 (fun _ => rfl) ?_; refine mi_s1 (fun _ => rfl) ?_; refine mi_s1 (fun _ => rfl) ?_; refine mi_s1 (fun _ => rfl) ?_; refine mi_s1 (fun _ => rfl) ?_; refine mi_s1 (fun _ => rfl) ?_
  refine mi_wif (fun z => absurd z (by decide)) (fun _ => ?_)
  refine mi_s1 (fun _ => rfl) ?_; refine mi_s1 (fun _ => rfl) ?_
  refine mi_wif (fun _ => ?_) (fun z => absurd rfl z)
  rw [mR_s]
  exact mv_next_run HF hd HR 3 (by omega) (m 3 + 1) m w a _ (fun u hu => (hm u (by omega)).2) (by have := (hm 3 (by omega)).2; omega) ⟨HM, fun _ _ => rfl, mi_Fg.rf⟩ ⟨fun u hu => (hm u (by omega)).1, (hm 3 (by omega)).1, fun u h1 h2 => absurd h1 (by omega)⟩
end MNext
