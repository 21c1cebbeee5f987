/-! the model: fold -/
theorem tol_congr {lt : List sp_A} {mp mp' : Nat → Nat} {v : Nat} (h : ∀ u, u < v → mp u = mp' u) (u : Nat) : tol lt mp v u = tol lt mp' v u := by
  unfold tol
  by_cases z : u < v
  · rw [h u z]
  · rw [if_neg z, if_neg z]
theorem tol_ne {lt : List sp_A} {mp : Nat → Nat} {v u : Nat} (h : u ≠ v) : tol lt mp (v + 1) u = tol lt mp v u := by
  unfold tol
  by_cases z : u < v
  · rw [if_pos z, if_pos (show u < v + 1 by omega)]
  · rw [if_neg z, if_neg (show ¬ u < v + 1 by omega)]
theorem tol_up {lt : List sp_A} {mp : Nat → Nat} {v x u : Nat} (h16 : 16 ≤ v) (hi : inB lt v = true) : tol lt (updN mp v x) (v + 1) u = if u = v then some x else tol lt mp v u := by
  by_cases z : u = v
  · subst z
    unfold tol
    rw [if_pos rfl, if_neg (by omega), if_pos (by omega), if_pos hi]
    unfold updN
    rw [if_pos rfl]
  · rw [if_neg z, tol_ne z]
    exact tol_congr (fun y hy => if_neg (by omega)) u
/-- what holds of the map below v -/
def IV (F : Nat → Nat → Nat → Bool) (lt : List sp_A) (mp : Nat → Nat) (v : Nat) : Prop := (∀ u, u < 16 → mp u = u) ∧ (∀ u, u < v → inB lt u = true → inB lt (mp u) = true) ∧ Kp F lt mp v
theorem IV.congr {F : Nat → Nat → Nat → Bool} {lt : List sp_A} {mp mp' : Nat → Nat} {v : Nat} (H : IV F lt mp v) (h16 : 16 ≤ v) (h : ∀ u, u < v → mp' u = mp u) : IV F lt mp' v := by
  refine ⟨fun u hu => by rw [h u (by omega)]; exact H.1 u hu, fun u hu hi => by rw [h u hu]; exact H.2.1 u hu hi, fun q hq h1 h2 => ?_⟩
  rw [h _ h1, h _ h2]
  exact H.2.2 q hq h1 h2
section MFold
variable {X : mi_X} {w : mi_H} {a : mo_a} {T : mo_T} {ls lt : List sp_A} {F : Nat → Nat → Nat → Bool} {n s : Nat} {ak dr : Bool} {S : sp_S}
theorem Fm.o24 (HF : Fm a ls lt F) {u : Nat} (h : inB lt u = true) : u < 24 := by
  obtain ⟨q, hq, e⟩ := inB_iff.mp h
  have ho := HF.2.2.2.2.2.1 q hq
  unfold okT at ho
  omega
theorem mv_keeps_loop (HM : Mo w a (ls.length, lt.length, n, ak, dr, s)) (HF : Fm a ls lt F) {V : sp_V} (hV : ∀ u, u < 24 → a 91 u = enc (V u) ∧ ∀ x, V u = some x → x < 24) : ∀ f i (z2 z3 : Option Value), i + f = lt.length → mi_wp X mi_P 1 m_Mo_keeps (3, [some (.ref 71), some (.int (nI (12 + i))), z2, z3], [], w) (fun q w1 => q = some (.int (jb (kf F V (lt.drop i) = true))) ∧ w1 = w)
  | 0, i, z2, z3, hi => by
    have h4 := HF.2.2.2.1
    repeat (first | refine mi_s1 (fun _ => rfl) ?_ | refine mi_wgf rfl HM.1 rfl ?_ | refine mi_wal rfl (HM.2.1 _ _ rfl) rfl (by omega) (by decide) ?_ | refine mi_wbl rfl (HM.2.2 _ _ rfl) rfl (by omega) (by decide) ?_)
    rw [nI_add]
    refine mi_wif (fun _ => ?_) (fun z => absurd (nI_le (a := 12 + lt.length) (b := 12 + i) (by omega) (by omega)) z)
    refine mi_s1 (fun _ => rfl) ?_
    refine mi_wrz rfl rfl rfl ?_
    refine jb_t ?_
    rw [show i = lt.length by omega, List.drop_length]
    rfl
  | f + 1, i, z2, z3, hi => by
    have h4 := HF.2.2.2.1
    obtain ⟨t, ht, hd'⟩ := drop_at (l := lt) (i := i) (by omega)
    obtain ⟨e1, e2, e3⟩ := HF.2.1 i t ht
    have hb := HF.2.2.2.2.2.1 t (List.mem_of_getElem? ht)
    unfold okT at hb
    obtain ⟨v1, v2⟩ := hV t.2.1 (by omega)
    obtain ⟨v3, v4⟩ := hV t.2.2 (by omega)
    rw [hd']
    have go : kfA F V t = true → ∀ z2 z3, mi_wp X mi_P 1 m_Mo_keeps (63, [some (.ref 71), some (.int (nI (12 + i))), z2, z3], [], w) (fun q w1 => q = some (.int (jb (kf F V (t :: lt.drop (i + 1)) = true))) ∧ w1 = w) := by
      intro h z2 z3
      have e : kf F V (t :: lt.drop (i + 1)) = kf F V (lt.drop (i + 1)) := by
        unfold kf
        rw [List.all_cons, h, Bool.true_and]
      rw [e]
      refine mi_s1 (fun _ => rfl) ?_; refine mi_s1 (fun _ => rfl) ?_
      rw [show nI (12 + i) + nI 1 = nI (12 + (i + 1)) from nI_1 (12 + i)]
      exact mv_keeps_loop HM HF hV f (i + 1) z2 z3 (by omega)
    repeat (first | refine mi_s1 (fun _ => rfl) ?_ | refine mi_wgf rfl HM.1 rfl ?_ | refine mi_wal rfl (HM.2.1 _ _ rfl) rfl (by omega) (by decide) ?_ | refine mi_wbl rfl (HM.2.2 _ _ rfl) rfl (by omega) (by decide) ?_)
    rw [nI_add]
    refine mi_wif (fun z => absurd z (nI_ge (a := 12 + i) (b := 12 + lt.length) (by omega) (by omega))) (fun _ => ?_)
    repeat (first | refine mi_s1 (fun _ => rfl) ?_ | refine mi_wgf rfl HM.1 rfl ?_ | refine mi_wal rfl (HM.2.1 _ _ rfl) rfl (by omega) (by decide) ?_ | refine mi_wbl rfl (HM.2.2 _ _ rfl) rfl (by omega) (by decide) ?_)
    rw [e2]
    repeat (first | refine mi_s1 (fun _ => rfl) ?_ | refine mi_wgf rfl HM.1 rfl ?_ | refine mi_wal rfl (HM.2.1 _ _ rfl) rfl (by omega) (by decide) ?_ | refine mi_wbl rfl (HM.2.2 _ _ rfl) rfl (by omega) (by decide) ?_)
    rw [e3]
    repeat (first | refine mi_s1 (fun _ => rfl) ?_ | refine mi_wgf rfl HM.1 rfl ?_ | refine mi_wal rfl (HM.2.1 _ _ rfl) rfl (by omega) (by decide) ?_ | refine mi_wbl rfl (HM.2.2 _ _ rfl) rfl (by omega) (by decide) ?_)
    rw [v1, v3]
    cases o1 : V t.2.1 with
    | none =>
      refine mi_wif (fun _ => ?_) (fun z => absurd (by decide) z)
      exact go (by unfold kfA; rw [o1]) _ _
    | some x =>
      have hx := v2 x o1
      refine mi_wif (fun z => absurd z (nI_pos (n := x) (by omega))) (fun _ => ?_)
      refine mi_s1 (fun _ => rfl) ?_; refine mi_s1 (fun _ => rfl) ?_
      cases o2 : V t.2.2 with
      | none =>
        refine mi_wif (fun _ => ?_) (fun z => absurd (by decide) z)
        exact go (by unfold kfA; rw [o1, o2]) _ _
      | some y =>
        have hy := v4 y o2
        refine mi_wif (fun z => absurd z (nI_pos (n := y) (by omega))) (fun _ => ?_)
        have ek : kfA F V t = F t.1 x y := by
          unfold kfA
          rw [o1, o2]
        repeat (first | refine mi_s1 (fun _ => rfl) ?_ | refine mi_wgf rfl HM.1 rfl ?_ | refine mi_wal rfl (HM.2.1 _ _ rfl) rfl (by omega) (by decide) ?_ | refine mi_wbl rfl (HM.2.2 _ _ rfl) rfl (by omega) (by decide) ?_)
        rw [e1]
        have hpl := HF.pl (r := t.1) (x := x) (y := y) (by omega)
        refine mi_wcv rfl rfl (Nat.le_of_ble_eq_true rfl) HM.1 rfl (mv_place HM HF (x := x) (y := y) (by omega) (by omega) (by omega)) ?_
        refine mi_s1 (fun _ => rfl) ?_
        cases q : F t.1 x y with
        | false =>
          rw [hpl.mpr q]
          refine mi_wif (fun z => absurd z (by decide)) (fun _ => ?_)
          refine mi_s1 (fun _ => rfl) ?_
          refine mi_wrz rfl rfl rfl ?_
          refine jb_f ?_
          unfold kf
          rw [List.all_cons, ek, q]
          simp
        | true =>
          cases e : plc ls lt (t.1, x, y) with
          | none =>
            rw [hpl.mp e] at q
            cases q
          | some j =>
            have hj := plc_lt HF.2.2.1 HF.2.2.2.1 j e
            refine mi_wif (fun _ => ?_) (fun z => absurd (nI_pos' (n := j) (by omega)) z)
            exact go (by rw [ek]; exact q) _ _
theorem mv_keeps (HM : Mo w a (ls.length, lt.length, n, ak, dr, s)) (HF : Fm a ls lt F) {V : sp_V} (hV : ∀ u, u < 24 → a 91 u = enc (V u) ∧ ∀ x, V u = some x → x < 24) : mi_Ev X mi_P 2 k_Mo_keeps [.ref 71] w (some (.int (jb (kf F V lt = true)))) w := by
  refine mi_Ev.of (M := m_Mo_keeps) rfl (Nat.le_of_ble_eq_true rfl) ?_
  refine mi_s1 (fun _ => rfl) ?_; refine mi_s1 (fun _ => rfl) ?_
  exact mv_keeps_loop HM HF hV lt.length 0 _ _ (by omega)
theorem mv_lo_clear {w0 : mi_H} {z2 : Option Value} {Q : Option Value → mi_H → Prop} (kk : ∀ (w1 : mi_H) (a1 : mo_a) (z1 : Option Value), Mo w1 a1 T → (∀ o, o ≠ 92 → a1 o = a o) → (∀ k, k < 24 → a1 92 (12 + k) = 0) → mi_Fg w0 w1 71 94 → mi_wp X mi_P 1 m_Mo_leavesOut (22, [some (.ref 71), z1, z2], [], w1) Q) : ∀ f i (w : mi_H) (a1 : mo_a), i + f = 24 → Mo w a1 T → (∀ o, o ≠ 92 → a1 o = a o) → (∀ k, k < i → a1 92 (12 + k) = 0) → mi_Fg w0 w 71 94 → mi_wp X mi_P 1 m_Mo_leavesOut (3, [some (.ref 71), some (.int (nI (12 + i))), z2], [], w) Q
  | 0, i, w, a1, hi, HM, ha, hz, hG => by
    have hi : i = 24 := by omega
    subst hi
    refine mi_s1 (fun _ => rfl) ?_; refine mi_s1 (fun _ => rfl) ?_; refine mi_s1 (fun _ => rfl) ?_
    refine mi_wif (fun _ => ?_) (fun q => absurd (by decide) q)
    exact kk w a1 _ HM ha hz hG
  | f + 1, i, w, a1, hi, HM, ha, hz, hG => by
    refine mi_s1 (fun _ => rfl) ?_; refine mi_s1 (fun _ => rfl) ?_; refine mi_s1 (fun _ => rfl) ?_
    refine mi_wif (fun z => absurd z (nI_ge (a := 12 + i) (b := 36) (by omega) (by omega))) (fun _ => ?_)
    repeat (first | refine mi_s1 (fun _ => rfl) ?_ | refine mi_wgf rfl HM.1 rfl ?_ | refine mi_wal rfl (HM.2.1 _ _ rfl) rfl (by omega) (by decide) ?_ | refine mi_wbl rfl (HM.2.2 _ _ rfl) rfl (by omega) (by decide) ?_)
    refine HM.was rfl rfl rfl (by omega) (fun w HM hF => ?_)
    have hG := hG.tr hF
    refine mi_s1 (fun _ => rfl) ?_; refine mi_s1 (fun _ => rfl) ?_
    rw [show nI (12 + i) + nI 1 = nI (12 + (i + 1)) from nI_1 (12 + i)]
    refine mv_lo_clear kk f (i + 1) w _ (by omega) HM (fun o ho => by rw [upA_o ho]; exact ha o ho) (fun k hk => ?_) hG
    rw [upA_s]
    by_cases z : k = i
    · rw [z, pk_us]
      rfl
    · rw [pk_un (by omega)]
      exact hz k (by omega)
theorem mv_lo_hit {w0 : mi_H} (HF : Fm a ls lt F) {mp : Nat → Nat} (hm : ∀ u, inB lt u = true → a 91 u = nI (mp u) ∧ mp u < 24) (him : ∀ q ∈ lt, imA mp q ∈ lt) {Q : Option Value → mi_H → Prop} (kk : ∀ (w1 : mi_H) (a1 : mo_a) (z1 z2 : Option Value), Mo w1 a1 (ls.length, lt.length, n, ak, dr, s) → (∀ o, o ≠ 92 → a1 o = a o) → (∀ k f, lt[k]? = some f → a1 92 (12 + k) = jb (lt.any (fun h => decide (imA mp h = f)) = true)) → mi_Fg w0 w1 71 94 → mi_wp X mi_P 1 m_Mo_leavesOut (82, [some (.ref 71), z1, z2], [], w1) Q) : ∀ f j (w : mi_H) (a1 : mo_a) (z2 : Option Value), j + f = lt.length → Mo w a1 (ls.length, lt.length, n, ak, dr, s) → (∀ o, o ≠ 92 → a1 o = a o) → (∀ k f, lt[k]? = some f → a1 92 (12 + k) = jb ((lt.take j).any (fun h => decide (imA mp h = f)) = true)) → mi_Fg w0 w 71 94 → mi_wp X mi_P 1 m_Mo_leavesOut (25, [some (.ref 71), some (.int (nI (12 + j))), z2], [], w) Q
  | 0, j, w, a1, z2, hj, HM, ha, hz, hG => by
    have h4 := HF.2.2.2.1
    have hj : j = lt.length := by omega
    rw [hj, List.take_length] at hz
    repeat (first | refine mi_s1 (fun _ => rfl) ?_ | refine mi_wgf rfl HM.1 rfl ?_ | refine mi_wal rfl (HM.2.1 _ _ rfl) rfl (by omega) (by decide) ?_ | refine mi_wbl rfl (HM.2.2 _ _ rfl) rfl (by omega) (by decide) ?_)
    rw [nI_add]
    refine mi_wif (fun _ => ?_) (fun z => absurd (nI_le (a := 12 + lt.length) (b := 12 + j) (by omega) (by omega)) z)
    exact kk w a1 _ _ HM ha hz hG
  | f + 1, j, w, a1, z2, hj, HM, ha, hz, hG => by
    have h4 := HF.2.2.2.1
    obtain ⟨t, ht, -⟩ := drop_at (l := lt) (i := j) (by omega)
    have htm := List.mem_of_getElem? ht
    obtain ⟨e1, e2, e3⟩ := HF.2.1 j t ht
    have hb := HF.2.2.2.2.2.1 t htm
    unfold okT at hb
    have hin := inB_mem htm
    obtain ⟨m1, m2⟩ := hm _ hin.1
    obtain ⟨m3, m4⟩ := hm _ hin.2
    have HF1 : Fm a1 ls lt F := HF.congr (fun o h1 h2 => ha o (by omega))
    have hq : imA mp t ∈ lt := him t htm
    have hpl := HF.pl (r := t.1) (x := mp t.2.1) (y := mp t.2.2) (by omega)
    have hT : F t.1 (mp t.2.1) (mp t.2.2) = true := (HF.mem_t hb.1 hb.2.1).mpr hq
    repeat (first | refine mi_s1 (fun _ => rfl) ?_ | refine mi_wgf rfl HM.1 rfl ?_ | refine mi_wal rfl (HM.2.1 _ _ rfl) rfl (by omega) (by decide) ?_ | refine mi_wbl rfl (HM.2.2 _ _ rfl) rfl (by omega) (by decide) ?_)
    rw [nI_add]
    refine mi_wif (fun z => absurd z (nI_ge (a := 12 + j) (b := 12 + lt.length) (by omega) (by omega))) (fun _ => ?_)
    repeat (first | refine mi_s1 (fun _ => rfl) ?_ | refine mi_wgf rfl HM.1 rfl ?_ | refine mi_wal rfl (HM.2.1 _ _ rfl) rfl (by omega) (by decide) ?_ | refine mi_wbl rfl (HM.2.2 _ _ rfl) rfl (by omega) (by decide) ?_)
    rw [ha 72 (by decide), ha 73 (by decide), e1, e2]
    repeat (first | refine mi_s1 (fun _ => rfl) ?_ | refine mi_wgf rfl HM.1 rfl ?_ | refine mi_wal rfl (HM.2.1 _ _ rfl) rfl (by omega) (by decide) ?_ | refine mi_wbl rfl (HM.2.2 _ _ rfl) rfl (by omega) (by decide) ?_)
    rw [ha 74 (by decide), e3]
    repeat (first | refine mi_s1 (fun _ => rfl) ?_ | refine mi_wgf rfl HM.1 rfl ?_ | refine mi_wal rfl (HM.2.1 _ _ rfl) rfl (by omega) (by decide) ?_ | refine mi_wbl rfl (HM.2.2 _ _ rfl) rfl (by omega) (by decide) ?_)
    rw [ha 91 (by decide), m1, m3]
    refine mi_wcv rfl rfl (Nat.le_of_ble_eq_true rfl) HM.1 rfl (mv_place HM HF1 (by omega) (by omega) (by omega)) ?_
    cases e : plc ls lt (t.1, mp t.2.1, mp t.2.2) with
    | none =>
      rw [hpl.mp e] at hT
      cases hT
    | some p =>
      unfold plc at e
      rw [if_neg (by show ¬ t.1 < 2; omega)] at e
      obtain ⟨k0, hk0, hp, hkl⟩ := pix_some _ _ _ e
      subst hp
      repeat (first | refine mi_s1 (fun _ => rfl) ?_ | refine mi_wgf rfl HM.1 rfl ?_ | refine mi_wal rfl (HM.2.1 _ _ rfl) rfl (by omega) (by decide) ?_ | refine mi_wbl rfl (HM.2.2 _ _ rfl) rfl (by omega) (by decide) ?_)
      show mi_wp X mi_P 1 m_Mo_leavesOut (75, [some (.ref 71), some (.int (nI (12 + j))), some (.int (nI (12 + k0)))], [.int (nI 1), .int (nI (12 + k0)), .ref 92], w) Q
      refine HM.was rfl rfl rfl (by omega) (fun w HM hF => ?_)
      have hG := hG.tr hF
      refine mi_s1 (fun _ => rfl) ?_; refine mi_s1 (fun _ => rfl) ?_
      rw [show nI (12 + j) + nI 1 = nI (12 + (j + 1)) from nI_1 (12 + j)]
      refine mv_lo_hit HF hm him kk f (j + 1) w _ _ (by omega) HM (fun o ho => by rw [upA_o ho]; exact ha o ho) (fun k f' hk => ?_) hG
      rw [upA_s, List.take_add_one, ht, List.any_append]
      by_cases z : k = k0
      · subst z
        rw [hk0] at hk
        cases hk
        rw [pk_us]
        have : [t].any (fun h => decide (imA mp h = (t.1, mp t.2.1, mp t.2.2))) = true := by
          rw [List.any_cons, decide_eq_true (show imA mp t = (t.1, mp t.2.1, mp t.2.2) from rfl)]
          rfl
        show nI 1 = jb (((lt.take j).any _ || [t].any _) = true)
        rw [this, Bool.or_true]
        rfl
      · rw [pk_un (by omega), hz k f' hk]
        have hne : ¬ imA mp t = f' := fun q => by
          have hk2 : lt[k]? = lt[k0]? := by rw [hk, hk0, ← q]; rfl
          exact z ((List.getElem?_inj (List.getElem?_eq_some_iff.mp hk).1 HF.2.2.2.2.2.2.2.1).mp hk2)
        show _ = jb (((lt.take j).any _ || [t].any _) = true)
        rw [List.any_cons, decide_eq_false hne, List.any_nil, Bool.or_false, Bool.or_false]
theorem mv_lo_test {w0 : mi_H} (HM : Mo w a (ls.length, lt.length, n, ak, dr, s)) (h4 : lt.length ≤ 24) {mp : Nat → Nat} (hz : ∀ k f, lt[k]? = some f → a 92 (12 + k) = jb (lt.any (fun h => decide (imA mp h = f)) = true)) {Q : Option Value → mi_H → Prop} (kk : Q (some (.int (jb (lvB mp lt = true)))) w) {z2 : Option Value} : ∀ f i, i + f = lt.length → lvB mp lt = (lt.drop i).any (fun f => !lt.any (fun h => decide (imA mp h = f))) → mi_wp X mi_P 1 m_Mo_leavesOut (85, [some (.ref 71), some (.int (nI (12 + i))), z2], [], w) Q
  | 0, i, hi, hl => by
    rw [show i = lt.length by omega, List.drop_length] at hl
    repeat (first | refine mi_s1 (fun _ => rfl) ?_ | refine mi_wgf rfl HM.1 rfl ?_ | refine mi_wal rfl (HM.2.1 _ _ rfl) rfl (by omega) (by decide) ?_ | refine mi_wbl rfl (HM.2.2 _ _ rfl) rfl (by omega) (by decide) ?_)
    rw [nI_add]
    refine mi_wif (fun _ => ?_) (fun z => absurd (nI_le (a := 12 + lt.length) (b := 12 + i) (by omega) (by omega)) z)
    refine mi_s1 (fun _ => rfl) ?_
    refine mi_wrz rfl rfl rfl ?_
    rw [hl] at kk
    exact kk
  | f + 1, i, hi, hl => by
    obtain ⟨t, ht, hd'⟩ := drop_at (l := lt) (i := i) (by omega)
    rw [hd', List.any_cons] at hl
    repeat (first | refine mi_s1 (fun _ => rfl) ?_ | refine mi_wgf rfl HM.1 rfl ?_ | refine mi_wal rfl (HM.2.1 _ _ rfl) rfl (by omega) (by decide) ?_ | refine mi_wbl rfl (HM.2.2 _ _ rfl) rfl (by omega) (by decide) ?_)
    rw [nI_add]
    refine mi_wif (fun z => absurd z (nI_ge (a := 12 + i) (b := 12 + lt.length) (by omega) (by omega))) (fun _ => ?_)
    repeat (first | refine mi_s1 (fun _ => rfl) ?_ | refine mi_wgf rfl HM.1 rfl ?_ | refine mi_wal rfl (HM.2.1 _ _ rfl) rfl (by omega) (by decide) ?_ | refine mi_wbl rfl (HM.2.2 _ _ rfl) rfl (by omega) (by decide) ?_)
    rw [hz i t ht]
    refine mi_wif (fun z => ?_) (fun z => ?_)
    · have z : lt.any (fun h => decide (imA mp h = t)) = false := by simpa using jb_0.mp z
      rw [z] at hl
      have hl : lvB mp lt = true := hl
      refine mi_s1 (fun _ => rfl) ?_
      refine mi_wrz rfl rfl rfl ?_
      rw [hl] at kk
      exact kk
    · have z := Decidable.not_not.mp (fun q => z (jb_0.mpr q))
      rw [z] at hl
      refine mi_s1 (fun _ => rfl) ?_; refine mi_s1 (fun _ => rfl) ?_
      rw [show nI (12 + i) + nI 1 = nI (12 + (i + 1)) from nI_1 (12 + i)]
      exact mv_lo_test (w0 := w0) HM h4 hz kk f (i + 1) (by omega) (by rw [hl]; simp)
theorem mv_leavesOut (HM : Mo w a (ls.length, lt.length, n, ak, dr, s)) (HF : Fm a ls lt F) {mp : Nat → Nat} (hm : ∀ u, inB lt u = true → a 91 u = nI (mp u) ∧ mp u < 24) (him : ∀ q ∈ lt, imA mp q ∈ lt) : mi_Ex X 2 k_Mo_leavesOut [.ref 71] w (fun q w1 => q = some (.int (jb (lvB mp lt = true))) ∧ ∃ b, Mo w1 b (ls.length, lt.length, n, ak, dr, s) ∧ (∀ o, o ≠ 92 → b o = a o) ∧ mi_Fg w w1 71 94) := by
  refine mi_Ex.of (M := m_Mo_leavesOut) rfl (Nat.le_of_ble_eq_true rfl) ?_
  refine mi_s1 (fun _ => rfl) ?_; refine mi_s1 (fun _ => rfl) ?_
  refine mv_lo_clear (w0 := w) (a := a) (fun w1 a1 z1 HM1 ha1 hz1 hG1 => ?_) 24 0 w a rfl HM (fun _ _ => rfl) (fun k hk => absurd hk (Nat.not_lt_zero k)) mi_Fg.rf
  refine mi_s1 (fun _ => rfl) ?_; refine mi_s1 (fun _ => rfl) ?_
  refine mv_lo_hit (w0 := w) (a := a) HF hm him (fun w2 a2 z1 z2 HM2 ha2 hz2 hG2 => ?_) lt.length 0 w1 a1 _ (by omega) HM1 ha1 (fun k f hk => ?_) hG1
  · refine mi_s1 (fun _ => rfl) ?_; refine mi_s1 (fun _ => rfl) ?_
    exact mv_lo_test (w0 := w) HM2 HF.2.2.2.1 hz2 ⟨rfl, a2, HM2, ha2, hG2⟩ lt.length 0 (by omega) rfl
  · have := (List.getElem?_eq_some_iff.mp hk).1
    have := HF.2.2.2.1
    rw [hz1 k (by omega)]
    rfl
/-- the level of one null that occurs -/
theorem mv_fold_loop {w0 : mi_H} (HF : Fm a ls lt F) {n0 : Option Value} {Q : Option Value → mi_H → Prop} {k v : Nat} (hv : v + (k + 1) = 24) (h16 : 16 ≤ v) (hoc : inB lt v = true) {O : sp_O} {mpB : Nat → Nat} (hB : IV F lt mpB v)
    (dn : ∀ (mp : Nat → Nat) tl (w : mi_H) (a1 : mo_a) (z4 : Option Value), tl ≤ 10000 → IV F lt mp (v + 1) → MoL w0 w a a1 (ls.length, lt.length, n, ak, dr, s) → (∀ u, u < 24 → a1 91 u = enc (tol lt mp (v + 1) u)) →
      (∀ (w1 : mi_H) (a1 : mo_a) (z2 z4 : Option Value), (tf F (inB lt) k (v + 1) mp tl false).1 = true → MoL w0 w1 a a1 (ls.length, lt.length, n, ak, dr, s) → (∀ u, u < 24 → a1 91 u = enc (tol lt (tf F (inB lt) k (v + 1) mp tl false).2.1 24 u)) → IV F lt (tf F (inB lt) k (v + 1) mp tl false).2.1 24 → mi_wp X mi_P 3 m_Mo_fold (66, [some (.ref 71), n0, z2, some (.int (nI 24)), z4], [], w1) Q) →
      (gvu (tf F (inB lt) k (v + 1) mp tl false) → ∀ (w1 : mi_H) (a1 : mo_a) (z2 z3 z4 : Option Value), MoL w0 w1 a a1 (ls.length, lt.length, n, ak, dr, s) → mi_wp X mi_P 3 m_Mo_fold (195, [some (.ref 71), n0, z2, z3, z4], [], w1) Q) →
      ((tf F (inB lt) k (v + 1) mp tl false).1 = false → (tf F (inB lt) k (v + 1) mp tl false).2.2.2 = false → ∀ (w1 : mi_H) (a1 : mo_a) (z4 : Option Value), MoL w0 w1 a a1 (ls.length, lt.length, n, ak, dr, s) → (∀ u, u < 24 → a1 91 u = enc (tol lt mp (v + 1) u)) → mi_wp X mi_P 3 m_Mo_fold (47, [some (.ref 71), n0, some (.int (nI (tf F (inB lt) k (v + 1) mp tl false).2.2.1)), some (.int (nI v)), z4], [], w1) Q) →
      mi_wp X mi_P 3 m_Mo_fold (47, [some (.ref 71), n0, some (.int (nI tl)), some (.int (nI (v + 1))), z4], [], w) Q)
    (k1 : ∀ (w1 : mi_H) (a1 : mo_a) (z2 z4 : Option Value), O.1 = true → MoL w0 w1 a a1 (ls.length, lt.length, n, ak, dr, s) → (∀ u, u < 24 → a1 91 u = enc (tol lt O.2.1 24 u)) → IV F lt O.2.1 24 → mi_wp X mi_P 3 m_Mo_fold (66, [some (.ref 71), n0, z2, some (.int (nI 24)), z4], [], w1) Q)
    (k2 : gvu O → ∀ (w1 : mi_H) (a1 : mo_a) (z2 z3 z4 : Option Value), MoL w0 w1 a a1 (ls.length, lt.length, n, ak, dr, s) → mi_wp X mi_P 3 m_Mo_fold (195, [some (.ref 71), n0, z2, z3, z4], [], w1) Q)
    (k3 : O.1 = false → O.2.2.2 = false → ∀ (w1 : mi_H) (a1 : mo_a) (z4 : Option Value), MoL w0 w1 a a1 (ls.length, lt.length, n, ak, dr, s) → (∀ u, u < 24 → a1 91 u = enc (tol lt mpB v u)) → mi_wp X mi_P 3 m_Mo_fold (47, [some (.ref 71), n0, some (.int (nI O.2.2.1)), some (.int (nI v + -1)), z4], [], w1) Q) :
    ∀ f x (mp : Nat → Nat) tl (w : mi_H) (a1 : mo_a) (z4 : Option Value), x + f = 24 → tl ≤ 10000 → tlp F (inB lt) v (tf F (inB lt) k (v + 1)) f x mp tl false = O → (∀ u, u < v → mp u = mpB u) → MoL w0 w a a1 (ls.length, lt.length, n, ak, dr, s) → (∀ u, u < 24 → u ≠ v → a1 91 u = enc (tol lt mpB v u)) → a1 91 v = nx x → mi_wp X mi_P 3 m_Mo_fold (47, [some (.ref 71), n0, some (.int (nI tl)), some (.int (nI v)), z4], [], w) Q := by
  intro f
  induction f with
  | zero =>
    intro x mp tl w a1 z4 hx htl hO hmp HG hne hev
    obtain ⟨HM, ha, hG⟩ := id HG
    have hx : x = 24 := by omega
    subst hx
    have hO : O = (false, mp, tl, false) := hO.symm
    subst hO
    refine mi_s1 (fun _ => rfl) ?_; refine mi_s1 (fun _ => rfl) ?_; refine mi_s1 (fun _ => rfl) ?_
    refine mi_wif (fun z => absurd ((nI_ltI (by omega) (by omega)).mp z) (by omega)) (fun _ => ?_)
    refine mi_s1 (fun _ => rfl) ?_; refine mi_s1 (fun _ => rfl) ?_; refine mi_s1 (fun _ => rfl) ?_
    refine mi_wif (fun z => absurd ((nI_eq (by omega) (by omega)).mp z) (by omega)) (fun _ => ?_)
    refine mi_s1 (fun _ => rfl) ?_; refine mi_s1 (fun _ => rfl) ?_
    refine mi_wcv rfl rfl (Nat.le_of_ble_eq_true rfl) HM.1 rfl ((mv_occurs HM (HF.cL ha) (by omega)).up (by decide)) ?_
    refine mi_s1 (fun _ => rfl) ?_
    refine mi_wif (fun z => absurd hoc (jb_0.mp z)) (fun _ => ?_)
    repeat (first | refine mi_s1 (fun _ => rfl) ?_ | refine mi_wgf rfl HM.1 rfl ?_ | refine mi_wal rfl (HM.2.1 _ _ rfl) rfl (by omega) (by decide) ?_ | refine mi_wbl rfl (HM.2.2 _ _ rfl) rfl (by omega) (by decide) ?_)
    rw [hev, nx_1]
    refine HM.was rfl rfl rfl (by omega) (fun w HM hF => ?_)
    have hG := hG.tr hF
    repeat (first | refine mi_s1 (fun _ => rfl) ?_ | refine mi_wgf rfl HM.1 rfl ?_ | refine mi_wal rfl (HM.2.1 _ _ rfl) rfl (by omega) (by decide) ?_ | refine mi_wbl rfl (HM.2.2 _ _ rfl) rfl (by omega) (by decide) ?_)
    rw [upA_s, pk_us]
    refine mi_wif (fun z => absurd z (by decide)) (fun _ => ?_)
    repeat (first | refine mi_s1 (fun _ => rfl) ?_ | refine mi_wgf rfl HM.1 rfl ?_ | refine mi_wal rfl (HM.2.1 _ _ rfl) rfl (by omega) (by decide) ?_ | refine mi_wbl rfl (HM.2.2 _ _ rfl) rfl (by omega) (by decide) ?_)
    refine HM.was rfl rfl rfl (by omega) (fun w HM hF => ?_)
    have hG := hG.tr hF
    refine mi_s1 (fun _ => rfl) ?_; refine mi_s1 (fun _ => rfl) ?_
    refine k3 rfl rfl w _ _ ⟨HM, fun o ho => ?_, hG⟩ (fun u hu => ?_)
    · rw [upA_o (by omega), upA_o (by omega)]
      exact ha o ho
    · rw [upA_s]
      by_cases z : u = v
      · rw [z, pk_us, tol_out h16 (Nat.le_refl v)]
        rfl
      · rw [pk_un z, upA_s, pk_un z]
        exact hne u hu z
  | succ f ih =>
    intro x mp tl w a1 z4 hx htl hO hmp HG hne hev
    obtain ⟨HM, ha, hG⟩ := id HG
    refine mi_s1 (fun _ => rfl) ?_; refine mi_s1 (fun _ => rfl) ?_; refine mi_s1 (fun _ => rfl) ?_
    refine mi_wif (fun z => absurd ((nI_ltI (by omega) (by omega)).mp z) (by omega)) (fun _ => ?_)
    refine mi_s1 (fun _ => rfl) ?_; refine mi_s1 (fun _ => rfl) ?_; refine mi_s1 (fun _ => rfl) ?_
    refine mi_wif (fun z => absurd ((nI_eq (by omega) (by omega)).mp z) (by omega)) (fun _ => ?_)
    refine mi_s1 (fun _ => rfl) ?_; refine mi_s1 (fun _ => rfl) ?_
    refine mi_wcv rfl rfl (Nat.le_of_ble_eq_true rfl) HM.1 rfl ((mv_occurs HM (HF.cL ha) (by omega)).up (by decide)) ?_
    refine mi_s1 (fun _ => rfl) ?_
    refine mi_wif (fun z => absurd hoc (jb_0.mp z)) (fun _ => ?_)
    repeat (first | refine mi_s1 (fun _ => rfl) ?_ | refine mi_wgf rfl HM.1 rfl ?_ | refine mi_wal rfl (HM.2.1 _ _ rfl) rfl (by omega) (by decide) ?_ | refine mi_wbl rfl (HM.2.2 _ _ rfl) rfl (by omega) (by decide) ?_)
    rw [hev, nx_1]
    refine HM.was rfl rfl rfl (by omega) (fun w HM hF => ?_)
    have hG := hG.tr hF
    have ha2 : ∀ o, o < 86 → upA a1 91 v (nI x) o = a o := fun o ho => by
      rw [upA_o (by omega)]
      exact ha o ho
    have hne2 : ∀ u, u < 24 → u ≠ v → upA a1 91 v (nI x) 91 u = enc (tol lt mpB v u) := fun u hu z => by
      rw [upA_s, pk_un z]
      exact hne u hu z
    have hev2 : upA a1 91 v (nI x) 91 v = nx (x + 1) := by
      rw [upA_s, pk_us]
      rfl
    repeat (first | refine mi_s1 (fun _ => rfl) ?_ | refine mi_wgf rfl HM.1 rfl ?_ | refine mi_wal rfl (HM.2.1 _ _ rfl) rfl (by omega) (by decide) ?_ | refine mi_wbl rfl (HM.2.2 _ _ rfl) rfl (by omega) (by decide) ?_)
    rw [upA_s, pk_us]
    refine mi_wif (fun _ => ?_) (fun z => absurd (nI_le (a := x) (b := 23) (by omega) (by omega)) z)
    repeat (first | refine mi_s1 (fun _ => rfl) ?_ | refine mi_wgf rfl HM.1 rfl ?_ | refine mi_wal rfl (HM.2.1 _ _ rfl) rfl (by omega) (by decide) ?_ | refine mi_wbl rfl (HM.2.2 _ _ rfl) rfl (by omega) (by decide) ?_)
    rw [upA_s, pk_us]
    refine mi_wcv rfl rfl (Nat.le_of_ble_eq_true rfl) HM.1 rfl ((mv_occurs HM (HF.cL ha2) (v := x) (by omega)).up (by decide)) ?_
    refine mi_s1 (fun _ => rfl) ?_
    unfold tlp at hO
    refine mi_wif (fun z => ?_) (fun z => ?_)
    · have z : inB lt x = false := by simpa using jb_0.mp z
      rw [if_pos z] at hO
      exact ih (x + 1) mp tl w _ _ (by omega) htl hO hmp ⟨HM, ha2, hG⟩ hne2 hev2
    · have z : inB lt x = true := Decidable.not_not.mp (fun q => z (jb_0.mpr q))
      rw [if_neg (by rw [z]; decide)] at hO
      refine mi_s1 (fun _ => rfl) ?_; refine mi_s1 (fun _ => rfl) ?_; refine mi_s1 (fun _ => rfl) ?_
      refine mi_wif (fun zt => ?_) (fun zt => ?_)
      · have zt : tl = 10000 := (nI_eq (by omega) (by omega)).mp zt
        rw [if_pos (by omega)] at hO
        exact k2 (by rw [← hO]; exact ⟨rfl, rfl, by show 10000 ≤ tl; omega⟩) w _ _ _ _ ⟨HM, ha2, hG⟩
      · have zt : tl < 10000 := by
          have : tl ≠ 10000 := fun q => zt (by rw [q])
          omega
        rw [if_neg (by omega)] at hO
        -- the map with the new value
        have hBm : IV F lt mp v := hB.congr h16 hmp
        have upc : ∀ u, u < v → updN mp v x u = mp u := fun u hu => if_neg (by omega)
        have upv : updN mp v x v = x := if_pos rfl
        have hc' : ∀ u, u < 16 → updN mp v x u = u := fun u hu => by
          rw [upc u (by omega)]
          exact hBm.1 u hu
        have hocc' : ∀ u, u < v + 1 → inB lt u = true → inB lt (updN mp v x u) = true := fun u hu hi => by
          by_cases e : u = v
          · rw [e, upv]
            exact z
          · rw [upc u (by omega)]
            exact hBm.2.1 u (by omega) hi
        have hKv : Kp F lt (updN mp v x) v := fun q hq h1 h2 => by
          rw [upc _ h1, upc _ h2]
          exact hBm.2.2 q hq h1 h2
        have htol : ∀ u, u < 24 → upA a1 91 v (nI x) 91 u = enc (tol lt (updN mp v x) (v + 1) u) := fun u hu => by
          rw [tol_up h16 hoc]
          by_cases e : u = v
          · rw [if_pos e, e, upA_s, pk_us]
            rfl
          · rw [if_neg e, hne2 u hu e, tol_congr (mp := mpB) (mp' := mp) (fun y hy => (hmp y hy).symm)]
        have ek : kpS F (updN mp v x) v 6 = true ↔ Kp F lt (updN mp v x) (v + 1) := kpS_iff HF.b24 (fun r x y h1 h2 => HF.mem_t h1 h2) HF.2.2.2.2.2.1 hc' (fun u hu hi => HF.o24 (hocc' u hu hi)) hKv
        have ekf := kf_Kp (F := F) (lt := lt) (mp := updN mp v x) (v := v + 1) hc' (by omega)
        have hkeep := mv_keeps (X := X) HM (HF.cL ha2) (V := tol lt (updN mp v x) (v + 1)) (fun u hu => ⟨htol u hu, fun y hy => by
          unfold tol at hy
          split at hy
          · cases hy
            exact hu
          · split at hy
            · split at hy
              · rename_i h1 h2
                cases hy
                exact HF.o24 (hocc' u h1 h2)
              · cases hy
                omega
            · cases hy⟩)
        refine mi_s1 (fun _ => rfl) ?_; refine mi_s1 (fun _ => rfl) ?_
        rw [show nI tl + nI 1 = nI (tl + 1) from nI_1 tl]
        refine mi_wcv rfl rfl (Nat.le_of_ble_eq_true rfl) HM.1 rfl (hkeep.up (by decide)) ?_
        refine mi_s1 (fun _ => rfl) ?_
        refine mi_wif (fun zk => ?_) (fun zk => ?_)
        · have zk := jb_0.mp zk
          rw [if_neg (fun q => zk (ekf.mpr (ek.mp q)))] at hO
          refine mi_s1 (fun _ => rfl) ?_; refine mi_s1 (fun _ => rfl) ?_; refine mi_s1 (fun _ => rfl) ?_
          exact ih (x + 1) (updN mp v x) (tl + 1) w _ _ (by omega) (by omega) hO (fun u hu => by rw [upc u hu]; exact hmp u hu) ⟨HM, ha2, hG⟩ hne2 hev2
        · have zk := Decidable.not_not.mp (fun q => zk (jb_0.mpr q))
          have hK1 := ekf.mp zk
          rw [if_pos (ek.mpr hK1)] at hO
          obtain ⟨l1, l2⟩ := tf_low (F := F) (oc := inB lt) k (v + 1) (updN mp v x) (tl + 1) false (by omega)
          refine mi_s1 (fun _ => rfl) ?_; refine mi_s1 (fun _ => rfl) ?_; refine mi_s1 (fun _ => rfl) ?_; refine mi_s1 (fun _ => rfl) ?_; refine mi_s1 (fun _ => rfl) ?_; refine mi_s1 (fun _ => rfl) ?_
          rw [nI_add]
          refine dn (updN mp v x) (tl + 1) w _ _ (by omega) ⟨hc', hocc', hK1⟩ ⟨HM, ha2, hG⟩ htol (fun w1 a3 z2 z4 h H3 h3 hI => ?_) (fun hg w1 a3 z2 z3 z4 H3 => ?_) (fun h5 h6 w1 a3 z4 H3 h3 => ?_)
          · rw [if_pos h] at hO
            rw [hO] at h3 hI h
            exact k1 w1 a3 z2 z4 h H3 h3 hI
          · rw [if_neg (by rw [hg.1]; decide)] at hO
            refine k2 ?_ w1 a3 z2 z3 z4 H3
            rw [← hO, hg.2.1]
            exact tlp_gu f (x + 1) _ _ hg.2.2
          · rw [if_neg (by rw [h5]; decide), h6] at hO
            refine ih (x + 1) _ _ w1 a3 z4 (by omega) l2 hO (fun u hu => by rw [l1 u (by omega), upc u hu]; exact hmp u hu) H3 (fun u hu e => ?_) ?_
            · rw [h3 u hu, tol_up h16 hoc, if_neg e, tol_congr (mp := mp) (mp' := mpB) hmp]
            · rw [h3 v (by omega), tol_up h16 hoc, if_pos rfl]
              rfl
theorem mv_fold_level {w0 : mi_H} (HF : Fm a ls lt F) {n0 : Option Value} {Q : Option Value → mi_H → Prop} : ∀ k v, v + k = 24 → 16 ≤ v → ∀ (mp : Nat → Nat) tl (w : mi_H) (a1 : mo_a) (z4 : Option Value), tl ≤ 10000 → IV F lt mp v → MoL w0 w a a1 (ls.length, lt.length, n, ak, dr, s) → (∀ u, u < 24 → a1 91 u = enc (tol lt mp v u)) →
      (∀ (w1 : mi_H) (a1 : mo_a) (z2 z4 : Option Value), (tf F (inB lt) k v mp tl false).1 = true → MoL w0 w1 a a1 (ls.length, lt.length, n, ak, dr, s) → (∀ u, u < 24 → a1 91 u = enc (tol lt (tf F (inB lt) k v mp tl false).2.1 24 u)) → IV F lt (tf F (inB lt) k v mp tl false).2.1 24 → mi_wp X mi_P 3 m_Mo_fold (66, [some (.ref 71), n0, z2, some (.int (nI 24)), z4], [], w1) Q) →
      (gvu (tf F (inB lt) k v mp tl false) → ∀ (w1 : mi_H) (a1 : mo_a) (z2 z3 z4 : Option Value), MoL w0 w1 a a1 (ls.length, lt.length, n, ak, dr, s) → mi_wp X mi_P 3 m_Mo_fold (195, [some (.ref 71), n0, z2, z3, z4], [], w1) Q) →
      ((tf F (inB lt) k v mp tl false).1 = false → (tf F (inB lt) k v mp tl false).2.2.2 = false → ∀ (w1 : mi_H) (a1 : mo_a) (z4 : Option Value), MoL w0 w1 a a1 (ls.length, lt.length, n, ak, dr, s) → (∀ u, u < 24 → a1 91 u = enc (tol lt mp v u)) → mi_wp X mi_P 3 m_Mo_fold (47, [some (.ref 71), n0, some (.int (nI (tf F (inB lt) k v mp tl false).2.2.1)), some (.int (nI v + -1)), z4], [], w1) Q) →
      mi_wp X mi_P 3 m_Mo_fold (47, [some (.ref 71), n0, some (.int (nI tl)), some (.int (nI v)), z4], [], w) Q
  | 0, v, hv, h16, mp, tl, w, a1, z4, htl, hI, HG, hT, k1, k2, k3 => by
    obtain ⟨HM, ha, hG⟩ := id HG
    have hv : v = 24 := by omega
    subst hv
    have him : ∀ q ∈ lt, imA mp q ∈ lt := fun q hq => by
      have ho := HF.2.2.2.2.2.1 q hq
      unfold okT at ho
      exact (HF.mem_t ho.1 ho.2.1).mp (hI.2.2 q hq (by omega) (by omega))
    have els : lsN mp (inB lt) = lvB mp lt := lsN_lvB (F := F) (fun r x y h1 h2 => HF.mem_t h1 h2) HF.2.2.2.2.2.1 HF.2.2.2.2.2.2.2.1 hI.1 (fun u hu => hI.2.1 u (HF.o24 hu) hu) hI.2.2
    have eO : tf F (inB lt) 0 24 mp tl false = (lvB mp lt, mp, tl, false) := by
      show (lsN mp (inB lt), mp, tl, false) = _
      rw [els]
    rw [eO] at k1 k3
    obtain ⟨t1, w1, he1, rfl, b, HM1, hb, hG1⟩ := mv_leavesOut (X := X) HM (HF.cL ha) (mp := mp) (fun u hu => by
      have h24 := HF.o24 hu
      rw [hT u h24, tol_in hI.1 h16 hu h24]
      exact ⟨rfl, HF.o24 (hI.2.1 u h24 hu)⟩) him
    have HG1 : MoL w0 w1 a b (ls.length, lt.length, n, ak, dr, s) := ⟨HM1, fun o ho => by rw [hb o (by omega)]; exact ha o ho, hG.tr hG1⟩
    have hT1 : ∀ u, u < 24 → b 91 u = enc (tol lt mp 24 u) := fun u hu => by
      rw [hb 91 (by decide)]
      exact hT u hu
    refine mi_s1 (fun _ => rfl) ?_; refine mi_s1 (fun _ => rfl) ?_; refine mi_s1 (fun _ => rfl) ?_
    refine mi_wif (fun z => absurd z (by decide)) (fun _ => ?_)
    refine mi_s1 (fun _ => rfl) ?_; refine mi_s1 (fun _ => rfl) ?_; refine mi_s1 (fun _ => rfl) ?_
    refine mi_wif (fun _ => ?_) (fun z => absurd rfl z)
    refine mi_s1 (fun _ => rfl) ?_
    refine mi_wcv rfl rfl (Nat.le_of_ble_eq_true rfl) HM.1 rfl (he1.up (by decide)) ?_
    refine mi_s1 (fun _ => rfl) ?_
    refine mi_wif (fun z => ?_) (fun z => ?_)
    · have z : lvB mp lt = false := by simpa using jb_0.mp z
      refine mi_s1 (fun _ => rfl) ?_; refine mi_s1 (fun _ => rfl) ?_
      exact k3 z rfl w1 b _ HG1 hT1
    · have z := Decidable.not_not.mp (fun q => z (jb_0.mpr q))
      exact k1 w1 b _ _ z HG1 hT1 hI
  | k + 1, v, hv, h16, mp, tl, w, a1, z4, htl, hI, HG, hT, k1, k2, k3 => by
    cases hoc : inB lt v with
    | true =>
      have eO : tf F (inB lt) (k + 1) v mp tl false = tlp F (inB lt) v (tf F (inB lt) k (v + 1)) 24 0 mp tl false := by
        show (if inB lt v = false then _ else _) = _
        rw [if_neg (by rw [hoc]; decide)]
      refine mv_fold_loop (w0 := w0) HF hv h16 hoc (O := tf F (inB lt) (k + 1) v mp tl false) hI (fun mp tl w a1 z4 q1 q2 q3 q4 j1 j2 j3 => ?_) k1 k2 k3 24 0 mp tl w a1 z4 rfl htl eO.symm (fun _ _ => rfl) HG (fun u hu _ => hT u hu) (by rw [hT v (by omega), tol_out h16 (Nat.le_refl v)]; rfl)
      refine mv_fold_level HF k (v + 1) (by omega) (by omega) mp tl w a1 z4 q1 q2 q3 q4 j1 j2 (fun h1 h2 w1 a1 z4 h3 h4 => ?_)
      rw [show nI (v + 1) + -1 = nI v from sb_m1 (by omega)]
      exact j3 h1 h2 w1 a1 z4 h3 h4
    | false =>
      have eO : tf F (inB lt) (k + 1) v mp tl false = tf F (inB lt) k (v + 1) mp tl false := by
        show (if inB lt v = false then _ else _) = _
        rw [if_pos hoc]
      rw [eO] at k1 k2 k3
      obtain ⟨HM, ha, hG⟩ := id HG
      have hI1 : IV F lt mp (v + 1) := by
        refine ⟨hI.1, fun u hu hi => ?_, fun q hq h1 h2 => ?_⟩
        · by_cases e : u = v
          · rw [e, hoc] at hi
            cases hi
          · exact hI.2.1 u (by omega) hi
        · have hin := inB_mem hq
          have n1 : q.2.1 ≠ v := fun e => by rw [e, hoc] at hin; cases hin.1
          have n2 : q.2.2 ≠ v := fun e => by rw [e, hoc] at hin; cases hin.2
          exact hI.2.2 q hq (by omega) (by omega)
      have tv1 : tol lt mp (v + 1) v = some 0 := by
        unfold tol
        rw [if_neg (by omega), if_pos (by omega), if_neg (by rw [hoc]; decide)]
      refine mi_s1 (fun _ => rfl) ?_; refine mi_s1 (fun _ => rfl) ?_; refine mi_s1 (fun _ => rfl) ?_
      refine mi_wif (fun z => absurd ((nI_ltI (by omega) (by omega)).mp z) (by omega)) (fun _ => ?_)
      refine mi_s1 (fun _ => rfl) ?_; refine mi_s1 (fun _ => rfl) ?_; refine mi_s1 (fun _ => rfl) ?_
      refine mi_wif (fun z => absurd ((nI_eq (by omega) (by omega)).mp z) (by omega)) (fun _ => ?_)
      refine mi_s1 (fun _ => rfl) ?_; refine mi_s1 (fun _ => rfl) ?_
      refine mi_wcv rfl rfl (Nat.le_of_ble_eq_true rfl) HM.1 rfl ((mv_occurs HM (HF.cL ha) (by omega)).up (by decide)) ?_
      refine mi_s1 (fun _ => rfl) ?_
      refine mi_wif (fun _ => ?_) (fun z => absurd (jb_0.mpr (by rw [hoc]; decide)) z)
      repeat (first | refine mi_s1 (fun _ => rfl) ?_ | refine mi_wgf rfl HM.1 rfl ?_ | refine mi_wal rfl (HM.2.1 _ _ rfl) rfl (by omega) (by decide) ?_ | refine mi_wbl rfl (HM.2.2 _ _ rfl) rfl (by omega) (by decide) ?_)
      rw [hT v (by omega), tol_out h16 (Nat.le_refl v)]
      refine mi_wif (fun z => absurd z (by decide)) (fun _ => ?_)
      (first | refine mi_s1 (fun _ => rfl) ?_ | refine mi_wgf rfl HM.1 rfl ?_ | refine mi_wal rfl (HM.2.1 _ _ rfl) rfl (by omega) (by decide) ?_ | refine mi_wbl rfl (HM.2.2 _ _ rfl) rfl (by omega) (by decide) ?_); (first | refine mi_s1 (fun _ => rfl) ?_ | refine mi_wgf rfl HM.1 rfl ?_ | refine mi_wal rfl (HM.2.1 _ _ rfl) rfl (by omega) (by decide) ?_ | refine mi_wbl rfl (HM.2.2 _ _ rfl) rfl (by omega) (by decide) ?_); (first | refine mi_s1 (fun _ => rfl) ?_ | refine mi_wgf rfl HM.1 rfl ?_ | refine mi_wal rfl (HM.2.1 _ _ rfl) rfl (by omega) (by decide) ?_ | refine mi_wbl rfl (HM.2.2 _ _ rfl) rfl (by omega) (by decide) ?_); (first | refine mi_s1 (fun _ => rfl) ?_ | refine mi_wgf rfl HM.1 rfl ?_ | refine mi_wal rfl (HM.2.1 _ _ rfl) rfl (by omega) (by decide) ?_ | refine mi_wbl rfl (HM.2.2 _ _ rfl) rfl (by omega) (by decide) ?_); (first | refine mi_s1 (fun _ => rfl) ?_ | refine mi_wgf rfl HM.1 rfl ?_ | refine mi_wal rfl (HM.2.1 _ _ rfl) rfl (by omega) (by decide) ?_ | refine mi_wbl rfl (HM.2.2 _ _ rfl) rfl (by omega) (by decide) ?_); (first | refine mi_s1 (fun _ => rfl) ?_ | refine mi_wgf rfl HM.1 rfl ?_ | refine mi_wal rfl (HM.2.1 _ _ rfl) rfl (by omega) (by decide) ?_ | refine mi_wbl rfl (HM.2.2 _ _ rfl) rfl (by omega) (by decide) ?_); (first | refine mi_s1 (fun _ => rfl) ?_ | refine mi_wgf rfl HM.1 rfl ?_ | refine mi_wal rfl (HM.2.1 _ _ rfl) rfl (by omega) (by decide) ?_ | refine mi_wbl rfl (HM.2.2 _ _ rfl) rfl (by omega) (by decide) ?_)
      refine mi_wif (fun _ => ?_) (fun z => absurd rfl z)
      refine mi_s1 (fun _ => rfl) ?_
      refine HM.was rfl rfl rfl (by omega) (fun w HM hF => ?_)
      have hG := hG.tr hF
      refine mi_s1 (fun _ => rfl) ?_; refine mi_s1 (fun _ => rfl) ?_
      refine mi_wif (fun _ => ?_) (fun z => absurd rfl z)
      refine mi_s1 (fun _ => rfl) ?_; refine mi_s1 (fun _ => rfl) ?_; refine mi_s1 (fun _ => rfl) ?_; refine mi_s1 (fun _ => rfl) ?_; refine mi_s1 (fun _ => rfl) ?_
      rw [nI_add]
      refine mv_fold_level HF k (v + 1) (by omega) (by omega) mp tl w _ _ htl hI1 ⟨HM, fun o ho => by rw [upA_o (by omega)]; exact ha o ho, hG⟩ (fun u hu => ?_) k1 k2 (fun h1 h2 w1 a3 z4 H3 h4 => ?_)
      · rw [upA_s]
        by_cases e : u = v
        · rw [e, pk_us, tv1]
          rfl
        · rw [pk_un e, tol_ne e]
          exact hT u hu
      · rw [show nI (v + 1) + -1 = nI v from sb_m1 (by omega)]
        obtain ⟨HM3, ha3, hG3⟩ := id H3
        clear HM hG
        have HM := HM3
        have hG := hG3
        refine mi_s1 (fun _ => rfl) ?_; refine mi_s1 (fun _ => rfl) ?_; refine mi_s1 (fun _ => rfl) ?_
        refine mi_wif (fun z => absurd ((nI_ltI (by omega) (by omega)).mp z) (by omega)) (fun _ => ?_)
        refine mi_s1 (fun _ => rfl) ?_; refine mi_s1 (fun _ => rfl) ?_; refine mi_s1 (fun _ => rfl) ?_
        refine mi_wif (fun z => absurd ((nI_eq (by omega) (by omega)).mp z) (by omega)) (fun _ => ?_)
        refine mi_s1 (fun _ => rfl) ?_; refine mi_s1 (fun _ => rfl) ?_
        refine mi_wcv rfl rfl (Nat.le_of_ble_eq_true rfl) HM.1 rfl ((mv_occurs HM (HF.cL ha3) (by omega)).up (by decide)) ?_
        refine mi_s1 (fun _ => rfl) ?_
        refine mi_wif (fun _ => ?_) (fun z => absurd (jb_0.mpr (by rw [hoc]; decide)) z)
        repeat (first | refine mi_s1 (fun _ => rfl) ?_ | refine mi_wgf rfl HM.1 rfl ?_ | refine mi_wal rfl (HM.2.1 _ _ rfl) rfl (by omega) (by decide) ?_ | refine mi_wbl rfl (HM.2.2 _ _ rfl) rfl (by omega) (by decide) ?_)
        rw [h4 v (by omega), tv1]
        refine mi_wif (fun _ => ?_) (fun z => absurd rfl z)
        (first | refine mi_s1 (fun _ => rfl) ?_ | refine mi_wgf rfl HM.1 rfl ?_ | refine mi_wal rfl (HM.2.1 _ _ rfl) rfl (by omega) (by decide) ?_ | refine mi_wbl rfl (HM.2.2 _ _ rfl) rfl (by omega) (by decide) ?_); (first | refine mi_s1 (fun _ => rfl) ?_ | refine mi_wgf rfl HM.1 rfl ?_ | refine mi_wal rfl (HM.2.1 _ _ rfl) rfl (by omega) (by decide) ?_ | refine mi_wbl rfl (HM.2.2 _ _ rfl) rfl (by omega) (by decide) ?_); (first | refine mi_s1 (fun _ => rfl) ?_ | refine mi_wgf rfl HM.1 rfl ?_ | refine mi_wal rfl (HM.2.1 _ _ rfl) rfl (by omega) (by decide) ?_ | refine mi_wbl rfl (HM.2.2 _ _ rfl) rfl (by omega) (by decide) ?_); (first | refine mi_s1 (fun _ => rfl) ?_ | refine mi_wgf rfl HM.1 rfl ?_ | refine mi_wal rfl (HM.2.1 _ _ rfl) rfl (by omega) (by decide) ?_ | refine mi_wbl rfl (HM.2.2 _ _ rfl) rfl (by omega) (by decide) ?_); (first | refine mi_s1 (fun _ => rfl) ?_ | refine mi_wgf rfl HM.1 rfl ?_ | refine mi_wal rfl (HM.2.1 _ _ rfl) rfl (by omega) (by decide) ?_ | refine mi_wbl rfl (HM.2.2 _ _ rfl) rfl (by omega) (by decide) ?_); (first | refine mi_s1 (fun _ => rfl) ?_ | refine mi_wgf rfl HM.1 rfl ?_ | refine mi_wal rfl (HM.2.1 _ _ rfl) rfl (by omega) (by decide) ?_ | refine mi_wbl rfl (HM.2.2 _ _ rfl) rfl (by omega) (by decide) ?_); (first | refine mi_s1 (fun _ => rfl) ?_ | refine mi_wgf rfl HM.1 rfl ?_ | refine mi_wal rfl (HM.2.1 _ _ rfl) rfl (by omega) (by decide) ?_ | refine mi_wbl rfl (HM.2.2 _ _ rfl) rfl (by omega) (by decide) ?_); (first | refine mi_s1 (fun _ => rfl) ?_ | refine mi_wgf rfl HM.1 rfl ?_ | refine mi_wal rfl (HM.2.1 _ _ rfl) rfl (by omega) (by decide) ?_ | refine mi_wbl rfl (HM.2.2 _ _ rfl) rfl (by omega) (by decide) ?_)
        refine mi_wif (fun z => absurd z (by decide)) (fun _ => ?_)
        refine mi_s1 (fun _ => rfl) ?_; refine mi_s1 (fun _ => rfl) ?_
        refine HM.was rfl rfl rfl (by omega) (fun w HM hF => ?_)
        have hG := hG.tr hF
        refine mi_s1 (fun _ => rfl) ?_; refine mi_s1 (fun _ => rfl) ?_
        refine mi_wif (fun z => absurd z (by decide)) (fun _ => ?_)
        refine mi_s1 (fun _ => rfl) ?_; refine mi_s1 (fun _ => rfl) ?_; refine mi_s1 (fun _ => rfl) ?_; refine mi_s1 (fun _ => rfl) ?_; refine mi_s1 (fun _ => rfl) ?_; refine mi_s1 (fun _ => rfl) ?_
        rw [show nI v - nI 1 = nI v + -1 from (pk_sub (a := v) (by omega)).trans (sb_m1 (by omega)).symm]
        refine k3 h1 h2 w _ _ ⟨HM, fun o ho => by rw [upA_o (by omega)]; exact ha3 o ho, hG⟩ (fun u hu => ?_)
        rw [upA_s]
        by_cases e : u = v
        · rw [e, pk_us, tol_out h16 (Nat.le_refl v)]
          rfl
        · rw [pk_un e, h4 u hu, tol_ne e]
theorem mv_fold_init {w0 : mi_H} {z2 z3 z4 : Option Value} {Q : Option Value → mi_H → Prop} (kk : ∀ (w1 : mi_H) (a1 : mo_a) (z1 : Option Value), MoL w0 w1 a a1 T → (∀ u, u < 24 → a1 91 u = enc (tol lt (fun u => u) 16 u)) → mi_wp X mi_P 3 m_Mo_fold (37, [some (.ref 71), z1, z2, z3, z4], [], w1) Q) : ∀ f i (w : mi_H) (a1 : mo_a), i + f = 24 → 16 ≤ i → MoL w0 w a a1 T → (∀ u, u < 16 → a1 91 u = nI u) → (∀ u, 16 ≤ u → u < i → a1 91 u = -1) → mi_wp X mi_P 3 m_Mo_fold (18, [some (.ref 71), some (.int (nI i)), z2, z3, z4], [], w) Q
  | 0, i, w, a1, hi, h16, HG, h1, h2 => by
    have hi : i = 24 := by omega
    subst hi
    refine mi_s1 (fun _ => rfl) ?_; refine mi_s1 (fun _ => rfl) ?_; refine mi_s1 (fun _ => rfl) ?_
    refine mi_wif (fun _ => ?_) (fun q => absurd (by decide) q)
    refine kk w a1 _ HG (fun u hu => ?_)
    by_cases z : u < 16
    · rw [h1 u z]
      unfold tol
      rw [if_pos z]
      rfl
    · rw [h2 u (by omega) hu, tol_out (by omega) (by omega)]
      rfl
  | f + 1, i, w, a1, hi, h16, HG, h1, h2 => by
    obtain ⟨HM, ha, hG⟩ := HG
    refine mi_s1 (fun _ => rfl) ?_; refine mi_s1 (fun _ => rfl) ?_; refine mi_s1 (fun _ => rfl) ?_
    refine mi_wif (fun z => absurd z (nI_ge (a := i) (b := 24) (by omega) (by omega))) (fun _ => ?_)
    repeat (first | refine mi_s1 (fun _ => rfl) ?_ | refine mi_wgf rfl HM.1 rfl ?_ | refine mi_wal rfl (HM.2.1 _ _ rfl) rfl (by omega) (by decide) ?_ | refine mi_wbl rfl (HM.2.2 _ _ rfl) rfl (by omega) (by decide) ?_)
    refine HM.was rfl rfl rfl (by omega) (fun w HM hF => ?_)
    have hG := hG.tr hF
    refine mi_s1 (fun _ => rfl) ?_; refine mi_s1 (fun _ => rfl) ?_
    rw [show nI i + nI 1 = nI (i + 1) from nI_1 i]
    refine mv_fold_init kk f (i + 1) w _ (by omega) (by omega) ⟨HM, fun o ho => by rw [upA_o (by omega)]; exact ha o ho, hG⟩ (fun u hu => ?_) (fun u q1 q2 => ?_)
    · rw [upA_s, pk_un (by omega)]
      exact h1 u hu
    · rw [upA_s]
      by_cases z : u = i
      · rw [z, pk_us]
      · rw [pk_un z]
        exact h2 u q1 (by omega)
theorem mv_fold (H : Md w S) : mi_Ex X 4 k_Mo_fold [.ref 71] w (fun q w1 => q = some (.int (op_fold S).1) ∧ Md w1 (op_fold S).2 ∧ mi_Fg w w1 71 94) := by
  obtain ⟨a, ls, lt, HM, HF, HR, H6, H7, hn, hs⟩ := id H
  have h4 := HF.2.2.2.1
  have hoc : occ S.F 2 4 = inB lt := funext (fun v => HF.oc v)
  refine mi_Ex.of (M := m_Mo_fold) rfl (Nat.le_of_ble_eq_true rfl) ?_
  repeat (first | refine mi_s1 (fun _ => rfl) ?_ | refine mi_wgf rfl HM.1 rfl ?_ | refine mi_wal rfl (HM.2.1 _ _ rfl) rfl (by omega) (by decide) ?_ | refine mi_wbl rfl (HM.2.2 _ _ rfl) rfl (by omega) (by decide) ?_)
  refine mi_wif (fun z => ?_) (fun z => ?_)
  · have z : S.s = 2 := (nI_eq (a := S.s) (by omega) (by decide)).mp z
    have eo : op_fold S = if (tf S.F (inB lt) 8 16 (fun u => u) 0 false).1 = true then (nI (cts S.F 2 4) - nI (cts (repF S.F (tf S.F (inB lt) 8 16 (fun u => u) 0 false).2.1) 2 4), (repF S.F (tf S.F (inB lt) 8 16 (fun u => u) 0 false).2.1, S.2)) else if (tf S.F (inB lt) 8 16 (fun u => u) 0 false).2.2.2 = true then (-8, S) else (0, S) := by
      unfold op_fold
      rw [if_pos z]
      unfold tfS
      rw [hoc]
    rw [eo]
    obtain ⟨t1, w1, he1, rfl, b1, HM1, hb1, hz1, hG1⟩ := mv_sameTold (X := X) HM
    refine mi_s1 (fun _ => rfl) ?_
    refine mi_wcv rfl rfl (Nat.le_of_ble_eq_true rfl) HM.1 rfl (he1.up (by decide)) ?_
    refine mi_s1 (fun _ => rfl) ?_; refine mi_s1 (fun _ => rfl) ?_
    refine mv_fold_init (w0 := w) (a := a) (lt := lt) (fun w2 a2 z1 H2 hT2 => ?_) 8 16 w1 b1 rfl (by omega) ⟨HM1, fun o ho => hb1 o (by omega), hG1⟩ (fun u hu => hz1 u (by omega)) (fun u q1 q2 => absurd q1 (by omega))
    obtain ⟨HM2, ha2, hG2⟩ := id H2
    clear HM
    have HM := HM2
    (first | refine mi_s1 (fun _ => rfl) ?_ | refine mi_wgf rfl HM.1 rfl ?_ | refine mi_wal rfl (HM.2.1 _ _ rfl) rfl (by omega) (by decide) ?_ | refine mi_wbl rfl (HM.2.2 _ _ rfl) rfl (by omega) (by decide) ?_); (first | refine mi_s1 (fun _ => rfl) ?_ | refine mi_wgf rfl HM.1 rfl ?_ | refine mi_wal rfl (HM.2.1 _ _ rfl) rfl (by omega) (by decide) ?_ | refine mi_wbl rfl (HM.2.2 _ _ rfl) rfl (by omega) (by decide) ?_); (first | refine mi_s1 (fun _ => rfl) ?_ | refine mi_wgf rfl HM.1 rfl ?_ | refine mi_wal rfl (HM.2.1 _ _ rfl) rfl (by omega) (by decide) ?_ | refine mi_wbl rfl (HM.2.2 _ _ rfl) rfl (by omega) (by decide) ?_); (first | refine mi_s1 (fun _ => rfl) ?_ | refine mi_wgf rfl HM.1 rfl ?_ | refine mi_wal rfl (HM.2.1 _ _ rfl) rfl (by omega) (by decide) ?_ | refine mi_wbl rfl (HM.2.2 _ _ rfl) rfl (by omega) (by decide) ?_); (first | refine mi_s1 (fun _ => rfl) ?_ | refine mi_wgf rfl HM.1 rfl ?_ | refine mi_wal rfl (HM.2.1 _ _ rfl) rfl (by omega) (by decide) ?_ | refine mi_wbl rfl (HM.2.2 _ _ rfl) rfl (by omega) (by decide) ?_); (first | refine mi_s1 (fun _ => rfl) ?_ | refine mi_wgf rfl HM.1 rfl ?_ | refine mi_wal rfl (HM.2.1 _ _ rfl) rfl (by omega) (by decide) ?_ | refine mi_wbl rfl (HM.2.2 _ _ rfl) rfl (by omega) (by decide) ?_); (first | refine mi_s1 (fun _ => rfl) ?_ | refine mi_wgf rfl HM.1 rfl ?_ | refine mi_wal rfl (HM.2.1 _ _ rfl) rfl (by omega) (by decide) ?_ | refine mi_wbl rfl (HM.2.2 _ _ rfl) rfl (by omega) (by decide) ?_)
    have hid : IV S.F lt (fun u => u) 16 := ⟨fun _ _ => rfl, fun u _ h => h, fun q hq _ _ => by
      have ho := HF.2.2.2.2.2.1 q hq
      unfold okT at ho
      exact (HF.mem_t ho.1 ho.2.1).mpr hq⟩
    refine mv_fold_level (w0 := w) (a := a) HF 8 16 rfl (by omega) (fun u => u) 0 w2 a2 _ (by omega) hid H2 hT2 (fun w3 a3 z2 z4 hO H3 hT3 hI3 => ?_) (fun hO w3 a3 z2 z3 z4 H3 => ?_) (fun hO hgu w3 a3 z4 H3 hT3 => ?_)
    · rw [if_pos hO]
      obtain ⟨HM3, ha3, hG3⟩ := id H3
      obtain ⟨t4, w4, he4, rfl, ⟨b4, HM4, HF4, hb4⟩, hG4⟩ := mv_replace (X := X) (g := (tf S.F (inB lt) 8 16 (fun u => u) 0 false).2.1) HM3 (HF.cL ha3) (fun q hq => by
        have hin := inB_mem hq
        have h1 := HF.o24 hin.1
        have h2 := HF.o24 hin.2
        rw [hT3 _ h1, hT3 _ h2, tol_in hI3.1 (by omega) hin.1 h1, tol_in hI3.1 (by omega) hin.2 h2]
        exact ⟨⟨rfl, HF.o24 (hI3.2.1 _ h1 hin.1)⟩, rfl, HF.o24 (hI3.2.1 _ h2 hin.2)⟩)
      refine mi_s1 (fun _ => rfl) ?_
      refine mi_wcv rfl rfl (Nat.le_of_ble_eq_true rfl) HM3.1 rfl (he4) ?_
      clear HM
      have HM := HM4
      repeat (first | refine mi_s1 (fun _ => rfl) ?_ | refine mi_wgf rfl HM.1 rfl ?_ | refine mi_wal rfl (HM.2.1 _ _ rfl) rfl (by omega) (by decide) ?_ | refine mi_wbl rfl (HM.2.2 _ _ rfl) rfl (by omega) (by decide) ?_)
      refine mi_r1 (fun _ => rfl) ?_
      rw [HF.cts_t, HF4.cts_t]
      have hc : ∀ o, 75 ≤ o → o < 86 → b4 o = a o := fun o q1 q2 => by
        rw [hb4 o q1]
        exact ha3 o q2
      exact ⟨rfl, ⟨b4, ls, _, HM4, HF4, fun i hi => (HR i hi).congr hc, fun q => (H6 q).congr hc, fun q => (H7 q).congr hc, hn, hs⟩, hG3.tr hG4⟩
    · rw [if_neg (by rw [hO.1]; decide), if_pos hO.2.1]
      obtain ⟨HM3, ha3, hG3⟩ := id H3
      refine mi_s1 (fun _ => rfl) ?_
      refine mi_r1 (fun _ => rfl) ?_
      exact ⟨rfl, Md.scr (w := w) HM3 HF HR H6 H7 hn hs ha3, hG3⟩
    · rw [if_neg (by rw [hO]; decide), if_neg (by rw [hgu]; decide)]
      obtain ⟨HM3, ha3, hG3⟩ := id H3
      refine mi_s1 (fun _ => rfl) ?_; refine mi_s1 (fun _ => rfl) ?_; refine mi_s1 (fun _ => rfl) ?_
      refine mi_wif (fun _ => ?_) (fun z => absurd (by decide) z)
      refine mi_s1 (fun _ => rfl) ?_
      refine mi_r1 (fun _ => rfl) ?_
      exact ⟨rfl, Md.scr (w := w) HM3 HF HR H6 H7 hn hs ha3, hG3⟩
  · have e : op_fold S = (-3, S) := if_neg (fun q => z (show nI S.s = nI 2 by rw [q]))
    rw [e]
    refine mi_s1 (fun _ => rfl) ?_
    refine mi_r1 (fun _ => rfl) ?_
    exact ⟨rfl, H, mi_Fg.rf⟩
end MFold
