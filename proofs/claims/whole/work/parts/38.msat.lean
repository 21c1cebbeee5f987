/-! the model: whether a match is satisfied -/
def Gv (e : Nat → Int32) (V : sp_V) : Prop := (∀ u, u < 4 → e u = enc (V u)) ∧ ∀ u x, u < 4 → V u = some x → x < 24
def MoG (w0 w : mi_H) (a a1 : mo_a) (T : mo_T) : Prop := Mo w a1 T ∧ (∀ o, o ≠ 87 → a1 o = a o) ∧ mi_Fg w0 w 71 94
theorem Gv.up {e : Nat → Int32} {V : sp_V} {v x : Nat} (H : Gv e V) (hx : x < 24) : Gv (upd e v (nI x)) (updS V v (some x)) := by
  refine ⟨fun u hu => ?_, fun u y hu hy => ?_⟩
  · unfold updS
    by_cases z : u = v
    · rw [z, pk_us, if_pos rfl]
      rfl
    · rw [pk_un z, if_neg z]
      exact H.1 u hu
  · unfold updS at hy
    by_cases z : u = v
    · rw [if_pos z] at hy
      cases hy
      exact hx
    · rw [if_neg z] at hy
      exact H.2 u y hu hy
/-- two facts fit with the head -/
def fgB (V : sp_V) (he : List sp_A) (q0 f g : sp_A) : Bool := match ftO V q0 f with
  | some V1 => (match he[1]? with
    | some q1 => (ftO V1 q1 g).isSome
    | none => true)
  | none => false
section MSat
variable {X : mi_X} {w : mi_H} {a : mo_a} {T : mo_T} {ls lt : List sp_A} {F : Nat → Nat → Nat → Bool} {n s : Nat} {ak dr : Bool} {d : Nat} {R : sp_R}
theorem Fm.c87 {b : mo_a} (HF : Fm a ls lt F) (h : ∀ o, o ≠ 87 → b o = a o) : Fm b ls lt F := HF.congr (fun o h1 h2 => h o (by omega))
theorem Rm.c87 {b : mo_a} (HR : Rm a d R) (h : ∀ o, o ≠ 87 → b o = a o) : Rm b d R := HR.congr (fun o h1 h2 => h o (by omega))
theorem mv_give (HM : Mo w a T) {V : sp_V} (HV : Gv (a 87) V) {v x : Nat} (hv : v < 4) (hx : x < 24) : mi_Ex X 1 k_Mo_give [.ref 71, .int (nI v), .int (nI x)] w (fun q w1 => q = some (.int (jb ((gvO V v x).isSome = true))) ∧ ∃ b, MoG w w1 a b T ∧ ∀ V', gvO V v x = some V' → Gv (b 87) V') := by
  have hG : mi_Fg w w 71 94 := mi_Fg.rf
  have yes : (V v = none ∨ V v = some x) → mi_wp X mi_P 0 m_Mo_give (21, [some (.ref 71), some (.int (nI v)), some (.int (nI x))], [], w) (fun q w1 => q = some (.int (jb ((gvO V v x).isSome = true))) ∧ ∃ b, MoG w w1 a b T ∧ ∀ V', gvO V v x = some V' → Gv (b 87) V') := by
    intro h
    have e : gvO V v x = some (updS V v (some x)) := if_pos h
    rw [e]
    repeat (first | refine mi_s1 (fun _ => rfl) ?_ | refine mi_wgf rfl HM.1 rfl ?_ | refine mi_wal rfl (HM.2.1 _ _ rfl) rfl (by omega) (by decide) ?_ | refine mi_wbl rfl (HM.2.2 _ _ rfl) rfl (by omega) (by decide) ?_)
    refine HM.was rfl rfl rfl (by omega) (fun w HM hF => ?_)
    have hG := hG.tr hF
    refine mi_s1 (fun _ => rfl) ?_
    refine mi_wrz rfl rfl rfl ?_
    refine ⟨rfl, _, ⟨HM, fun o ho => upA_o ho, hG⟩, fun V' h => ?_⟩
    cases h
    rw [upA_s]
    exact HV.up hx
  refine mi_Ex.of (M := m_Mo_give) rfl (Nat.le_of_ble_eq_true rfl) ?_
  repeat (first | refine mi_s1 (fun _ => rfl) ?_ | refine mi_wgf rfl HM.1 rfl ?_ | refine mi_wal rfl (HM.2.1 _ _ rfl) rfl (by omega) (by decide) ?_ | refine mi_wbl rfl (HM.2.2 _ _ rfl) rfl (by omega) (by decide) ?_)
  rw [HV.1 v hv]
  cases ev : V v with
  | none =>
    refine mi_wif (fun _ => ?_) (fun z => absurd (by decide) z)
    exact yes (Or.inl ev)
  | some y =>
    have hy := HV.2 v y hv ev
    refine mi_wif (fun z => absurd z (nI_pos (n := y) (by omega))) (fun _ => ?_)
    repeat (first | refine mi_s1 (fun _ => rfl) ?_ | refine mi_wgf rfl HM.1 rfl ?_ | refine mi_wal rfl (HM.2.1 _ _ rfl) rfl (by omega) (by decide) ?_ | refine mi_wbl rfl (HM.2.2 _ _ rfl) rfl (by omega) (by decide) ?_)
    rw [HV.1 v hv, ev]
    refine mi_wif (fun z => ?_) (fun z => ?_)
    · have z : y = x := (nI_eq (by omega) (by omega)).mp z
      exact yes (Or.inr (by rw [ev, z]))
    · have z : ¬ y = x := fun q => z (by show nI y = nI x; rw [q])
      have e : gvO V v x = none := if_neg (fun q => by
        rcases q with q | q
        · rw [ev] at q
          cases q
        · rw [ev] at q
          cases q
          exact z rfl)
      rw [e]
      refine mi_s1 (fun _ => rfl) ?_
      refine mi_wrz rfl rfl rfl ?_
      exact ⟨rfl, a, ⟨HM, fun _ _ => rfl, hG⟩, fun V' h => by cases h⟩
theorem mv_fits (HM : Mo w a (ls.length, lt.length, n, ak, dr, s)) (HF : Fm a ls lt F) (hd : d < 8) (HR : Rm a d R) {V : sp_V} (HV : Gv (a 87) V) {k i c : Nat} {q f : sp_A} (hc : c = 2 * d + k) (hq : R.2.2.1[k]? = some q) (hf : lt[i]? = some f) : mi_Ex X 2 k_Mo_fits [.ref 71, .int (nI c), .int (nI (12 + i))] w (fun r w1 => r = some (.int (jb ((ftO V q f).isSome = true))) ∧ ∃ b, MoG w w1 a b (ls.length, lt.length, n, ak, dr, s) ∧ ∀ V', ftO V q f = some V' → Gv (b 87) V') := by
  subst hc
  have hG : mi_Fg w w 71 94 := mi_Fg.rf
  obtain ⟨-, -, -, -, r5, r6, -, r8, -⟩ := id HR
  obtain ⟨e1, e2, e3, hok⟩ := r8 k q hq
  have o1 := hok.1
  have o2 := hok.2.1
  have o3 := hok.2.2
  have hk := (List.getElem?_eq_some_iff.mp hq).1
  obtain ⟨-, h2, h3, h4, -, h6, -⟩ := id HF
  obtain ⟨g1, g2, g3⟩ := h2 i f hf
  have hi := (List.getElem?_eq_some_iff.mp hf).1
  have hb := h6 f (List.mem_of_getElem? hf)
  unfold okT at hb
  have no : ∀ (w1 : mi_H) (b : mo_a), ftO V q f = none → MoG w w1 a b (ls.length, lt.length, n, ak, dr, s) → mi_wp X mi_P 1 m_Mo_fits (57, [some (.ref 71), some (.int (nI (2 * d + k))), some (.int (nI (12 + i)))], [], w1) (fun r w1 => r = some (.int (jb ((ftO V q f).isSome = true))) ∧ ∃ b, MoG w w1 a b (ls.length, lt.length, n, ak, dr, s) ∧ ∀ V', ftO V q f = some V' → Gv (b 87) V') := by
    intro w1 b e H
    rw [e]
    refine mi_s1 (fun _ => rfl) ?_
    refine mi_wrz rfl rfl rfl ?_
    exact ⟨rfl, b, H, fun V' h => by cases h⟩
  refine mi_Ex.of (M := m_Mo_fits) rfl (Nat.le_of_ble_eq_true rfl) ?_
  repeat (first | refine mi_s1 (fun _ => rfl) ?_ | refine mi_wgf rfl HM.1 rfl ?_ | refine mi_wal rfl (HM.2.1 _ _ rfl) rfl (by omega) (by decide) ?_ | refine mi_wbl rfl (HM.2.2 _ _ rfl) rfl (by omega) (by decide) ?_)
  rw [e1, g1]
  refine mi_wif (fun z => ?_) (fun z => ?_)
  · have z : q.1 = f.1 := (nI_eq (by omega) (by omega)).mp z
    have ef : ftO V q f = (match gvO V q.2.1 f.2.1 with
      | some V1 => gvO V1 q.2.2 f.2.2
      | none => none) := if_pos z
    obtain ⟨t1, w1, he, rfl, b, ⟨HM1, hb1, hG1⟩, hV1⟩ := mv_give (X := X) HM HV (v := q.2.1) (x := f.2.1) (by omega) (by omega)
    repeat (first | refine mi_s1 (fun _ => rfl) ?_ | refine mi_wgf rfl HM.1 rfl ?_ | refine mi_wal rfl (HM.2.1 _ _ rfl) rfl (by omega) (by decide) ?_ | refine mi_wbl rfl (HM.2.2 _ _ rfl) rfl (by omega) (by decide) ?_)
    rw [e2, g2]
    refine mi_wcv rfl rfl (Nat.le_of_ble_eq_true rfl) HM.1 rfl (he) ?_
    refine mi_s1 (fun _ => rfl) ?_
    cases eg : gvO V q.2.1 f.2.1 with
    | none =>
      rw [eg] at ef
      refine mi_wif (fun _ => ?_) (fun z => absurd rfl z)
      exact no w1 b ef ⟨HM1, hb1, hG1⟩
    | some V1 =>
      rw [eg] at ef
      refine mi_wif (fun z => absurd rfl (jb_0.mp z)) (fun _ => ?_)
      have ef : ftO V q f = gvO V1 q.2.2 f.2.2 := ef
      obtain ⟨t2, w2, he2, rfl, b2, ⟨HM2, hb2, hG2⟩, hV2⟩ := mv_give (X := X) HM1 (hV1 V1 eg) (v := q.2.2) (x := f.2.2) (by omega) (by omega)
      have HB : MoG w w2 a b2 (ls.length, lt.length, n, ak, dr, s) := ⟨HM2, fun o ho => by rw [hb2 o ho]; exact hb1 o ho, hG1.tr hG2⟩
      have HM := HM1
      repeat (first | refine mi_s1 (fun _ => rfl) ?_ | refine mi_wgf rfl HM.1 rfl ?_ | refine mi_wal rfl (HM.2.1 _ _ rfl) rfl (by omega) (by decide) ?_ | refine mi_wbl rfl (HM.2.2 _ _ rfl) rfl (by omega) (by decide) ?_)
      rw [hb1 83 (by decide), hb1 74 (by decide), e3, g3]
      refine mi_wcv rfl rfl (Nat.le_of_ble_eq_true rfl) HM1.1 rfl (he2) ?_
      refine mi_s1 (fun _ => rfl) ?_
      cases eg2 : gvO V1 q.2.2 f.2.2 with
      | none =>
        refine mi_wif (fun _ => ?_) (fun z => absurd rfl z)
        exact no w2 b2 (by rw [ef]; exact eg2) HB
      | some V2 =>
        refine mi_wif (fun z => absurd rfl (jb_0.mp z)) (fun _ => ?_)
        rw [ef, eg2]
        refine mi_s1 (fun _ => rfl) ?_; refine mi_s1 (fun _ => rfl) ?_
        refine mi_wrz rfl rfl rfl ?_
        exact ⟨rfl, b2, HB, fun V' h => by cases h; exact hV2 V2 eg2⟩
  · have z : ¬ q.1 = f.1 := fun h => z (by rw [h])
    exact no w a (if_neg z) ⟨HM, fun _ _ => rfl, hG⟩
theorem mv_begin_loop {w0 : mi_H} (hd : d < 8) (HR : Rm a d R) {m : Nat → Nat} (hm : ∀ u, u < 4 → a 86 u = nI (m u) ∧ m u < 24) : ∀ f i (w : mi_H) (a1 : mo_a), i + f = 4 → MoG w0 w a a1 T → (∀ u, u < i → a1 87 u = enc (tv R.2.1 4 m u)) → mi_wp X mi_P 1 m_Mo_begin (2, [some (.ref 71), some (.int (nI d)), some (.int (nI i))], [], w) (fun q w1 => q = none ∧ ∃ b, MoG w0 w1 a b T ∧ Gv (b 87) (tv R.2.1 4 m))
  | 0, i, w, a1, hi, HG, hz => by
    have hi : i = 4 := by omega
    subst hi
    refine mi_s1 (fun _ => rfl) ?_; refine mi_s1 (fun _ => rfl) ?_; refine mi_s1 (fun _ => rfl) ?_
    refine mi_wif (fun _ => ?_) (fun q => absurd (by decide) q)
    refine mi_r1 (fun _ => rfl) ?_
    refine ⟨rfl, a1, HG, hz, fun u x hu hx => ?_⟩
    unfold tv at hx
    split at hx
    · cases hx
      exact (hm u hu).2
    · cases hx
  | f + 1, i, w, a1, hi, HG, hz => by
    obtain ⟨HM, ha, hG⟩ := HG
    have go : ∀ x, x = enc (tv R.2.1 4 m i) → mi_wp X mi_P 1 m_Mo_begin (31, [some (.ref 71), some (.int (nI d)), some (.int (nI i))], [.int x, .int (nI i), .ref 87], w) (fun q w1 => q = none ∧ ∃ b, MoG w0 w1 a b T ∧ Gv (b 87) (tv R.2.1 4 m)) := by
      intro x hx
      subst hx
      refine HM.was rfl rfl rfl (by omega) (fun w HM hF => ?_)
      have hG := hG.tr hF
      refine mi_s1 (fun _ => rfl) ?_; refine mi_s1 (fun _ => rfl) ?_
      rw [show nI i + nI 1 = nI (i + 1) from nI_1 i]
      refine mv_begin_loop hd HR hm f (i + 1) w _ (by omega) ⟨HM, fun o ho => by rw [upA_o ho]; exact ha o ho, hG⟩ (fun u hu => ?_)
      rw [upA_s]
      by_cases z : u = i
      · rw [z, pk_us]
      · rw [pk_un z]
        exact hz u (by omega)
    refine mi_s1 (fun _ => rfl) ?_; refine mi_s1 (fun _ => rfl) ?_; refine mi_s1 (fun _ => rfl) ?_
    refine mi_wif (fun z => absurd z (nI_ge (a := i) (b := 4) (by omega) (by omega))) (fun _ => ?_)
    repeat (first | refine mi_s1 (fun _ => rfl) ?_ | refine mi_wgf rfl HM.1 rfl ?_ | refine mi_wal rfl (HM.2.1 _ _ rfl) rfl (by omega) (by decide) ?_ | refine mi_wbl rfl (HM.2.2 _ _ rfl) rfl (by omega) (by decide) ?_)
    refine mi_wcv rfl rfl (Nat.le_of_ble_eq_true rfl) HM.1 rfl (mv_inBody HM hd (HR.c87 ha) (by omega)) ?_
    refine mi_s1 (fun _ => rfl) ?_
    refine mi_wif (fun z => ?_) (fun z => ?_)
    · have z : inB R.2.1 i = false := by simpa using jb_0.mp z
      refine mi_s1 (fun _ => rfl) ?_
      refine go _ ?_
      unfold tv
      rw [if_neg (by rw [z]; simp)]
      rfl
    · have z := Decidable.not_not.mp (fun q => z (jb_0.mpr q))
      (first | refine mi_s1 (fun _ => rfl) ?_ | refine mi_wgf rfl HM.1 rfl ?_ | refine mi_wal rfl (HM.2.1 _ _ rfl) rfl (by omega) (by decide) ?_ | refine mi_wbl rfl (HM.2.2 _ _ rfl) rfl (by omega) (by decide) ?_); (first | refine mi_s1 (fun _ => rfl) ?_ | refine mi_wgf rfl HM.1 rfl ?_ | refine mi_wal rfl (HM.2.1 _ _ rfl) rfl (by omega) (by decide) ?_ | refine mi_wbl rfl (HM.2.2 _ _ rfl) rfl (by omega) (by decide) ?_); (first | refine mi_s1 (fun _ => rfl) ?_ | refine mi_wgf rfl HM.1 rfl ?_ | refine mi_wal rfl (HM.2.1 _ _ rfl) rfl (by omega) (by decide) ?_ | refine mi_wbl rfl (HM.2.2 _ _ rfl) rfl (by omega) (by decide) ?_); (first | refine mi_s1 (fun _ => rfl) ?_ | refine mi_wgf rfl HM.1 rfl ?_ | refine mi_wal rfl (HM.2.1 _ _ rfl) rfl (by omega) (by decide) ?_ | refine mi_wbl rfl (HM.2.2 _ _ rfl) rfl (by omega) (by decide) ?_); (first | refine mi_s1 (fun _ => rfl) ?_ | refine mi_wgf rfl HM.1 rfl ?_ | refine mi_wal rfl (HM.2.1 _ _ rfl) rfl (by omega) (by decide) ?_ | refine mi_wbl rfl (HM.2.2 _ _ rfl) rfl (by omega) (by decide) ?_)
      refine go _ ?_
      rw [tv_some (by omega) z, ha 86 (by decide)]
      exact (hm i (by omega)).1
theorem mv_begin (HM : Mo w a T) (hd : d < 8) (HR : Rm a d R) {m : Nat → Nat} (hm : ∀ u, u < 4 → a 86 u = nI (m u) ∧ m u < 24) : mi_Ex X 2 k_Mo_begin [.ref 71, .int (nI d)] w (fun q w1 => q = none ∧ ∃ b, MoG w w1 a b T ∧ Gv (b 87) (tv R.2.1 4 m)) := by
  refine mi_Ex.of (M := m_Mo_begin) rfl (Nat.le_of_ble_eq_true rfl) ?_
  refine mi_s1 (fun _ => rfl) ?_; refine mi_s1 (fun _ => rfl) ?_
  exact mv_begin_loop hd HR hm 4 0 w a rfl ⟨HM, fun _ _ => rfl, mi_Fg.rf⟩ (fun u hu => absurd hu (Nat.not_lt_zero u))
/-- satisfied, by facts one after another -/
theorem satM_fg (HF : Fm a ls lt F) {m : Nat → Nat} {q0 : sp_A} (hk : R.1 = 0) (h0 : R.2.2.1[0]? = some q0) (hl : R.2.2.1.length ≤ 2) (ht : ∀ q ∈ R.2.2.1, 2 ≤ q.1 ∧ q.1 < 6) : satM F R m ↔ ∃ f ∈ lt, ∃ g ∈ lt, fgB (tv R.2.1 4 m) R.2.2.1 q0 f g = true := by
  unfold satM
  rw [if_pos hk]
  have m0 := ht q0 (List.mem_of_getElem? h0)
  constructor
  · rintro ⟨W, h1, h2⟩
    have f0 := (HF.mem_t m0.1 m0.2).mp (h2 q0 (List.mem_of_getElem? h0))
    obtain ⟨V1, e1, x1⟩ := ftO_iff.mpr ⟨h1, rfl⟩
    refine ⟨_, f0, ?_⟩
    unfold fgB
    rw [e1]
    cases e : R.2.2.1[1]? with
    | none => exact ⟨_, f0, rfl⟩
    | some q1 =>
      have hm1 := List.mem_of_getElem? e
      obtain ⟨V2, e2, -⟩ := ftO_iff.mpr ⟨x1, rfl⟩
      refine ⟨_, (HF.mem_t (ht q1 hm1).1 (ht q1 hm1).2).mp (h2 q1 hm1), ?_⟩
      show (ftO V1 q1 _).isSome = true
      rw [e2]
      rfl
  · rintro ⟨f, hf, g, hg, h⟩
    unfold fgB at h
    cases e1 : ftO (tv R.2.1 4 m) q0 f with
    | none =>
      rw [e1] at h
      cases h
    | some V1 =>
      rw [e1] at h
      have all : ∀ W, exW V1 W → (∀ q1, R.2.2.1[1]? = some q1 → (q1.1, W q1.2.1, W q1.2.2) = g) → ∃ W, exW (tv R.2.1 4 m) W ∧ ∀ q ∈ R.2.2.1, F q.1 (W q.2.1) (W q.2.2) = true := by
        intro W x1 hq1
        obtain ⟨x0, ef⟩ := ftO_iff.mp ⟨V1, e1, x1⟩
        refine ⟨W, x0, fun q hq => ?_⟩
        obtain ⟨k, hk⟩ := List.mem_iff_getElem?.mp hq
        have hkl := (List.getElem?_eq_some_iff.mp hk).1
        have : k = 0 ∨ k = 1 := by omega
        rcases this with rfl | rfl
        · rw [h0] at hk
          cases hk
          rw [HF.mem_t m0.1 m0.2, ef]
          exact hf
        · have := ht q hq
          rw [HF.mem_t this.1 this.2, hq1 q hk]
          exact hg
      cases e : R.2.2.1[1]? with
      | none => exact all _ (exW_ex V1) (fun q1 h => by rw [e] at h; cases h)
      | some q1 =>
        rw [e] at h
        have h : (ftO V1 q1 g).isSome = true := h
        cases e2 : ftO V1 q1 g with
        | none =>
          rw [e2] at h
          cases h
        | some V2 =>
          obtain ⟨x1, eg⟩ := ftO_iff.mp ⟨V2, e2, exW_ex V2⟩
          exact all _ x1 (fun q h => by rw [e] at h; cases h; exact eg)
theorem mv_sat_loops {w0 : mi_H} (HF : Fm a ls lt F) (hd : d < 8) (HR : Rm a d R) {m : Nat → Nat} (hm : ∀ u, u < 4 → a 86 u = nI (m u) ∧ m u < 24) {q0 : sp_A} (h0 : R.2.2.1[0]? = some q0) {sv : Bool} (hsv : sv = true ↔ ∃ f ∈ lt, ∃ g ∈ lt, fgB (tv R.2.1 4 m) R.2.2.1 q0 f g = true) : ∀ fo i (w : mi_H) (a1 : mo_a) (z3 z4 z5 : Option Value), i + fo = lt.length → MoG w0 w a a1 (ls.length, lt.length, n, ak, dr, s) → (∀ (i' : Nat) f g, i' < i → lt[i']? = some f → g ∈ lt → fgB (tv R.2.1 4 m) R.2.2.1 q0 f g = false) → mi_wp X mi_P 2 m_Mo_satisfied (44, [some (.ref 71), some (.int (nI d)), some (.int (nI (12 + i))), z3, z4, z5], [], w) (fun q w1 => q = some (.int (jb (sv = true))) ∧ ∃ b, MoG w0 w1 a b (ls.length, lt.length, n, ak, dr, s)) := by
  intro fo
  have h4 := HF.2.2.2.1
  induction fo with
  | zero =>
    intro i w a1 z3 z4 z5 hi HG hno
    obtain ⟨HM, ha, hG⟩ := id HG
    repeat (first | refine mi_s1 (fun _ => rfl) ?_ | refine mi_wgf rfl HM.1 rfl ?_ | refine mi_wal rfl (HM.2.1 _ _ rfl) rfl (by omega) (by decide) ?_ | refine mi_wbl rfl (HM.2.2 _ _ rfl) rfl (by omega) (by decide) ?_)
    rw [nI_add]
    refine mi_wif (fun _ => ?_) (fun z => absurd (nI_le (a := 12 + lt.length) (b := 12 + i) (by omega) (by omega)) z)
    refine mi_s1 (fun _ => rfl) ?_
    refine mi_wrz rfl rfl rfl ?_
    refine ⟨?_, a1, HG⟩
    have : ¬ sv = true := fun q => by
      obtain ⟨f, hf, g, hg, e⟩ := hsv.mp q
      obtain ⟨i', hi'⟩ := List.mem_iff_getElem?.mp hf
      have := (List.getElem?_eq_some_iff.mp hi').1
      rw [hno i' f g (by omega) hi' hg] at e
      cases e
    rw [show jb (sv = true) = 0 from if_neg this]
    rfl
  | succ fo ih =>
    intro i w a1 z3 z4 z5 hi HG hno
    obtain ⟨HM, ha, hG⟩ := id HG
    repeat (first | refine mi_s1 (fun _ => rfl) ?_ | refine mi_wgf rfl HM.1 rfl ?_ | refine mi_wal rfl (HM.2.1 _ _ rfl) rfl (by omega) (by decide) ?_ | refine mi_wbl rfl (HM.2.2 _ _ rfl) rfl (by omega) (by decide) ?_)
    rw [nI_add]
    refine mi_wif (fun z => absurd z (nI_ge (a := 12 + i) (b := 12 + lt.length) (by omega) (by omega))) (fun _ => ?_)
    refine mi_s1 (fun _ => rfl) ?_; refine mi_s1 (fun _ => rfl) ?_
    obtain ⟨f, hf, -⟩ := drop_at (l := lt) (i := i) (by omega)
    have hfm := List.mem_of_getElem? hf
    have inner : ∀ fj j (w : mi_H) (a1 : mo_a) (z4 z5 : Option Value), j + fj = lt.length → MoG w0 w a a1 (ls.length, lt.length, n, ak, dr, s) → (∀ (j' : Nat) g, j' < j → lt[j']? = some g → fgB (tv R.2.1 4 m) R.2.2.1 q0 f g = false) → mi_wp X mi_P 2 m_Mo_satisfied (58, [some (.ref 71), some (.int (nI d)), some (.int (nI (12 + i))), some (.int (nI (12 + j))), z4, z5], [], w) (fun q w1 => q = some (.int (jb (sv = true))) ∧ ∃ b, MoG w0 w1 a b (ls.length, lt.length, n, ak, dr, s)) := by
      intro fj
      induction fj with
      | zero =>
        intro j w a1 z4 z5 hj HG hnoj
        obtain ⟨HM, ha, hG⟩ := id HG
        repeat (first | refine mi_s1 (fun _ => rfl) ?_ | refine mi_wgf rfl HM.1 rfl ?_ | refine mi_wal rfl (HM.2.1 _ _ rfl) rfl (by omega) (by decide) ?_ | refine mi_wbl rfl (HM.2.2 _ _ rfl) rfl (by omega) (by decide) ?_)
        rw [nI_add]
        refine mi_wif (fun _ => ?_) (fun z => absurd (nI_le (a := 12 + lt.length) (b := 12 + j) (by omega) (by omega)) z)
        refine mi_s1 (fun _ => rfl) ?_; refine mi_s1 (fun _ => rfl) ?_
        rw [show nI (12 + i) + nI 1 = nI (12 + (i + 1)) from nI_1 (12 + i)]
        refine ih (i + 1) w a1 _ _ _ (by omega) HG (fun i' f' g h1 h2 h3 => ?_)
        by_cases z : i' = i
        · subst z
          rw [hf] at h2
          cases h2
          obtain ⟨j', hj'⟩ := List.mem_iff_getElem?.mp h3
          have := (List.getElem?_eq_some_iff.mp hj').1
          exact hnoj j' g (by omega) hj'
        · exact hno i' f' g (by omega) h2 h3
      | succ fj ihj =>
        intro j w a1 z4 z5 hj HG hnoj
        obtain ⟨HM, ha, hG⟩ := id HG
        obtain ⟨g, hg, -⟩ := drop_at (l := lt) (i := j) (by omega)
        have hgm := List.mem_of_getElem? hg
        obtain ⟨r1, w1, he1, rfl, b1, ⟨HM1, hb1, hG1⟩, HV1⟩ := mv_begin (X := X) HM hd (HR.c87 ha) (m := m) (fun u hu => by rw [ha 86 (by decide)]; exact hm u hu)
        have ha1 : ∀ o, o ≠ 87 → b1 o = a o := fun o ho => by rw [hb1 o ho]; exact ha o ho
        obtain ⟨r2, w2, he2, rfl, b2, ⟨HM2, hb2, hG2⟩, HV2⟩ := mv_fits (X := X) HM1 (HF.c87 ha1) hd (HR.c87 ha1) HV1 (k := 0) (i := i) (c := 2 * d) rfl h0 hf
        have ha2 : ∀ o, o ≠ 87 → b2 o = a o := fun o ho => by rw [hb2 o ho]; exact ha1 o ho
        have hGG2 := (hG.tr hG1).tr hG2
        have no : ∀ (w1 : mi_H) (b : mo_a) z4, fgB (tv R.2.1 4 m) R.2.2.1 q0 f g = false → MoG w0 w1 a b (ls.length, lt.length, n, ak, dr, s) → mi_wp X mi_P 2 m_Mo_satisfied (116, [some (.ref 71), some (.int (nI d)), some (.int (nI (12 + i))), some (.int (nI (12 + j))), z4, z5], [], w1) (fun q w1 => q = some (.int (jb (sv = true))) ∧ ∃ b, MoG w0 w1 a b (ls.length, lt.length, n, ak, dr, s)) := by
          intro w1 b z4 e H
          refine mi_s1 (fun _ => rfl) ?_; refine mi_s1 (fun _ => rfl) ?_; refine mi_s1 (fun _ => rfl) ?_; refine mi_s1 (fun _ => rfl) ?_
          refine mi_wif (fun _ => ?_) (fun z => absurd rfl z)
          refine mi_s1 (fun _ => rfl) ?_; refine mi_s1 (fun _ => rfl) ?_
          rw [show nI (12 + j) + nI 1 = nI (12 + (j + 1)) from nI_1 (12 + j)]
          refine ihj (j + 1) w1 b _ _ (by omega) H (fun j' g' h1 h2 => ?_)
          by_cases z : j' = j
          · subst z
            rw [hg] at h2
            cases h2
            exact e
          · exact hnoj j' g' (by omega) h2
        have yes : ∀ (w1 : mi_H) (b : mo_a) z4, fgB (tv R.2.1 4 m) R.2.2.1 q0 f g = true → MoG w0 w1 a b (ls.length, lt.length, n, ak, dr, s) → mi_wp X mi_P 2 m_Mo_satisfied (112, [some (.ref 71), some (.int (nI d)), some (.int (nI (12 + i))), some (.int (nI (12 + j))), z4, z5], [], w1) (fun q w1 => q = some (.int (jb (sv = true))) ∧ ∃ b, MoG w0 w1 a b (ls.length, lt.length, n, ak, dr, s)) := by
          intro w1 b z4 e H
          refine mi_s1 (fun _ => rfl) ?_; refine mi_s1 (fun _ => rfl) ?_; refine mi_s1 (fun _ => rfl) ?_; refine mi_s1 (fun _ => rfl) ?_; refine mi_s1 (fun _ => rfl) ?_
          refine mi_wif (fun z => absurd z (by decide)) (fun _ => ?_)
          refine mi_s1 (fun _ => rfl) ?_
          refine mi_wrz rfl rfl rfl ?_
          refine ⟨?_, b, H⟩
          rw [show jb (sv = true) = 1 from if_pos (hsv.mpr ⟨f, hfm, g, hgm, e⟩)]
          rfl
        repeat (first | refine mi_s1 (fun _ => rfl) ?_ | refine mi_wgf rfl HM.1 rfl ?_ | refine mi_wal rfl (HM.2.1 _ _ rfl) rfl (by omega) (by decide) ?_ | refine mi_wbl rfl (HM.2.2 _ _ rfl) rfl (by omega) (by decide) ?_)
        rw [nI_add]
        refine mi_wif (fun z => absurd z (nI_ge (a := 12 + j) (b := 12 + lt.length) (by omega) (by omega))) (fun _ => ?_)
        refine mi_s1 (fun _ => rfl) ?_; refine mi_s1 (fun _ => rfl) ?_
        refine mi_wcv rfl rfl (Nat.le_of_ble_eq_true rfl) HM.1 rfl (he1) ?_
        refine mi_s1 (fun _ => rfl) ?_; refine mi_s1 (fun _ => rfl) ?_; refine mi_s1 (fun _ => rfl) ?_; refine mi_s1 (fun _ => rfl) ?_; refine mi_s1 (fun _ => rfl) ?_
        rw [pk_mul]
        refine mi_wcv rfl rfl (Nat.le_of_ble_eq_true rfl) HM1.1 rfl (he2) ?_
        refine mi_s1 (fun _ => rfl) ?_; refine mi_s1 (fun _ => rfl) ?_; refine mi_s1 (fun _ => rfl) ?_
        cases e1 : ftO (tv R.2.1 4 m) q0 f with
        | none =>
          refine mi_wif (fun _ => ?_) (fun z => absurd rfl z)
          exact no w2 b2 _ (by unfold fgB; rw [e1]) ⟨HM2, ha2, hGG2⟩
        | some V1 =>
          refine mi_wif (fun z => absurd rfl (jb_0.mp z)) (fun _ => ?_)
          have HM := HM2
          obtain ⟨-, -, -, -, r5, r6, -, r8, -⟩ := id HR
          repeat (first | refine mi_s1 (fun _ => rfl) ?_ | refine mi_wgf rfl HM.1 rfl ?_ | refine mi_wal rfl (HM.2.1 _ _ rfl) rfl (by omega) (by decide) ?_ | refine mi_wbl rfl (HM.2.2 _ _ rfl) rfl (by omega) (by decide) ?_)
          rw [ha2 80 (by decide), r5]
          cases e2 : R.2.2.1[1]? with
          | none =>
            have hl : R.2.2.1.length < 2 := by
              have := List.getElem?_eq_none_iff.mp e2
              omega
            refine mi_wif (fun _ => ?_) (fun z => absurd (nI_lt hl (by decide)) z)
            exact yes w2 b2 _ (by unfold fgB; rw [e1, e2]) ⟨HM2, ha2, hGG2⟩
          | some q1 =>
            have hl := (List.getElem?_eq_some_iff.mp e2).1
            refine mi_wif (fun z => absurd ((nI_ltI (by omega) (by decide)).mp z) (by omega)) (fun _ => ?_)
            obtain ⟨r3, w3, he3, rfl, b3, ⟨HM3, hb3, hG3⟩, HV3⟩ := mv_fits (X := X) HM2 (HF.c87 ha2) hd (HR.c87 ha2) (HV2 V1 e1) (k := 1) (i := j) (c := 2 * d + 1) rfl e2 hg
            have ha3 : ∀ o, o ≠ 87 → b3 o = a o := fun o ho => by rw [hb3 o ho]; exact ha2 o ho
            have hGG3 := hGG2.tr hG3
            refine mi_s1 (fun _ => rfl) ?_; refine mi_s1 (fun _ => rfl) ?_; refine mi_s1 (fun _ => rfl) ?_; refine mi_s1 (fun _ => rfl) ?_; refine mi_s1 (fun _ => rfl) ?_; refine mi_s1 (fun _ => rfl) ?_; refine mi_s1 (fun _ => rfl) ?_
            rw [pk_mul, nI_add]
            refine mi_wcv rfl rfl (Nat.le_of_ble_eq_true rfl) HM2.1 rfl (he3) ?_
            refine mi_s1 (fun _ => rfl) ?_
            cases e3 : ftO V1 q1 g with
            | none =>
              refine mi_wif (fun _ => ?_) (fun z => absurd rfl z)
              exact no w3 b3 _ (by unfold fgB; rw [e1, e2]; show (ftO V1 q1 g).isSome = false; rw [e3]; rfl) ⟨HM3, ha3, hGG3⟩
            | some V2 =>
              refine mi_wif (fun z => absurd rfl (jb_0.mp z)) (fun _ => ?_)
              exact yes w3 b3 _ (by unfold fgB; rw [e1, e2]; show (ftO V1 q1 g).isSome = true; rw [e3]; rfl) ⟨HM3, ha3, hGG3⟩
    exact inner lt.length 0 w a1 _ _ (by omega) HG (fun j' g h => absurd h (Nat.not_lt_zero j'))
theorem csn0 {as : List sp_A} (h : csn as = 0) (hb : ∀ q ∈ as, okA q) : ∀ q ∈ as, 2 ≤ q.1 ∧ q.1 < 6 := by
  intro q hq
  unfold csn at h
  rw [List.countP_eq_zero] at h
  have := h q hq
  exact ⟨by simpa using this, (hb q hq).1⟩
theorem Rm.okH (HR : Rm a d R) : ∀ q ∈ R.2.2.1, okA q := by
  intro q hq
  obtain ⟨k, hk⟩ := List.mem_iff_getElem?.mp hq
  obtain ⟨-, -, -, -, -, -, -, r8, -⟩ := HR
  exact (r8 k q hk).2.2.2
theorem mv_satisfied (HM : Mo w a (ls.length, lt.length, n, ak, dr, s)) (HF : Fm a ls lt F) (hd : d < 8) (HR : Rm a d R) (hk2 : R.1 < 2) (hf : faultR R = 0) {m : Nat → Nat} (hm : ∀ u, u < 4 → a 86 u = nI (m u) ∧ m u < 24) : mi_Ex X 3 k_Mo_satisfied [.ref 71, .int (nI d)] w (fun q w1 => q = some (.int (jb (satV F R (tv R.2.1 (stR R) m) = true))) ∧ ∃ b, MoG w w1 a b (ls.length, lt.length, n, ak, dr, s)) := by
  have hG : mi_Fg w w 71 94 := mi_Fg.rf
  obtain ⟨-, f2, f3, -, f5, f6⟩ := fault0 hf
  have hsi := satV_iff HF.b24 HR.okH f3 f6 m
  obtain ⟨r1, r2, r3, r4, r5, r6, r7, r8, r9, r10, r11, -⟩ := id HR
  refine mi_Ex.of (M := m_Mo_satisfied) rfl (Nat.le_of_ble_eq_true rfl) ?_
  repeat (first | refine mi_s1 (fun _ => rfl) ?_ | refine mi_wgf rfl HM.1 rfl ?_ | refine mi_wal rfl (HM.2.1 _ _ rfl) rfl (by omega) (by decide) ?_ | refine mi_wbl rfl (HM.2.2 _ _ rfl) rfl (by omega) (by decide) ?_)
  rw [r1]
  refine mi_wif (fun z => ?_) (fun z => ?_)
  · have z : R.1 = 1 := (nI_eq (by omega) (by decide)).mp z
    unfold satM at hsi
    rw [if_neg (by omega)] at hsi
    cases e : R.2.2.2 with
    | none => exact absurd e (f3 (by omega))
    | some p =>
      obtain ⟨v, u⟩ := p
      obtain ⟨hv, hu⟩ := r11 v u e
      have e84 : a 84 d = nI v := by rw [r9, e]; rfl
      have e85 : a 85 d = nI u := by rw [r10, e]; rfl
      repeat (first | refine mi_s1 (fun _ => rfl) ?_ | refine mi_wgf rfl HM.1 rfl ?_ | refine mi_wal rfl (HM.2.1 _ _ rfl) rfl (by omega) (by decide) ?_ | refine mi_wbl rfl (HM.2.2 _ _ rfl) rfl (by omega) (by decide) ?_)
      rw [e84]
      repeat (first | refine mi_s1 (fun _ => rfl) ?_ | refine mi_wgf rfl HM.1 rfl ?_ | refine mi_wal rfl (HM.2.1 _ _ rfl) rfl (by omega) (by decide) ?_ | refine mi_wbl rfl (HM.2.2 _ _ rfl) rfl (by omega) (by decide) ?_)
      rw [e85]
      repeat (first | refine mi_s1 (fun _ => rfl) ?_ | refine mi_wgf rfl HM.1 rfl ?_ | refine mi_wal rfl (HM.2.1 _ _ rfl) rfl (by omega) (by decide) ?_ | refine mi_wbl rfl (HM.2.2 _ _ rfl) rfl (by omega) (by decide) ?_)
      rw [(hm v hv).1, (hm u hu).1]
      have m1 := (hm v hv).2
      have m2 := (hm u hu).2
      refine mi_wif (fun z2 => ?_) (fun z2 => ?_)
      · have z2 := (nI_eq (by omega) (by omega)).mp z2
        refine mi_s1 (fun _ => rfl) ?_; refine mi_s1 (fun _ => rfl) ?_
        refine mi_wrz rfl rfl rfl ?_
        rw [show jb (satV F R (tv R.2.1 (stR R) m) = true) = 1 from if_pos (hsi.mpr ⟨v, u, e, z2⟩)]
        exact ⟨rfl, a, HM, fun _ _ => rfl, hG⟩
      · have z2 : ¬ m v = m u := fun q => z2 (by rw [q])
        refine mi_s1 (fun _ => rfl) ?_
        refine mi_wrz rfl rfl rfl ?_
        rw [show jb (satV F R (tv R.2.1 (stR R) m) = true) = 0 from if_neg (fun q => by
          obtain ⟨v', u', e', h⟩ := hsi.mp q
          rw [e] at e'
          cases e'
          exact z2 h)]
        exact ⟨rfl, a, HM, fun _ _ => rfl, hG⟩
  · have z : R.1 = 0 := by
      have : R.1 ≠ 1 := fun q => z (by rw [q])
      omega
    cases e0 : R.2.2.1[0]? with
    | none =>
      have := List.getElem?_eq_none_iff.mp e0
      exact absurd (List.eq_nil_of_length_eq_zero (by omega)) (f2 z)
    | some q0 =>
      have hfg := satM_fg HF (m := m) z e0 r6 (csn0 f5 HR.okH)
      rw [hfg] at hsi
      refine mi_s1 (fun _ => rfl) ?_; refine mi_s1 (fun _ => rfl) ?_
      exact mv_sat_loops HF hd HR hm e0 hsi lt.length 0 w a _ _ _ (by omega) ⟨HM, fun _ _ => rfl, hG⟩ (fun i' f g h => absurd h (Nat.not_lt_zero i'))
end MSat
