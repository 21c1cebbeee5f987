/-! the model: facts told anew, values made equal -/
theorem adl_mem {l : List sp_A} {q p : sp_A} : p ∈ adl l q ↔ p ∈ l ∨ p = q := by
  unfold adl
  by_cases h : q ∈ l
  · rw [if_pos h]
    constructor
    · exact Or.inl
    · rintro (z | z)
      · exact z
      · rw [z]
        exact h
  · rw [if_neg h, List.mem_append, List.mem_singleton]
theorem adl_len (l : List sp_A) (q : sp_A) : (adl l q).length ≤ l.length + 1 := by
  unfold adl
  split
  · omega
  · rw [List.length_append]
    exact Nat.le_refl _
theorem fold_adl_mem : ∀ (k l : List sp_A) (p : sp_A), p ∈ k.foldl adl l ↔ p ∈ l ∨ p ∈ k
  | [], l, p => by simp
  | q :: k, l, p => by
    rw [List.foldl_cons, fold_adl_mem k (adl l q) p, adl_mem, List.mem_cons, or_assoc]
def imA (g : Nat → Nat) (q : sp_A) : sp_A := (q.1, g q.2.1, g q.2.2)
def rpl (g : Nat → Nat) (lt : List sp_A) : List sp_A := (lt.map (imA g)).foldl adl []
theorem fold_adl_len : ∀ (k l : List sp_A), (k.foldl adl l).length ≤ l.length + k.length
  | [], l => by simp
  | q :: k, l => by
    have h1 := fold_adl_len k (adl l q)
    have h2 := adl_len l q
    rw [List.foldl_cons, List.length_cons]
    omega
theorem rpl_mem {g : Nat → Nat} {lt : List sp_A} {p : sp_A} : p ∈ rpl g lt ↔ ∃ q ∈ lt, imA g q = p := by
  unfold rpl
  rw [fold_adl_mem, List.mem_map]
  simp
/-- the facts of two lists -/
def FL (ls lt : List sp_A) : Nat → Nat → Nat → Bool := fun r x y => decide ((r, x, y) ∈ ls ∨ (r, x, y) ∈ lt)
theorem Fm.of {a : mo_a} {ls lt : List sp_A} {F G : Nat → Nat → Nat → Bool} (HF : Fm a ls lt F) (h : ∀ r x y, r < 6 → (G r x y = true ↔ (r, x, y) ∈ ls ∨ (r, x, y) ∈ lt)) : Fm a ls lt G := ⟨HF.1, HF.2.1, HF.2.2.1, HF.2.2.2.1, HF.2.2.2.2.1, HF.2.2.2.2.2.1, HF.2.2.2.2.2.2.1, HF.2.2.2.2.2.2.2.1, h⟩
theorem Fm.fl {a : mo_a} {ls lt : List sp_A} {F : Nat → Nat → Nat → Bool} (HF : Fm a ls lt F) : Fm a ls lt (FL ls lt) := HF.of (fun r x y _ => by unfold FL; rw [decide_eq_true_iff])
theorem acc_iff {G : Nat → Nat → Bool} {mp : Nat → Nat} {x y : Nat} : acc G mp 24 x y = true ↔ ∃ a b, a < 24 ∧ b < 24 ∧ G a b = true ∧ x = mp a ∧ y = mp b := by
  unfold acc
  rw [List.any_eq_true]
  constructor
  · rintro ⟨a, ha, h⟩
    rw [Bool.and_eq_true, List.any_eq_true] at h
    obtain ⟨h1, b, hb, h2⟩ := h
    rw [Bool.and_eq_true] at h2
    exact ⟨a, b, List.mem_range.mp ha, List.mem_range.mp hb, h2.1, of_decide_eq_true h1, of_decide_eq_true h2.2⟩
  · rintro ⟨a, b, ha, hb, h1, h2, h3⟩
    refine ⟨a, List.mem_range.mpr ha, ?_⟩
    rw [Bool.and_eq_true, List.any_eq_true]
    refine ⟨decide_eq_true h2, b, List.mem_range.mpr hb, ?_⟩
    rw [Bool.and_eq_true]
    exact ⟨h1, decide_eq_true h3⟩
theorem Fm.rep {a b : mo_a} {ls lt : List sp_A} {F : Nat → Nat → Nat → Bool} {g : Nat → Nat} (HF : Fm a ls lt F) (HB : Fm b ls (rpl g lt) (FL ls (rpl g lt))) : Fm b ls (rpl g lt) (repF F g) := by
  refine HB.of (fun r x y hr => ?_)
  unfold repF
  by_cases z : 2 ≤ r ∧ r < 6
  · rw [if_pos z, acc_iff, rpl_mem]
    constructor
    · rintro ⟨a', b', -, -, h, rfl, rfl⟩
      exact Or.inr ⟨(r, a', b'), (HF.mem_t z.1 z.2).mp h, rfl⟩
    · rintro (h | ⟨q, hq, e⟩)
      · exact absurd (HF.2.2.2.2.1 _ h).1 (by show ¬ r < 2; omega)
      · have hb := HF.2.2.2.2.2.1 q hq
        unfold okT at hb
        unfold imA at e
        cases e
        exact ⟨q.2.1, q.2.2, by omega, by omega, (HF.mem_t z.1 z.2).mpr hq, rfl, rfl⟩
  · rw [if_neg z, HF.2.2.2.2.2.2.2.2 r x y hr]
    constructor
    · rintro (h | h)
      · exact Or.inl h
      · exact absurd ⟨(HF.2.2.2.2.2.1 _ h).1, (HF.2.2.2.2.2.1 _ h).2.1⟩ z
    · rintro (h | h)
      · exact Or.inl h
      · obtain ⟨q, hq, e⟩ := rpl_mem.mp h
        have hb := HF.2.2.2.2.2.1 q hq
        unfold okT at hb
        unfold imA at e
        cases e
        exact absurd ⟨hb.1, hb.2.1⟩ z
section MReplace
variable {X : mi_X} {w : mi_H} {a : mo_a} {T : mo_T} {ls lt : List sp_A} {F : Nat → Nat → Nat → Bool} {n s : Nat} {ak dr : Bool} {d : Nat} {R : sp_R} {S : sp_S}
theorem mv_replace_loop {w0 : mi_H} (HF : Fm a ls lt F) {g : Nat → Nat} (hg : ∀ q ∈ lt, (a 91 q.2.1 = nI (g q.2.1) ∧ g q.2.1 < 24) ∧ a 91 q.2.2 = nI (g q.2.2) ∧ g q.2.2 < 24) : ∀ f i (w : mi_H) (a1 : mo_a) (l : List sp_A) (z3 z4 z5 : Option Value), i + f = lt.length → l = ((lt.take i).map (imA g)).foldl adl [] → Mo w a1 (ls.length, l.length, n, ak, dr, s) → Fm a1 ls l (FL ls l) → (∀ o, 75 ≤ o → a1 o = a o) → (∀ o j, 12 + i ≤ j → a1 o j = a o j) → mi_Fg w0 w 71 94 → mi_wp X mi_P 2 m_Mo_replace (13, [some (.ref 71), some (.int (nI lt.length)), some (.int (nI (12 + i))), z3, z4, z5], [], w) (fun q w1 => q = none ∧ (∃ b, Mo w1 b (ls.length, (rpl g lt).length, n, ak, dr, s) ∧ Fm b ls (rpl g lt) (repF F g) ∧ ∀ o, 75 ≤ o → b o = a o) ∧ mi_Fg w0 w1 71 94)
  | 0, i, w, a1, l, z3, z4, z5, hi, hl, HM, HF1, ha, haj, hG => by
    have h4 := HF.2.2.2.1
    have hi : i = lt.length := by omega
    rw [hi, List.take_length] at hl
    have hl : l = rpl g lt := hl
    subst hl
    refine mi_s1 (fun _ => rfl) ?_; refine mi_s1 (fun _ => rfl) ?_; refine mi_s1 (fun _ => rfl) ?_; refine mi_s1 (fun _ => rfl) ?_; refine mi_s1 (fun _ => rfl) ?_
    rw [nI_add]
    refine mi_wif (fun _ => ?_) (fun z => absurd (nI_le (a := 12 + lt.length) (b := 12 + i) (by omega) (by omega)) z)
    refine mi_r1 (fun _ => rfl) ?_
    exact ⟨rfl, ⟨a1, HM, HF.rep HF1, ha⟩, hG⟩
  | f + 1, i, w, a1, l, z3, z4, z5, hi, hl, HM, HF1, ha, haj, hG => by
    have h4 := HF.2.2.2.1
    obtain ⟨t, ht, -⟩ := drop_at (l := lt) (i := i) (by omega)
    have htm := List.mem_of_getElem? ht
    obtain ⟨e1, e2, e3⟩ := HF.2.1 i t ht
    obtain ⟨⟨g1, g2⟩, g3, g4⟩ := hg t htm
    have hb := HF.2.2.2.2.2.1 t htm
    unfold okT at hb
    have hlen : l.length ≤ i := by
      have := fold_adl_len ((lt.take i).map (imA g)) []
      rw [← hl, List.length_map, List.length_take] at this
      simp at this
      omega
    have hq : okT (imA g t) := ⟨hb.1, hb.2.1, g2, g4⟩
    obtain ⟨r1, w1, he, rfl, ⟨b, HM1, HF2, hb1, hb2⟩, hG1⟩ := mv_add (X := X) HM HF1 (q := imA g t) hq (Or.inr (by omega))
    refine mi_s1 (fun _ => rfl) ?_; refine mi_s1 (fun _ => rfl) ?_; refine mi_s1 (fun _ => rfl) ?_; refine mi_s1 (fun _ => rfl) ?_; refine mi_s1 (fun _ => rfl) ?_
    rw [nI_add]
    refine mi_wif (fun z => absurd z (nI_ge (a := 12 + i) (b := 12 + lt.length) (by omega) (by omega))) (fun _ => ?_)
    repeat (first | refine mi_s1 (fun _ => rfl) ?_ | refine mi_wgf rfl HM.1 rfl ?_ | refine mi_wal rfl (HM.2.1 _ _ rfl) rfl (by omega) (by decide) ?_ | refine mi_wbl rfl (HM.2.2 _ _ rfl) rfl (by omega) (by decide) ?_)
    rw [haj 72 (12 + i) (by omega), e1, haj 73 (12 + i) (by omega), e2]
    repeat (first | refine mi_s1 (fun _ => rfl) ?_ | refine mi_wgf rfl HM.1 rfl ?_ | refine mi_wal rfl (HM.2.1 _ _ rfl) rfl (by omega) (by decide) ?_ | refine mi_wbl rfl (HM.2.2 _ _ rfl) rfl (by omega) (by decide) ?_)
    rw [haj 74 (12 + i) (by omega), e3]
    repeat (first | refine mi_s1 (fun _ => rfl) ?_ | refine mi_wgf rfl HM.1 rfl ?_ | refine mi_wal rfl (HM.2.1 _ _ rfl) rfl (by omega) (by decide) ?_ | refine mi_wbl rfl (HM.2.2 _ _ rfl) rfl (by omega) (by decide) ?_)
    rw [ha 91 (by decide), g1, g3]
    refine mi_wcv rfl rfl (Nat.le_of_ble_eq_true rfl) HM.1 rfl (he) ?_
    refine mi_s1 (fun _ => rfl) ?_; refine mi_s1 (fun _ => rfl) ?_
    rw [show nI (12 + i) + nI 1 = nI (12 + (i + 1)) from nI_1 (12 + i)]
    refine mv_replace_loop HF hg f (i + 1) w1 b (adl l (imA g t)) _ _ _ (by omega) ?_ HM1 HF2.fl (fun o ho => by rw [hb1 o ho]; exact ha o ho) (fun o j hj => ?_) (hG.tr hG1)
    · rw [List.take_add_one, ht, List.map_append, List.foldl_append, ← hl]
      rfl
    · rw [hb2 o j (by omega)]
      exact haj o j (by omega)
theorem mv_replace (HM : Mo w a (ls.length, lt.length, n, ak, dr, s)) (HF : Fm a ls lt F) {g : Nat → Nat} (hg : ∀ q ∈ lt, (a 91 q.2.1 = nI (g q.2.1) ∧ g q.2.1 < 24) ∧ a 91 q.2.2 = nI (g q.2.2) ∧ g q.2.2 < 24) : mi_Ex X 3 k_Mo_replace [.ref 71] w (fun q w1 => q = none ∧ (∃ b, Mo w1 b (ls.length, (rpl g lt).length, n, ak, dr, s) ∧ Fm b ls (rpl g lt) (repF F g) ∧ ∀ o, 75 ≤ o → b o = a o) ∧ mi_Fg w w1 71 94) := by
  have hG : mi_Fg w w 71 94 := mi_Fg.rf
  refine mi_Ex.of (M := m_Mo_replace) rfl (Nat.le_of_ble_eq_true rfl) ?_
  repeat (first | refine mi_s1 (fun _ => rfl) ?_ | refine mi_wgf rfl HM.1 rfl ?_ | refine mi_wal rfl (HM.2.1 _ _ rfl) rfl (by omega) (by decide) ?_ | refine mi_wbl rfl (HM.2.2 _ _ rfl) rfl (by omega) (by decide) ?_)
  refine mi_wpg rfl HM.1 (Nat.le_of_ble_eq_true rfl) rfl (fun w h0 hF => ?_)
  have HM := HM.sc ((ls.length, 0, n, ak, dr, s)) h0 hF
  have hG := hG.tr (mi_Fg.of1 hF (by omega) (by omega))
  clear h0
  refine mi_s1 (fun _ => rfl) ?_; refine mi_s1 (fun _ => rfl) ?_
  exact mv_replace_loop HF hg lt.length 0 w a [] _ _ _ (by omega) rfl HM HF.clr.fl (fun _ _ => rfl) (fun _ _ _ => rfl) hG
theorem mv_sameTold_loop {w0 : mi_H} : ∀ f i (w : mi_H) (a1 : mo_a), i + f = 24 → Mo w a1 T → (∀ o, o ≠ 91 → a1 o = a o) → (∀ u, u < i → a1 91 u = nI u) → mi_Fg w0 w 71 94 → mi_wp X mi_P 0 m_Mo_sameTold (2, [some (.ref 71), some (.int (nI i))], [], w) (fun q w1 => q = none ∧ ∃ b, Mo w1 b T ∧ (∀ o, o ≠ 91 → b o = a o) ∧ (∀ u, u < 24 → b 91 u = nI u) ∧ mi_Fg w0 w1 71 94)
  | 0, i, w, a1, hi, HM, ha, hz, hG => by
    have hi : i = 24 := by omega
    subst hi
    refine mi_s1 (fun _ => rfl) ?_; refine mi_s1 (fun _ => rfl) ?_; refine mi_s1 (fun _ => rfl) ?_
    refine mi_wif (fun _ => ?_) (fun q => absurd (by decide) q)
    refine mi_r1 (fun _ => rfl) ?_
    exact ⟨rfl, a1, HM, ha, hz, hG⟩
  | f + 1, i, w, a1, hi, HM, ha, hz, hG => by
    refine mi_s1 (fun _ => rfl) ?_; refine mi_s1 (fun _ => rfl) ?_; refine mi_s1 (fun _ => rfl) ?_
    refine mi_wif (fun z => absurd z (nI_ge (a := i) (b := 24) (by omega) (by omega))) (fun _ => ?_)
    repeat (first | refine mi_s1 (fun _ => rfl) ?_ | refine mi_wgf rfl HM.1 rfl ?_ | refine mi_wal rfl (HM.2.1 _ _ rfl) rfl (by omega) (by decide) ?_ | refine mi_wbl rfl (HM.2.2 _ _ rfl) rfl (by omega) (by decide) ?_)
    refine HM.was rfl rfl rfl (by omega) (fun w HM hF => ?_)
    have hG := hG.tr hF
    refine mi_s1 (fun _ => rfl) ?_; refine mi_s1 (fun _ => rfl) ?_
    rw [show nI i + nI 1 = nI (i + 1) from nI_1 i]
    refine mv_sameTold_loop f (i + 1) w _ (by omega) HM (fun o ho => by rw [upA_o ho]; exact ha o ho) (fun u hu => ?_) hG
    rw [upA_s]
    by_cases z : u = i
    · rw [z, pk_us]
    · rw [pk_un z]
      exact hz u (by omega)
theorem mv_sameTold (HM : Mo w a T) : mi_Ex X 1 k_Mo_sameTold [.ref 71] w (fun q w1 => q = none ∧ ∃ b, Mo w1 b T ∧ (∀ o, o ≠ 91 → b o = a o) ∧ (∀ u, u < 24 → b 91 u = nI u) ∧ mi_Fg w w1 71 94) := by
  refine mi_Ex.of (M := m_Mo_sameTold) rfl (Nat.le_of_ble_eq_true rfl) ?_
  refine mi_s1 (fun _ => rfl) ?_; refine mi_s1 (fun _ => rfl) ?_
  exact mv_sameTold_loop 24 0 w a rfl HM (fun _ _ => rfl) (fun u hu => absurd hu (Nat.not_lt_zero u)) mi_Fg.rf
/-- how a step at one dependency ends: the answer, facts, state -/
def StQ (w0 : mi_H) (a : mo_a) (ls : List sp_A) (n : Nat) (ak dr : Bool) (d : Nat) (P : Bool × (Nat → Nat → Nat → Bool) × Nat) : Option Value → mi_H → Prop := fun q w1 => q = some (.int (if P.1 = true then nI (1 + d) else if P.2.2 = 3 then -1 else -2)) ∧ (∃ b lt', Mo w1 b (ls.length, lt'.length, n, ak, dr, P.2.2) ∧ Fm b ls lt' P.2.1 ∧ ∀ o, 75 ≤ o → o < 86 → b o = a o) ∧ mi_Fg w0 w1 71 94
theorem mv_equate (HM : Mo w a (ls.length, lt.length, n, ak, dr, 1)) (HF : Fm a ls lt F) (hd : d < 8) (HR : Rm a d R) (hk : R.1 = 1) (hf : faultR R = 0) {m : Nat → Nat} (hm : ∀ u, u < 4 → a 86 u = nI (m u) ∧ m u < 24) : mi_Ex X 4 k_Mo_equate [.ref 71, .int (nI d)] w (StQ w a ls n ak dr d (eqO F R (tv R.2.1 4 m))) := by
  have hG : mi_Fg w w 71 94 := mi_Fg.rf
  obtain ⟨-, f2, f3, -, f5, f6⟩ := fault0 hf
  obtain ⟨r1, r2, r3, r4, r5, r6, r7, r8, r9, r10, r11, -⟩ := id HR
  cases e : R.2.2.2 with
  | none => exact absurd e (f3 (by omega))
  | some p =>
  obtain ⟨v, u⟩ := p
  obtain ⟨hv, hu⟩ := r11 v u e
  obtain ⟨i1, i2⟩ := f6 v u e
  have e84 : a 84 d = nI v := by rw [r9, e]; rfl
  have e85 : a 85 d = nI u := by rw [r10, e]; rfl
  obtain ⟨x, hx⟩ : ∃ x, x = m v := ⟨_, rfl⟩
  obtain ⟨y, hy⟩ : ∃ y, y = m u := ⟨_, rfl⟩
  have hx24 := (hm v hv).2
  have hy24 := (hm u hu).2
  have ex := (hm v hv).1
  have ey := (hm u hu).1
  rw [← hx] at hx24 ex
  rw [← hy] at hy24 ey
  have eO : eqO F R (tv R.2.1 4 m) = if max x y < 16 then (false, F, 3) else (true, repF F (fun z => if z = max x y then min x y else z), 1) := by
    unfold eqO gv
    rw [e]
    simp only [tv_some hv i1, tv_some hu i2, Option.getD_some, hx, hy]
  rw [eO]
  refine mi_Ex.of (M := m_Mo_equate) rfl (Nat.le_of_ble_eq_true rfl) ?_
  repeat (first | refine mi_s1 (fun _ => rfl) ?_ | refine mi_wgf rfl HM.1 rfl ?_ | refine mi_wal rfl (HM.2.1 _ _ rfl) rfl (by omega) (by decide) ?_ | refine mi_wbl rfl (HM.2.2 _ _ rfl) rfl (by omega) (by decide) ?_)
  rw [e84]
  repeat (first | refine mi_s1 (fun _ => rfl) ?_ | refine mi_wgf rfl HM.1 rfl ?_ | refine mi_wal rfl (HM.2.1 _ _ rfl) rfl (by omega) (by decide) ?_ | refine mi_wbl rfl (HM.2.2 _ _ rfl) rfl (by omega) (by decide) ?_)
  rw [e85]
  repeat (first | refine mi_s1 (fun _ => rfl) ?_ | refine mi_wgf rfl HM.1 rfl ?_ | refine mi_wal rfl (HM.2.1 _ _ rfl) rfl (by omega) (by decide) ?_ | refine mi_wbl rfl (HM.2.2 _ _ rfl) rfl (by omega) (by decide) ?_)
  rw [ex, ey]
  have go : ¬ max x y < 16 → mi_wp X mi_P 3 m_Mo_equate (43, [some (.ref 71), some (.int (nI d)), some (.int (nI x)), some (.int (nI y))], [], w) (StQ w a ls n ak dr d (if max x y < 16 then (false, F, 3) else (true, repF F (fun z => if z = max x y then min x y else z), 1))) := by
    intro hge
    rw [if_neg hge]
    obtain ⟨t1, w1, he1, rfl, b1, HM1, hb1, hz1, hG1⟩ := mv_sameTold (X := X) HM
    have fin : ∀ p q : Int32, p = nI (max x y) → q = nI (min x y) → mi_wp X mi_P 3 m_Mo_equate (71, [some (.ref 71), some (.int (nI d)), some (.int (nI x)), some (.int (nI y))], [.int q, .int p, .ref 91], w1) (StQ w a ls n ak dr d (true, repF F (fun z => if z = max x y then min x y else z), 1)) := by
      intro p q hp hq
      subst hp
      subst hq
      have HM := HM1
      have hG := hG1
      refine HM.was rfl rfl rfl (by omega) (fun w HM hF => ?_)
      have hG := hG.tr hF
      have hbb : ∀ o, o ≠ 91 → upA b1 91 (max x y) (nI (min x y)) o = a o := fun o ho => by
        rw [upA_o ho]
        exact hb1 o ho
      have h91 : ∀ z, z < 24 → upA b1 91 (max x y) (nI (min x y)) 91 z = nI (if z = max x y then min x y else z) ∧ (if z = max x y then min x y else z) < 24 := fun z hz => by
        rw [upA_s]
        by_cases t : z = max x y
        · rw [t, pk_us, if_pos rfl]
          exact ⟨rfl, by omega⟩
        · rw [pk_un t, if_neg t]
          exact ⟨hz1 z hz, hz⟩
      obtain ⟨t2, w2, he2, rfl, ⟨b2, HM2, HF2, hb2⟩, hG2⟩ := mv_replace (X := X) (g := fun z => if z = max x y then min x y else z) HM (HF.congr (fun o h1 h2 => hbb o (by omega))) (fun q hq => by
        have hb := HF.2.2.2.2.2.1 q hq
        unfold okT at hb
        exact ⟨h91 q.2.1 (by omega), h91 q.2.2 (by omega)⟩)
      refine mi_s1 (fun _ => rfl) ?_
      refine mi_wcv rfl rfl (Nat.le_of_ble_eq_true rfl) HM.1 rfl (he2) ?_
      refine mi_s1 (fun _ => rfl) ?_; refine mi_s1 (fun _ => rfl) ?_; refine mi_s1 (fun _ => rfl) ?_
      refine mi_r1 (fun _ => rfl) ?_
      rw [nI_add]
      exact ⟨rfl, ⟨b2, _, HM2, HF2, fun o h1 h2 => by rw [hb2 o h1]; exact hbb o (by omega)⟩, hG.tr hG2⟩
    refine mi_s1 (fun _ => rfl) ?_
    refine mi_wcv rfl rfl (Nat.le_of_ble_eq_true rfl) HM.1 rfl (he1.up (by decide)) ?_
    have HM := HM1
    repeat (first | refine mi_s1 (fun _ => rfl) ?_ | refine mi_wgf rfl HM.1 rfl ?_ | refine mi_wal rfl (HM.2.1 _ _ rfl) rfl (by omega) (by decide) ?_ | refine mi_wbl rfl (HM.2.2 _ _ rfl) rfl (by omega) (by decide) ?_)
    refine mi_wif (fun z => ?_) (fun z => ?_)
    · have z := (nI_leI (by omega) (by omega)).mp z
      repeat (first | refine mi_s1 (fun _ => rfl) ?_ | refine mi_wgf rfl (by assumption) rfl ?_ | refine mi_wal rfl (by assumption) rfl (by omega) (by decide) ?_)
      refine mi_wif (fun _ => ?_) (fun q => absurd (nI_le z (by omega)) q)
      refine mi_s1 (fun _ => rfl) ?_
      exact fin _ _ (by rw [Nat.max_eq_right z]) (by rw [Nat.min_eq_left z])
    · have z : ¬ x ≤ y := fun q => z (nI_le q (by omega))
      repeat (first | refine mi_s1 (fun _ => rfl) ?_ | refine mi_wgf rfl (by assumption) rfl ?_ | refine mi_wal rfl (by assumption) rfl (by omega) (by decide) ?_)
      refine mi_wif (fun q => absurd ((nI_leI (by omega) (by omega)).mp q) z) (fun _ => ?_)
      refine mi_s1 (fun _ => rfl) ?_; refine mi_s1 (fun _ => rfl) ?_
      exact fin _ _ (by rw [Nat.max_eq_left (by omega)]) (by rw [Nat.min_eq_right (by omega)])
  refine mi_wif (fun z => ?_) (fun z => ?_)
  · have z := (nI_leI (by omega) (by omega)).mp z
    exact go (by omega)
  · have z : x < 16 := by
      rcases Nat.lt_or_ge x 16 with q | q
      · exact q
      · exact absurd (nI_le q (by omega)) z
    repeat (first | refine mi_s1 (fun _ => rfl) ?_ | refine mi_wgf rfl (by assumption) rfl ?_ | refine mi_wal rfl (by assumption) rfl (by omega) (by decide) ?_)
    refine mi_wif (fun z2 => ?_) (fun z2 => ?_)
    · have z2 := (nI_leI (by omega) (by omega)).mp z2
      exact go (by omega)
    · have z2 : y < 16 := by
        rcases Nat.lt_or_ge y 16 with q | q
        · exact q
        · exact absurd (nI_le q (by omega)) z2
      rw [if_pos (by omega)]
      repeat (first | refine mi_s1 (fun _ => rfl) ?_ | refine mi_wgf rfl (by assumption) rfl ?_ | refine mi_wal rfl (by assumption) rfl (by omega) (by decide) ?_)
      refine mi_wpg rfl HM.1 (Nat.le_of_ble_eq_true rfl) rfl (fun w h0 hF => ?_)
      have HM := HM.sc ((ls.length, lt.length, n, ak, dr, 3)) h0 hF
      have hG := hG.tr (mi_Fg.of1 hF (by omega) (by omega))
      clear h0
      refine mi_s1 (fun _ => rfl) ?_
      refine mi_r1 (fun _ => rfl) ?_
      exact ⟨rfl, ⟨a, lt, HM, HF, fun _ _ _ => rfl⟩, hG⟩
end MReplace
