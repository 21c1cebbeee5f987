/-! class Search: certain pairs, free variables, new facts -/
def vab (v u a b : Nat) : sp_V := updS (updS (fun _ => none) v (some a)) u (some b)
/-- (a, b) is certain -/
def cst (F : Nat → Nat → Nat → Bool) (bo : List sp_A) (v u a b : Nat) : Bool := decide (v ≠ u ∨ a = b) && (kf F (vab v u a b) bo && ch F bo 4 0 (vab v u a b))
theorem kb_find (x : Int32) : ∀ f m, kb x m f 0 = (List.range' m f).find? (fun i => bt x i)
  | 0, m => rfl
  | f + 1, m => by
    unfold kb
    rw [List.range'_succ, List.find?_cons]
    by_cases q : bt x m = true
    · rw [if_pos q, if_pos rfl, q]
    · rw [if_neg q, kb_find x f (m + 1)]
      have q : bt x m = false := by simpa using q
      rw [q]
theorem find_congr {p q : Nat → Bool} : ∀ (l : List Nat), (∀ x ∈ l, p x = q x) → l.find? p = l.find? q
  | [], _ => rfl
  | a :: l, h => by
    rw [List.find?_cons, List.find?_cons, h a List.mem_cons_self, find_congr l (fun x hx => h x (List.mem_cons_of_mem _ hx))]
/-- the least null that isn't used -/
def lst (us : Nat → Bool) : Option Nat := (List.range 24).find? (fun x => decide (16 ≤ x) && !us x)
theorem bt_nul : ∀ i, i < 32 → bt (nI 16711680) i = (decide (16 ≤ i) && decide (i < 24)) := by decide +kernel
theorem kb_lst {x : Int32} {us : Nat → Bool} (h : ∀ i, i < 32 → bt x i = us i) : kb (nI 16711680 &&& (x ^^^ -1)) 0 24 0 = lst us := by
  rw [kb_find]
  unfold lst
  rw [List.range_eq_range']
  refine find_congr _ (fun i hi => ?_)
  have hi : i < 24 := by
    rw [← List.range_eq_range', List.mem_range] at hi
    exact hi
  rw [b_and, bt_not _ (by omega), bt_nul i (by omega), h i (by omega), decide_eq_true hi, Bool.and_true]
def nfr (fr : Nat → Bool) : Nat → Nat → (Nat → Bool) → sp_V → Option sp_V
  | 0, _, _, V => some V
  | n + 1, v, us, V => if fr v = true then (match lst us with
    | some x => nfr fr n (v + 1) (fun y => us y || decide (y = x)) (updS V v (some x))
    | none => none) else nfr fr n (v + 1) us V
def frR (R : sp_R) (v : Nat) : Bool := inB R.2.2.1 v && !inB R.2.1 v
section Search2
variable {X : mi_X}
theorem ev_nameFree_loop {r : Nat} {R : sp_R} (hr : 25 ≤ r) {w0 : mi_H} : ∀ n v (V : sp_V) (us : Nat → Bool) (x : Int32) (w : mi_H) (z : Option Value), v + n = 4 → (∀ i, i < 32 → bt x i = us i) → Se w V → Ru w r R → mi_Fg w0 w 24 25 → mi_wp X mi_P 3 m_Se_nameFree (10, [some (.ref 23), some (.ref r), some (.int x), some (.int (nI v)), z], [], w) (fun q w1 => q = some (.int (jb ((nfr (frR R) n v us V).isSome = true))) ∧ (∃ V', Se w1 V' ∧ ∀ V2, nfr (frR R) n v us V = some V2 → V' = V2) ∧ mi_Fg w0 w1 24 25)
  | 0, v, V, us, x, w, z, hv, hx, H, HR, hF => by
    have hv : v = 4 := by omega
    subst hv
    repeat (first | refine mi_s1 (fun _ => rfl) ?_ | refine mi_wgf rfl (by assumption) rfl ?_ | refine mi_wal rfl (by assumption) rfl (by omega) (by decide) ?_)
    refine mi_wrz rfl rfl rfl ?_
    exact ⟨rfl, ⟨V, H, fun V2 h => by cases h; rfl⟩, hF⟩
  | n + 1, v, V, us, x, w, z, hv, hx, H, HR, hF => by
    obtain ⟨h0, ⟨f, h1, hf⟩, hb⟩ := id H
    obtain ⟨fi, se, r0, -⟩ := id HR
    repeat (first | refine mi_s1 (fun _ => rfl) ?_ | refine mi_wgf rfl (by assumption) rfl ?_ | refine mi_wal rfl (by assumption) rfl (by omega) (by decide) ?_)
    refine mi_wif (fun q => absurd q (nI_ge (a := v) (b := 4) (by omega) (by omega))) (fun _ => ?_)
    repeat (first | refine mi_s1 (fun _ => rfl) ?_ | refine mi_wgf rfl (by assumption) rfl ?_ | refine mi_wal rfl (by assumption) rfl (by omega) (by decide) ?_)
    refine mi_wcv rfl rfl (Nat.le_of_ble_eq_true rfl) r0 rfl (ev_isFree HR (by omega)) ?_
    repeat (first | refine mi_s1 (fun _ => rfl) ?_ | refine mi_wgf rfl (by assumption) rfl ?_ | refine mi_wal rfl (by assumption) rfl (by omega) (by decide) ?_)
    refine mi_wif (fun q => ?_) (fun q => ?_)
    · have q : frR R v = false := by
        have := jb_0.mp q
        unfold frR
        cases h1 : inB R.2.2.1 v with
        | false => rfl
        | true =>
          cases h2 : inB R.2.1 v with
          | true => rfl
          | false => exact absurd ⟨h1, by rw [h2]; decide⟩ this
      have e : nfr (frR R) (n + 1) v us V = nfr (frR R) n (v + 1) us V := by
        show (if frR R v = true then _ else _) = _
        rw [if_neg (by rw [q]; decide)]
      rw [e]
      refine mi_s1 (fun _ => rfl) ?_; refine mi_s1 (fun _ => rfl) ?_
      rw [show nI v + nI 1 = nI (v + 1) from nI_1 v]
      exact ev_nameFree_loop hr n (v + 1) V us x w z (by omega) hx H HR hF
    · have q : frR R v = true := by
        obtain ⟨q1, q2⟩ := Decidable.not_not.mp (fun h => q (jb_0.mpr h))
        unfold frR
        rw [q1]
        simpa using q2
      have e : nfr (frR R) (n + 1) v us V = (match lst us with
        | some x => nfr (frR R) n (v + 1) (fun y => us y || decide (y = x)) (updS V v (some x))
        | none => none) := by
        show (if frR R v = true then _ else _) = _
        rw [if_pos q]
      rw [e]
      repeat (first | refine mi_s1 (fun _ => rfl) ?_ | refine mi_wgf rfl (by assumption) rfl ?_ | refine mi_wal rfl (by assumption) rfl (by omega) (by decide) ?_)
      refine mi_wcs rfl (Nat.le_of_ble_eq_true rfl) ⟨Nat.le_of_ble_eq_true rfl, Nat.le_of_ble_eq_true rfl⟩ ((ev_bitAt (nI 16711680 &&& (x ^^^ -1)) (k := 0) (by decide)).up (by decide)) ?_
      rw [kb_lst hx]
      cases hl : lst us with
      | none =>
        repeat (first | refine mi_s1 (fun _ => rfl) ?_ | refine mi_wgf rfl (by assumption) rfl ?_ | refine mi_wal rfl (by assumption) rfl (by omega) (by decide) ?_)
        refine mi_wcs rfl (Nat.le_of_ble_eq_true rfl) ⟨Nat.le_of_ble_eq_true rfl, Nat.le_of_ble_eq_true rfl⟩ ((ev_isValue _).up (by decide)) ?_
        repeat (first | refine mi_s1 (fun _ => rfl) ?_ | refine mi_wgf rfl (by assumption) rfl ?_ | refine mi_wal rfl (by assumption) rfl (by omega) (by decide) ?_)
        refine mi_wrz rfl rfl rfl ?_
        exact ⟨rfl, ⟨V, H, fun V2 h => by cases h⟩, hF⟩
      | some y =>
        have hy : y < 24 := by
          have := List.mem_of_find?_eq_some hl
          exact List.mem_range.mp this
        repeat (first | refine mi_s1 (fun _ => rfl) ?_ | refine mi_wgf rfl (by assumption) rfl ?_ | refine mi_wal rfl (by assumption) rfl (by omega) (by decide) ?_)
        refine mi_wcs rfl (Nat.le_of_ble_eq_true rfl) ⟨Nat.le_of_ble_eq_true rfl, Nat.le_of_ble_eq_true rfl⟩ ((ev_isValueT hy).up (by decide)) ?_
        repeat (first | refine mi_s1 (fun _ => rfl) ?_ | refine mi_wgf rfl (by assumption) rfl ?_ | refine mi_wal rfl (by assumption) rfl (by omega) (by decide) ?_)
        refine mi_wag rfl h1 rfl (by omega) (by decide) (fun w1 k1 hF1 => ?_)
        have hG1 : mi_Fg w w1 24 25 := mi_Fg.of1 hF1 (by omega) (by omega)
        have H1 := H.set (o := some y) hf k1 hF1 (fun x hx => by cases hx; exact hy)
        refine mi_s1 (fun _ => rfl) ?_; refine mi_s1 (fun _ => rfl) ?_; refine mi_s1 (fun _ => rfl) ?_; refine mi_s1 (fun _ => rfl) ?_; refine mi_s1 (fun _ => rfl) ?_; refine mi_s1 (fun _ => rfl) ?_; refine mi_s1 (fun _ => rfl) ?_; refine mi_s1 (fun _ => rfl) ?_
        rw [show nI v + nI 1 = nI (v + 1) from nI_1 v]
        refine ev_nameFree_loop hr n (v + 1) _ _ _ w1 _ (by omega) (fun i hi => ?_) H1 (HR.g hG1 (by omega)) (hF.tr hG1)
        rw [show kbR (some y) = nI y from rfl, bt_set (by omega) hi, hx i hi]
theorem ev_nameFree {w : mi_H} {F : Nat → Nat → Nat → Bool} {V : sp_V} {r : Nat} {R : sp_R} (hr : 25 ≤ r) (HS : St w F) (H : Se w V) (HR : Ru w r R) : mi_Ex X 4 k_Se_nameFree [.ref 23, .ref r] w (fun q w1 => q = some (.int (jb ((nfr (frR R) 4 0 (occ F 2 4) V).isSome = true))) ∧ (∃ V', Se w1 V' ∧ ∀ V2, nfr (frR R) 4 0 (occ F 2 4) V = some V2 → V' = V2) ∧ mi_Fg w w1 24 25) := by
  obtain ⟨h0, -⟩ := id H
  obtain ⟨s1, -⟩ := id HS
  obtain ⟨y, he, hy⟩ := ev_targetValues (X := X) HS
  refine mi_Ex.of (M := m_Se_nameFree) rfl (Nat.le_of_ble_eq_true rfl) ?_
  repeat (first | refine mi_s1 (fun _ => rfl) ?_ | refine mi_wgf rfl (by assumption) rfl ?_ | refine mi_wal rfl (by assumption) rfl (by omega) (by decide) ?_)
  refine mi_wcv rfl rfl (Nat.le_of_ble_eq_true rfl) s1 rfl (he.up (by decide)) ?_
  refine mi_s1 (fun _ => rfl) ?_; refine mi_s1 (fun _ => rfl) ?_; refine mi_s1 (fun _ => rfl) ?_
  exact ev_nameFree_loop hr 4 0 V _ y w _ rfl hy H HR mi_Fg.rf
/-- two atoms are one fact -/
def sameA (V : sp_V) (q p : sp_A) : Bool := decide (q.1 = p.1) && decide (V q.2.1 = V p.2.1) && decide (V q.2.2 = V p.2.2)
theorem ev_isSame_loop {w : mi_H} {V : sp_V} {o : Nat} {as : List sp_A} (H : Se w V) (HA : At w o as) {i : Nat} {p : sp_A} (hi : i ≤ as.length) (hok : okA p) : ∀ f j (z : Option Value), j + f = i → mi_wp X mi_P 2 m_Se_isSameAsEarlier (10, [some (.ref 23), some (.ref o), some (.int (nI i)), some (.int (nI (cd p))), some (.int (nI j)), z], [], w) (fun r w1 => r = some (.int (jb (((as.take i).drop j).any (fun q => sameA V q p) = true))) ∧ w1 = w)
  | 0, j, z, hj => by
    obtain ⟨fc, a0, a1, hl, hf⟩ := id HA
    have hj : j = i := by omega
    repeat (first | refine mi_s1 (fun _ => rfl) ?_ | refine mi_wgf rfl (by assumption) rfl ?_ | refine mi_wal rfl (by assumption) rfl (by omega) (by decide) ?_)
    refine mi_wif (fun _ => ?_) (fun q => absurd (nI_le (a := i) (b := j) (by omega) (by omega)) q)
    repeat (first | refine mi_s1 (fun _ => rfl) ?_ | refine mi_wgf rfl (by assumption) rfl ?_ | refine mi_wal rfl (by assumption) rfl (by omega) (by decide) ?_)
    refine mi_wrz rfl rfl rfl ?_
    refine jb_f ?_
    rw [hj, List.drop_of_length_le (by rw [List.length_take]; omega)]
    simp
  | f + 1, j, z, hj => by
    obtain ⟨fc, a0, a1, hl, hf⟩ := id HA
    obtain ⟨h0, -, hb⟩ := id H
    obtain ⟨q, hq, hd⟩ := drop_at (l := as.take i) (i := j) (by rw [List.length_take]; omega)
    have hq2 : as[j]? = some q := by
      rw [List.getElem?_take] at hq
      split at hq
      · exact hq
      · cases hq
    obtain ⟨hc, hokq⟩ := hf j q hq2
    rw [hd]
    have no : sameA V q p = false → ∀ z, mi_wp X mi_P 2 m_Se_isSameAsEarlier (67, [some (.ref 23), some (.ref o), some (.int (nI i)), some (.int (nI (cd p))), some (.int (nI j)), z], [], w) (fun r w1 => r = some (.int (jb ((q :: (as.take i).drop (j + 1)).any (fun q => sameA V q p) = true))) ∧ w1 = w) := by
      intro hs z
      refine mi_s1 (fun _ => rfl) ?_; refine mi_s1 (fun _ => rfl) ?_
      rw [show nI j + nI 1 = nI (j + 1) from nI_1 j]
      have e : (q :: (as.take i).drop (j + 1)).any (fun q => sameA V q p) = ((as.take i).drop (j + 1)).any (fun q => sameA V q p) := by simp [hs]
      rw [e]
      exact ev_isSame_loop H HA hi hok f (j + 1) z (by omega)
    have r1 := hokq.1
    have r2 := hok.1
    have e1 := enc_inj (o := V q.2.1) (p := V p.2.1) (fun x hx => hb _ x hokq.2.1 hx) (fun x hx => hb _ x hok.2.1 hx)
    have e2 := enc_inj (o := V q.2.2) (p := V p.2.2) (fun x hx => hb _ x hokq.2.2 hx) (fun x hx => hb _ x hok.2.2 hx)
    repeat (first | refine mi_s1 (fun _ => rfl) ?_ | refine mi_wgf rfl (by assumption) rfl ?_ | refine mi_wal rfl (by assumption) rfl (by omega) (by decide) ?_)
    refine mi_wif (fun z => absurd z (nI_ge (a := j) (b := i) (by omega) (by omega))) (fun _ => ?_)
    repeat (first | refine mi_s1 (fun _ => rfl) ?_ | refine mi_wgf rfl (by assumption) rfl ?_ | refine mi_wal rfl (by assumption) rfl (by omega) (by decide) ?_)
    rw [hc]
    refine mi_wcs rfl (Nat.le_of_ble_eq_true rfl) ⟨Nat.le_of_ble_eq_true rfl, Nat.le_of_ble_eq_true rfl⟩ ((ev_rel hokq).up (by decide)) ?_
    repeat (first | refine mi_s1 (fun _ => rfl) ?_ | refine mi_wgf rfl (by assumption) rfl ?_ | refine mi_wal rfl (by assumption) rfl (by omega) (by decide) ?_)
    refine mi_wcs rfl (Nat.le_of_ble_eq_true rfl) ⟨Nat.le_of_ble_eq_true rfl, Nat.le_of_ble_eq_true rfl⟩ ((ev_rel hok).up (by decide)) ?_
    repeat (first | refine mi_s1 (fun _ => rfl) ?_ | refine mi_wgf rfl (by assumption) rfl ?_ | refine mi_wal rfl (by assumption) rfl (by omega) (by decide) ?_)
    refine mi_wif (fun z1 => ?_) (fun z1 => ?_)
    · have z1 : q.1 = p.1 := (nI_eq (by omega) (by omega)).mp z1
      repeat (first | refine mi_s1 (fun _ => rfl) ?_ | refine mi_wgf rfl (by assumption) rfl ?_ | refine mi_wal rfl (by assumption) rfl (by omega) (by decide) ?_)
      refine mi_wcv rfl rfl (Nat.le_of_ble_eq_true rfl) h0 rfl (ev_firstValue H hokq) ?_
      repeat (first | refine mi_s1 (fun _ => rfl) ?_ | refine mi_wgf rfl (by assumption) rfl ?_ | refine mi_wal rfl (by assumption) rfl (by omega) (by decide) ?_)
      refine mi_wcv rfl rfl (Nat.le_of_ble_eq_true rfl) h0 rfl (ev_firstValue H hok) ?_
      repeat (first | refine mi_s1 (fun _ => rfl) ?_ | refine mi_wgf rfl (by assumption) rfl ?_ | refine mi_wal rfl (by assumption) rfl (by omega) (by decide) ?_)
      refine mi_wif (fun z2 => ?_) (fun z2 => ?_)
      · have z2 := e1.mp z2
        repeat (first | refine mi_s1 (fun _ => rfl) ?_ | refine mi_wgf rfl (by assumption) rfl ?_ | refine mi_wal rfl (by assumption) rfl (by omega) (by decide) ?_)
        refine mi_wcv rfl rfl (Nat.le_of_ble_eq_true rfl) h0 rfl (ev_secondValue H hokq) ?_
        repeat (first | refine mi_s1 (fun _ => rfl) ?_ | refine mi_wgf rfl (by assumption) rfl ?_ | refine mi_wal rfl (by assumption) rfl (by omega) (by decide) ?_)
        refine mi_wcv rfl rfl (Nat.le_of_ble_eq_true rfl) h0 rfl (ev_secondValue H hok) ?_
        repeat (first | refine mi_s1 (fun _ => rfl) ?_ | refine mi_wgf rfl (by assumption) rfl ?_ | refine mi_wal rfl (by assumption) rfl (by omega) (by decide) ?_)
        refine mi_wif (fun z3 => ?_) (fun z3 => ?_)
        · have z3 := e2.mp z3
          repeat (first | refine mi_s1 (fun _ => rfl) ?_ | refine mi_wgf rfl (by assumption) rfl ?_ | refine mi_wal rfl (by assumption) rfl (by omega) (by decide) ?_)
          refine mi_wrz rfl rfl rfl ?_
          refine jb_t ?_
          simp [sameA, z1, z2, z3]
        · have z3 : ¬ V q.2.2 = V p.2.2 := fun h => z3 (e2.mpr h)
          exact no (by simp [sameA, z3]) _
      · have z2 : ¬ V q.2.1 = V p.2.1 := fun h => z2 (e1.mpr h)
        exact no (by simp [sameA, z2]) _
    · have z1 : ¬ q.1 = p.1 := fun h => z1 (by rw [h])
      exact no (by simp [sameA, z1]) _
theorem ev_isSameAsEarlier {w : mi_H} {V : sp_V} {o : Nat} {as : List sp_A} (H : Se w V) (HA : At w o as) {i : Nat} {p : sp_A} (hp : as[i]? = some p) : mi_Ev X mi_P 3 k_Se_isSameAsEarlier [.ref 23, .ref o, .int (nI i)] w (some (.int (jb ((as.take i).any (fun q => sameA V q p) = true)))) w := by
  obtain ⟨fc, a0, a1, hl, hf⟩ := id HA
  have hi := (List.getElem?_eq_some_iff.mp hp).1
  obtain ⟨hc, hok⟩ := hf i p hp
  refine mi_Ev.of (M := m_Se_isSameAsEarlier) rfl (Nat.le_of_ble_eq_true rfl) ?_
  refine mi_s1 (fun _ => rfl) ?_
  refine mi_wgf rfl a0 rfl ?_
  refine mi_s1 (fun _ => rfl) ?_
  refine mi_wal rfl a1 rfl (by omega) (by decide) ?_
  rw [hc]
  refine mi_s1 (fun _ => rfl) ?_; refine mi_s1 (fun _ => rfl) ?_; refine mi_s1 (fun _ => rfl) ?_
  have e := ev_isSame_loop (X := X) H HA (i := i) (p := p) (by omega) hok i 0 none (Nat.zero_add _)
  rw [List.drop_zero] at e
  exact e
/-- how many of the atoms from i on are facts that aren't there, each counted once -/
def cms (F : Nat → Nat → Nat → Bool) (V : sp_V) (as : List sp_A) : Nat → Nat → Nat
  | 0, _ => 0
  | f + 1, i => (match as[i]? with
    | some q => if vfA F V q = true ∨ (as.take i).any (fun p => sameA V p q) = true then 0 else 1
    | none => 0) + cms F V as f (i + 1)
theorem ev_countMissing_loop {w : mi_H} {F : Nat → Nat → Nat → Bool} {V : sp_V} {o : Nat} {as : List sp_A} (HS : St w F) (H : Se w V) (HA : At w o as) : ∀ f i c, i + f = as.length → mi_wp X mi_P 3 m_Se_countMissing (4, [some (.ref 23), some (.ref o), some (.int (nI c)), some (.int (nI i))], [], w) (fun r w1 => r = some (.int (nI (c + cms F V as f i))) ∧ w1 = w)
  | 0, i, c, hi => by
    obtain ⟨fc, a0, a1, hl, hf⟩ := id HA
    have hi : i = as.length := by omega
    repeat (first | refine mi_s1 (fun _ => rfl) ?_ | refine mi_wgf rfl (by assumption) rfl ?_ | refine mi_wal rfl (by assumption) rfl (by omega) (by decide) ?_)
    refine mi_wif (fun _ => ?_) (fun q => absurd (nI_le (a := as.length) (b := i) (by omega) (by omega)) q)
    repeat (first | refine mi_s1 (fun _ => rfl) ?_ | refine mi_wgf rfl (by assumption) rfl ?_ | refine mi_wal rfl (by assumption) rfl (by omega) (by decide) ?_)
    refine mi_r1 (fun _ => rfl) ?_
    exact ⟨rfl, rfl⟩
  | f + 1, i, c, hi => by
    obtain ⟨fc, a0, a1, hl, hf⟩ := id HA
    obtain ⟨h0, -, hb⟩ := id H
    obtain ⟨q, hq, hd⟩ := drop_at (l := as) (i := i) (by omega)
    obtain ⟨hc, hok⟩ := hf i q hq
    have e : cms F V as (f + 1) i = (if vfA F V q = true ∨ (as.take i).any (fun p => sameA V p q) = true then 0 else 1) + cms F V as f (i + 1) := by
      show (match as[i]? with
        | some q => if vfA F V q = true ∨ (as.take i).any (fun p => sameA V p q) = true then 0 else 1
        | none => 0) + _ = _
      rw [hq]
    rw [e]
    have skip : (vfA F V q = true ∨ (as.take i).any (fun p => sameA V p q) = true) → mi_wp X mi_P 3 m_Se_countMissing (37, [some (.ref 23), some (.ref o), some (.int (nI c)), some (.int (nI i))], [], w) (fun r w1 => r = some (.int (nI (c + ((if vfA F V q = true ∨ (as.take i).any (fun p => sameA V p q) = true then 0 else 1) + cms F V as f (i + 1))))) ∧ w1 = w) := by
      intro hh
      rw [if_pos hh, Nat.zero_add]
      refine mi_s1 (fun _ => rfl) ?_; refine mi_s1 (fun _ => rfl) ?_
      rw [show nI i + nI 1 = nI (i + 1) from nI_1 i]
      exact ev_countMissing_loop HS H HA f (i + 1) c (by omega)
    repeat (first | refine mi_s1 (fun _ => rfl) ?_ | refine mi_wgf rfl (by assumption) rfl ?_ | refine mi_wal rfl (by assumption) rfl (by omega) (by decide) ?_)
    refine mi_wif (fun z => absurd z (nI_ge (a := i) (b := as.length) (by omega) (by omega))) (fun _ => ?_)
    repeat (first | refine mi_s1 (fun _ => rfl) ?_ | refine mi_wgf rfl (by assumption) rfl ?_ | refine mi_wal rfl (by assumption) rfl (by omega) (by decide) ?_)
    rw [hc]
    refine mi_wcv rfl rfl (Nat.le_of_ble_eq_true rfl) h0 rfl (ev_isFact HS H hok) ?_
    repeat (first | refine mi_s1 (fun _ => rfl) ?_ | refine mi_wgf rfl (by assumption) rfl ?_ | refine mi_wal rfl (by assumption) rfl (by omega) (by decide) ?_)
    refine mi_wif (fun z1 => ?_) (fun z1 => ?_)
    · repeat (first | refine mi_s1 (fun _ => rfl) ?_ | refine mi_wgf rfl (by assumption) rfl ?_ | refine mi_wal rfl (by assumption) rfl (by omega) (by decide) ?_)
      refine mi_wcv rfl rfl (Nat.le_of_ble_eq_true rfl) h0 rfl (ev_isSameAsEarlier H HA hq) ?_
      repeat (first | refine mi_s1 (fun _ => rfl) ?_ | refine mi_wgf rfl (by assumption) rfl ?_ | refine mi_wal rfl (by assumption) rfl (by omega) (by decide) ?_)
      refine mi_wif (fun z2 => ?_) (fun z2 => ?_)
      · rw [if_neg (fun h => h.elim (jb_0.mp z1) (jb_0.mp z2))]
        refine mi_s1 (fun _ => rfl) ?_; refine mi_s1 (fun _ => rfl) ?_; refine mi_s1 (fun _ => rfl) ?_
        rw [show nI i + nI 1 = nI (i + 1) from nI_1 i, show nI c + nI 1 = nI (c + 1) from nI_1 c, ← Nat.add_assoc]
        exact ev_countMissing_loop HS H HA f (i + 1) (c + 1) (by omega)
      · exact skip (Or.inr (Decidable.not_not.mp (fun h => z2 (jb_0.mpr h))))
    · exact skip (Or.inl (Decidable.not_not.mp (fun h => z1 (jb_0.mpr h))))
theorem ev_countMissing {w : mi_H} {F : Nat → Nat → Nat → Bool} {V : sp_V} {o : Nat} {as : List sp_A} (HS : St w F) (H : Se w V) (HA : At w o as) : mi_Ev X mi_P 4 k_Se_countMissing [.ref 23, .ref o] w (some (.int (nI (cms F V as as.length 0)))) w := by
  refine mi_Ev.of (M := m_Se_countMissing) rfl (Nat.le_of_ble_eq_true rfl) ?_
  refine mi_s1 (fun _ => rfl) ?_; refine mi_s1 (fun _ => rfl) ?_; refine mi_s1 (fun _ => rfl) ?_; refine mi_s1 (fun _ => rfl) ?_
  have e := ev_countMissing_loop (X := X) HS H HA as.length 0 0 (Nat.zero_add _)
  rw [Nat.zero_add] at e
  exact e
/-- the facts with an atom's added -/
def addA (V : sp_V) (F : Nat → Nat → Nat → Bool) (q : sp_A) : Nat → Nat → Nat → Bool := match V q.2.1, V q.2.2 with
  | some x, some y => updR F q.1 (addF (F q.1) x y)
  | _, _ => F
theorem ev_addFacts_loop {w0 : mi_H} {V : sp_V} {o : Nat} {as : List sp_A} (ho : 25 ≤ o) (hV : ∀ q ∈ as, V q.2.1 ≠ none ∧ V q.2.2 ≠ none) : ∀ f i (w : mi_H) (F : Nat → Nat → Nat → Bool) (z : Option Value), i + f = as.length → St w F → Se w V → At w o as → mi_Fg w0 w 5 23 → mi_wp X mi_P 2 m_Se_addFacts (2, [some (.ref 23), some (.ref o), some (.int (nI i)), z], [], w) (fun r w1 => r = none ∧ St w1 ((as.drop i).foldl (addA V) F) ∧ mi_Fg w0 w1 5 23)
  | 0, i, w, F, z, hi, HS, H, HA, hF => by
    obtain ⟨fc, a0, a1, hl, hf⟩ := id HA
    have hi : i = as.length := by omega
    repeat (first | refine mi_s1 (fun _ => rfl) ?_ | refine mi_wgf rfl (by assumption) rfl ?_ | refine mi_wal rfl (by assumption) rfl (by omega) (by decide) ?_)
    refine mi_wif (fun _ => ?_) (fun q => absurd (nI_le (a := as.length) (b := i) (by omega) (by omega)) q)
    refine mi_r1 (fun _ => rfl) ?_
    rw [hi, List.drop_length]
    exact ⟨rfl, HS, hF⟩
  | f + 1, i, w, F, z, hi, HS, H, HA, hF => by
    obtain ⟨fc, a0, a1, hl, hf⟩ := id HA
    obtain ⟨h0, -, hb⟩ := id H
    obtain ⟨s1, ⟨g, s2, hg⟩, -, -, s5⟩ := id HS
    obtain ⟨q, hq, hd⟩ := drop_at (l := as) (i := i) (by omega)
    obtain ⟨hc, hok⟩ := hf i q hq
    have hr := hok.1
    obtain ⟨rows, cols, fi, se, du, ct, r0, -⟩ := id (s5 q.1 hr)
    rw [hd]
    obtain ⟨n1, n2⟩ := hV q (List.mem_of_getElem? hq)
    cases hx : V q.2.1 with
    | none => exact absurd hx n1
    | some x =>
      cases hy : V q.2.2 with
      | none => exact absurd hy n2
      | some y =>
        have bx := hb _ x hok.2.1 hx
        have by' := hb _ y hok.2.2 hy
        have efv := ev_firstValue (X := X) H hok
        have esv := ev_secondValue (X := X) H hok
        rw [hx] at efv
        rw [hy] at esv
        repeat (first | refine mi_s1 (fun _ => rfl) ?_ | refine mi_wgf rfl (by assumption) rfl ?_ | refine mi_wal rfl (by assumption) rfl (by omega) (by decide) ?_)
        refine mi_wif (fun z => absurd z (nI_ge (a := i) (b := as.length) (by omega) (by omega))) (fun _ => ?_)
        repeat (first | refine mi_s1 (fun _ => rfl) ?_ | refine mi_wgf rfl (by assumption) rfl ?_ | refine mi_wal rfl (by assumption) rfl (by omega) (by decide) ?_)
        rw [hc]
        refine mi_wcs rfl (Nat.le_of_ble_eq_true rfl) ⟨Nat.le_of_ble_eq_true rfl, Nat.le_of_ble_eq_true rfl⟩ ((ev_rel hok).up (by decide)) ?_
        refine mi_waa rfl s2 ⟨by decide, by decide⟩ rfl (by omega) (by decide) ?_
        rw [hg q.1 hr]
        repeat (first | refine mi_s1 (fun _ => rfl) ?_ | refine mi_wgf rfl (by assumption) rfl ?_ | refine mi_wal rfl (by assumption) rfl (by omega) (by decide) ?_)
        refine mi_wcv rfl rfl (Nat.le_of_ble_eq_true rfl) h0 rfl (efv) ?_
        repeat (first | refine mi_s1 (fun _ => rfl) ?_ | refine mi_wgf rfl (by assumption) rfl ?_ | refine mi_wal rfl (by assumption) rfl (by omega) (by decide) ?_)
        refine mi_wcv rfl rfl (Nat.le_of_ble_eq_true rfl) h0 rfl (esv) ?_
        obtain ⟨r1, w1, he, rfl, H1, hF1⟩ := ev_add (X := X) (s5 q.1 hr) bx by'
        refine mi_wcv rfl rfl (Nat.le_of_ble_eq_true rfl) r0 rfl (he) ?_
        have hG1 : mi_Fg w w1 5 23 := mi_Fg.of3 hF1 (by omega) (by omega)
        refine mi_s1 (fun _ => rfl) ?_; refine mi_s1 (fun _ => rfl) ?_
        rw [show nI i + nI 1 = nI (i + 1) from nI_1 i]
        have e : (q :: as.drop (i + 1)).foldl (addA V) F = (as.drop (i + 1)).foldl (addA V) (updR F q.1 (addF (F q.1) x y)) := by
          show (as.drop (i + 1)).foldl (addA V) (addA V F q) = _
          unfold addA
          rw [hx, hy]
        rw [e]
        exact ev_addFacts_loop ho hV f (i + 1) w1 _ _ (by omega) (HS.one hr H1 hF1) (H.g hG1 (by omega)) (HA.g hG1 (by omega)) (hF.tr hG1)
theorem ev_addFacts {w : mi_H} {F : Nat → Nat → Nat → Bool} {V : sp_V} {o : Nat} {as : List sp_A} (ho : 25 ≤ o) (hV : ∀ q ∈ as, V q.2.1 ≠ none ∧ V q.2.2 ≠ none) (HS : St w F) (H : Se w V) (HA : At w o as) : mi_Ex X 3 k_Se_addFacts [.ref 23, .ref o] w (fun r w1 => r = none ∧ St w1 (as.foldl (addA V) F) ∧ mi_Fg w w1 5 23) := by
  refine mi_Ex.of (M := m_Se_addFacts) rfl (Nat.le_of_ble_eq_true rfl) ?_
  refine mi_s1 (fun _ => rfl) ?_; refine mi_s1 (fun _ => rfl) ?_
  have e := ev_addFacts_loop (X := X) (w0 := w) ho hV as.length 0 w F none (Nat.zero_add _) HS H HA mi_Fg.rf
  rw [List.drop_zero] at e
  exact e
theorem ev_certainSeconds_loop {w0 : mi_H} {F : Nat → Nat → Nat → Bool} {r v u a : Nat} {R : sp_R} (hr : 25 ≤ r) (hp : R.2.2.2 = some (v, u)) (ha : a < 16) : ∀ f b (x : Int32) (G : Nat → Bool) (V : sp_V) (w : mi_H), b + f = 16 → (∀ i, i < 32 → bt x i = (G i && decide (i < b))) → (∀ i, i < b → G i = cst F R.2.1 v u a i) → St w F → Se w V → Ru w r R → mi_Fg w0 w 24 25 → mi_wp X mi_P 8 m_Se_certainSeconds (5, [some (.ref 23), some (.ref r), some (.int (nI a)), some (.int x), some (.int (nI b))], [], w) (fun q w1 => (∃ y : Int32, q = some (.int y) ∧ ∀ i, i < 32 → bt y i = (cst F R.2.1 v u a i && decide (i < 16))) ∧ (∃ V', Se w1 V') ∧ mi_Fg w0 w1 24 25)
  | 0, b, x, G, V, w, hb, hx, hG, HS, H, HR, hF => by
    have hb : b = 16 := by omega
    subst hb
    repeat (first | refine mi_s1 (fun _ => rfl) ?_ | refine mi_wgf rfl (by assumption) rfl ?_ | refine mi_wal rfl (by assumption) rfl (by omega) (by decide) ?_)
    refine mi_r1 (fun _ => rfl) ?_
    refine ⟨⟨x, rfl, fun i hi => ?_⟩, ⟨V, H⟩, hF⟩
    rw [hx i hi]
    by_cases q : i < 16
    · rw [hG i q]
    · rw [decide_eq_false q, Bool.and_false, Bool.and_false]
  | f + 1, b, x, G, V, w, hb, hx, hG, HS, H, HR, hF => by
    obtain ⟨h0, ⟨fv, h1, hf⟩, hbd⟩ := id H
    obtain ⟨fi, se, r0, rb, rh, hk, hh, hpp⟩ := id HR
    obtain ⟨rfl, rfl, hv, hu⟩ := hpp v u hp
    -- on to the next b
    have go : ∀ (y : Int32) (V : sp_V) (w : mi_H), (∀ i, i < 32 → bt y i = ((if i = b then cst F R.2.1 v u a b else G i) && decide (i < b + 1))) → St w F → Se w V → Ru w r R → mi_Fg w0 w 24 25 → mi_wp X mi_P 8 m_Se_certainSeconds (87, [some (.ref 23), some (.ref r), some (.int (nI a)), some (.int y), some (.int (nI b))], [], w) (fun q w1 => (∃ y : Int32, q = some (.int y) ∧ ∀ i, i < 32 → bt y i = (cst F R.2.1 v u a i && decide (i < 16))) ∧ (∃ V', Se w1 V') ∧ mi_Fg w0 w1 24 25) := by
      intro y V w hy HS H HR hF
      refine mi_s1 (fun _ => rfl) ?_; refine mi_s1 (fun _ => rfl) ?_
      rw [show nI b + nI 1 = nI (b + 1) from nI_1 b]
      refine ev_certainSeconds_loop hr hp ha f (b + 1) y (fun i => if i = b then cst F R.2.1 v u a b else G i) V w (by omega) hy (fun i hi => ?_) HS H HR hF
      by_cases q : i = b
      · show (if i = b then _ else _) = _
        rw [if_pos q, q]
      · show (if i = b then _ else _) = _
        rw [if_neg q]
        exact hG i (by omega)
    have keep : cst F R.2.1 v u a b = false → ∀ i, i < 32 → bt x i = ((if i = b then cst F R.2.1 v u a b else G i) && decide (i < b + 1)) := by
      intro hc i hi
      rw [hx i hi]
      by_cases q : i = b
      · rw [if_pos q, hc, q, decide_eq_false (by omega), Bool.and_false, Bool.false_and]
      · rw [if_neg q]
        congr 1
        by_cases q2 : i < b
        · rw [decide_eq_true q2, decide_eq_true (by omega)]
        · rw [decide_eq_false q2, decide_eq_false (by omega)]
    have more : (v ≠ u ∨ a = b) → mi_wp X mi_P 8 m_Se_certainSeconds (32, [some (.ref 23), some (.ref r), some (.int (nI a)), some (.int x), some (.int (nI b))], [], w) (fun q w1 => (∃ y : Int32, q = some (.int y) ∧ ∀ i, i < 32 → bt y i = (cst F R.2.1 v u a i && decide (i < 16))) ∧ (∃ V', Se w1 V') ∧ mi_Fg w0 w1 24 25) := by
      intro hab
      have ec : cst F R.2.1 v u a b = (kf F (vab v u a b) R.2.1 && ch F R.2.1 4 0 (vab v u a b)) := by
        unfold cst
        rw [decide_eq_true hab, Bool.true_and]
      obtain ⟨r1, w1, he1, rfl, H1, hF1⟩ := ev_forgetValues (X := X) H
      repeat (first | refine mi_s1 (fun _ => rfl) ?_ | refine mi_wgf rfl (by assumption) rfl ?_ | refine mi_wal rfl (by assumption) rfl (by omega) (by decide) ?_)
      refine mi_wcv rfl rfl (Nat.le_of_ble_eq_true rfl) h0 rfl (he1.up (by decide)) ?_
      obtain ⟨k0, ⟨f1, k1, kf1⟩, -⟩ := id H1
      have r01 := hF1.get (by omega) r0
      repeat (first | refine mi_s1 (fun _ => rfl) ?_ | refine mi_wgf rfl (by assumption) rfl ?_ | refine mi_wal rfl (by assumption) rfl (by omega) (by decide) ?_)
      refine mi_wag rfl k1 rfl (by omega) (by decide) (fun w2 k2 hF2 => ?_)
      have hG2 : mi_Fg w1 w2 24 25 := mi_Fg.of1 hF2 (by omega) (by omega)
      have H2 := H1.set (o := some a) kf1 k2 hF2 (fun x hx => by cases hx; omega)
      obtain ⟨j0, ⟨f2, j1, jf2⟩, -⟩ := id H2
      have r02 := hG2.get (by omega) r01
      repeat (first | refine mi_s1 (fun _ => rfl) ?_ | refine mi_wgf rfl (by assumption) rfl ?_ | refine mi_wal rfl (by assumption) rfl (by omega) (by decide) ?_)
      refine mi_wag rfl j1 rfl (by omega) (by decide) (fun w3 k3 hF3 => ?_)
      have hG3 : mi_Fg w2 w3 24 25 := mi_Fg.of1 hF3 (by omega) (by omega)
      have H3 : Se w3 (vab v u a b) := H2.set (o := some b) jf2 k3 hF3 (fun x hx => by cases hx; omega)
      have hG : mi_Fg w w3 24 25 := (hF1.tr hG2).tr hG3
      have HS3 : St w3 F := HS.g hG (by omega)
      have HR3 : Ru w3 r R := HR.g hG (by omega)
      have r03 := hG3.get (by omega) r02
      obtain ⟨i0, -⟩ := id H3
      have rb3 : At w3 (r + 1) R.2.1 := rb.g hG (by omega)
      repeat (first | refine mi_s1 (fun _ => rfl) ?_ | refine mi_wgf rfl (by assumption) rfl ?_ | refine mi_wal rfl (by assumption) rfl (by omega) (by decide) ?_)
      refine mi_wcv rfl rfl (Nat.le_of_ble_eq_true rfl) i0 rfl ((ev_knownAreFacts HS3 H3 rb3).up (by decide)) ?_
      repeat (first | refine mi_s1 (fun _ => rfl) ?_ | refine mi_wgf rfl (by assumption) rfl ?_ | refine mi_wal rfl (by assumption) rfl (by omega) (by decide) ?_)
      refine mi_wif (fun z => ?_) (fun z => ?_)
      · refine go x _ w3 (keep ?_) HS3 H3 HR3 (hF.tr hG)
        rw [ec]
        have : kf F (vab v u a b) R.2.1 = false := by simpa using jb_0.mp z
        rw [this, Bool.false_and]
      · have z : kf F (vab v u a b) R.2.1 = true := Decidable.not_not.mp (fun q => z (jb_0.mpr q))
        obtain ⟨r4, w4, he4, rfl, H4, hF4⟩ := ev_canHold (X := X) (F := F) (o := r + 1) (as := R.2.1) (by omega) 4 0 _ w3 rfl HS3 H3 rb3
        repeat (first | refine mi_s1 (fun _ => rfl) ?_ | refine mi_wgf rfl (by assumption) rfl ?_ | refine mi_wal rfl (by assumption) rfl (by omega) (by decide) ?_)
        refine mi_wcv rfl rfl (Nat.le_of_ble_eq_true rfl) i0 rfl (he4) ?_
        repeat (first | refine mi_s1 (fun _ => rfl) ?_ | refine mi_wgf rfl (by assumption) rfl ?_ | refine mi_wal rfl (by assumption) rfl (by omega) (by decide) ?_)
        refine mi_wif (fun z2 => ?_) (fun z2 => ?_)
        · refine go x _ w4 (keep ?_) (HS3.g hF4 (by omega)) H4 (HR3.g hF4 (by omega)) ((hF.tr hG).tr hF4)
          rw [ec, z, Bool.true_and]
          simpa using jb_0.mp z2
        · have z2 : ch F R.2.1 4 0 (vab v u a b) = true := Decidable.not_not.mp (fun q => z2 (jb_0.mpr q))
          refine mi_s1 (fun _ => rfl) ?_; refine mi_s1 (fun _ => rfl) ?_; refine mi_s1 (fun _ => rfl) ?_; refine mi_s1 (fun _ => rfl) ?_; refine mi_s1 (fun _ => rfl) ?_; refine mi_s1 (fun _ => rfl) ?_
          refine go _ _ w4 (fun i hi => ?_) (HS3.g hF4 (by omega)) H4 (HR3.g hF4 (by omega)) ((hF.tr hG).tr hF4)
          rw [bt_set (by omega) hi, hx i hi]
          by_cases q : i = b
          · rw [if_pos q, ec, z, z2, q]
            simp
          · rw [if_neg q, decide_eq_false q, Bool.or_false]
            congr 1
            by_cases q2 : i < b
            · rw [decide_eq_true q2, decide_eq_true (by omega)]
            · rw [decide_eq_false q2, decide_eq_false (by omega)]
    repeat (first | refine mi_s1 (fun _ => rfl) ?_ | refine mi_wgf rfl (by assumption) rfl ?_ | refine mi_wal rfl (by assumption) rfl (by omega) (by decide) ?_)
    refine mi_wif (fun q => absurd q (nI_ge (a := b) (b := 16) (by omega) (by omega))) (fun _ => ?_)
    repeat (first | refine mi_s1 (fun _ => rfl) ?_ | refine mi_wgf rfl (by assumption) rfl ?_ | refine mi_wal rfl (by assumption) rfl (by omega) (by decide) ?_)
    refine mi_wif (fun z => ?_) (fun z => ?_)
    · have z : v = u := (nI_eq (by omega) (by omega)).mp z
      repeat (first | refine mi_s1 (fun _ => rfl) ?_ | refine mi_wgf rfl (by assumption) rfl ?_ | refine mi_wal rfl (by assumption) rfl (by omega) (by decide) ?_)
      refine mi_wif (fun z2 => ?_) (fun z2 => ?_)
      · exact more (Or.inr ((nI_eq (by omega) (by omega)).mp z2))
      · have z2 : ¬ a = b := fun q => z2 (by rw [q])
        refine mi_s1 (fun _ => rfl) ?_
        refine go x V w (keep ?_) HS H HR hF
        unfold cst
        rw [decide_eq_false (by
          rintro (q | q)
          · exact q z
          · exact z2 q), Bool.false_and]
    · exact more (Or.inl (fun q => z (by rw [q])))
theorem ev_certainSeconds {w : mi_H} {F : Nat → Nat → Nat → Bool} {V : sp_V} {r v u a : Nat} {R : sp_R} (hr : 25 ≤ r) (hp : R.2.2.2 = some (v, u)) (ha : a < 16) (HS : St w F) (H : Se w V) (HR : Ru w r R) : mi_Ex X 9 k_Se_certainSeconds [.ref 23, .ref r, .int (nI a)] w (fun q w1 => (∃ y : Int32, q = some (.int y) ∧ ∀ i, i < 32 → bt y i = (cst F R.2.1 v u a i && decide (i < 16))) ∧ (∃ V', Se w1 V') ∧ mi_Fg w w1 24 25) := by
  refine mi_Ex.of (M := m_Se_certainSeconds) rfl (Nat.le_of_ble_eq_true rfl) ?_
  refine mi_s1 (fun _ => rfl) ?_; refine mi_s1 (fun _ => rfl) ?_; refine mi_s1 (fun _ => rfl) ?_; refine mi_s1 (fun _ => rfl) ?_
  exact ev_certainSeconds_loop hr hp ha 16 0 _ (fun _ => false) V w rfl (fun i hi => by rw [show nI 0 = 0 from nI_0, b_0]; rfl) (fun i hi => absurd hi (Nat.not_lt_zero i)) HS H HR mi_Fg.rf
end Search2
