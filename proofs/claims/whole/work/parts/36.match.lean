/-! matches in their order, and what is left of them -/
def upN (m : Nat → Nat) (v x : Nat) : Nat → Nat := fun u => if u = v then x else m u
def mxv (bo : List sp_A) (v : Nat) : Nat := if inB bo v = true then 23 else 0
def okP (F : Nat → Nat → Nat → Bool) (bo : List sp_A) (v : Nat) (m : Nat → Nat) : Bool := bo.all (fun q => decide (v < q.2.1) || decide (v < q.2.2) || F q.1 (m q.2.1) (m q.2.2))
def okQ (F : Nat → Nat → Nat → Bool) (bo : List sp_A) (v : Nat) (m : Nat → Nat) : Bool := !inB bo v || okP F bo v m
def mM (F : Nat → Nat → Nat → Bool) (bo : List sp_A) : Nat → (Nat → Nat) → List (Nat → Nat)
  | 0, m => [m]
  | n + 1, m => (List.range (mxv bo (3 - n) + 1)).flatMap (fun x => if okQ F bo (3 - n) (upN m (3 - n) x) = true then mM F bo n (upN m (3 - n) x) else [])
def mT (F : Nat → Nat → Nat → Bool) (bo : List sp_A) (v : Nat) (m : Nat → Nat) (x : Nat) : List (Nat → Nat) := (List.range' x (mxv bo v + 1 - x)).flatMap (fun y => if okQ F bo v (upN m v y) = true then mM F bo (3 - v) (upN m v y) else [])
def mR (F : Nat → Nat → Nat → Bool) (bo : List sp_A) : Nat → (Nat → Nat) → List (Nat → Nat)
  | 0, _ => []
  | v + 1, m => mT F bo v m (m v + 1) ++ mR F bo v m
theorem mR_s (F : Nat → Nat → Nat → Bool) (bo : List sp_A) (v : Nat) (m : Nat → Nat) : mR F bo (v + 1) m = mT F bo v m (m v + 1) ++ mR F bo v m := rfl
section Match
variable {F : Nat → Nat → Nat → Bool} {bo : List sp_A}
theorem mM_T {n : Nat} (hn : n ≤ 3) (m : Nat → Nat) : mM F bo (n + 1) m = mT F bo (3 - n) m 0 := by
  unfold mT
  rw [show 3 - (3 - n) = n by omega, Nat.sub_zero, ← List.range_eq_range']
  rfl
theorem mT_s {v x : Nat} {m : Nat → Nat} (h : x ≤ mxv bo v) : mT F bo v m x = (if okQ F bo v (upN m v x) = true then mM F bo (3 - v) (upN m v x) else []) ++ mT F bo v m (x + 1) := by
  unfold mT
  rw [show mxv bo v + 1 - x = (mxv bo v + 1 - (x + 1)) + 1 by omega, List.range'_succ, List.flatMap_cons]
theorem mT_e {v x : Nat} {m : Nat → Nat} (h : mxv bo v < x) : mT F bo v m x = [] := by
  unfold mT
  rw [show mxv bo v + 1 - x = 0 by omega]
  rfl
theorem okP_congr {v : Nat} {m m' : Nat → Nat} (h : ∀ u, u ≤ v → m u = m' u) : okP F bo v m = okP F bo v m' := by
  unfold okP
  rw [Bool.eq_iff_iff, List.all_eq_true, List.all_eq_true]
  have e : ∀ q : sp_A, (decide (v < q.2.1) || decide (v < q.2.2) || F q.1 (m q.2.1) (m q.2.2)) = (decide (v < q.2.1) || decide (v < q.2.2) || F q.1 (m' q.2.1) (m' q.2.2)) := by
    intro q
    by_cases h1 : v < q.2.1
    · rw [decide_eq_true h1]
      rfl
    · by_cases h2 : v < q.2.2
      · rw [decide_eq_true h2, Bool.or_true]
        rfl
      · rw [h _ (by omega), h _ (by omega)]
  constructor
  · intro z q hq
    rw [← e q]
    exact z q hq
  · intro z q hq
    rw [e q]
    exact z q hq
theorem okQ_congr {v : Nat} {m m' : Nat → Nat} (h : ∀ u, u ≤ v → m u = m' u) : okQ F bo v m = okQ F bo v m' := by
  unfold okQ
  rw [okP_congr h]
theorem mM_congr : ∀ (n : Nat) (m m' : Nat → Nat), n ≤ 4 → (∀ u, u < 4 - n ∨ 4 ≤ u → m u = m' u) → mM F bo n m = mM F bo n m'
  | 0, m, m', _, h => by
    have : m = m' := by
      funext u
      exact h u (by omega)
    rw [this]
  | n + 1, m, m', hn, h => by
    unfold mM
    congr 1
    funext x
    have e : ∀ u, u ≤ 3 - n ∨ 4 ≤ u → upN m (3 - n) x u = upN m' (3 - n) x u := by
      intro u hu
      unfold upN
      by_cases q : u = 3 - n
      · rw [if_pos q, if_pos q]
      · rw [if_neg q, if_neg q]
        exact h u (by omega)
    rw [okQ_congr (fun u hu => e u (Or.inl hu)), mM_congr n _ _ (by omega) (fun u hu => e u (by omega))]
theorem mT_congr {v x : Nat} {m m' : Nat → Nat} (hv : v ≤ 3) (h : ∀ u, u < v ∨ 4 ≤ u → m u = m' u) : mT F bo v m x = mT F bo v m' x := by
  unfold mT
  congr 1
  funext y
  have e : ∀ u, u ≤ v ∨ 4 ≤ u → upN m v y u = upN m' v y u := by
    intro u hu
    unfold upN
    by_cases q : u = v
    · rw [if_pos q, if_pos q]
    · rw [if_neg q, if_neg q]
      exact h u (by omega)
  rw [okQ_congr (fun u hu => e u (Or.inl hu)), mM_congr (3 - v) _ _ (by omega) (fun u hu => e u (by omega))]
theorem mR_congr : ∀ (v : Nat) (m m' : Nat → Nat), v ≤ 4 → (∀ u, u < v ∨ 4 ≤ u → m u = m' u) → mR F bo v m = mR F bo v m'
  | 0, m, m', _, h => rfl
  | v + 1, m, m', hv, h => by
    unfold mR
    rw [h v (by omega), mT_congr (m := m) (m' := m') (by omega) (fun u hu => h u (by omega)), mR_congr v m m' (by omega) (fun u hu => h u (by omega))]
theorem upN_v {m : Nat → Nat} {v x : Nat} : upN m v x v = x := if_pos rfl
theorem upN_o {m : Nat → Nat} {v x u : Nat} (h : u ≠ v) : upN m v x u = m u := if_neg h
theorem mT_rem0 {v : Nat} (hv : v ≤ 3) (ih : ∀ (m m' : Nat → Nat) r, mM F bo (3 - v) m = m' :: r → mR F bo 4 m' = r ++ mR F bo (v + 1) m) (m : Nat → Nat) : ∀ k x m' r, mxv bo v + 1 - x = k → mT F bo v m x = m' :: r → mR F bo 4 m' = r ++ mR F bo v m
  | 0, x, m', r, hk, h => by
    rw [mT_e (by omega)] at h
    cases h
  | k + 1, x, m', r, hk, h => by
    rw [mT_s (by omega)] at h
    have ih2 := mT_rem0 hv ih m k (x + 1)
    have key : ∀ l : List (Nat → Nat), l ++ mT F bo v m (x + 1) = m' :: r → (∀ m'' r'', l = m'' :: r'' → mR F bo 4 m'' = r'' ++ mR F bo (v + 1) (upN m v x)) → mR F bo 4 m' = r ++ mR F bo v m := by
      intro l hl hi
      cases l with
      | nil => exact ih2 m' r (by omega) hl
      | cons m'' r'' =>
        rw [List.cons_append] at hl
        injection hl with e1 e2
        rw [← e1, hi m'' r'' rfl, ← e2]
        rw [mR_s, upN_v, mT_congr (m := upN m v x) (m' := m) hv (fun u hu => upN_o (by omega)), mR_congr v (upN m v x) m (by omega) (fun u hu => upN_o (by omega)), List.append_assoc]
    refine key _ h (fun m'' r'' e => ?_)
    split at e
    · exact ih _ _ _ e
    · cases e
theorem mM_rem : ∀ (n : Nat) (m m' : Nat → Nat) r, n ≤ 4 → mM F bo n m = m' :: r → mR F bo 4 m' = r ++ mR F bo (4 - n) m
  | 0, m, m', r, _, h => by
    unfold mM at h
    injection h with e1 e2
    rw [← e1, ← e2]
    rfl
  | n + 1, m, m', r, hn, h => by
    rw [mM_T (by omega)] at h
    have ih : ∀ (m m' : Nat → Nat) r, mM F bo (3 - (3 - n)) m = m' :: r → mR F bo 4 m' = r ++ mR F bo (3 - n + 1) m := by
      intro m m' r h
      rw [show 3 - (3 - n) = n by omega] at h
      have := mM_rem n m m' r (by omega) h
      rw [show 4 - n = 3 - n + 1 by omega] at this
      exact this
    have := mT_rem0 (by omega) ih m _ 0 m' r rfl h
    rw [show 4 - (n + 1) = 3 - n by omega]
    exact this
theorem mT_rem {v x : Nat} {m m' : Nat → Nat} {r : List (Nat → Nat)} (hv : v ≤ 3) (h : mT F bo v m x = m' :: r) : mR F bo 4 m' = r ++ mR F bo v m := by
  refine mT_rem0 hv (fun m m' r h => ?_) m _ x m' r rfl h
  have := mM_rem (3 - v) m m' r (by omega) h
  rw [show 4 - (3 - v) = v + 1 by omega] at this
  exact this
theorem mR_rem : ∀ (v : Nat) (m m' : Nat → Nat) r, v ≤ 4 → mR F bo v m = m' :: r → mR F bo 4 m' = r
  | 0, m, m', r, _, h => by cases h
  | v + 1, m, m', r, hv, h => by
    unfold mR at h
    cases q : mT F bo v m (m v + 1) with
    | nil =>
      rw [q] at h
      exact mR_rem v m m' r (by omega) h
    | cons m'' r'' =>
      rw [q, List.cons_append] at h
      injection h with e1 e2
      rw [← e1, mT_rem (by omega) q, e2]
theorem mem_mM : ∀ (n : Nat) (m m' : Nat → Nat), n ≤ 4 → (m' ∈ mM F bo n m ↔ (∀ u, u < 4 - n ∨ 4 ≤ u → m' u = m u) ∧ ∀ u, 4 - n ≤ u → u < 4 → m' u ≤ mxv bo u ∧ okQ F bo u m' = true)
  | 0, m, m', _ => by
    unfold mM
    rw [List.mem_singleton]
    constructor
    · rintro rfl
      exact ⟨fun _ _ => rfl, fun u h1 h2 => absurd h2 (by omega)⟩
    · rintro ⟨h, -⟩
      funext u
      exact h u (by omega)
  | n + 1, m, m', hn => by
    unfold mM
    rw [List.mem_flatMap]
    constructor
    · rintro ⟨x, hx, h⟩
      rw [List.mem_range] at hx
      split at h
      · rename_i ok
        obtain ⟨h1, h2⟩ := (mem_mM n _ _ (by omega)).mp h
        have e : ∀ u, u ≤ 3 - n → m' u = upN m (3 - n) x u := fun u hu => h1 u (by omega)
        refine ⟨fun u hu => ?_, fun u q1 q2 => ?_⟩
        · rw [h1 u (by omega), upN_o (by omega)]
        · by_cases z : u = 3 - n
          · subst z
            rw [okQ_congr e, e _ (Nat.le_refl _), upN_v]
            exact ⟨by omega, ok⟩
          · exact h2 u (by omega) q2
      · cases h
    · rintro ⟨h1, h2⟩
      obtain ⟨h3, h4⟩ := h2 (3 - n) (by omega) (by omega)
      have e : ∀ u, u ≤ 3 - n ∨ 4 ≤ u → m' u = upN m (3 - n) (m' (3 - n)) u := by
        intro u hu
        by_cases z : u = 3 - n
        · rw [z, upN_v]
        · rw [upN_o z]
          exact h1 u (by omega)
      refine ⟨m' (3 - n), List.mem_range.mpr (by omega), ?_⟩
      rw [← okQ_congr (m := m') (fun u hu => e u (Or.inl hu)), if_pos h4, mem_mM n _ _ (by omega)]
      exact ⟨fun u hu => e u (by omega), fun u q1 q2 => h2 u (by omega) q2⟩
/-- all atoms of the body hold -/
theorem mM_all {m m' : Nat → Nat} (hb : ∀ q ∈ bo, okA q) (h : m' ∈ mM F bo 4 m) : ∀ q ∈ bo, F q.1 (m' q.2.1) (m' q.2.2) = true := by
  intro q hq
  obtain ⟨-, h2⟩ := (mem_mM 4 m m' (by omega)).mp h
  obtain ⟨-, o1, o2⟩ := hb q hq
  obtain ⟨-, h3⟩ := h2 3 (by omega) (by omega)
  have hm := inB_mem hq
  have hin : inB bo (max q.2.1 q.2.2) = true := by
    rcases Nat.le_total q.2.1 q.2.2 with z | z
    · rw [Nat.max_eq_right z]
      exact hm.2
    · rw [Nat.max_eq_left z]
      exact hm.1
  obtain ⟨-, h4⟩ := h2 (max q.2.1 q.2.2) (by omega) (by omega)
  unfold okQ at h4
  rw [hin] at h4
  have h4 : okP F bo (max q.2.1 q.2.2) m' = true := h4
  unfold okP at h4
  rw [List.all_eq_true] at h4
  have := h4 q hq
  rw [decide_eq_false (by omega), decide_eq_false (by omega)] at this
  exact this
theorem mM_lt {n : Nat} {m m' : Nat → Nat} (hn : n ≤ 4) (h : m' ∈ mM F bo n m) : ∀ u, 4 - n ≤ u → u < 4 → m' u < 24 := by
  intro u h1 h2
  have := (((mem_mM n m m' hn).mp h).2 u h1 h2).1
  unfold mxv at this
  split at this <;> omega
/-- the class's values for a match -/
def tv (bo : List sp_A) (v : Nat) (m : Nat → Nat) : sp_V := fun u => if u < v ∧ inB bo u = true then some (m u) else none
theorem tv_congr {v : Nat} {m m' : Nat → Nat} (h : ∀ u, u < v → m u = m' u) : tv bo v m = tv bo v m' := by
  funext u
  unfold tv
  by_cases q : u < v ∧ inB bo u = true
  · rw [if_pos q, if_pos q, h u q.1]
  · rw [if_neg q, if_neg q]
theorem tv_up {v x : Nat} {m : Nat → Nat} (h : inB bo v = true) : tv bo (v + 1) (upN m v x) = updS (tv bo v m) v (some x) := by
  funext u
  unfold tv updS
  dsimp only
  by_cases q : u = v
  · subst q
    rw [if_pos ⟨by omega, h⟩, if_pos rfl, upN_v]
  · rw [if_neg q, upN_o q]
    by_cases z : u < v ∧ inB bo u = true
    · rw [if_pos ⟨by omega, z.2⟩, if_pos z]
    · rw [if_neg (fun p => z ⟨by omega, p.2⟩), if_neg z]
theorem tv_no {v x : Nat} {m : Nat → Nat} (h : inB bo v = false) : tv bo (v + 1) (upN m v x) = tv bo v m := by
  funext u
  unfold tv
  by_cases q : u = v
  · subst q
    rw [if_neg (by rw [h]; simp), if_neg (by omega)]
  · rw [upN_o q]
    by_cases z : u < v ∧ inB bo u = true
    · rw [if_pos ⟨by omega, z.2⟩, if_pos z]
    · rw [if_neg (fun p => z ⟨by omega, p.2⟩), if_neg z]
theorem tv_some {v u : Nat} {m : Nat → Nat} (h1 : u < v) (h2 : inB bo u = true) : tv bo v m u = some (m u) := if_pos ⟨h1, h2⟩
theorem tv_none {v u : Nat} {m : Nat → Nat} (h1 : v ≤ u) : tv bo v m u = none := if_neg (fun q => by omega)
/-- what the class allows is what a match has -/
theorem alV_of {v x : Nat} {m m' : Nat → Nat} (hx : x < 24) (hb24 : ∀ i, i < 6 → ∀ x y, F i x y = true → x < 24 ∧ y < 24) (hb : ∀ q ∈ bo, okA q) (h1 : ∀ u, u < v → m' u = m u) (h2 : m' v = x) (h3 : ∀ q ∈ bo, q.2.1 = v ∨ q.2.2 = v → F q.1 (m' q.2.1) (m' q.2.2) = true) : alV F (tv bo v m) bo v x = true := by
  unfold alV
  rw [Bool.and_eq_true, List.all_eq_true]
  refine ⟨decide_eq_true hx, fun q hq => ?_⟩
  have hm := inB_mem hq
  have hr := (hb q hq).1
  unfold alB
  by_cases e1 : q.2.1 = v
  · rw [if_pos e1]
    have f := h3 q hq (Or.inl e1)
    rw [e1, h2] at f
    by_cases e2 : q.2.2 = v
    · rw [if_pos e2]
      rw [e2, h2] at f
      exact f
    · rw [if_neg e2]
      rcases Nat.lt_or_ge q.2.2 v with z | z
      · rw [tv_some z hm.2, ← h1 _ z]
        exact f
      · rw [tv_none z]
        exact anyB_iff.mpr ⟨m' q.2.2, (hb24 _ hr _ _ f).2, f⟩
  · rw [if_neg e1]
    by_cases e2 : q.2.2 = v
    · rw [if_pos e2]
      have f := h3 q hq (Or.inr e2)
      rw [e2, h2] at f
      rcases Nat.lt_or_ge q.2.1 v with z | z
      · rw [tv_some z hm.1, ← h1 _ z]
        exact f
      · rw [tv_none z]
        exact anyB_iff.mpr ⟨m' q.2.1, (hb24 _ hr _ _ f).1, f⟩
    · rw [if_neg e2]
      exact decide_eq_true hx
theorem alV_ok {v x : Nat} {m : Nat → Nat} (hp : ∀ q ∈ bo, q.2.1 < v → q.2.2 < v → F q.1 (m q.2.1) (m q.2.2) = true) (h : alV F (tv bo v m) bo v x = true) : ∀ q ∈ bo, q.2.1 < v + 1 → q.2.2 < v + 1 → F q.1 (upN m v x q.2.1) (upN m v x q.2.2) = true := by
  intro q hq h1 h2
  unfold alV at h
  rw [Bool.and_eq_true, List.all_eq_true] at h
  have f := h.2 q hq
  have hm := inB_mem hq
  unfold alB at f
  by_cases e1 : q.2.1 = v
  · rw [if_pos e1] at f
    by_cases e2 : q.2.2 = v
    · rw [if_pos e2] at f
      rw [e1, e2, upN_v]
      exact f
    · rw [if_neg e2, tv_some (by omega) hm.2] at f
      rw [e1, upN_v, upN_o e2]
      exact f
  · rw [if_neg e1] at f
    by_cases e2 : q.2.2 = v
    · rw [if_pos e2, tv_some (by omega) hm.1] at f
      rw [e2, upN_v, upN_o e1]
      exact f
    · rw [upN_o e1, upN_o e2]
      exact hp q hq (by omega) (by omega)
theorem okP_of {v : Nat} {m : Nat → Nat} (h : ∀ q ∈ bo, q.2.1 < v + 1 → q.2.2 < v + 1 → F q.1 (m q.2.1) (m q.2.2) = true) : okP F bo v m = true := by
  unfold okP
  rw [List.all_eq_true]
  intro q hq
  by_cases h1 : v < q.2.1
  · rw [decide_eq_true h1]
    rfl
  · by_cases h2 : v < q.2.2
    · rw [decide_eq_true h2, Bool.or_true]
      rfl
    · rw [h q hq (by omega) (by omega), Bool.or_true]
theorem okQ_of {v : Nat} {m : Nat → Nat} (h : ∀ q ∈ bo, q.2.1 < v + 1 → q.2.2 < v + 1 → F q.1 (m q.2.1) (m q.2.2) = true) : okQ F bo v m = true := by
  unfold okQ
  rw [okP_of h, Bool.or_true]
theorem fs_congr {α : Type} {g h : Nat → Option α} : ∀ (l : List Nat), (∀ x ∈ l, g x = h x) → l.findSome? g = l.findSome? h
  | [], _ => rfl
  | a :: l, e => by
    rw [List.findSome?_cons, List.findSome?_cons, e a List.mem_cons_self, fs_congr l (fun x hx => e x (List.mem_cons_of_mem _ hx))]
theorem fs_map {α β : Type} {g : Nat → Option α} {h : α → β} : ∀ (l : List Nat), (l.findSome? g).map h = l.findSome? (fun x => (g x).map h)
  | [] => rfl
  | a :: l => by
    rw [List.findSome?_cons, List.findSome?_cons, ← fs_map l]
    cases g a <;> rfl
theorem fd_flat {α : Type} {p : α → Bool} {f : Nat → List α} : ∀ (l : List Nat), (l.flatMap f).find? p = l.findSome? (fun x => (f x).find? p)
  | [] => rfl
  | a :: l => by
    rw [List.flatMap_cons, List.find?_append, List.findSome?_cons, fd_flat l]
    cases (f a).find? p <;> rfl
/-- the class's search finds the first match that is not satisfied -/
theorem fu_mM {R : sp_R} {s : Nat} (hs : s ≤ 4) (hb24 : ∀ i, i < 6 → ∀ x y, F i x y = true → x < 24 ∧ y < 24) (hb : ∀ q ∈ R.2.1, okA q) : ∀ n v (m : Nat → Nat), v + n = 4 → (∀ q ∈ R.2.1, q.2.1 < v → q.2.2 < v → F q.1 (m q.2.1) (m q.2.2) = true) → (s < v → satV F R (tv R.2.1 s m) = false) → fu F R s n v (tv R.2.1 v m) = ((mM F R.2.1 n m).find? (fun m' => !satV F R (tv R.2.1 s m'))).map (tv R.2.1 4)
  | 0, v, m, hv, hp, hsv => by
    have hv : v = 4 := by omega
    subst hv
    unfold fu mM
    rw [List.find?_cons]
    by_cases z : 4 = s ∧ satV F R (tv R.2.1 4 m) = true
    · rw [if_pos z, ← z.1, z.2]
      rfl
    · rw [if_neg z]
      have : satV F R (tv R.2.1 s m) = false := by
        by_cases e : s < 4
        · exact hsv e
        · have e : s = 4 := by omega
          subst e
          cases q : satV F R (tv R.2.1 4 m) with
          | false => rfl
          | true => exact absurd ⟨rfl, q⟩ z
      rw [this]
      rfl
  | n + 1, v, m, hv, hp, hsv => by
    have hv3 : v = 3 - n := by omega
    by_cases z : v = s ∧ satV F R (tv R.2.1 v m) = true
    · unfold fu
      rw [if_pos z]
      have e : (mM F R.2.1 (n + 1) m).find? (fun m' => !satV F R (tv R.2.1 s m')) = none := by
        rw [List.find?_eq_none]
        intro m' hm'
        obtain ⟨h1, -⟩ := (mem_mM (n + 1) m m' (by omega)).mp hm'
        rw [tv_congr (m := m') (m' := m) (fun u hu => h1 u (by omega)), ← z.1, z.2]
        decide
      rw [e]
      rfl
    · have hsat : s < v + 1 → satV F R (tv R.2.1 s m) = false := by
        intro e
        by_cases e2 : s < v
        · exact hsv e2
        · have e2 : v = s := by omega
          subst e2
          cases q : satV F R (tv R.2.1 v m) with
          | false => rfl
          | true => exact absurd ⟨rfl, q⟩ z
      have hsx : ∀ x, s < v + 1 → satV F R (tv R.2.1 s (upN m v x)) = false := by
        intro x e
        rw [tv_congr (m := upN m v x) (m' := m) (fun u hu => upN_o (by omega))]
        exact hsat e
      unfold fu
      rw [if_neg z]
      unfold mM
      rw [← hv3, fd_flat, fs_map]
      by_cases zb : inB R.2.1 v = false
      · rw [if_pos zb]
        have e : mxv R.2.1 v + 1 = 1 := by
          unfold mxv
          rw [zb]
          rfl
        have eo : okQ F R.2.1 v (upN m v 0) = true := by
          unfold okQ
          rw [zb]
          rfl
        rw [e, show List.range 1 = [0] from rfl, List.findSome?_cons, if_pos eo, ← tv_no (m := m) (x := 0) zb]
        rw [fu_mM hs hb24 hb n (v + 1) (upN m v 0) (by omega) (fun q hq h1 h2 => ?_) (hsx 0)]
        · cases Option.map (tv R.2.1 4) ((mM F R.2.1 n (upN m v 0)).find? (fun m' => !satV F R (tv R.2.1 s m'))) <;> rfl
        · have hm := inB_mem hq
          have n1 : q.2.1 ≠ v := fun e => by rw [e, zb] at hm; cases hm.1
          have n2 : q.2.2 ≠ v := fun e => by rw [e, zb] at hm; cases hm.2
          rw [upN_o n1, upN_o n2]
          exact hp q hq (by omega) (by omega)
      · rw [if_neg zb]
        have zb : inB R.2.1 v = true := by simpa using zb
        have e : mxv R.2.1 v + 1 = 24 := by
          unfold mxv
          rw [if_pos zb]
        rw [e]
        refine fs_congr _ (fun x hx => ?_)
        rw [List.mem_range] at hx
        by_cases za : alV F (tv R.2.1 v m) R.2.1 v x = true
        · have hp' := alV_ok hp za
          rw [if_pos za, if_pos (okQ_of hp'), ← tv_up zb]
          exact fu_mM hs hb24 hb n (v + 1) (upN m v x) (by omega) hp' (hsx x)
        · rw [if_neg za]
          by_cases zo : okQ F R.2.1 v (upN m v x) = true
          · rw [if_pos zo]
            have : (mM F R.2.1 n (upN m v x)).find? (fun m' => !satV F R (tv R.2.1 s m')) = none := by
              rw [List.find?_eq_none]
              intro m' hm'
              exfalso
              obtain ⟨h1, h2⟩ := (mem_mM n _ m' (by omega)).mp hm'
              refine za (alV_of (m' := m') hx hb24 hb (fun u hu => ?_) ?_ (fun q hq hqv => ?_))
              · rw [h1 u (by omega), upN_o (by omega)]
              · rw [h1 v (by omega), upN_v]
              · obtain ⟨-, o1, o2⟩ := hb q hq
                have hm := inB_mem hq
                have hin : inB R.2.1 (max q.2.1 q.2.2) = true := by
                  rcases Nat.le_total q.2.1 q.2.2 with t | t
                  · rw [Nat.max_eq_right t]
                    exact hm.2
                  · rw [Nat.max_eq_left t]
                    exact hm.1
                have h4 : okQ F R.2.1 (max q.2.1 q.2.2) m' = true := by
                  by_cases t : max q.2.1 q.2.2 = v
                  · rw [t, okQ_congr (m' := upN m v x) (fun u hu => h1 u (by omega))]
                    exact zo
                  · exact (h2 _ (by omega) (by omega)).2
                unfold okQ at h4
                rw [hin] at h4
                have h4 : okP F R.2.1 (max q.2.1 q.2.2) m' = true := h4
                unfold okP at h4
                rw [List.all_eq_true] at h4
                have := h4 q hq
                rw [decide_eq_false (by omega), decide_eq_false (by omega)] at this
                exact this
            rw [this]
            rfl
          · rw [if_neg zo]
            rfl
/-- values that go on with known ones -/
def exW (V : sp_V) (W : Nat → Nat) : Prop := ∀ u x, V u = some x → W u = x
theorem kf_iff {V : sp_V} {as : List sp_A} : kf F V as = true ↔ ∀ q ∈ as, ∀ x y, V q.2.1 = some x → V q.2.2 = some y → F q.1 x y = true := by
  unfold kf
  rw [List.all_eq_true]
  constructor
  · intro h q hq x y h1 h2
    have := h q hq
    unfold kfA at this
    rw [h1, h2] at this
    exact this
  · intro h q hq
    unfold kfA
    cases h1 : V q.2.1 with
    | none => rfl
    | some x =>
      cases h2 : V q.2.2 with
      | none => rfl
      | some y => exact h q hq x y h1 h2
theorem ch_iff {as : List sp_A} (hb24 : ∀ i, i < 6 → ∀ x y, F i x y = true → x < 24 ∧ y < 24) (hb : ∀ q ∈ as, okA q) : ∀ n v (V : sp_V), v + n = 4 → (∀ u, u < v → inB as u = true → V u ≠ none) → kf F V as = true → (ch F as n v V = true ↔ ∃ W, exW V W ∧ ∀ q ∈ as, F q.1 (W q.2.1) (W q.2.2) = true)
  | 0, v, V, hv, hk, hkf => by
    refine ⟨fun _ => ⟨fun u => (V u).getD 0, fun u x h => by show (V u).getD 0 = x; rw [h]; rfl, fun q hq => ?_⟩, fun _ => rfl⟩
    have hm := inB_mem hq
    obtain ⟨-, o1, o2⟩ := hb q hq
    cases h1 : V q.2.1 with
    | none => exact absurd h1 (hk _ (by omega) hm.1)
    | some x =>
      cases h2 : V q.2.2 with
      | none => exact absurd h2 (hk _ (by omega) hm.2)
      | some y =>
        show F q.1 ((V q.2.1).getD 0) ((V q.2.2).getD 0) = true
        rw [h1, h2]
        exact kf_iff.mp hkf q hq x y h1 h2
  | n + 1, v, V, hv, hk, hkf => by
    unfold ch
    by_cases z : V v ≠ none ∨ inB as v = false
    · rw [if_pos z]
      refine ch_iff hb24 hb n (v + 1) V (by omega) (fun u hu hi => ?_) hkf
      by_cases e : u = v
      · subst e
        rcases z with z | z
        · exact z
        · rw [z] at hi
          cases hi
      · exact hk u (by omega) hi
    · rw [if_neg z]
      have zn : V v = none := Decidable.not_not.mp (fun q => z (Or.inl q))
      have zb : inB as v = true := by
        cases q : inB as v with
        | true => rfl
        | false => exact absurd (Or.inr q) z
      have kfu : ∀ x, alV F V as v x = true → kf F (updS V v (some x)) as = true := by
        intro x hx
        unfold alV at hx
        rw [Bool.and_eq_true, List.all_eq_true] at hx
        rw [kf_iff]
        intro q hq y y' h1 h2
        have f := hx.2 q hq
        unfold alB at f
        unfold updS at h1 h2
        by_cases e1 : q.2.1 = v
        · rw [if_pos e1] at f h1
          cases h1
          by_cases e2 : q.2.2 = v
          · rw [if_pos e2] at f h2
            cases h2
            exact f
          · rw [if_neg e2] at f h2
            rw [h2] at f
            exact f
        · rw [if_neg e1] at f h1
          by_cases e2 : q.2.2 = v
          · rw [if_pos e2] at f h2
            cases h2
            rw [h1] at f
            exact f
          · rw [if_neg e2] at h2
            exact kf_iff.mp hkf q hq y y' h1 h2
      have hku : ∀ x u, u < v + 1 → inB as u = true → updS V v (some x) u ≠ none := by
        intro x u hu hi
        unfold updS
        by_cases e : u = v
        · rw [if_pos e]
          simp
        · rw [if_neg e]
          exact hk u (by omega) hi
      rw [List.any_eq_true]
      constructor
      · rintro ⟨x, hx, h⟩
        rw [Bool.and_eq_true] at h
        obtain ⟨W, h1, h2⟩ := (ch_iff hb24 hb n (v + 1) (updS V v (some x)) (by omega) (hku x) (kfu x h.1)).mp h.2
        refine ⟨W, fun u y hu => h1 u y ?_, h2⟩
        unfold updS
        by_cases e : u = v
        · subst e
          rw [zn] at hu
          cases hu
        · rw [if_neg e]
          exact hu
      · rintro ⟨W, h1, h2⟩
        have hx24 : W v < 24 := by
          obtain ⟨q, hq, e⟩ := inB_iff.mp zb
          have f := hb24 _ (hb q hq).1 _ _ (h2 q hq)
          rcases e with e | e
          · rw [← e]
            exact f.1
          · rw [← e]
            exact f.2
        have hal : alV F V as v (W v) = true := by
          unfold alV
          rw [Bool.and_eq_true, List.all_eq_true]
          refine ⟨decide_eq_true hx24, fun q hq => ?_⟩
          have f := h2 q hq
          have f24 := hb24 _ (hb q hq).1 _ _ f
          unfold alB
          by_cases e1 : q.2.1 = v
          · rw [if_pos e1]
            by_cases e2 : q.2.2 = v
            · rw [if_pos e2]
              rw [e1, e2] at f
              exact f
            · rw [if_neg e2]
              rw [e1] at f
              cases h3 : V q.2.2 with
              | none => exact anyB_iff.mpr ⟨_, f24.2, f⟩
              | some y =>
                rw [h1 _ y h3] at f
                exact f
          · rw [if_neg e1]
            by_cases e2 : q.2.2 = v
            · rw [if_pos e2]
              rw [e2] at f
              cases h3 : V q.2.1 with
              | none => exact anyB_iff.mpr ⟨_, f24.1, f⟩
              | some y =>
                rw [h1 _ y h3] at f
                exact f
            · rw [if_neg e2]
              exact decide_eq_true hx24
        refine ⟨W v, List.mem_range.mpr hx24, ?_⟩
        rw [Bool.and_eq_true]
        refine ⟨hal, (ch_iff hb24 hb n (v + 1) _ (by omega) (hku _) (kfu _ hal)).mpr ⟨W, fun u y hu => ?_, h2⟩⟩
        unfold updS at hu
        by_cases e : u = v
        · rw [if_pos e] at hu
          cases hu
          rw [e]
        · rw [if_neg e] at hu
          exact h1 u y hu
theorem sat_iff {V : sp_V} {as : List sp_A} (hb24 : ∀ i, i < 6 → ∀ x y, F i x y = true → x < 24 ∧ y < 24) (hb : ∀ q ∈ as, okA q) : (kf F V as && ch F as 4 0 V) = true ↔ ∃ W, exW V W ∧ ∀ q ∈ as, F q.1 (W q.2.1) (W q.2.2) = true := by
  rw [Bool.and_eq_true]
  constructor
  · rintro ⟨h1, h2⟩
    exact (ch_iff hb24 hb 4 0 V rfl (fun u hu => absurd hu (Nat.not_lt_zero u)) h1).mp h2
  · rintro ⟨W, h1, h2⟩
    have hk : kf F V as = true := by
      rw [kf_iff]
      intro q hq x y e1 e2
      have := h2 q hq
      rw [h1 _ _ e1, h1 _ _ e2] at this
      exact this
    exact ⟨hk, (ch_iff hb24 hb 4 0 V rfl (fun u hu => absurd hu (Nat.not_lt_zero u)) hk).mpr ⟨W, h1, h2⟩⟩
/-- the head's variables that the body has come before the place where all is settled -/
theorem stl_in (h b : List sp_A) : ∀ n u, u < n → inB h u = true → inB b u = true → u < stl h b n
  | 0, u, hu, _, _ => absurd hu (Nat.not_lt_zero u)
  | n + 1, u, hu, h1, h2 => by
    unfold stl
    by_cases z : inB h n = true ∧ inB b n = true
    · rw [if_pos z]
      exact hu
    · rw [if_neg z]
      by_cases e : u = n
      · subst e
        exact absurd ⟨h1, h2⟩ z
      · exact stl_in h b n u (by omega) h1 h2
/-- being satisfied, at a whole match -/
def satM (F : Nat → Nat → Nat → Bool) (R : sp_R) (m : Nat → Nat) : Prop := if R.1 = 0 then ∃ W, exW (tv R.2.1 4 m) W ∧ ∀ q ∈ R.2.2.1, F q.1 (W q.2.1) (W q.2.2) = true else ∃ v u, R.2.2.2 = some (v, u) ∧ m v = m u
theorem satV_iff {R : sp_R} (hb24 : ∀ i, i < 6 → ∀ x y, F i x y = true → x < 24 ∧ y < 24) (hh : ∀ q ∈ R.2.2.1, okA q) (hc : R.1 ≠ 0 → R.2.2.2 ≠ none) (hp : ∀ v u, R.2.2.2 = some (v, u) → inB R.2.1 v = true ∧ inB R.2.1 u = true) (m : Nat → Nat) : satV F R (tv R.2.1 (stR R) m) = true ↔ satM F R m := by
  unfold satV satM stR
  by_cases z : R.1 = 0
  · rw [if_pos z, if_pos z, if_pos z, sat_iff hb24 hh]
    have e : ∀ W : Nat → Nat, exW (tv R.2.1 4 m) W → exW (tv R.2.1 (stl R.2.2.1 R.2.1 4) m) W := by
      intro W h u x hu
      have hl := stl_le R.2.2.1 R.2.1 4
      refine h u x ?_
      unfold tv at hu ⊢
      split at hu
      · rename_i q
        rw [if_pos ⟨by omega, q.2⟩]
        exact hu
      · cases hu
    constructor
    · rintro ⟨W, h1, h2⟩
      refine ⟨fun u => if u < 4 ∧ inB R.2.1 u = true then m u else W u, fun u x hu => ?_, fun q hq => ?_⟩
      · unfold tv at hu
        split at hu
        · rename_i q
          cases hu
          exact if_pos q
        · cases hu
      · have hm := inB_mem hq
        obtain ⟨-, o1, o2⟩ := hh q hq
        have key : ∀ u, u < 4 → inB R.2.2.1 u = true → (if u < 4 ∧ inB R.2.1 u = true then m u else W u) = W u := by
          intro u hu hi
          by_cases t : inB R.2.1 u = true
          · rw [if_pos ⟨hu, t⟩]
            exact (h1 u (m u) (tv_some (stl_in _ _ 4 u hu hi t) t)).symm
          · rw [if_neg (fun q => t q.2)]
        show F q.1 (if q.2.1 < 4 ∧ inB R.2.1 q.2.1 = true then m q.2.1 else W q.2.1) (if q.2.2 < 4 ∧ inB R.2.1 q.2.2 = true then m q.2.2 else W q.2.2) = true
        rw [key _ o1 hm.1, key _ o2 hm.2]
        exact h2 q hq
    · rintro ⟨W, h1, h2⟩
      exact ⟨W, e W h1, h2⟩
  · rw [if_neg z, if_neg z, if_neg z]
    cases e : R.2.2.2 with
    | none => exact absurd e (hc z)
    | some p =>
      obtain ⟨v, u⟩ := p
      obtain ⟨i1, i2⟩ := hp v u e
      dsimp only
      rw [tv_some (by omega) i1, tv_some (by omega) i2]
      constructor
      · intro h
        have h := of_decide_eq_true h
        injection h with h
        exact ⟨v, u, rfl, h⟩
      · rintro ⟨v', u', e', h⟩
        injection e' with e'
        injection e' with e1 e2
        subst e1
        subst e2
        exact decide_eq_true (by rw [h])
/-- giving values to an atom's variables out of a fact -/
def gvO (V : sp_V) (v x : Nat) : Option sp_V := if V v = none ∨ V v = some x then some (updS V v (some x)) else none
theorem gvO_iff {V : sp_V} {v x : Nat} {W : Nat → Nat} : (∃ V', gvO V v x = some V' ∧ exW V' W) ↔ exW V W ∧ W v = x := by
  unfold gvO
  constructor
  · rintro ⟨V', h1, h2⟩
    split at h1
    · rename_i z
      cases h1
      have hv : W v = x := h2 v x (if_pos rfl)
      refine ⟨fun u y hu => ?_, hv⟩
      by_cases e : u = v
      · subst e
        rcases z with z | z
        · rw [z] at hu
          cases hu
        · rw [z] at hu
          cases hu
          exact hv
      · exact h2 u y (by unfold updS; rw [if_neg e]; exact hu)
    · cases h1
  · rintro ⟨h1, h2⟩
    have z : V v = none ∨ V v = some x := by
      cases e : V v with
      | none => exact Or.inl rfl
      | some y => 
        rw [← h1 v y e, h2]
        exact Or.inr rfl
    rw [if_pos z]
    refine ⟨_, rfl, fun u y hu => ?_⟩
    unfold updS at hu
    by_cases e : u = v
    · rw [if_pos e] at hu
      cases hu
      rw [e]
      exact h2
    · rw [if_neg e] at hu
      exact h1 u y hu
def ftO (V : sp_V) (q f : sp_A) : Option sp_V := if q.1 = f.1 then (match gvO V q.2.1 f.2.1 with
  | some V1 => gvO V1 q.2.2 f.2.2
  | none => none) else none
theorem ftO_iff {V : sp_V} {q f : sp_A} {W : Nat → Nat} : (∃ V', ftO V q f = some V' ∧ exW V' W) ↔ exW V W ∧ (q.1, W q.2.1, W q.2.2) = f := by
  unfold ftO
  have et : (q.1, W q.2.1, W q.2.2) = f ↔ q.1 = f.1 ∧ W q.2.1 = f.2.1 ∧ W q.2.2 = f.2.2 := by
    obtain ⟨a, b, c⟩ := f
    simp
  rw [et]
  by_cases z : q.1 = f.1
  · rw [if_pos z]
    constructor
    · rintro ⟨V', h1, h2⟩
      split at h1
      · rename_i V1 e
        obtain ⟨h3, h4⟩ := gvO_iff.mp ⟨V', h1, h2⟩
        obtain ⟨h5, h6⟩ := gvO_iff.mp ⟨V1, e, h3⟩
        exact ⟨h5, z, h6, h4⟩
      · cases h1
    · rintro ⟨h1, -, h2, h3⟩
      obtain ⟨V1, e1, h4⟩ := gvO_iff.mpr ⟨h1, h2⟩
      obtain ⟨V2, e2, h5⟩ := gvO_iff.mpr ⟨h4, h3⟩
      rw [e1]
      exact ⟨V2, e2, h5⟩
  · rw [if_neg z]
    constructor
    · rintro ⟨V', h1, -⟩
      cases h1
    · rintro ⟨-, h, -⟩
      exact absurd h z
theorem exW_ex (V : sp_V) : exW V (fun u => (V u).getD 0) := fun u x h => by
  show (V u).getD 0 = x
  rw [h]
  rfl
/-- certain pairs are what matches have -/
theorem cst_iff {v u a b : Nat} {m0 : Nat → Nat} (hb24 : ∀ i, i < 6 → ∀ x y, F i x y = true → x < 24 ∧ y < 24) (hb : ∀ q ∈ bo, okA q) (hv : inB bo v = true) (hu : inB bo u = true) (hv4 : v < 4) (hu4 : u < 4) : cst F bo v u a b = true ↔ ∃ m ∈ mM F bo 4 m0, m v = a ∧ m u = b := by
  unfold cst
  rw [Bool.and_eq_true, sat_iff hb24 hb]
  constructor
  · rintro ⟨h0, W, h1, h2⟩
    have h0 := of_decide_eq_true h0
    have hWu : W u = b := h1 u b (by unfold vab updS; rw [if_pos rfl])
    have hWv : W v = a := by
      by_cases e : v = u
      · subst e
        rw [hWu]
        rcases h0 with h0 | h0
        · exact absurd rfl h0
        · exact h0.symm
      · exact h1 v a (by unfold vab updS; rw [if_neg e, if_pos rfl])
    have hlt : ∀ x, inB bo x = true → W x < 24 := by
      intro x hx
      obtain ⟨q, hq, e⟩ := inB_iff.mp hx
      have f := hb24 _ (hb q hq).1 _ _ (h2 q hq)
      rcases e with e | e
      · rw [← e]
        exact f.1
      · rw [← e]
        exact f.2
    refine ⟨fun x => if x < 4 then (if inB bo x = true then W x else 0) else m0 x, (mem_mM 4 m0 _ (by omega)).mpr ⟨fun x hx => if_neg (by omega), fun x _ hx => ⟨?_, okQ_of (fun q hq _ _ => ?_)⟩⟩, ?_, ?_⟩
    · rw [if_pos hx]
      unfold mxv
      by_cases t : inB bo x = true
      · rw [if_pos t, if_pos t]
        have := hlt x t
        omega
      · rw [if_neg t, if_neg t]
        omega
    · have hm := inB_mem hq
      obtain ⟨-, o1, o2⟩ := hb q hq
      rw [if_pos o1, if_pos o2, if_pos hm.1, if_pos hm.2]
      exact h2 q hq
    · show (if v < 4 then _ else _) = a
      rw [if_pos hv4, if_pos hv]
      exact hWv
    · show (if u < 4 then _ else _) = b
      rw [if_pos hu4, if_pos hu]
      exact hWu
  · rintro ⟨m, hm, h1, h2⟩
    refine ⟨decide_eq_true ?_, m, fun x y hx => ?_, mM_all hb hm⟩
    · by_cases e : v = u
      · right
        rw [← h1, ← h2, e]
      · exact Or.inl e
    · unfold vab updS at hx
      by_cases e : x = u
      · rw [if_pos e] at hx
        cases hx
        rw [e, h2]
      · rw [if_neg e] at hx
        by_cases e2 : x = v
        · rw [if_pos e2] at hx
          cases hx
          rw [e2, h1]
        · rw [if_neg e2] at hx
          cases hx
end Match
