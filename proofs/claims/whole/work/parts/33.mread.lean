/-! the model: size, at -/
theorem countP_take {as : List sp_A} {i r : Nat} {q : sp_A} (h : as[i]? = some q) : (as.take (i + 1)).countP (fun q => decide (q.1 = r)) = (as.take i).countP (fun q => decide (q.1 = r)) + (if q.1 = r then 1 else 0) := by
  have hi := (List.getElem?_eq_some_iff.mp h).1
  have e : as.take (i + 1) = as.take i ++ [q] := by
    rw [List.take_add_one, h]
    rfl
  rw [e, List.countP_append]
  congr 1
  by_cases z : q.1 = r
  · simp [z]
  · simp [z]
/-- the k-th code from c on -/
def kc (G : Nat → Bool) : Nat → Nat → Nat → Option Nat
  | 0, _, _ => none
  | f + 1, c, k => if G c = true then (if k = 0 then some c else kc G f (c + 1) (k - 1)) else kc G f (c + 1) k
theorem kc_s (G : Nat → Bool) (f c k : Nat) : kc G (f + 1) c k = if G c = true then (if k = 0 then some c else kc G f (c + 1) (k - 1)) else kc G f (c + 1) k := rfl
theorem cn_shift (g : Nat → Bool) (s n : Nat) : cn (fun i => g (s + i)) (n + 1) = (if g s = true then 1 else 0) + cn (fun i => g (s + 1 + i)) n := by
  rw [Nat.add_comm n 1, cn_add]
  show (0 + if g (s + 0) = true then 1 else 0) + _ = _
  rw [Nat.zero_add, Nat.add_zero]
  congr 1
  exact cn_congr n (fun i _ => by rw [Nat.add_assoc])
theorem kc_scan {G : Nat → Bool} {c m : Nat} {g : Nat → Bool} : ∀ n s k, (∀ i, s ≤ i → i < s + n → G (c + i) = g i) → kc G (n + m) (c + s) k = if k < cn (fun i => g (s + i)) n then some (c + kp.kf g s n k) else kc G m (c + s + n) (k - cn (fun i => g (s + i)) n)
  | 0, s, k, h => by
    have e : cn (fun i => g (s + i)) 0 = 0 := rfl
    rw [e, if_neg (Nat.not_lt_zero k), Nat.zero_add]
    rfl
  | n + 1, s, k, h => by
    rw [show n + 1 + m = (n + m) + 1 by omega, kc_s]
    rw [h s (Nat.le_refl s) (by omega), cn_shift]
    have ih := fun k => kc_scan (G := G) (c := c) (m := m) (g := g) n (s + 1) k (fun i h1 h2 => h i (by omega) (by omega))
    rw [show c + s + 1 = c + (s + 1) by omega]
    unfold kp.kf
    by_cases q : g s = true
    · rw [if_pos q, if_pos q, if_pos q]
      by_cases z : k = 0
      · rw [if_pos z, if_pos (by omega), if_pos z]
      · rw [if_neg z, if_neg z, ih (k - 1)]
        by_cases z2 : k - 1 < cn (fun i => g (s + 1 + i)) n
        · rw [if_pos z2, if_pos (by omega)]
        · rw [if_neg z2, if_neg (by omega), show c + s + (n + 1) = c + (s + 1) + n by omega, show k - (1 + cn (fun i => g (s + 1 + i)) n) = k - 1 - cn (fun i => g (s + 1 + i)) n by omega]
    · rw [if_neg q, if_neg q, if_neg q, ih k, Nat.zero_add, show c + s + (n + 1) = c + (s + 1) + n by omega]
theorem kc_skip {G : Nat → Bool} {m : Nat} : ∀ n c k, (∀ i, i < n → G (c + i) = false) → kc G (n + m) c k = kc G m (c + n) k
  | 0, c, k, h => by
    rw [Nat.zero_add]
    rfl
  | n + 1, c, k, h => by
    rw [show n + 1 + m = (n + m) + 1 by omega, kc_s]
    have h0 := h 0 (by omega)
    rw [Nat.add_zero] at h0
    rw [h0, if_neg (by decide), kc_skip n (c + 1) k (fun i hi => by rw [show c + 1 + i = c + (i + 1) by omega]; exact h (i + 1) (by omega)), show c + 1 + n = c + (n + 1) by omega]
theorem kc_row {G : Nat → Bool} {F : Nat → Nat → Bool} (h : ∀ a b, b < 32 → G (32 * a + b) = F a b) (hs : ∀ a b, F a b = true → b < 24) : ∀ f a k, kc G (32 * f) (32 * a) k = kp F a f k
  | 0, a, k => rfl
  | f + 1, a, k => by
    rw [show 32 * (f + 1) = 24 + (8 + 32 * f) by omega]
    have e := kc_scan (G := G) (c := 32 * a) (m := 8 + 32 * f) (g := F a) 24 0 k (fun i h1 h2 => h a i (by omega))
    have ez : (fun i => F a (0 + i)) = F a := by
      funext i
      rw [Nat.zero_add]
    rw [Nat.add_zero, ez] at e
    rw [e, kc_skip 8 _ _ (fun i hi => ?_), show 32 * a + 24 + 8 = 32 * (a + 1) by omega, kc_row h hs f (a + 1) _]
    · rfl
    · rw [show 32 * a + 24 + i = 32 * a + (24 + i) by omega, h a (24 + i) (by omega)]
      cases q : F a (24 + i) with
      | false => rfl
      | true => exact absurd (hs a (24 + i) q) (by omega)
section MRead
variable {X : mi_X} {w : mi_H} {a : mo_a} {T : mo_T} {ls lt : List sp_A} {F : Nat → Nat → Nat → Bool} {S : sp_S}
theorem mv_size_loop {n s : Nat} {ak dr : Bool} (HM : Mo w a (ls.length, lt.length, n, ak, dr, s)) {l : List sp_A} {c r : Nat} (HL : Lm a c l) (hb : ∀ q ∈ l, q.1 < 6) (hc : c + l.length ≤ 36) (hr : (r < 2 ∧ c = 0 ∧ l = ls) ∨ (2 ≤ r ∧ r < 6 ∧ c = 12 ∧ l = lt)) : ∀ f i, i + f = l.length → mi_wp X mi_P 0 m_Mo_size (26, [some (.ref 71), some (.int (nI r)), some (.int (nI ((l.take i).countP (fun q => decide (q.1 = r))))), some (.int (nI (c + i)))], [], w) (fun q w1 => q = some (.int (nI (l.countP (fun q => decide (q.1 = r))))) ∧ w1 = w)
  | f, i, hi => by
    have tst : ∀ Q : Option Value → mi_H → Prop, (∀ (L : mi_L) st, L = [some (.ref 71), some (.int (nI r)), some (.int (nI ((l.take i).countP (fun q => decide (q.1 = r))))), some (.int (nI (c + i)))] → st = [.int (nI (c + l.length)), .int (nI (c + i))] → mi_wp X mi_P 0 m_Mo_size (46, L, st, w) Q) → mi_wp X mi_P 0 m_Mo_size (26, [some (.ref 71), some (.int (nI r)), some (.int (nI ((l.take i).countP (fun q => decide (q.1 = r))))), some (.int (nI (c + i)))], [], w) Q := by
      intro Q k
      rcases hr with ⟨h1, rfl, rfl⟩ | ⟨h1, h2, rfl, rfl⟩
      · repeat (first | refine mi_s1 (fun _ => rfl) ?_ | refine mi_wgf rfl (by assumption) rfl ?_ | refine mi_wal rfl (by assumption) rfl (by omega) (by decide) ?_)
        refine mi_wif (fun q => absurd q (nI_ge h1 (by decide))) (fun _ => ?_)
        (first | refine mi_s1 (fun _ => rfl) ?_ | refine mi_wgf rfl HM.1 rfl ?_ | refine mi_wal rfl (HM.2.1 _ _ rfl) rfl (by omega) (by decide) ?_ | refine mi_wbl rfl (HM.2.2 _ _ rfl) rfl (by omega) (by decide) ?_); (first | refine mi_s1 (fun _ => rfl) ?_ | refine mi_wgf rfl HM.1 rfl ?_ | refine mi_wal rfl (HM.2.1 _ _ rfl) rfl (by omega) (by decide) ?_ | refine mi_wbl rfl (HM.2.2 _ _ rfl) rfl (by omega) (by decide) ?_); (first | refine mi_s1 (fun _ => rfl) ?_ | refine mi_wgf rfl HM.1 rfl ?_ | refine mi_wal rfl (HM.2.1 _ _ rfl) rfl (by omega) (by decide) ?_ | refine mi_wbl rfl (HM.2.2 _ _ rfl) rfl (by omega) (by decide) ?_)
        exact k _ _ rfl (by rw [Nat.zero_add l.length])
      · repeat (first | refine mi_s1 (fun _ => rfl) ?_ | refine mi_wgf rfl (by assumption) rfl ?_ | refine mi_wal rfl (by assumption) rfl (by omega) (by decide) ?_)
        refine mi_wif (fun _ => ?_) (fun q => absurd (nI_le (a := 2) (b := r) h1 (by omega)) q)
        (first | refine mi_s1 (fun _ => rfl) ?_ | refine mi_wgf rfl HM.1 rfl ?_ | refine mi_wal rfl (HM.2.1 _ _ rfl) rfl (by omega) (by decide) ?_ | refine mi_wbl rfl (HM.2.2 _ _ rfl) rfl (by omega) (by decide) ?_); (first | refine mi_s1 (fun _ => rfl) ?_ | refine mi_wgf rfl HM.1 rfl ?_ | refine mi_wal rfl (HM.2.1 _ _ rfl) rfl (by omega) (by decide) ?_ | refine mi_wbl rfl (HM.2.2 _ _ rfl) rfl (by omega) (by decide) ?_); (first | refine mi_s1 (fun _ => rfl) ?_ | refine mi_wgf rfl HM.1 rfl ?_ | refine mi_wal rfl (HM.2.1 _ _ rfl) rfl (by omega) (by decide) ?_ | refine mi_wbl rfl (HM.2.2 _ _ rfl) rfl (by omega) (by decide) ?_); (first | refine mi_s1 (fun _ => rfl) ?_ | refine mi_wgf rfl HM.1 rfl ?_ | refine mi_wal rfl (HM.2.1 _ _ rfl) rfl (by omega) (by decide) ?_ | refine mi_wbl rfl (HM.2.2 _ _ rfl) rfl (by omega) (by decide) ?_)
        rw [nI_add]
        exact k _ _ rfl rfl
    refine tst _ (fun L st hL hst => ?_)
    subst hL
    subst hst
    cases f with
    | zero =>
      repeat (first | refine mi_s1 (fun _ => rfl) ?_ | refine mi_wgf rfl (by assumption) rfl ?_ | refine mi_wal rfl (by assumption) rfl (by omega) (by decide) ?_)
      refine mi_wif (fun _ => ?_) (fun z => absurd (nI_le (a := c + l.length) (b := c + i) (by omega) (by omega)) z)
      repeat (first | refine mi_s1 (fun _ => rfl) ?_ | refine mi_wgf rfl (by assumption) rfl ?_ | refine mi_wal rfl (by assumption) rfl (by omega) (by decide) ?_)
      refine mi_r1 (fun _ => rfl) ?_
      rw [show i = l.length by omega, List.take_length]
      exact ⟨rfl, rfl⟩
    | succ f =>
      obtain ⟨t, ht, hd'⟩ := drop_at (l := l) (i := i) (by omega)
      obtain ⟨e1, e2, e3⟩ := HL i t ht
      have hb1 := hb t (List.mem_of_getElem? ht)
      have ih := mv_size_loop HM HL hb hc hr f (i + 1) (by omega)
      rw [countP_take ht] at ih
      repeat (first | refine mi_s1 (fun _ => rfl) ?_ | refine mi_wgf rfl (by assumption) rfl ?_ | refine mi_wal rfl (by assumption) rfl (by omega) (by decide) ?_)
      refine mi_wif (fun z => absurd z (nI_ge (a := c + i) (b := c + l.length) (by omega) (by omega))) (fun _ => ?_)
      repeat (first | refine mi_s1 (fun _ => rfl) ?_ | refine mi_wgf rfl HM.1 rfl ?_ | refine mi_wal rfl (HM.2.1 _ _ rfl) rfl (by omega) (by decide) ?_ | refine mi_wbl rfl (HM.2.2 _ _ rfl) rfl (by omega) (by decide) ?_)
      rw [e1]
      refine mi_wif (fun z => ?_) (fun z => ?_)
      · have z : t.1 = r := (nI_eq (by omega) (by omega)).mp z
        rw [if_pos z] at ih
        refine mi_s1 (fun _ => rfl) ?_; refine mi_s1 (fun _ => rfl) ?_; refine mi_s1 (fun _ => rfl) ?_; refine mi_s1 (fun _ => rfl) ?_; refine mi_s1 (fun _ => rfl) ?_; refine mi_s1 (fun _ => rfl) ?_; refine mi_s1 (fun _ => rfl) ?_
        rw [show nI (c + i) + nI 1 = nI (c + (i + 1)) from nI_1 (c + i), nI_add]
        exact ih
      · have z : ¬ t.1 = r := fun q => z (by rw [q])
        rw [if_neg z, Nat.add_zero] at ih
        refine mi_s1 (fun _ => rfl) ?_; refine mi_s1 (fun _ => rfl) ?_; refine mi_s1 (fun _ => rfl) ?_; refine mi_s1 (fun _ => rfl) ?_
        rw [show nI (c + i) + nI 1 = nI (c + (i + 1)) from nI_1 (c + i)]
        exact ih
theorem mv_size (H : Md w S) (r : Int32) : mi_Ev X mi_P 1 k_Mo_size [.ref 71, .int r] w (some (.int (op_size S r))) w := by
  obtain ⟨a, ls, lt, HM, HF, HR, H6, H7, hn, hs⟩ := id H
  have bad : ¬ inR r 6 → ∀ L2 L3, mi_wp X mi_P 0 m_Mo_size (9, [some (.ref 71), some (.int r), L2, L3], [], w) (fun q w1 => q = some (.int (op_size S r)) ∧ w1 = w) := by
    intro h L2 L3
    have e : op_size S r = -3 := if_neg h
    rw [e]
    repeat (first | refine mi_s1 (fun _ => rfl) ?_ | refine mi_wgf rfl (by assumption) rfl ?_ | refine mi_wal rfl (by assumption) rfl (by omega) (by decide) ?_)
    refine mi_r1 (fun _ => rfl) ?_
    exact ⟨rfl, rfl⟩
  refine mi_Ev.of (M := m_Mo_size) rfl (Nat.le_of_ble_eq_true rfl) ?_
  repeat (first | refine mi_s1 (fun _ => rfl) ?_ | refine mi_wgf rfl (by assumption) rfl ?_ | refine mi_wal rfl (by assumption) rfl (by omega) (by decide) ?_)
  refine mi_wif (fun z1 => ?_) (fun z1 => ?_)
  · exact bad (fun q => (inR_to (k := 5) (by decide) q).1 z1) _ _
  · repeat (first | refine mi_s1 (fun _ => rfl) ?_ | refine mi_wgf rfl (by assumption) rfl ?_ | refine mi_wal rfl (by assumption) rfl (by omega) (by decide) ?_)
    refine mi_wif (fun z2 => ?_) (fun z2 => ?_)
    · have hr : inR r 6 := inR_of (k := 5) (by decide) z1 (by simpa using z2)
      have e : op_size S r = _ := if_pos hr
      rw [e]
      obtain ⟨rn, hrn, rfl⟩ := (mi_rng (by decide)).mp hr
      rw [nI_clamp (n := rn) (by omega)]
      have h3 := HF.2.2.1
      have h4 := HF.2.2.2.1
      by_cases z : rn < 2
      · rw [HF.cnt_s z]
        repeat (first | refine mi_s1 (fun _ => rfl) ?_ | refine mi_wgf rfl (by assumption) rfl ?_ | refine mi_wal rfl (by assumption) rfl (by omega) (by decide) ?_)
        refine mi_wif (fun q => absurd q (nI_ge z (by decide))) (fun _ => ?_)
        refine mi_s1 (fun _ => rfl) ?_; refine mi_s1 (fun _ => rfl) ?_; refine mi_s1 (fun _ => rfl) ?_
        have e := mv_size_loop (X := X) HM (l := ls) (c := 0) (r := rn) HF.1 (fun q hq => by have := HF.2.2.2.2.1 q hq; unfold okS at this; omega) (by omega) (Or.inl ⟨z, rfl, rfl⟩) ls.length 0 (by omega)
        exact e
      · rw [HF.cnt_t (by omega) hrn]
        repeat (first | refine mi_s1 (fun _ => rfl) ?_ | refine mi_wgf rfl (by assumption) rfl ?_ | refine mi_wal rfl (by assumption) rfl (by omega) (by decide) ?_)
        refine mi_wif (fun _ => ?_) (fun q => absurd (nI_le (a := 2) (b := rn) (by omega) (by omega)) q)
        refine mi_s1 (fun _ => rfl) ?_; refine mi_s1 (fun _ => rfl) ?_
        have e := mv_size_loop (X := X) HM (l := lt) (c := 12) (r := rn) HF.2.1 (fun q hq => by have := HF.2.2.2.2.2.1 q hq; unfold okT at this; omega) (by omega) (Or.inr ⟨by omega, hrn, rfl, rfl⟩) lt.length 0 (by omega)
        exact e
    · exact bad (fun q => (inR_to (k := 5) (by decide) q).2 (by simpa using z2)) _ _
theorem mv_at_loop {n s : Nat} {ak dr : Bool} (HM : Mo w a (ls.length, lt.length, n, ak, dr, s)) (HF : Fm a ls lt F) {r : Nat} (hr : r < 6) {L2 : Option Value} : ∀ f c k, c + f = 768 → k < 2 ^ 31 → mi_wp X mi_P 1 m_Mo_at (21, [some (.ref 71), some (.int (nI r)), L2, some (.int (nI k)), some (.int (nI c))], [], w) (fun q w1 => q = some (.int (kbR (kc (fun c => F r (c / 32) (c % 32)) f c k))) ∧ w1 = w)
  | 0, c, k, hc, hk => by
    have hc : c = 768 := by omega
    subst hc
    repeat (first | refine mi_s1 (fun _ => rfl) ?_ | refine mi_wgf rfl (by assumption) rfl ?_ | refine mi_wal rfl (by assumption) rfl (by omega) (by decide) ?_)
    refine mi_r1 (fun _ => rfl) ?_
    exact ⟨rfl, rfl⟩
  | f + 1, c, k, hc, hk => by
    have hp := HF.pl (r := r) (x := c / 32) (y := c % 32) hr
    have hpl := plc_lt (q := (r, c / 32, c % 32)) HF.2.2.1 HF.2.2.2.1
    repeat (first | refine mi_s1 (fun _ => rfl) ?_ | refine mi_wgf rfl (by assumption) rfl ?_ | refine mi_wal rfl (by assumption) rfl (by omega) (by decide) ?_)
    refine mi_wif (fun z => absurd z (nI_ge (a := c) (b := 768) (by omega) (by omega))) (fun _ => ?_)
    unfold kc
    repeat (first | refine mi_s1 (fun _ => rfl) ?_ | refine mi_wgf rfl (by assumption) rfl ?_ | refine mi_wal rfl (by assumption) rfl (by omega) (by decide) ?_)
    rw [pk_rem (by omega) (by omega) (by omega), pk_div (by omega) (by omega) (by omega)]
    refine mi_wcv rfl rfl (Nat.le_of_ble_eq_true rfl) HM.1 rfl (mv_place HM HF (by omega) (by omega) (by omega)) ?_
    repeat (first | refine mi_s1 (fun _ => rfl) ?_ | refine mi_wgf rfl (by assumption) rfl ?_ | refine mi_wal rfl (by assumption) rfl (by omega) (by decide) ?_)
    refine mi_wif (fun z => ?_) (fun z => ?_)
    · rw [enc_neg (fun x hx => by have := hpl x hx; omega)] at z
      rw [hp.mp z, if_neg (by decide)]
      refine mi_s1 (fun _ => rfl) ?_; refine mi_s1 (fun _ => rfl) ?_
      rw [show nI c + nI 1 = nI (c + 1) from nI_1 c]
      exact mv_at_loop HM HF hr f (c + 1) k (by omega) hk
    · have hT : F r (c / 32) (c % 32) = true := by
        cases q : F r (c / 32) (c % 32) with
        | true => rfl
        | false =>
          rw [hp.mpr q] at z
          exact absurd (by decide) z
      rw [hT, if_pos rfl]
      repeat (first | refine mi_s1 (fun _ => rfl) ?_ | refine mi_wgf rfl (by assumption) rfl ?_ | refine mi_wal rfl (by assumption) rfl (by omega) (by decide) ?_)
      refine mi_wif (fun z2 => ?_) (fun z2 => ?_)
      · have z2 := (nI_z hk).mp z2
        rw [if_pos z2]
        repeat (first | refine mi_s1 (fun _ => rfl) ?_ | refine mi_wgf rfl (by assumption) rfl ?_ | refine mi_wal rfl (by assumption) rfl (by omega) (by decide) ?_)
        refine mi_r1 (fun _ => rfl) ?_
        exact ⟨rfl, rfl⟩
      · have z2 : k ≠ 0 := fun q => z2 (by rw [q]; rfl)
        rw [if_neg z2]
        refine mi_s1 (fun _ => rfl) ?_; refine mi_s1 (fun _ => rfl) ?_; refine mi_s1 (fun _ => rfl) ?_
        rw [show nI c + nI 1 = nI (c + 1) from nI_1 c, sb_m1 (by omega)]
        exact mv_at_loop HM HF hr f (c + 1) (k - 1) (by omega) (by omega)
theorem mv_at (H : Md w S) (r k : Int32) : mi_Ev X mi_P 2 k_Mo_at [.ref 71, .int r, .int k] w (some (.int (op_at S r k))) w := by
  obtain ⟨a, ls, lt, HM, HF, HR, H6, H7, hn, hs⟩ := id H
  have bad : ¬ (inR r 6 ∧ 0 ≤ k ∧ k.toNatClampNeg < cnt (S.F r.toNatClampNeg)) → ∀ L3 L4, mi_wp X mi_P 1 m_Mo_at (13, [some (.ref 71), some (.int r), some (.int k), L3, L4], [], w) (fun q w1 => q = some (.int (op_at S r k)) ∧ w1 = w) := by
    intro h L3 L4
    have e : op_at S r k = -3 := if_neg h
    rw [e]
    repeat (first | refine mi_s1 (fun _ => rfl) ?_ | refine mi_wgf rfl (by assumption) rfl ?_ | refine mi_wal rfl (by assumption) rfl (by omega) (by decide) ?_)
    refine mi_r1 (fun _ => rfl) ?_
    exact ⟨rfl, rfl⟩
  refine mi_Ev.of (M := m_Mo_at) rfl (Nat.le_of_ble_eq_true rfl) ?_
  repeat (first | refine mi_s1 (fun _ => rfl) ?_ | refine mi_wgf rfl (by assumption) rfl ?_ | refine mi_wal rfl (by assumption) rfl (by omega) (by decide) ?_)
  refine mi_wif (fun z1 => ?_) (fun z1 => ?_)
  · exact bad (fun q => absurd z1 (by simpa using q.2.1)) _ _
  · obtain ⟨kn, hkn, rfl⟩ := nI_of z1
    repeat (first | refine mi_s1 (fun _ => rfl) ?_ | refine mi_wgf rfl (by assumption) rfl ?_ | refine mi_wal rfl (by assumption) rfl (by omega) (by decide) ?_)
    refine mi_wcv rfl rfl (Nat.le_of_ble_eq_true rfl) HM.1 rfl (mv_size H r) ?_
    repeat (first | refine mi_s1 (fun _ => rfl) ?_ | refine mi_wgf rfl (by assumption) rfl ?_ | refine mi_wal rfl (by assumption) rfl (by omega) (by decide) ?_)
    by_cases hr : inR r 6
    · have e1 : op_size S r = _ := if_pos hr
      rw [e1]
      obtain ⟨rn, hrn, rfl⟩ := (mi_rng (by decide)).mp hr
      have hc := cnt_le (S.F rn)
      rw [nI_clamp (n := rn) (by omega)] at bad ⊢
      rw [nI_clamp (n := kn) hkn] at bad
      refine mi_wif (fun z2 => ?_) (fun z2 => ?_)
      · have z2 := (nI_ltI hkn (by omega)).mp z2
        have e : op_at S (nI rn) (nI kn) = kbR (kp (S.F rn) 0 24 kn) := by
          unfold op_at
          rw [nI_clamp (n := rn) (by omega), nI_clamp hkn, if_pos ⟨hr, nI_pos' hkn, z2⟩]
        rw [e]
        have e2 := kc_row (G := fun c => S.F rn (c / 32) (c % 32)) (F := S.F rn) (fun x y hy => by
          show S.F rn ((32 * x + y) / 32) ((32 * x + y) % 32) = _
          rw [show (32 * x + y) / 32 = x by omega, show (32 * x + y) % 32 = y by omega]) (fun x y h => (HF.b24 rn hrn x y h).2) 24 0 kn
        rw [← e2]
        refine mi_s1 (fun _ => rfl) ?_; refine mi_s1 (fun _ => rfl) ?_; refine mi_s1 (fun _ => rfl) ?_; refine mi_s1 (fun _ => rfl) ?_
        exact mv_at_loop HM HF hrn 768 0 kn rfl hkn
      · exact bad (fun q => z2 (nI_lt q.2.2 (by omega))) _ _
    · have e1 : op_size S r = -3 := if_neg hr
      rw [e1]
      refine mi_wif (fun z2 => ?_) (fun z2 => ?_)
      · exact absurd (Int32.lt_of_le_of_lt (nI_pos' hkn) z2) (by decide)
      · exact bad (fun q => hr q.1) _ _
end MRead
