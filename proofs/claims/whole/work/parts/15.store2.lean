/-! class Store: every value told anew -/
theorem mi_wcp {X : mi_X} {P : List mi_M} {d : Nat} {M : mi_M} {Q : Option Value → mi_H → Prop} {pc n a idx : Nat} {v : Int32} {L : mi_L} {r : List Value} {w : mi_H} {o q k0 k1 s0 d0 c : Nat} {f g : Nat → Int32} {sp dp k : Int32} (hf : M.2.2[pc]? = some (some (.invokestatic idx, n, a, 99, v))) (hq : w[q]? = some (.inl (0, k0, .inl f))) (ho : w[o]? = some (.inl (0, k1, .inl g))) (hr : r.length ≤ 8) (h1 : sp = nI s0) (h2 : dp = nI d0) (h3 : k = nI c) (h4 : s0 + c ≤ k0) (h5 : d0 + c ≤ k1) (h6 : k0 < 2 ^ 31) (h7 : k1 < 2 ^ 31)
    (kk : ∀ w1 : mi_H, w1[o]? = some (.inl (0, k1, .inl (va_cpy f g s0 d0 c))) → mi_Fr w w1 [o] → mi_wp X P d M (n, L, r, w1) Q) : mi_wp X P d M (pc, L, .int k :: .int dp :: .ref o :: .int sp :: .ref q :: r, w) Q := by
  refine mi_wst (f' := (n, L, r, w.set o (.inl (0, k1, .inl (va_cpy f g s0 d0 c))))) (fun cal => ?_) (kk _ (mi_gs ho) mi_Fr.one)
  subst h1 h2 h3
  have e1 : (nI s0).toNatClampNeg = s0 := nI_clamp (by omega)
  have e2 : (nI d0).toNatClampNeg = d0 := nI_clamp (by omega)
  have e3 : (nI c).toNatClampNeg = c := nI_clamp (by omega)
  have e : ¬ (8 < r.length ∨ nI s0 < 0 ∨ nI d0 < 0 ∨ nI c < 0 ∨ k0 < s0 + c ∨ k1 < d0 + c) := by
    rintro (z | z | z | z | z | z)
    · omega
    · exact nI_pos (by omega) z
    · exact nI_pos (by omega) z
    · exact nI_pos (by omega) z
    · omega
    · omega
  simp only [mi_step, hf, mi_ins, if_true, hq, ho, e1, e2, e3, e, if_false]
/-- the pairs of the first n rows, told anew -/
def acc (G : Nat → Nat → Bool) (mp : Nat → Nat) (n : Nat) : Nat → Nat → Bool := fun x y => (List.range n).any (fun a => decide (x = mp a) && (List.range 24).any (fun b => G a b && decide (y = mp b)))
theorem acc_0 (G : Nat → Nat → Bool) (mp : Nat → Nat) : acc G mp 0 = fun _ _ => false := rfl
theorem acc_s (G : Nat → Nat → Bool) (mp : Nat → Nat) (n : Nat) : rowF (acc G mp n) (mp n) (G n) mp 0 = acc G mp (n + 1) := by
  funext x y
  unfold rowF acc
  rw [show List.range (n + 1) = List.range n ++ [n] from List.range_succ, List.any_append]
  have e : (fun b => decide (0 ≤ b) && G n b && decide (y = mp b)) = (fun b => G n b && decide (y = mp b)) := by
    funext b
    simp
  rw [e]
  simp only [List.any_cons, List.any_nil, Bool.or_false]
section Store2
variable {X : mi_X}
theorem ev_replaceRow {w0 : mi_H} {h o i : Nat} {G : Nat → Nat → Bool} {mp : Nat → Nat} {ma old : Nat → Int32} (hh : h = 5 + 3 * i) (hi6 : i < 6) (ho : o ∉ [h, h + 1, h + 2]) (hmp : ∀ b, b < 24 → ma b = nI (mp b) ∧ mp b < 24) (hold : ∀ a b, a < 24 → b < 32 → bt (old a) b = G a b) (hs : ∀ a b, G a b = true → a < 24 ∧ b < 24) {Q : Option Value → mi_H → Prop}
    (kk : ∀ w1 : mi_H, Rl w1 h (acc G mp 24) → mi_Fr w0 w1 [h, h + 1, h + 2] → mi_wp X mi_P 3 m_St_replaceAll (66, [some (.ref 1), some (.ref o), some (.int (nI i)), some (.ref h), some (.int (nI 24))], [], w1) Q) : ∀ f m (w : mi_H), m + f = 24 → Rl w h (acc G mp m) → w[1]? = some (.inr (1, [.ref 2, .ref 3, .ref 4])) → w[3]? = some (.inl (0, 24, .inl old)) → w[o]? = some (.inl (0, 24, .inl ma)) → mi_Fr w0 w [h, h + 1, h + 2] → mi_wp X mi_P 3 m_St_replaceAll (37, [some (.ref 1), some (.ref o), some (.int (nI i)), some (.ref h), some (.int (nI m))], [], w) Q
  | 0, m, w, hm, H, s1, s3, hw, hFr => by
    have hm : m = 24 := by omega
    subst hm
    refine mi_s1 (fun _ => rfl) ?_; refine mi_s1 (fun _ => rfl) ?_; refine mi_s1 (fun _ => rfl) ?_
    exact kk w H hFr
  | f + 1, m, w, hm, H, s1, s3, hw, hFr => by
    repeat (first | refine mi_s1 (fun _ => rfl) ?_ | refine mi_wgf rfl (by assumption) rfl ?_ | refine mi_wal rfl (by assumption) rfl (by omega) (by decide) ?_)
    refine mi_wif (fun q => absurd q (nI_ge (a := m) (b := 24) (by omega) (by omega))) (fun _ => ?_)
    repeat (first | refine mi_s1 (fun _ => rfl) ?_ | refine mi_wgf rfl (by assumption) rfl ?_ | refine mi_wal rfl (by assumption) rfl (by omega) (by decide) ?_)
    obtain ⟨hm1, hm2⟩ := hmp m (by omega)
    rw [hm1]
    obtain ⟨rows, cols, fi, se, du, ct, h0, -, -, -⟩ := id H
    have hx : ∀ j, j < 24 → bt (old m) j = G m j := fun j hj => hold m j (by omega) (by omega)
    have hx2 : ∀ j, 24 ≤ j → j < 32 → bt (old m) j = false := fun j h1 h2 => by
      rw [hold m j (by omega) h2]
      cases q : G m j with
      | false => rfl
      | true => exact absurd (hs m j q).2 (by omega)
    obtain ⟨r1, w1, he, rfl, H1, hF1⟩ := ev_addRow (X := X) (mp := mp) hm2 ho hx hx2 (fun b hb _ => hmp b hb) H hw
    rw [acc_s] at H1
    refine mi_wcv rfl rfl (Nat.le_of_ble_eq_true rfl) h0 rfl (he) ?_
    refine mi_s1 (fun _ => rfl) ?_; refine mi_s1 (fun _ => rfl) ?_
    rw [show nI m + nI 1 = nI (m + 1) from nI_1 m]
    refine ev_replaceRow hh hi6 ho hmp hold hs kk f (m + 1) w1 (by omega) H1 (hF1.get ?_ s1) (hF1.get ?_ s3) (hF1.get ho hw) (hFr.tr hF1)
    · simp only [List.mem_cons, List.not_mem_nil, or_false]
      omega
    · simp only [List.mem_cons, List.not_mem_nil, or_false]
      omega
theorem ev_replaceAll_loop {w0 : mi_H} {o : Nat} {mp : Nat → Nat} {ma : Nat → Int32} (ho : o = 4 ∨ 23 ≤ o) (hmp : ∀ b, b < 24 → ma b = nI (mp b) ∧ mp b < 24) : ∀ f m (w : mi_H) (F : Nat → Nat → Nat → Bool) (z3 z4 : Option Value), m + f = 6 → 2 ≤ m → St w F → w[o]? = some (.inl (0, 24, .inl ma)) → mi_Fg w0 w 3 23 → mi_wp X mi_P 3 m_St_replaceAll (2, [some (.ref 1), some (.ref o), some (.int (nI m)), z3, z4], [], w) (fun r w1 => r = none ∧ St w1 (fun i => if m ≤ i ∧ i < 6 then acc (F i) mp 24 else F i) ∧ mi_Fg w0 w1 3 23)
  | 0, m, w, F, z3, z4, hm, h2, H, hw, hFr => by
    have hm : m = 6 := by omega
    subst hm
    repeat (first | refine mi_s1 (fun _ => rfl) ?_ | refine mi_wgf rfl (by assumption) rfl ?_ | refine mi_wal rfl (by assumption) rfl (by omega) (by decide) ?_)
    refine mi_r1 (fun _ => rfl) ?_
    refine ⟨rfl, ?_, hFr⟩
    have e : (fun i => if 6 ≤ i ∧ i < 6 then acc (F i) mp 24 else F i) = F := by
      funext i
      rw [if_neg (by omega)]
    rw [e]
    exact H
  | f + 1, m, w, F, z3, z4, hm, h2, H, hw, hFr => by
    obtain ⟨s1, ⟨g, s2, hg⟩, ⟨f3, s3⟩, s4, s5⟩ := id H
    obtain ⟨rows, cols, fi, se, du, ct, h0, h1, h2', hi⟩ := s5 m (by omega)
    repeat (first | refine mi_s1 (fun _ => rfl) ?_ | refine mi_wgf rfl (by assumption) rfl ?_ | refine mi_wal rfl (by assumption) rfl (by omega) (by decide) ?_)
    refine mi_wif (fun q => absurd q (nI_ge (a := m) (b := 6) (by omega) (by omega))) (fun _ => ?_)
    repeat (first | refine mi_s1 (fun _ => rfl) ?_ | refine mi_wgf rfl (by assumption) rfl ?_ | refine mi_wal rfl (by assumption) rfl (by omega) (by decide) ?_)
    refine mi_waa rfl s2 ⟨by decide, by decide⟩ rfl (by omega) (by decide) ?_
    rw [hg m (by omega)]
    repeat (first | refine mi_s1 (fun _ => rfl) ?_ | refine mi_wgf rfl (by assumption) rfl ?_ | refine mi_wal rfl (by assumption) rfl (by omega) (by decide) ?_)
    refine mi_wcp rfl h1 s3 (Nat.le_of_ble_eq_true rfl) (s0 := 0) (d0 := 0) (c := 24) rfl rfl rfl (by decide) (by decide) (by decide) (by decide) (fun w1 k3 hF1 => ?_)
    have hG1 : mi_Fg w w1 3 4 := mi_Fg.of1 hF1 (by omega) (by omega)
    have hR1 : Rl w1 (5 + 3 * m) (F m) := (s5 m (by omega)).g hG1 (by omega)
    have h0' := hG1.get (by omega) h0
    repeat (first | refine mi_s1 (fun _ => rfl) ?_ | refine mi_wgf rfl (by assumption) rfl ?_ | refine mi_wal rfl (by assumption) rfl (by omega) (by decide) ?_)
    obtain ⟨r2, w2, he, rfl, H2, hF2⟩ := ev_clear (X := X) hR1
    refine mi_wcv rfl rfl (Nat.le_of_ble_eq_true rfl) h0' rfl (he.up (by decide)) ?_
    refine mi_s1 (fun _ => rfl) ?_; refine mi_s1 (fun _ => rfl) ?_
    have hG2 := mi_Fg.of3 (lo := 5 + 3 * m) (hi := 5 + 3 * m + 3) hF2 (by omega) (by omega)
    refine ev_replaceRow (w0 := w1) (o := o) (G := F m) (mp := mp) (ma := ma) rfl (by omega) ?_ hmp (old := va_cpy rows f3 0 0 24) (fun a b ha hb => ?_) hi.1 (fun w3 H3 hF3 => ?_) 24 0 w2 rfl (by rw [acc_0]; exact H2) (hG2.get (by omega) (hG1.get (by omega) s1)) (hG2.get (by omega) k3) (hG2.get (by omega) (hG1.get (by omega) hw)) hF2
    · simp only [List.mem_cons, List.not_mem_nil, or_false]
      omega
    · rw [pk_cpy_in (by omega) (by omega), Nat.zero_add, Nat.sub_zero]
      exact hi.2.1 a b ha hb
    · have hG3 := mi_Fg.of3 (lo := 5 + 3 * m) (hi := 5 + 3 * m + 3) hF3 (by omega) (by omega)
      have HS1 : St w1 F := ⟨hG1.get (by omega) s1, ⟨g, hG1.get (by omega) s2, hg⟩, ⟨_, k3⟩, ⟨s4.choose, hG1.get (by omega) s4.choose_spec⟩, fun i hi => (s5 i hi).g hG1 (by omega)⟩
      refine mi_s1 (fun _ => rfl) ?_; refine mi_s1 (fun _ => rfl) ?_
      rw [show nI m + nI 1 = nI (m + 1) from nI_1 m]
      refine (ev_replaceAll_loop ho hmp f (m + 1) w3 _ _ _ (by omega) (by omega) (HS1.one (by omega) H3 hF3) (hG3.get (by omega) (hG1.get (by omega) hw)) ((hFr.tr (hG1.wide (by omega) (by omega))).tr (hG3.wide (by omega) (by omega)))).imp (fun r w4 h => ?_)
      obtain ⟨k1, k2, k4⟩ := h
      refine ⟨k1, ?_, k4⟩
      have e : (fun i => if m + 1 ≤ i ∧ i < 6 then acc (updR F m (acc (F m) mp 24) i) mp 24 else updR F m (acc (F m) mp 24) i) = (fun i => if m ≤ i ∧ i < 6 then acc (F i) mp 24 else F i) := by
        funext i
        unfold updR
        by_cases q : i = m
        · subst q
          rw [if_neg (by omega), if_pos rfl, if_pos (by omega)]
        · by_cases q2 : m + 1 ≤ i ∧ i < 6
          · rw [if_pos q2, if_neg q, if_pos (by omega)]
          · rw [if_neg q2, if_neg q, if_neg (by omega)]
      rw [← e]
      exact k2
/-- each value of the target facts told anew by mp -/
def repF (F : Nat → Nat → Nat → Bool) (mp : Nat → Nat) : Nat → Nat → Nat → Bool := fun i => if 2 ≤ i ∧ i < 6 then acc (F i) mp 24 else F i
theorem ev_replaceAll {w : mi_H} {o : Nat} {mp : Nat → Nat} {ma : Nat → Int32} {F : Nat → Nat → Nat → Bool} (ho : o = 4 ∨ 23 ≤ o) (hmp : ∀ b, b < 24 → ma b = nI (mp b) ∧ mp b < 24) (H : St w F) (hw : w[o]? = some (.inl (0, 24, .inl ma))) : mi_Ex X 4 k_St_replaceAll [.ref 1, .ref o] w (fun r w1 => r = none ∧ St w1 (repF F mp) ∧ mi_Fg w w1 3 23) := by
  refine mi_Ex.of (M := m_St_replaceAll) rfl (Nat.le_of_ble_eq_true rfl) ?_
  refine mi_s1 (fun _ => rfl) ?_; refine mi_s1 (fun _ => rfl) ?_
  exact ev_replaceAll_loop ho hmp 4 2 w F _ _ rfl (by decide) H hw mi_Fg.rf
theorem ev_replaceOne_loop {w0 : mi_H} {x y : Nat} (hx : x < 24) (hy : y < 24) {F : Nat → Nat → Nat → Bool} {Q : Option Value → mi_H → Prop} (kk : ∀ (w1 : mi_H) (f : Nat → Int32), St w1 F → w1[4]? = some (.inl (0, 24, .inl f)) → (∀ a, a < 24 → f a = nI (if a = x then y else a)) → mi_Fg w0 w1 3 23 → mi_wp X mi_P 4 m_St_replaceOne (30, [some (.ref 1), some (.int (nI x)), some (.int (nI y)), some (.int (nI 24))], [], w1) Q) : ∀ f m (w : mi_H) (fa : Nat → Int32), m + f = 24 → St w F → w[4]? = some (.inl (0, 24, .inl fa)) → (∀ a, a < m → fa a = nI (if a = x then y else a)) → mi_Fg w0 w 3 23 → mi_wp X mi_P 4 m_St_replaceOne (2, [some (.ref 1), some (.int (nI x)), some (.int (nI y)), some (.int (nI m))], [], w) Q
  | 0, m, w, fa, hm, H, s4, hz, hFr => by
    have hm : m = 24 := by omega
    subst hm
    refine mi_s1 (fun _ => rfl) ?_; refine mi_s1 (fun _ => rfl) ?_; refine mi_s1 (fun _ => rfl) ?_
    exact kk w fa H s4 hz hFr
  | f + 1, m, w, fa, hm, H, s4, hz, hFr => by
    have go : ∀ (w1 : mi_H) (v : Nat), v = (if m = x then y else m) → w1[4]? = some (.inl (0, 24, .inl (upd fa m (nI v)))) → mi_Fr w w1 [4] → mi_wp X mi_P 4 m_St_replaceOne (24, [some (.ref 1), some (.int (nI x)), some (.int (nI y)), some (.int (nI m))], [], w1) Q := by
      intro w1 v hv k4 hF1
      have hG1 : mi_Fg w w1 4 5 := mi_Fg.of1 hF1 (by omega) (by omega)
      obtain ⟨s1, ⟨g, s2, hg⟩, ⟨f3, s3⟩, -, s5⟩ := id H
      refine mi_s1 (fun _ => rfl) ?_; refine mi_s1 (fun _ => rfl) ?_
      rw [show nI m + nI 1 = nI (m + 1) from nI_1 m]
      refine ev_replaceOne_loop hx hy kk f (m + 1) w1 _ (by omega) ⟨hG1.get (by omega) s1, ⟨g, hG1.get (by omega) s2, hg⟩, ⟨f3, hG1.get (by omega) s3⟩, ⟨_, k4⟩, fun i hi => (s5 i hi).g hG1 (by omega)⟩ k4 (fun a ha => ?_) (hFr.tr (hG1.wide (by omega) (by omega)))
      unfold upd
      by_cases q : a = m
      · rw [if_pos q, hv, q]
      · rw [if_neg q]
        exact hz a (by omega)
    obtain ⟨s1, -⟩ := id H
    repeat (first | refine mi_s1 (fun _ => rfl) ?_ | refine mi_wgf rfl (by assumption) rfl ?_ | refine mi_wal rfl (by assumption) rfl (by omega) (by decide) ?_)
    refine mi_wif (fun q => absurd q (nI_ge (a := m) (b := 24) (by omega) (by omega))) (fun _ => ?_)
    repeat (first | refine mi_s1 (fun _ => rfl) ?_ | refine mi_wgf rfl (by assumption) rfl ?_ | refine mi_wal rfl (by assumption) rfl (by omega) (by decide) ?_)
    refine mi_wif (fun q => ?_) (fun q => ?_)
    · have q : m = x := (nI_eq (by omega) (by omega)).mp q
      repeat (first | refine mi_s1 (fun _ => rfl) ?_ | refine mi_wgf rfl (by assumption) rfl ?_ | refine mi_wal rfl (by assumption) rfl (by omega) (by decide) ?_)
      refine mi_wag rfl s4 rfl (by omega) (by decide) (fun w1 k4 hF1 => ?_)
      exact go w1 y (by rw [if_pos q]) k4 hF1
    · have q : ¬ m = x := fun z => q (by rw [z])
      repeat (first | refine mi_s1 (fun _ => rfl) ?_ | refine mi_wgf rfl (by assumption) rfl ?_ | refine mi_wal rfl (by assumption) rfl (by omega) (by decide) ?_)
      refine mi_wag rfl s4 rfl (by omega) (by decide) (fun w1 k4 hF1 => ?_)
      exact go w1 m (by rw [if_neg q]) k4 hF1
theorem ev_replaceOne {w : mi_H} {x y : Nat} {F : Nat → Nat → Nat → Bool} (hx : x < 24) (hy : y < 24) (H : St w F) : mi_Ex X 5 k_St_replaceOne [.ref 1, .int (nI x), .int (nI y)] w (fun r w1 => r = none ∧ St w1 (repF F (fun a => if a = x then y else a)) ∧ mi_Fg w w1 3 23) := by
  refine mi_Ex.of (M := m_St_replaceOne) rfl (Nat.le_of_ble_eq_true rfl) ?_
  obtain ⟨s1, -, -, ⟨f4, s4⟩, -⟩ := id H
  refine mi_s1 (fun _ => rfl) ?_; refine mi_s1 (fun _ => rfl) ?_
  refine ev_replaceOne_loop hx hy (F := F) (w0 := w) (fun w1 fa H1 k4 hz hFr => ?_) 24 0 w f4 rfl H s4 (fun a ha => absurd ha (Nat.not_lt_zero a)) mi_Fg.rf
  obtain ⟨k1, -⟩ := id H1
  repeat (first | refine mi_s1 (fun _ => rfl) ?_ | refine mi_wgf rfl (by assumption) rfl ?_ | refine mi_wal rfl (by assumption) rfl (by omega) (by decide) ?_)
  obtain ⟨r2, w2, he, rfl, H2, hF2⟩ := ev_replaceAll (X := X) (o := 4) (mp := fun a => if a = x then y else a) (Or.inl rfl) (fun b hb => ⟨hz b hb, by split <;> omega⟩) H1 k4
  refine mi_wcv rfl rfl (Nat.le_of_ble_eq_true rfl) k1 rfl (he) ?_
  refine mi_r1 (fun _ => rfl) ?_
  exact ⟨rfl, H2, hFr.tr hF2⟩
end Store2
