/-! the law's loop: class and model from call to call -/
theorem MC.g {w w1 : mi_H} {S : sp_S} {lo hi : Nat} (H : MC w S) (hF : mi_Fg w w1 lo hi) (ho : 71 ≤ lo) : MC w1 S := by
  obtain ⟨pl, h0, ⟨h1, ⟨V, h2⟩, ⟨mp, oc, tl, gu, h3⟩, ⟨E, S', h4⟩, ⟨g, h5, h5'⟩, h6, h7⟩, hn, hs⟩ := H
  refine ⟨pl, hF.get (by omega) h0, ⟨h1.g hF (by omega), ⟨V, h2.g hF (by omega)⟩, ⟨mp, oc, tl, gu, h3.g hF (by omega)⟩, ⟨E, S', h4.g hF (by omega)⟩, ⟨g, hF.get (by omega) h5, h5'⟩, fun i hi => ⟨(h6 i hi).1, ?_⟩, h7⟩, hn, hs⟩
  obtain ⟨⟨j, hj, e⟩, h⟩ := h6 i hi
  exact h.g hF (by omega)
theorem Md.g {w w1 : mi_H} {S : sp_S} {lo hi : Nat} (H : Md w S) (hF : mi_Fg w w1 lo hi) (ho : hi ≤ 71) : Md w1 S := by
  obtain ⟨a, ls, lt, HM, h⟩ := H
  exact ⟨a, ls, lt, HM.g hF ho, h⟩
theorem Md.w71 {w : mi_H} {S : sp_S} (H : Md w S) : ∃ fs, w[71]? = some (.inr (8, fs)) := by
  obtain ⟨a, ls, lt, HM, h⟩ := H
  exact ⟨_, HM.1⟩
theorem MC.w0 {w : mi_H} {S : sp_S} (H : MC w S) : ∃ fs, w[0]? = some (.inr (0, fs)) := by
  obtain ⟨pl, h0, -⟩ := H
  exact ⟨_, h0⟩
/-! the dependencies that are kept have no fault -/
def wf7 (S : sp_S) : Prop := wfS S ∧ S.n ≤ 6 ∧ (S.R 7).1 < 3
theorem MC.wf {w : mi_H} {S : sp_S} (H : MC w S) (hw : wfS S) : wf7 S := by
  obtain ⟨pl, h0, HB, hn, hs⟩ := H
  obtain ⟨-, -, hr⟩ := HB.rg (i := 7) (by omega)
  obtain ⟨fi, se, -, -, -, hk, -⟩ := hr
  exact ⟨hw, hn, hk⟩
theorem wf_up {S : sp_S} (hw : wf7 S) {F : Nat → Nat → Nat → Bool} {q : sp_R} {hd : Bool} {s : Nat} : wfS (F, updX S.R 7 q, S.n, hd, S.hq, s) := by
  obtain ⟨⟨h1, h2⟩, hn, -⟩ := hw
  refine ⟨fun i hi => ?_, fun h => ?_⟩
  · show ((updX S.R 7 q) i).1 < 2 ∧ faultR ((updX S.R 7 q) i) = 0
    have hi : i < S.n := hi
    unfold updX
    rw [if_neg (by omega)]
    exact h1 i hi
  · show ((updX S.R 7 q) 6).1 = 2 ∧ faultR ((updX S.R 7 q) 6) = 0
    unfold updX
    rw [if_neg (by omega)]
    exact h2 h
theorem wf_open {S : sp_S} (hw : wf7 S) (x : Int32) : wfS (op_open S x).2 := by
  unfold op_open
  split
  · exact wf_up hw
  · exact hw.1
theorem wf_body {S : sp_S} (hw : wf7 S) (x y z : Int32) : wfS (op_body S x y z).2 := by
  unfold op_body
  split
  · exact wf_up hw
  · exact hw.1
theorem wf_head {S : sp_S} (hw : wf7 S) (x y z : Int32) : wfS (op_head S x y z).2 := by
  unfold op_head
  split
  · exact wf_up hw
  · exact hw.1
theorem wf_pair {S : sp_S} (hw : wf7 S) (x y : Int32) : wfS (op_pair S x y).2 := by
  unfold op_pair
  split
  · exact wf_up hw
  · exact hw.1
theorem wf_close {S : sp_S} (hw : wf7 S) : wfS (op_close S).2 := by
  obtain ⟨⟨h1, h2⟩, hn, h7⟩ := id hw
  unfold op_close
  split
  · split
    · exact hw.1
    · rename_i hf
      have hf : faultR (S.R 7) = 0 := Decidable.not_not.mp hf
      split
      · rename_i hk
        refine ⟨fun i hi => ?_, fun _ => ?_⟩
        · show (swp S.R 6 i).1 < 2 ∧ faultR (swp S.R 6 i) = 0
          have hi : i < S.n := hi
          unfold swp
          rw [if_neg (by omega), if_neg (by omega)]
          exact h1 i hi
        · show (swp S.R 6 6).1 = 2 ∧ faultR (swp S.R 6 6) = 0
          unfold swp
          rw [if_pos rfl]
          exact ⟨hk, hf⟩
      · rename_i hk
        split
        · rename_i hl
          refine ⟨fun i hi => ?_, fun h => ?_⟩
          · show (swp S.R S.n i).1 < 2 ∧ faultR (swp S.R S.n i) = 0
            have hi : i < S.n + 1 := hi
            unfold swp
            by_cases z : i = S.n
            · rw [if_pos z]
              exact ⟨by omega, hf⟩
            · rw [if_neg z, if_neg (by omega)]
              exact h1 i (by omega)
          · show (swp S.R S.n 6).1 = 2 ∧ faultR (swp S.R S.n 6) = 0
            unfold swp
            rw [if_neg (by omega), if_neg (by omega)]
            exact h2 h
        · exact hw.1
  · exact hw.1
theorem wf_drop {S : sp_S} (hw : wf7 S) : wfS (op_drop S).2 := by
  unfold op_drop
  split
  · refine ⟨fun i hi => hw.1.1 i ?_, hw.1.2⟩
    have hi : i < S.n - 1 := hi
    omega
  · exact hw.1
theorem wf_same {S S' : sp_S} (hw : wfS S) (h1 : S'.R = S.R) (h2 : S'.n = S.n) (h3 : S'.hq = S.hq) : wfS S' := by
  unfold wfS at *
  rw [h1, h2, h3]
  exact hw
theorem wf_fact {S : sp_S} (hw : wfS S) (x y z : Int32) : wfS (op_fact S x y z).2 := by
  unfold op_fact
  repeat' split
  all_goals exact hw
theorem wf_take {S : sp_S} (hw : wfS S) (x y z : Int32) : wfS (op_take S x y z).2 := by
  unfold op_take
  repeat' split
  all_goals exact hw
theorem wf_start {S : sp_S} (hw : wfS S) : wfS (op_start S).2 := by
  unfold op_start
  repeat' split
  all_goals exact hw
theorem wf_step {S : sp_S} (hw : wfS S) : wfS (op_step S).2 := by
  unfold op_step
  split
  · exact hw
  · exact hw
theorem wf_rnl : ∀ f m (S : sp_S), wfS S → wfS (rnl f m S).2
  | 0, m, S, hw => hw
  | f + 1, m, S, hw => by
    unfold rnl
    split
    · exact wf_rnl f (m + 1) _ hw
    · exact hw
theorem wf_run {S : sp_S} (hw : wfS S) (x : Int32) : wfS (op_run S x).2 := by
  unfold op_run
  split
  · exact wf_rnl _ _ _ hw
  · exact hw
theorem wf_fold {S : sp_S} (hw : wfS S) : wfS (op_fold S).2 := by
  unfold op_fold
  repeat' split
  all_goals exact hw
/-! how large the heap is -/
def smC (w : mi_H) (o : Nat) : Prop := ∃ e, w[o]? = some e ∧ mi_es e ≤ 300
theorem sum_le : ∀ (l : List Nat) (k : Nat), (∀ x ∈ l, x ≤ k) → l.sum ≤ l.length * k
  | [], k, _ => by simp
  | x :: l, k, h => by
    have h1 := sum_le l k (fun y hy => h y (List.mem_cons_of_mem _ hy))
    have h2 := h x List.mem_cons_self
    rw [List.sum_cons, List.length_cons, Nat.add_mul]
    omega
theorem sz_le {w : mi_H} (hl : w.length = 94) (h : ∀ o, o < 94 → smC w o) : mi_sz w ≤ 7302250 := by
  unfold mi_sz
  have h1 := sum_le (w.map mi_es) 300 (fun x hx => by
    obtain ⟨e, he, rfl⟩ := List.mem_map.mp hx
    obtain ⟨o, ho⟩ := List.mem_iff_getElem?.mp he
    have hlt := (List.getElem?_eq_some_iff.mp ho).1
    obtain ⟨e', h1, h2⟩ := h o (by omega)
    rw [ho] at h1
    cases h1
    exact h2)
  rw [List.length_map, hl] at h1
  omega
theorem At.sm {w : mi_H} {o : Nat} {as : List sp_A} (H : At w o as) : smC w o ∧ smC w (o + 1) := by
  obtain ⟨f, h0, h1, -⟩ := H
  exact ⟨⟨_, h0, by show 2 ≤ 300; omega⟩, ⟨_, h1, by show 3 ≤ 300; omega⟩⟩
theorem MC.sm {w : mi_H} {S : sp_S} (H : MC w S) : ∀ o, o < 71 → smC w o := by
  obtain ⟨pl, h0, ⟨⟨s1, ⟨g, s2, -⟩, ⟨f3, s3⟩, ⟨f4, s4⟩, s5⟩, ⟨V, v1, ⟨fv, v2, -⟩, -⟩, ⟨mp, oc, tl, gu, ma, x, k1, k2, -⟩, ⟨E, S', g1, fe, fs, g2, g3, -⟩, ⟨g', h5, h5'⟩, h6, h7⟩, hn, hs⟩ := H
  intro o ho
  have base : ∀ o, o < 31 → smC w o := by
    intro o ho
    by_cases z : 5 ≤ o ∧ o < 23
    · obtain ⟨rows, cols, fi, se, du, ct, r0, r1, r2, -⟩ := s5 ((o - 5) / 3) (by omega)
      have : o = 5 + 3 * ((o - 5) / 3) ∨ o = 5 + 3 * ((o - 5) / 3) + 1 ∨ o = 5 + 3 * ((o - 5) / 3) + 2 := by omega
      rcases this with e | e | e
      · rw [e]
        exact ⟨_, r0, by show 6 ≤ 300; omega⟩
      · rw [e]
        exact ⟨_, r1, by show 24 ≤ 300; omega⟩
      · rw [e]
        exact ⟨_, r2, by show 24 ≤ 300; omega⟩
    · have : o = 0 ∨ o = 1 ∨ o = 2 ∨ o = 3 ∨ o = 4 ∨ o = 23 ∨ o = 24 ∨ o = 25 ∨ o = 26 ∨ o = 27 ∨ o = 28 ∨ o = 29 ∨ o = 30 := by omega
      rcases this with rfl | rfl | rfl | rfl | rfl | rfl | rfl | rfl | rfl | rfl | rfl | rfl | rfl
      · exact ⟨_, h0, by show 11 ≤ 300; omega⟩
      · exact ⟨_, s1, by show 3 ≤ 300; omega⟩
      · exact ⟨_, s2, by show 6 ≤ 300; omega⟩
      · exact ⟨_, s3, by show 24 ≤ 300; omega⟩
      · exact ⟨_, s4, by show 24 ≤ 300; omega⟩
      · exact ⟨_, v1, by show 2 ≤ 300; omega⟩
      · exact ⟨_, v2, by show 4 ≤ 300; omega⟩
      · exact ⟨_, k1, by show 5 ≤ 300; omega⟩
      · exact ⟨_, k2, by show 24 ≤ 300; omega⟩
      · exact ⟨_, g1, by show 2 ≤ 300; omega⟩
      · exact ⟨_, g2, by show 8 ≤ 300; omega⟩
      · exact ⟨_, g3, by show 8 ≤ 300; omega⟩
      · exact ⟨_, h5, by show 6 ≤ 300; omega⟩
  by_cases z : o < 31
  · exact base o z
  · have on := inj_onto (f := fun i => (pl i - 31) / 5) (l := List.range 8) List.nodup_range (fun i hi => by
      obtain ⟨⟨j, hj, e⟩, -⟩ := h6 i (List.mem_range.mp hi)
      rw [e]
      exact List.mem_range.mpr (by omega)) (fun i hi j hj e => by
      obtain ⟨⟨i', hi', e1⟩, -⟩ := h6 i (List.mem_range.mp hi)
      obtain ⟨⟨j', hj', e2⟩, -⟩ := h6 j (List.mem_range.mp hj)
      have e : (pl i - 31) / 5 = (pl j - 31) / 5 := e
      exact h7 i j (List.mem_range.mp hi) (List.mem_range.mp hj) (by omega))
    obtain ⟨i, hi, e⟩ := on ((o - 31) / 5) (List.mem_range.mpr (by omega))
    have hi := List.mem_range.mp hi
    obtain ⟨⟨j, hj, e1⟩, fi, se, q0, q1, q2, -⟩ := h6 i hi
    have e : (pl i - 31) / 5 = (o - 31) / 5 := e
    have : o = pl i ∨ o = pl i + 1 ∨ o = pl i + 2 ∨ o = pl i + 3 ∨ o = pl i + 4 := by omega
    rcases this with e | e | e | e | e
    · rw [e]
      exact ⟨_, q0, by show 6 ≤ 300; omega⟩
    · rw [e]
      exact q1.sm.1
    · rw [e]
      exact q1.sm.2
    · rw [e]
      exact q2.sm.1
    · rw [e]
      exact q2.sm.2
theorem sz_all : ∀ o, o < 94 → 72 ≤ o → (szI o).isSome = true ∨ (szB o).isSome = true := by decide +kernel
theorem Md.sm {w : mi_H} {S : sp_S} (H : Md w S) : ∀ o, 71 ≤ o → o < 94 → smC w o := by
  obtain ⟨a, ls, lt, HM, -⟩ := H
  intro o h1 h2
  by_cases z : o = 71
  · subst z
    exact ⟨_, HM.1, by show 28 ≤ 300; omega⟩
  · rcases (by
      have := sz_all o
      exact this h2 (by omega) : (szI o).isSome = true ∨ (szB o).isSome = true) with q | q
    · obtain ⟨k, hk⟩ := Option.isSome_iff_exists.mp q
      have := szI_in0 hk
      exact ⟨_, HM.2.1 o k hk, by show k ≤ 300; omega⟩
    · obtain ⟨k, hk⟩ := Option.isSome_iff_exists.mp q
      refine ⟨_, HM.2.2 o k hk, ?_⟩
      show k ≤ 300
      unfold szB at hk
      split at hk
      · cases hk
        omega
      · split at hk
        · cases hk
          omega
        · cases hk
section Law
variable {X : mi_X} {d : Nat} {M : mi_M} {Q : Option Value → mi_H → Prop} {pc n a b z : Nat} {v : Int32} {L : mi_L} {r : List Value} {w : mi_H}
theorem mi_wxl {i : Nat} {j : Int32} (hf : M.2.2[pc]? = some (some (.iaload, n, a, b, v))) (hj : j = nI i) (hi : i < X.1) (hX : X.1 < 2 ^ 31) (kk : mi_wp X mi_P d M (n, L, .int (X.2 i) :: r, w) Q) : mi_wp X mi_P d M (pc, L, .int j :: .retAddr z :: r, w) Q := by
  obtain ⟨h1, h2⟩ := mi_inI hj hi hX
  refine mi_wst (f' := (n, L, .int (X.2 i) :: r, w)) (fun cal => ?_) kk
  simp only [mi_step, hf, mi_ins, h1, h2, if_false]
theorem mi_wtd {x : Int32} {df lo hi : Int} {os : Array Int} {k t : Nat} (hf : M.2.2[pc]? = some (some (.tableswitch df lo hi os, n, a, b, v))) (hx : x = nI k) (hk : k < 2 ^ 31) (h : (k : Int) < lo ∨ hi < k) (ht : mi_tgt pc df = t) (kk : mi_wp X mi_P d M (t, L, r, w) Q) : mi_wp X mi_P d M (pc, L, .int x :: r, w) Q := by
  subst hx
  subst ht
  refine mi_wst (f' := (mi_tgt pc df, L, r, w)) (fun cal => ?_) kk
  simp only [mi_step, hf, mi_ins, nI_toInt hk, h, if_true]
theorem mi_wtb {x : Int32} {df lo hi : Int} {os : Array Int} {k t : Nat} {o : Int} (hf : M.2.2[pc]? = some (some (.tableswitch df lo hi os, n, a, b, v))) (hx : x = nI k) (hk : k < 2 ^ 31) (h : ¬ ((k : Int) < lo ∨ hi < k)) (ho : os[((k : Int) - lo).toNat]? = some o) (ht : mi_tgt pc o = t) (kk : mi_wp X mi_P d M (t, L, r, w) Q) : mi_wp X mi_P d M (pc, L, .int x :: r, w) Q := by
  subst hx
  subst ht
  refine mi_wst (f' := (mi_tgt pc o, L, r, w)) (fun cal => ?_) kk
  simp only [mi_step, hf, mi_ins, nI_toInt hk, h, if_false, ho]
theorem and31 (x : Int32) : ∃ k, k < 32 ∧ x &&& nI 31 = nI k := by
  refine ⟨(x.toBitVec &&& 31#32).toNat, ?_, ?_⟩
  · rw [BitVec.toNat_and]
    have : x.toBitVec.toNat &&& (31#32).toNat ≤ (31#32).toNat := Nat.and_le_right
    have e : (31#32).toNat = 31 := rfl
    omega
  · show x &&& Int32.ofNat 31 = Int32.ofNat _
    apply Int32.toBitVec_inj.mp
    rw [Int32.toBitVec_and, Int32.toBitVec_ofNat', Int32.toBitVec_ofNat']
    apply BitVec.eq_of_toNat_eq
    rw [BitVec.toNat_ofNat, BitVec.toNat_and]
    have : x.toBitVec.toNat &&& (31#32).toNat ≤ (31#32).toNat := Nat.and_le_right
    have e : (31#32).toNat = 31 := rfl
    rw [Nat.mod_eq_of_lt (by omega)]
/-- class and model agree, and stand as they should -/
def InvS (w : mi_H) (S : sp_S) : Prop := MC w S ∧ Md w S ∧ wfS S ∧ w.length = 94
def LawQ : Option Value → mi_H → Prop := fun r w' => r = some (.int 1) ∧ w'.length ≤ 600000 ∧ mi_sz w' ≤ 7302250
theorem InvS.q {S : sp_S} (H : InvS w S) : LawQ (some (.int 1)) w := by
  obtain ⟨h1, h2, -, h4⟩ := H
  refine ⟨rfl, by omega, sz_le h4 (fun o ho => ?_)⟩
  by_cases z : o < 71
  · exact h1.sm o z
  · exact h2.sm o (by omega) ho
/-- both have moved on -/
theorem InvS.go {w1 w2 : mi_H} {S S' : sp_S} (H : InvS w S) (h1 : MC w1 S') (hF1 : mi_Fg w w1 0 71) (h2 : Md w2 S') (hF2 : mi_Fg w1 w2 71 94) (hw : wfS S') : InvS w2 S' := ⟨h1.g hF2 (by omega), h2, hw, by rw [hF2.1, hF1.1]; exact H.2.2.2⟩
set_option maxRecDepth 20000 in
theorem mi_law_test {i : Nat} (hX : X.1 ≤ 2048) (hi : i ≤ X.1 + 4) (k1 : X.1 < i + 4 → mi_wp X mi_P 40 m_law (592, [some (.retAddr 0), some (.ref 0), some (.ref 71), some (.int (nI i))], [], w) Q) (k2 : i + 4 ≤ X.1 → mi_wp X mi_P 40 m_law (26, [some (.retAddr 0), some (.ref 0), some (.ref 71), some (.int (nI i))], [], w) Q) : mi_wp X mi_P 40 m_law (18, [some (.retAddr 0), some (.ref 0), some (.ref 71), some (.int (nI i))], [], w) Q := by
  refine mi_s1 (fun _ => rfl) ?_; refine mi_s1 (fun _ => rfl) ?_; refine mi_s1 (fun _ => rfl) ?_; refine mi_s1 (fun _ => rfl) ?_; refine mi_s1 (fun _ => rfl) ?_; refine mi_s1 (fun _ => rfl) ?_
  have e : Int32.ofNat X.1 - nI 4 < nI i ↔ X.1 < i + 4 := by
    show nI X.1 - nI 4 < nI i ↔ _
    by_cases h : 4 ≤ X.1
    · rw [pk_sub h]
      constructor
      · intro q
        have := (nI_ltI (by omega) (by omega)).mp q
        omega
      · intro q
        exact nI_lt (by omega) (by omega)
    · refine ⟨fun _ => by omega, fun _ => ?_⟩
      have h0 : (0 : Int32) ≤ nI i := nI_pos' (by omega)
      have h4 : X.1 = 0 ∨ X.1 = 1 ∨ X.1 = 2 ∨ X.1 = 3 := by omega
      refine Int32.lt_of_lt_of_le ?_ h0
      rcases h4 with h4 | h4 | h4 | h4 <;> rw [h4] <;> decide
  refine mi_wif (fun z => k1 (e.mp z)) (fun z => k2 ?_)
  rcases Nat.lt_or_ge X.1 (i + 4) with q | q
  · exact absurd (e.mpr q) z
  · exact q
set_option maxRecDepth 20000 in
theorem mi_lawl (hX : X.1 ≤ 2048) : ∀ f i (w : mi_H) (S : sp_S), X.1 ≤ i + 4 * f → i ≤ X.1 + 4 → InvS w S → mi_wp X mi_P 40 m_law (18, [some (.retAddr 0), some (.ref 0), some (.ref 71), some (.int (nI i))], [], w) LawQ := by
  intro f
  induction f with
  | zero =>
    intro i w S hf hi H
    refine mi_law_test (by omega) (by omega) ?_ (fun z => absurd z (by omega))
    intro _
    refine mi_s1 (fun _ => rfl) ?_
    refine mi_wrz rfl rfl rfl ?_
    exact H.q
  | succ f ih =>
    intro i w S hf hi H
    refine mi_law_test (by omega) (by omega) ?_ ?_
    · intro _
      refine mi_s1 (fun _ => rfl) ?_
      refine mi_wrz rfl rfl rfl ?_
      exact H.q
    · intro hlt
      obtain ⟨k, hk, ek⟩ := and31 (X.2 i)
      have nxt : ∀ (w1 : mi_H) (S1 : sp_S), InvS w1 S1 → mi_wp X mi_P 40 m_law (586, [some (.retAddr 0), some (.ref 0), some (.ref 71), some (.int (nI i))], [], w1) LawQ := by
        intro w1 S1 H1
        refine mi_s1 (fun _ => rfl) ?_; refine mi_s1 (fun _ => rfl) ?_
        rw [nI_add]
        exact ih (i + 4) w1 S1 (by omega) (by omega) H1
      obtain ⟨fs0, w0⟩ := H.1.w0
      obtain ⟨HC, HD, hw, hl⟩ := id H
      have hw7 := HC.wf hw
      refine mi_s1 (fun _ => rfl) ?_; refine mi_s1 (fun _ => rfl) ?_
      refine mi_wxl rfl rfl (by omega) (by omega) ?_
      refine mi_s1 (fun _ => rfl) ?_; refine mi_s1 (fun _ => rfl) ?_
      by_cases z : 19 < k
      · exact mi_wtd (k := k) (t := 586) rfl ek (by omega) (Or.inr (by omega)) rfl (nxt w S H)
      · have hk2 : k = 0 ∨ k = 1 ∨ k = 2 ∨ k = 3 ∨ k = 4 ∨ k = 5 ∨ k = 6 ∨ k = 7 ∨ k = 8 ∨ k = 9 ∨ k = 10 ∨ k = 11 ∨ k = 12 ∨ k = 13 ∨ k = 14 ∨ k = 15 ∨ k = 16 ∨ k = 17 ∨ k = 18 ∨ k = 19 := by omega
        rcases hk2 with rfl | rfl | rfl | rfl | rfl | rfl | rfl | rfl | rfl | rfl | rfl | rfl | rfl | rfl | rfl | rfl | rfl | rfl | rfl | rfl
        · refine mi_wtb (k := 0) (t := 128) rfl ek (by decide) (by decide) rfl rfl ?_
          obtain ⟨r1, w1, he1, rfl, h1, hF1⟩ := ev_open (X := X) HC (X.2 (i + 1))
          obtain ⟨r2, w2, he2, rfl, h2, hF2⟩ := mv_open (X := X) (HD.g hF1 (by omega)) (X.2 (i + 1))
          obtain ⟨fs1, w71⟩ := (HD.g hF1 (by omega)).w71
          refine mi_s1 (fun _ => rfl) ?_
          refine mi_s1 (fun _ => rfl) ?_; refine mi_s1 (fun _ => rfl) ?_; refine mi_s1 (fun _ => rfl) ?_; refine mi_s1 (fun _ => rfl) ?_
          rw [nI_add]
          refine mi_wxl rfl rfl (by omega) (by omega) ?_
          refine mi_wcv rfl rfl (Nat.le_of_ble_eq_true rfl) w0 rfl (he1.up (by decide)) ?_
          refine mi_s1 (fun _ => rfl) ?_
          refine mi_s1 (fun _ => rfl) ?_; refine mi_s1 (fun _ => rfl) ?_; refine mi_s1 (fun _ => rfl) ?_; refine mi_s1 (fun _ => rfl) ?_
          rw [nI_add]
          refine mi_wxl rfl rfl (by omega) (by omega) ?_
          refine mi_wcv rfl rfl (Nat.le_of_ble_eq_true rfl) w71 rfl (he2.up (by decide)) ?_
          refine mi_s1 (fun _ => rfl) ?_
          refine mi_wif (fun _ => ?_) (fun z => absurd rfl z)
          exact nxt w2 _ (H.go h1 hF1 h2 hF2 (wf_open hw7 (X.2 (i + 1))))
        · refine mi_wtb (k := 1) (t := 151) rfl ek (by decide) (by decide) rfl rfl ?_
          obtain ⟨r1, w1, he1, rfl, h1, hF1⟩ := ev_body (X := X) HC (X.2 (i + 1)) (X.2 (i + 2)) (X.2 (i + 3))
          obtain ⟨r2, w2, he2, rfl, h2, hF2⟩ := mv_body (X := X) (HD.g hF1 (by omega)) (X.2 (i + 1)) (X.2 (i + 2)) (X.2 (i + 3))
          obtain ⟨fs1, w71⟩ := (HD.g hF1 (by omega)).w71
          refine mi_s1 (fun _ => rfl) ?_
          refine mi_s1 (fun _ => rfl) ?_; refine mi_s1 (fun _ => rfl) ?_; refine mi_s1 (fun _ => rfl) ?_; refine mi_s1 (fun _ => rfl) ?_
          rw [nI_add]
          refine mi_wxl rfl rfl (by omega) (by omega) ?_
          refine mi_s1 (fun _ => rfl) ?_; refine mi_s1 (fun _ => rfl) ?_; refine mi_s1 (fun _ => rfl) ?_; refine mi_s1 (fun _ => rfl) ?_
          rw [nI_add]
          refine mi_wxl rfl rfl (by omega) (by omega) ?_
          refine mi_s1 (fun _ => rfl) ?_; refine mi_s1 (fun _ => rfl) ?_; refine mi_s1 (fun _ => rfl) ?_; refine mi_s1 (fun _ => rfl) ?_
          rw [nI_add]
          refine mi_wxl rfl rfl (by omega) (by omega) ?_
          refine mi_wcv rfl rfl (Nat.le_of_ble_eq_true rfl) w0 rfl (he1.up (by decide)) ?_
          refine mi_s1 (fun _ => rfl) ?_
          refine mi_s1 (fun _ => rfl) ?_; refine mi_s1 (fun _ => rfl) ?_; refine mi_s1 (fun _ => rfl) ?_; refine mi_s1 (fun _ => rfl) ?_
          rw [nI_add]
          refine mi_wxl rfl rfl (by omega) (by omega) ?_
          refine mi_s1 (fun _ => rfl) ?_; refine mi_s1 (fun _ => rfl) ?_; refine mi_s1 (fun _ => rfl) ?_; refine mi_s1 (fun _ => rfl) ?_
          rw [nI_add]
          refine mi_wxl rfl rfl (by omega) (by omega) ?_
          refine mi_s1 (fun _ => rfl) ?_; refine mi_s1 (fun _ => rfl) ?_; refine mi_s1 (fun _ => rfl) ?_; refine mi_s1 (fun _ => rfl) ?_
          rw [nI_add]
          refine mi_wxl rfl rfl (by omega) (by omega) ?_
          refine mi_wcv rfl rfl (Nat.le_of_ble_eq_true rfl) w71 rfl (he2.up (by decide)) ?_
          refine mi_s1 (fun _ => rfl) ?_
          refine mi_wif (fun _ => ?_) (fun z => absurd rfl z)
          exact nxt w2 _ (H.go h1 hF1 h2 hF2 (wf_body hw7 (X.2 (i + 1)) (X.2 (i + 2)) (X.2 (i + 3))))
        · refine mi_wtb (k := 2) (t := 194) rfl ek (by decide) (by decide) rfl rfl ?_
          obtain ⟨r1, w1, he1, rfl, h1, hF1⟩ := ev_head (X := X) HC (X.2 (i + 1)) (X.2 (i + 2)) (X.2 (i + 3))
          obtain ⟨r2, w2, he2, rfl, h2, hF2⟩ := mv_head (X := X) (HD.g hF1 (by omega)) (X.2 (i + 1)) (X.2 (i + 2)) (X.2 (i + 3))
          obtain ⟨fs1, w71⟩ := (HD.g hF1 (by omega)).w71
          refine mi_s1 (fun _ => rfl) ?_
          refine mi_s1 (fun _ => rfl) ?_; refine mi_s1 (fun _ => rfl) ?_; refine mi_s1 (fun _ => rfl) ?_; refine mi_s1 (fun _ => rfl) ?_
          rw [nI_add]
          refine mi_wxl rfl rfl (by omega) (by omega) ?_
          refine mi_s1 (fun _ => rfl) ?_; refine mi_s1 (fun _ => rfl) ?_; refine mi_s1 (fun _ => rfl) ?_; refine mi_s1 (fun _ => rfl) ?_
          rw [nI_add]
          refine mi_wxl rfl rfl (by omega) (by omega) ?_
          refine mi_s1 (fun _ => rfl) ?_; refine mi_s1 (fun _ => rfl) ?_; refine mi_s1 (fun _ => rfl) ?_; refine mi_s1 (fun _ => rfl) ?_
          rw [nI_add]
          refine mi_wxl rfl rfl (by omega) (by omega) ?_
          refine mi_wcv rfl rfl (Nat.le_of_ble_eq_true rfl) w0 rfl (he1.up (by decide)) ?_
          refine mi_s1 (fun _ => rfl) ?_
          refine mi_s1 (fun _ => rfl) ?_; refine mi_s1 (fun _ => rfl) ?_; refine mi_s1 (fun _ => rfl) ?_; refine mi_s1 (fun _ => rfl) ?_
          rw [nI_add]
          refine mi_wxl rfl rfl (by omega) (by omega) ?_
          refine mi_s1 (fun _ => rfl) ?_; refine mi_s1 (fun _ => rfl) ?_; refine mi_s1 (fun _ => rfl) ?_; refine mi_s1 (fun _ => rfl) ?_
          rw [nI_add]
          refine mi_wxl rfl rfl (by omega) (by omega) ?_
          refine mi_s1 (fun _ => rfl) ?_; refine mi_s1 (fun _ => rfl) ?_; refine mi_s1 (fun _ => rfl) ?_; refine mi_s1 (fun _ => rfl) ?_
          rw [nI_add]
          refine mi_wxl rfl rfl (by omega) (by omega) ?_
          refine mi_wcv rfl rfl (Nat.le_of_ble_eq_true rfl) w71 rfl (he2.up (by decide)) ?_
          refine mi_s1 (fun _ => rfl) ?_
          refine mi_wif (fun _ => ?_) (fun z => absurd rfl z)
          exact nxt w2 _ (H.go h1 hF1 h2 hF2 (wf_head hw7 (X.2 (i + 1)) (X.2 (i + 2)) (X.2 (i + 3))))
        · refine mi_wtb (k := 3) (t := 237) rfl ek (by decide) (by decide) rfl rfl ?_
          obtain ⟨r1, w1, he1, rfl, h1, hF1⟩ := ev_pair (X := X) HC (X.2 (i + 1)) (X.2 (i + 2))
          obtain ⟨r2, w2, he2, rfl, h2, hF2⟩ := mv_pair (X := X) (HD.g hF1 (by omega)) (X.2 (i + 1)) (X.2 (i + 2))
          obtain ⟨fs1, w71⟩ := (HD.g hF1 (by omega)).w71
          refine mi_s1 (fun _ => rfl) ?_
          refine mi_s1 (fun _ => rfl) ?_; refine mi_s1 (fun _ => rfl) ?_; refine mi_s1 (fun _ => rfl) ?_; refine mi_s1 (fun _ => rfl) ?_
          rw [nI_add]
          refine mi_wxl rfl rfl (by omega) (by omega) ?_
          refine mi_s1 (fun _ => rfl) ?_; refine mi_s1 (fun _ => rfl) ?_; refine mi_s1 (fun _ => rfl) ?_; refine mi_s1 (fun _ => rfl) ?_
          rw [nI_add]
          refine mi_wxl rfl rfl (by omega) (by omega) ?_
          refine mi_wcv rfl rfl (Nat.le_of_ble_eq_true rfl) w0 rfl (he1.up (by decide)) ?_
          refine mi_s1 (fun _ => rfl) ?_
          refine mi_s1 (fun _ => rfl) ?_; refine mi_s1 (fun _ => rfl) ?_; refine mi_s1 (fun _ => rfl) ?_; refine mi_s1 (fun _ => rfl) ?_
          rw [nI_add]
          refine mi_wxl rfl rfl (by omega) (by omega) ?_
          refine mi_s1 (fun _ => rfl) ?_; refine mi_s1 (fun _ => rfl) ?_; refine mi_s1 (fun _ => rfl) ?_; refine mi_s1 (fun _ => rfl) ?_
          rw [nI_add]
          refine mi_wxl rfl rfl (by omega) (by omega) ?_
          refine mi_wcv rfl rfl (Nat.le_of_ble_eq_true rfl) w71 rfl (he2.up (by decide)) ?_
          refine mi_s1 (fun _ => rfl) ?_
          refine mi_wif (fun _ => ?_) (fun z => absurd rfl z)
          exact nxt w2 _ (H.go h1 hF1 h2 hF2 (wf_pair hw7 (X.2 (i + 1)) (X.2 (i + 2))))
        · refine mi_wtb (k := 4) (t := 270) rfl ek (by decide) (by decide) rfl rfl ?_
          obtain ⟨r1, w1, he1, rfl, h1, hF1⟩ := ev_close (X := X) HC 
          obtain ⟨r2, w2, he2, rfl, h2, hF2⟩ := mv_close (X := X) (HD.g hF1 (by omega)) 
          obtain ⟨fs1, w71⟩ := (HD.g hF1 (by omega)).w71
          refine mi_s1 (fun _ => rfl) ?_
          refine mi_wcv rfl rfl (Nat.le_of_ble_eq_true rfl) w0 rfl (he1.up (by decide)) ?_
          refine mi_s1 (fun _ => rfl) ?_
          refine mi_wcv rfl rfl (Nat.le_of_ble_eq_true rfl) w71 rfl (he2.up (by decide)) ?_
          refine mi_s1 (fun _ => rfl) ?_
          refine mi_wif (fun _ => ?_) (fun z => absurd rfl z)
          exact nxt w2 _ (H.go h1 hF1 h2 hF2 (wf_close hw7 ))
        · refine mi_wtb (k := 5) (t := 283) rfl ek (by decide) (by decide) rfl rfl ?_
          obtain ⟨r1, w1, he1, rfl, h1, hF1⟩ := ev_drop (X := X) HC 
          obtain ⟨r2, w2, he2, rfl, h2, hF2⟩ := mv_drop (X := X) (HD.g hF1 (by omega)) 
          obtain ⟨fs1, w71⟩ := (HD.g hF1 (by omega)).w71
          refine mi_s1 (fun _ => rfl) ?_
          refine mi_wcv rfl rfl (Nat.le_of_ble_eq_true rfl) w0 rfl (he1.up (by decide)) ?_
          refine mi_s1 (fun _ => rfl) ?_
          refine mi_wcv rfl rfl (Nat.le_of_ble_eq_true rfl) w71 rfl (he2.up (by decide)) ?_
          refine mi_s1 (fun _ => rfl) ?_
          refine mi_wif (fun _ => ?_) (fun z => absurd rfl z)
          exact nxt w2 _ (H.go h1 hF1 h2 hF2 (wf_drop hw7 ))
        · refine mi_wtb (k := 6) (t := 296) rfl ek (by decide) (by decide) rfl rfl ?_
          obtain ⟨r1, w1, he1, rfl, h1, hF1⟩ := ev_fact (X := X) HC (X.2 (i + 1)) (X.2 (i + 2)) (X.2 (i + 3))
          obtain ⟨r2, w2, he2, rfl, h2, hF2⟩ := mv_fact (X := X) (HD.g hF1 (by omega)) (X.2 (i + 1)) (X.2 (i + 2)) (X.2 (i + 3))
          obtain ⟨fs1, w71⟩ := (HD.g hF1 (by omega)).w71
          refine mi_s1 (fun _ => rfl) ?_
          refine mi_s1 (fun _ => rfl) ?_; refine mi_s1 (fun _ => rfl) ?_; refine mi_s1 (fun _ => rfl) ?_; refine mi_s1 (fun _ => rfl) ?_
          rw [nI_add]
          refine mi_wxl rfl rfl (by omega) (by omega) ?_
          refine mi_s1 (fun _ => rfl) ?_; refine mi_s1 (fun _ => rfl) ?_; refine mi_s1 (fun _ => rfl) ?_; refine mi_s1 (fun _ => rfl) ?_
          rw [nI_add]
          refine mi_wxl rfl rfl (by omega) (by omega) ?_
          refine mi_s1 (fun _ => rfl) ?_; refine mi_s1 (fun _ => rfl) ?_; refine mi_s1 (fun _ => rfl) ?_; refine mi_s1 (fun _ => rfl) ?_
          rw [nI_add]
          refine mi_wxl rfl rfl (by omega) (by omega) ?_
          refine mi_wcv rfl rfl (Nat.le_of_ble_eq_true rfl) w0 rfl (he1.up (by decide)) ?_
          refine mi_s1 (fun _ => rfl) ?_
          refine mi_s1 (fun _ => rfl) ?_; refine mi_s1 (fun _ => rfl) ?_; refine mi_s1 (fun _ => rfl) ?_; refine mi_s1 (fun _ => rfl) ?_
          rw [nI_add]
          refine mi_wxl rfl rfl (by omega) (by omega) ?_
          refine mi_s1 (fun _ => rfl) ?_; refine mi_s1 (fun _ => rfl) ?_; refine mi_s1 (fun _ => rfl) ?_; refine mi_s1 (fun _ => rfl) ?_
          rw [nI_add]
          refine mi_wxl rfl rfl (by omega) (by omega) ?_
          refine mi_s1 (fun _ => rfl) ?_; refine mi_s1 (fun _ => rfl) ?_; refine mi_s1 (fun _ => rfl) ?_; refine mi_s1 (fun _ => rfl) ?_
          rw [nI_add]
          refine mi_wxl rfl rfl (by omega) (by omega) ?_
          refine mi_wcv rfl rfl (Nat.le_of_ble_eq_true rfl) w71 rfl (he2.up (by decide)) ?_
          refine mi_s1 (fun _ => rfl) ?_
          refine mi_wif (fun _ => ?_) (fun z => absurd rfl z)
          exact nxt w2 _ (H.go h1 hF1 h2 hF2 (wf_fact hw (X.2 (i + 1)) (X.2 (i + 2)) (X.2 (i + 3))))
        · refine mi_wtb (k := 7) (t := 339) rfl ek (by decide) (by decide) rfl rfl ?_
          obtain ⟨r1, w1, he1, rfl, h1, hF1⟩ := ev_take (X := X) HC (X.2 (i + 1)) (X.2 (i + 2)) (X.2 (i + 3))
          obtain ⟨r2, w2, he2, rfl, h2, hF2⟩ := mv_take (X := X) (HD.g hF1 (by omega)) (X.2 (i + 1)) (X.2 (i + 2)) (X.2 (i + 3))
          obtain ⟨fs1, w71⟩ := (HD.g hF1 (by omega)).w71
          refine mi_s1 (fun _ => rfl) ?_
          refine mi_s1 (fun _ => rfl) ?_; refine mi_s1 (fun _ => rfl) ?_; refine mi_s1 (fun _ => rfl) ?_; refine mi_s1 (fun _ => rfl) ?_
          rw [nI_add]
          refine mi_wxl rfl rfl (by omega) (by omega) ?_
          refine mi_s1 (fun _ => rfl) ?_; refine mi_s1 (fun _ => rfl) ?_; refine mi_s1 (fun _ => rfl) ?_; refine mi_s1 (fun _ => rfl) ?_
          rw [nI_add]
          refine mi_wxl rfl rfl (by omega) (by omega) ?_
          refine mi_s1 (fun _ => rfl) ?_; refine mi_s1 (fun _ => rfl) ?_; refine mi_s1 (fun _ => rfl) ?_; refine mi_s1 (fun _ => rfl) ?_
          rw [nI_add]
          refine mi_wxl rfl rfl (by omega) (by omega) ?_
          refine mi_wcv rfl rfl (Nat.le_of_ble_eq_true rfl) w0 rfl (he1.up (by decide)) ?_
          refine mi_s1 (fun _ => rfl) ?_
          refine mi_s1 (fun _ => rfl) ?_; refine mi_s1 (fun _ => rfl) ?_; refine mi_s1 (fun _ => rfl) ?_; refine mi_s1 (fun _ => rfl) ?_
          rw [nI_add]
          refine mi_wxl rfl rfl (by omega) (by omega) ?_
          refine mi_s1 (fun _ => rfl) ?_; refine mi_s1 (fun _ => rfl) ?_; refine mi_s1 (fun _ => rfl) ?_; refine mi_s1 (fun _ => rfl) ?_
          rw [nI_add]
          refine mi_wxl rfl rfl (by omega) (by omega) ?_
          refine mi_s1 (fun _ => rfl) ?_; refine mi_s1 (fun _ => rfl) ?_; refine mi_s1 (fun _ => rfl) ?_; refine mi_s1 (fun _ => rfl) ?_
          rw [nI_add]
          refine mi_wxl rfl rfl (by omega) (by omega) ?_
          refine mi_wcv rfl rfl (Nat.le_of_ble_eq_true rfl) w71 rfl (he2.up (by decide)) ?_
          refine mi_s1 (fun _ => rfl) ?_
          refine mi_wif (fun _ => ?_) (fun z => absurd rfl z)
          exact nxt w2 _ (H.go h1 hF1 h2 hF2 (wf_take hw (X.2 (i + 1)) (X.2 (i + 2)) (X.2 (i + 3))))
        · refine mi_wtb (k := 8) (t := 382) rfl ek (by decide) (by decide) rfl rfl ?_
          obtain ⟨r1, w1, he1, rfl, h1, hF1⟩ := ev_acyclic (X := X) HC 
          obtain ⟨r2, w2, he2, rfl, h2, hF2⟩ := mv_acyclic (X := X) hw (HD.g hF1 (by omega)) 
          obtain ⟨fs1, w71⟩ := (HD.g hF1 (by omega)).w71
          refine mi_s1 (fun _ => rfl) ?_
          refine mi_wcv rfl rfl (Nat.le_of_ble_eq_true rfl) w0 rfl (he1.up (by decide)) ?_
          refine mi_s1 (fun _ => rfl) ?_
          refine mi_wcv rfl rfl (Nat.le_of_ble_eq_true rfl) w71 rfl (he2.up (by decide)) ?_
          refine mi_s1 (fun _ => rfl) ?_
          refine mi_wif (fun _ => ?_) (fun z => absurd rfl z)
          exact nxt w2 _ (H.go h1 hF1 h2 hF2 hw)
        · refine mi_wtb (k := 9) (t := 395) rfl ek (by decide) (by decide) rfl rfl ?_
          obtain ⟨r1, w1, he1, rfl, h1, hF1⟩ := ev_start (X := X) HC 
          obtain ⟨r2, w2, he2, rfl, h2, hF2⟩ := mv_start (X := X) hw (HD.g hF1 (by omega)) 
          obtain ⟨fs1, w71⟩ := (HD.g hF1 (by omega)).w71
          refine mi_s1 (fun _ => rfl) ?_
          refine mi_wcv rfl rfl (Nat.le_of_ble_eq_true rfl) w0 rfl (he1.up (by decide)) ?_
          refine mi_s1 (fun _ => rfl) ?_
          refine mi_wcv rfl rfl (Nat.le_of_ble_eq_true rfl) w71 rfl (he2.up (by decide)) ?_
          refine mi_s1 (fun _ => rfl) ?_
          refine mi_wif (fun _ => ?_) (fun z => absurd rfl z)
          exact nxt w2 _ (H.go h1 hF1 h2 hF2 (wf_start hw ))
        · refine mi_wtb (k := 10) (t := 408) rfl ek (by decide) (by decide) rfl rfl ?_
          obtain ⟨r1, w1, he1, rfl, h1, hF1⟩ := ev_step (X := X) hw HC 
          obtain ⟨r2, w2, he2, rfl, h2, hF2⟩ := mv_step (X := X) hw (HD.g hF1 (by omega)) 
          obtain ⟨fs1, w71⟩ := (HD.g hF1 (by omega)).w71
          refine mi_s1 (fun _ => rfl) ?_
          refine mi_wcv rfl rfl (Nat.le_of_ble_eq_true rfl) w0 rfl (he1.up (by decide)) ?_
          refine mi_s1 (fun _ => rfl) ?_
          refine mi_wcv rfl rfl (Nat.le_of_ble_eq_true rfl) w71 rfl (he2.up (by decide)) ?_
          refine mi_s1 (fun _ => rfl) ?_
          refine mi_wif (fun _ => ?_) (fun z => absurd rfl z)
          exact nxt w2 _ (H.go h1 hF1 h2 hF2 (wf_step hw ))
        · refine mi_wtb (k := 11) (t := 421) rfl ek (by decide) (by decide) rfl rfl ?_
          obtain ⟨r1, w1, he1, rfl, h1, hF1⟩ := ev_run (X := X) hw HC (X.2 (i + 1))
          obtain ⟨r2, w2, he2, rfl, h2, hF2⟩ := mv_run (X := X) hw (HD.g hF1 (by omega)) (X.2 (i + 1))
          obtain ⟨fs1, w71⟩ := (HD.g hF1 (by omega)).w71
          refine mi_s1 (fun _ => rfl) ?_
          refine mi_s1 (fun _ => rfl) ?_; refine mi_s1 (fun _ => rfl) ?_; refine mi_s1 (fun _ => rfl) ?_; refine mi_s1 (fun _ => rfl) ?_
          rw [nI_add]
          refine mi_wxl rfl rfl (by omega) (by omega) ?_
          refine mi_wcv rfl rfl (Nat.le_of_ble_eq_true rfl) w0 rfl (he1.up (by decide)) ?_
          refine mi_s1 (fun _ => rfl) ?_
          refine mi_s1 (fun _ => rfl) ?_; refine mi_s1 (fun _ => rfl) ?_; refine mi_s1 (fun _ => rfl) ?_; refine mi_s1 (fun _ => rfl) ?_
          rw [nI_add]
          refine mi_wxl rfl rfl (by omega) (by omega) ?_
          refine mi_wcv rfl rfl (Nat.le_of_ble_eq_true rfl) w71 rfl (he2.up (by decide)) ?_
          refine mi_s1 (fun _ => rfl) ?_
          refine mi_wif (fun _ => ?_) (fun z => absurd rfl z)
          exact nxt w2 _ (H.go h1 hF1 h2 hF2 (wf_run hw (X.2 (i + 1))))
        · refine mi_wtb (k := 12) (t := 444) rfl ek (by decide) (by decide) rfl rfl ?_
          obtain ⟨r1, w1, he1, rfl, h1, hF1⟩ := ev_reset (X := X) HC 
          obtain ⟨r2, w2, he2, rfl, h2, hF2⟩ := mv_reset (X := X) (HD.g hF1 (by omega)) 
          obtain ⟨fs1, w71⟩ := (HD.g hF1 (by omega)).w71
          refine mi_s1 (fun _ => rfl) ?_
          refine mi_wcv rfl rfl (Nat.le_of_ble_eq_true rfl) w0 rfl (he1.up (by decide)) ?_
          refine mi_s1 (fun _ => rfl) ?_
          refine mi_wcv rfl rfl (Nat.le_of_ble_eq_true rfl) w71 rfl (he2.up (by decide)) ?_
          refine mi_s1 (fun _ => rfl) ?_
          exact nxt w2 _ (H.go h1 hF1 h2 hF2 hw)
        · refine mi_wtb (k := 13) (t := 455) rfl ek (by decide) (by decide) rfl rfl ?_
          obtain ⟨fs1, w71⟩ := HD.w71
          refine mi_s1 (fun _ => rfl) ?_
          refine mi_wcv rfl rfl (Nat.le_of_ble_eq_true rfl) w0 rfl ((ev_state (X := X) HC ).up (by decide)) ?_
          refine mi_s1 (fun _ => rfl) ?_
          refine mi_wcv rfl rfl (Nat.le_of_ble_eq_true rfl) w71 rfl ((mv_state (X := X) HD ).up (by decide)) ?_
          refine mi_s1 (fun _ => rfl) ?_
          refine mi_wif (fun _ => ?_) (fun z => absurd rfl z)
          exact nxt w S H
        · refine mi_wtb (k := 14) (t := 468) rfl ek (by decide) (by decide) rfl rfl ?_
          obtain ⟨fs1, w71⟩ := HD.w71
          refine mi_s1 (fun _ => rfl) ?_
          refine mi_s1 (fun _ => rfl) ?_; refine mi_s1 (fun _ => rfl) ?_; refine mi_s1 (fun _ => rfl) ?_; refine mi_s1 (fun _ => rfl) ?_
          rw [nI_add]
          refine mi_wxl rfl rfl (by omega) (by omega) ?_
          refine mi_wcv rfl rfl (Nat.le_of_ble_eq_true rfl) w0 rfl ((ev_size (X := X) HC (X.2 (i + 1))).up (by decide)) ?_
          refine mi_s1 (fun _ => rfl) ?_
          refine mi_s1 (fun _ => rfl) ?_; refine mi_s1 (fun _ => rfl) ?_; refine mi_s1 (fun _ => rfl) ?_; refine mi_s1 (fun _ => rfl) ?_
          rw [nI_add]
          refine mi_wxl rfl rfl (by omega) (by omega) ?_
          refine mi_wcv rfl rfl (Nat.le_of_ble_eq_true rfl) w71 rfl ((mv_size (X := X) HD (X.2 (i + 1))).up (by decide)) ?_
          refine mi_s1 (fun _ => rfl) ?_
          refine mi_wif (fun _ => ?_) (fun z => absurd rfl z)
          exact nxt w S H
        · refine mi_wtb (k := 15) (t := 491) rfl ek (by decide) (by decide) rfl rfl ?_
          obtain ⟨fs1, w71⟩ := HD.w71
          refine mi_s1 (fun _ => rfl) ?_
          refine mi_s1 (fun _ => rfl) ?_; refine mi_s1 (fun _ => rfl) ?_; refine mi_s1 (fun _ => rfl) ?_; refine mi_s1 (fun _ => rfl) ?_
          rw [nI_add]
          refine mi_wxl rfl rfl (by omega) (by omega) ?_
          refine mi_s1 (fun _ => rfl) ?_; refine mi_s1 (fun _ => rfl) ?_; refine mi_s1 (fun _ => rfl) ?_; refine mi_s1 (fun _ => rfl) ?_
          rw [nI_add]
          refine mi_wxl rfl rfl (by omega) (by omega) ?_
          refine mi_wcv rfl rfl (Nat.le_of_ble_eq_true rfl) w0 rfl ((ev_at (X := X) HC (X.2 (i + 1)) (X.2 (i + 2))).up (by decide)) ?_
          refine mi_s1 (fun _ => rfl) ?_
          refine mi_s1 (fun _ => rfl) ?_; refine mi_s1 (fun _ => rfl) ?_; refine mi_s1 (fun _ => rfl) ?_; refine mi_s1 (fun _ => rfl) ?_
          rw [nI_add]
          refine mi_wxl rfl rfl (by omega) (by omega) ?_
          refine mi_s1 (fun _ => rfl) ?_; refine mi_s1 (fun _ => rfl) ?_; refine mi_s1 (fun _ => rfl) ?_; refine mi_s1 (fun _ => rfl) ?_
          rw [nI_add]
          refine mi_wxl rfl rfl (by omega) (by omega) ?_
          refine mi_wcv rfl rfl (Nat.le_of_ble_eq_true rfl) w71 rfl ((mv_at (X := X) HD (X.2 (i + 1)) (X.2 (i + 2))).up (by decide)) ?_
          refine mi_s1 (fun _ => rfl) ?_
          refine mi_wif (fun _ => ?_) (fun z => absurd rfl z)
          exact nxt w S H
        · refine mi_wtb (k := 16) (t := 524) rfl ek (by decide) (by decide) rfl rfl ?_
          obtain ⟨fs1, w71⟩ := HD.w71
          refine mi_s1 (fun _ => rfl) ?_
          refine mi_wcv rfl rfl (Nat.le_of_ble_eq_true rfl) w0 rfl ((ev_nulls (X := X) HC ).up (by decide)) ?_
          refine mi_s1 (fun _ => rfl) ?_
          refine mi_wcv rfl rfl (Nat.le_of_ble_eq_true rfl) w71 rfl ((mv_nulls (X := X) HD ).up (by decide)) ?_
          refine mi_s1 (fun _ => rfl) ?_
          refine mi_wif (fun _ => ?_) (fun z => absurd rfl z)
          exact nxt w S H
        · refine mi_wtb (k := 17) (t := 537) rfl ek (by decide) (by decide) rfl rfl ?_
          obtain ⟨r1, w1, he1, rfl, h1, hF1⟩ := ev_fold (X := X) HC 
          obtain ⟨r2, w2, he2, rfl, h2, hF2⟩ := mv_fold (X := X) (HD.g hF1 (by omega)) 
          obtain ⟨fs1, w71⟩ := (HD.g hF1 (by omega)).w71
          refine mi_s1 (fun _ => rfl) ?_
          refine mi_wcv rfl rfl (Nat.le_of_ble_eq_true rfl) w0 rfl (he1.up (by decide)) ?_
          refine mi_s1 (fun _ => rfl) ?_
          refine mi_wcv rfl rfl (Nat.le_of_ble_eq_true rfl) w71 rfl (he2.up (by decide)) ?_
          refine mi_s1 (fun _ => rfl) ?_
          refine mi_wif (fun _ => ?_) (fun z => absurd rfl z)
          exact nxt w2 _ (H.go h1 hF1 h2 hF2 (wf_fold hw ))
        · refine mi_wtb (k := 18) (t := 550) rfl ek (by decide) (by decide) rfl rfl ?_
          obtain ⟨r1, w1, he1, rfl, h1, hF1⟩ := ev_answers (X := X) HC hw 
          obtain ⟨r2, w2, he2, rfl, h2, hF2⟩ := mv_answers (X := X) (HD.g hF1 (by omega)) hw 
          obtain ⟨fs1, w71⟩ := (HD.g hF1 (by omega)).w71
          refine mi_s1 (fun _ => rfl) ?_
          refine mi_wcv rfl rfl (Nat.le_of_ble_eq_true rfl) w0 rfl (he1.up (by decide)) ?_
          refine mi_s1 (fun _ => rfl) ?_
          refine mi_wcv rfl rfl (Nat.le_of_ble_eq_true rfl) w71 rfl (he2.up (by decide)) ?_
          refine mi_s1 (fun _ => rfl) ?_
          refine mi_wif (fun _ => ?_) (fun z => absurd rfl z)
          exact nxt w2 _ (H.go h1 hF1 h2 hF2 hw)
        · refine mi_wtb (k := 19) (t := 563) rfl ek (by decide) (by decide) rfl rfl ?_
          obtain ⟨r1, w1, he1, rfl, h1, hF1⟩ := ev_answer (X := X) HC hw (X.2 (i + 1))
          obtain ⟨r2, w2, he2, rfl, h2, hF2⟩ := mv_answer (X := X) (HD.g hF1 (by omega)) hw (X.2 (i + 1))
          obtain ⟨fs1, w71⟩ := (HD.g hF1 (by omega)).w71
          refine mi_s1 (fun _ => rfl) ?_
          refine mi_s1 (fun _ => rfl) ?_; refine mi_s1 (fun _ => rfl) ?_; refine mi_s1 (fun _ => rfl) ?_; refine mi_s1 (fun _ => rfl) ?_
          rw [nI_add]
          refine mi_wxl rfl rfl (by omega) (by omega) ?_
          refine mi_wcv rfl rfl (Nat.le_of_ble_eq_true rfl) w0 rfl (he1.up (by decide)) ?_
          refine mi_s1 (fun _ => rfl) ?_
          refine mi_s1 (fun _ => rfl) ?_; refine mi_s1 (fun _ => rfl) ?_; refine mi_s1 (fun _ => rfl) ?_; refine mi_s1 (fun _ => rfl) ?_
          rw [nI_add]
          refine mi_wxl rfl rfl (by omega) (by omega) ?_
          refine mi_wcv rfl rfl (Nat.le_of_ble_eq_true rfl) w71 rfl (he2.up (by decide)) ?_
          refine mi_s1 (fun _ => rfl) ?_
          refine mi_wif (fun _ => ?_) (fun z => absurd rfl z)
          exact nxt w2 _ (H.go h1 hF1 h2 hF2 hw)
end Law
theorem law_all {L : Nat} {xs : Nat → Int32} (hL : L ≤ 2048) : mi_wp (L, xs) mi_P 40 m_law (0, mi_ent 4 [.retAddr 0], [], []) LawQ := by
  obtain ⟨e1, l1, e2, h1, h2, l2⟩ := ev_inits (L, xs)
  have e1 : mi_Ev (L, xs) mi_P 40 k_MC_init [.ref 0] ([] ++ [.inr (0, mi_dflt 0)]) none (iG iA) := e1.up (by decide)
  have e2 : mi_Ev (L, xs) mi_P 40 k_Mo_init [.ref (iG iA).length] (iG iA ++ [.inr (8, mi_dflt 8)]) none (iG iB) := by
    rw [l1]
    exact e2.up (by decide)
  refine mi_s1 (fun _ => rfl) ?_; refine mi_s1 (fun _ => rfl) ?_
  refine mi_wci rfl (by decide) rfl (Nat.le_of_ble_eq_true rfl) e1 ?_
  refine mi_s1 (fun _ => rfl) ?_
  generalize iG iA = wa at *
  refine mi_s1 (fun _ => rfl) ?_; refine mi_s1 (fun _ => rfl) ?_
  refine mi_wci rfl (by decide) rfl (Nat.le_of_ble_eq_true rfl) e2 ?_
  rw [l1]
  refine mi_s1 (fun _ => rfl) ?_; refine mi_s1 (fun _ => rfl) ?_; refine mi_s1 (fun _ => rfl) ?_
  exact mi_lawl (X := (L, xs)) hL 512 0 (iG iB) S0 (by show L ≤ 0 + 4 * 512; omega) (by omega) ⟨h1, h2, ⟨fun i hi => absurd hi (Nat.not_lt_zero i), fun h => by cases h⟩, l2⟩
