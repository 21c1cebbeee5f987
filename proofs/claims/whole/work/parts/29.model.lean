/-! class MappingChaseModel: its cells -/
abbrev mo_T : Type := Nat × Nat × Nat × Bool × Bool × Nat
def mob (T : mo_T) : va_E := .inr (8, [.ref 72, .ref 73, .ref 74, .int (nI T.1), .int (nI T.2.1), .ref 75, .ref 76, .ref 77, .ref 78, .ref 79, .ref 80, .ref 81, .ref 82, .ref 83, .ref 84, .ref 85, .int (nI T.2.2.1), .int (jb (T.2.2.2.1 = true)), .int (jb (T.2.2.2.2.1 = true)), .int (nI T.2.2.2.2.2), .ref 86, .ref 87, .ref 88, .ref 89, .ref 90, .ref 91, .ref 92, .ref 93])
def szI (o : Nat) : Option Nat := if o < 72 then none else if o < 75 then some 36 else if o < 77 then some 8 else if o < 80 then some 24 else if o < 81 then some 8 else if o < 84 then some 16 else if o < 86 then some 8 else if o < 89 then some 4 else if o < 90 then some 64 else if o < 91 then none else if o < 92 then some 24 else if o < 93 then some 36 else none
def szB (o : Nat) : Option Nat := if o = 90 then some 64 else if o = 93 then some 256 else none
abbrev mo_a : Type := Nat → Nat → Int32
def Mo (w : mi_H) (a : mo_a) (T : mo_T) : Prop := w[71]? = some (mob T) ∧ (∀ o k, szI o = some k → w[o]? = some (.inl (0, k, .inl (a o)))) ∧ (∀ o k, szB o = some k → w[o]? = some (.inl (1, k, .inl (a o))))
def upA (a : mo_a) (o i : Nat) (x : Int32) : mo_a := fun p => if p = o then upd (a o) i x else a p
theorem szI_key : ∀ o, o < 94 → szI o ≠ none → 72 ≤ o ∧ o < 94 ∧ o ≠ 90 ∧ o ≠ 93 ∧ (szI o).getD 0 < 300 := by decide +kernel
theorem szI_big {o : Nat} (h : 94 ≤ o) : szI o = none := by
  unfold szI
  rw [if_neg (by omega), if_neg (by omega), if_neg (by omega), if_neg (by omega), if_neg (by omega), if_neg (by omega), if_neg (by omega), if_neg (by omega), if_neg (by omega), if_neg (by omega), if_neg (by omega), if_neg (by omega)]
theorem szI_in0 {o k : Nat} (h : szI o = some k) : 72 ≤ o ∧ o < 94 ∧ o ≠ 90 ∧ o ≠ 93 ∧ k < 300 := by
  rcases Nat.lt_or_ge o 94 with q | q
  · have := szI_key o q (by rw [h]; exact Option.some_ne_none k)
    rw [h] at this
    exact this
  · rw [szI_big q] at h
    cases h
theorem szI_in {o k : Nat} (h : szI o = some k) : 72 ≤ o ∧ o < 94 ∧ o ≠ 90 ∧ o ≠ 93 := ⟨(szI_in0 h).1, (szI_in0 h).2.1, (szI_in0 h).2.2.1, (szI_in0 h).2.2.2.1⟩
theorem szB_in {o k : Nat} (h : szB o = some k) : o = 90 ∨ o = 93 := by
  unfold szB at h
  repeat' split at h
  all_goals first | (cases h; done) | omega
theorem upA_o {a : mo_a} {o i p : Nat} {x : Int32} (h : p ≠ o) : upA a o i x p = a p := if_neg h
theorem upA_s {a : mo_a} {o i : Nat} {x : Int32} : upA a o i x o = upd (a o) i x := if_pos rfl
theorem Mo.setI {w w1 : mi_H} {a : mo_a} {T : mo_T} {o k i : Nat} {x : Int32} (H : Mo w a T) (hs : szI o = some k) (h1 : w1[o]? = some (.inl (0, k, .inl (upd (a o) i x)))) (hF : mi_Fr w w1 [o]) : Mo w1 (upA a o i x) T := by
  have ho := szI_in hs
  have hg : ∀ p, p ≠ o → w1[p]? = w[p]? := fun p hp => hF.2 p (by simpa using hp)
  refine ⟨by rw [hg 71 (by omega)]; exact H.1, fun p q hq => ?_, fun p q hq => ?_⟩
  · by_cases z : p = o
    · subst z
      rw [hs] at hq
      cases hq
      rw [upA_s]
      exact h1
    · rw [upA_o z, hg p z]
      exact H.2.1 p q hq
  · have := szB_in hq
    rw [upA_o (by omega), hg p (by omega)]
    exact H.2.2 p q hq
theorem Mo.setB {w w1 : mi_H} {a : mo_a} {T : mo_T} {o k i : Nat} {x : Int32} (H : Mo w a T) (hs : szB o = some k) (h1 : w1[o]? = some (.inl (1, k, .inl (upd (a o) i x)))) (hF : mi_Fr w w1 [o]) : Mo w1 (upA a o i x) T := by
  have ho := szB_in hs
  have hg : ∀ p, p ≠ o → w1[p]? = w[p]? := fun p hp => hF.2 p (by simpa using hp)
  refine ⟨by rw [hg 71 (by omega)]; exact H.1, fun p q hq => ?_, fun p q hq => ?_⟩
  · have := szI_in hq
    rw [upA_o (by omega), hg p (by omega)]
    exact H.2.1 p q hq
  · by_cases z : p = o
    · subst z
      rw [hs] at hq
      cases hq
      rw [upA_s]
      exact h1
    · rw [upA_o z, hg p z]
      exact H.2.2 p q hq
theorem Mo.sc {w w1 : mi_H} {a : mo_a} {T : mo_T} (T' : mo_T) (H : Mo w a T) (h1 : w1[71]? = some (mob T')) (hF : mi_Fr w w1 [71]) : Mo w1 a T' := by
  have hg : ∀ p, p ≠ 71 → w1[p]? = w[p]? := fun p hp => hF.2 p (by simpa using hp)
  refine ⟨h1, fun p q hq => ?_, fun p q hq => ?_⟩
  · have := szI_in hq
    rw [hg p (by omega)]
    exact H.2.1 p q hq
  · have := szB_in hq
    rw [hg p (by omega)]
    exact H.2.2 p q hq
theorem Mo.g {w w1 : mi_H} {a : mo_a} {T : mo_T} {lo hi : Nat} (H : Mo w a T) (hF : mi_Fg w w1 lo hi) (ho : hi ≤ 71) : Mo w1 a T := by
  refine ⟨hF.get (by omega) H.1, fun p q hq => ?_, fun p q hq => ?_⟩
  · have := szI_in hq
    exact hF.get (by omega) (H.2.1 p q hq)
  · have := szB_in hq
    exact hF.get (by omega) (H.2.2 p q hq)
section MoRules
variable {X : mi_X} {d : Nat} {M : mi_M} {Q : Option Value → mi_H → Prop} {pc n z1 z2 idx : Nat} {v : Int32} {L : mi_L} {r : List Value} {w : mi_H}
theorem Mo.was {a : mo_a} {T : mo_T} {o k i : Nat} {j x : Int32} (H : Mo w a T) (hf : M.2.2[pc]? = some (some (.iastore, n, z1, z2, v))) (hs : szI o = some k) (hj : j = nI i) (hi : i < k) (kk : ∀ w1 : mi_H, Mo w1 (upA a o i x) T → mi_Fg w w1 71 94 → mi_wp X mi_P d M (n, L, r, w1) Q) : mi_wp X mi_P d M (pc, L, .int x :: .int j :: .ref o :: r, w) Q := by
  have ho := szI_in hs
  have hk : k < 2 ^ 31 := by
    have := szI_in0 hs
    omega
  refine mi_wag hf (H.2.1 o k hs) hj hi hk (fun w1 h1 hF => ?_)
  exact kk w1 (H.setI hs h1 hF) (mi_Fg.of1 hF (by omega) (by omega))
theorem Mo.wbs {a : mo_a} {T : mo_T} {o k i : Nat} {j x : Int32} (H : Mo w a T) (hf : M.2.2[pc]? = some (some (.bastore, n, z1, z2, v))) (hs : szB o = some k) (hj : j = nI i) (hi : i < k) (kk : ∀ w1 : mi_H, Mo w1 (upA a o i (x &&& 1)) T → mi_Fg w w1 71 94 → mi_wp X mi_P d M (n, L, r, w1) Q) : mi_wp X mi_P d M (pc, L, .int x :: .int j :: .ref o :: r, w) Q := by
  have ho := szB_in hs
  have hk : k < 2 ^ 31 := by
    unfold szB at hs
    repeat' split at hs
    all_goals first | (cases hs; decide) | (cases hs; done)
  refine mi_wbg hf (H.2.2 o k hs) hj hi hk (fun w1 h1 hF => ?_)
  exact kk w1 (H.setB hs h1 hF) (mi_Fg.of1 hF (by omega) (by omega))
end MoRules
/-! rules and facts as the arrays have them -/
def Rm (a : mo_a) (d : Nat) (R : sp_R) : Prop :=
  a 75 d = nI R.1 ∧ R.1 < 3 ∧ a 76 d = nI R.2.1.length ∧ R.2.1.length ≤ 3 ∧ a 80 d = nI R.2.2.1.length ∧ R.2.2.1.length ≤ 2 ∧
  (∀ k q, R.2.1[k]? = some q → a 77 (3 * d + k) = nI q.1 ∧ a 78 (3 * d + k) = nI q.2.1 ∧ a 79 (3 * d + k) = nI q.2.2 ∧ okA q) ∧
  (∀ k q, R.2.2.1[k]? = some q → a 81 (2 * d + k) = nI q.1 ∧ a 82 (2 * d + k) = nI q.2.1 ∧ a 83 (2 * d + k) = nI q.2.2 ∧ okA q) ∧
  a 84 d = enc (R.2.2.2.map (·.1)) ∧ a 85 d = enc (R.2.2.2.map (·.2)) ∧ (∀ v u, R.2.2.2 = some (v, u) → v < 4 ∧ u < 4) ∧ (R.1 = 0 → R.2.2.2 = none) ∧ (R.1 ≠ 0 → R.2.2.1 = [])
/-- a list of facts from cell c on -/
def Lm (a : mo_a) (c : Nat) (l : List sp_A) : Prop := ∀ k q, l[k]? = some q → a 72 (c + k) = nI q.1 ∧ a 73 (c + k) = nI q.2.1 ∧ a 74 (c + k) = nI q.2.2
def okS (q : sp_A) : Prop := q.1 < 2 ∧ q.2.1 < 16 ∧ q.2.2 < 16
def okT (q : sp_A) : Prop := 2 ≤ q.1 ∧ q.1 < 6 ∧ q.2.1 < 24 ∧ q.2.2 < 24
def Fm (a : mo_a) (ls lt : List sp_A) (F : Nat → Nat → Nat → Bool) : Prop := Lm a 0 ls ∧ Lm a 12 lt ∧ ls.length ≤ 12 ∧ lt.length ≤ 24 ∧ (∀ q ∈ ls, okS q) ∧ (∀ q ∈ lt, okT q) ∧ ls.Nodup ∧ lt.Nodup ∧ ∀ r x y, r < 6 → (F r x y = true ↔ (r, x, y) ∈ ls ∨ (r, x, y) ∈ lt)
def Md (w : mi_H) (S : sp_S) : Prop := ∃ a ls lt, Mo w a (ls.length, lt.length, S.n, S.hq, S.hd, S.s) ∧ Fm a ls lt S.F ∧ (∀ i, i < S.n → Rm a i (S.R i)) ∧ (S.hq = true → Rm a 6 (S.R 6)) ∧ (S.hd = true → Rm a 7 (S.R 7)) ∧ S.n ≤ 6 ∧ S.s ≤ 4
/-- what does not change leaves rules and facts as they are -/
theorem Rm.congr {a b : mo_a} {d : Nat} {R : sp_R} (H : Rm a d R) (h : ∀ o, 75 ≤ o → o < 86 → b o = a o) : Rm b d R := by
  unfold Rm at *
  rw [h 75 (by omega) (by omega), h 76 (by omega) (by omega), h 77 (by omega) (by omega), h 78 (by omega) (by omega), h 79 (by omega) (by omega), h 80 (by omega) (by omega), h 81 (by omega) (by omega), h 82 (by omega) (by omega), h 83 (by omega) (by omega), h 84 (by omega) (by omega), h 85 (by omega) (by omega)]
  exact H
theorem Fm.congr {a b : mo_a} {ls lt : List sp_A} {F : Nat → Nat → Nat → Bool} (H : Fm a ls lt F) (h : ∀ o, 72 ≤ o → o < 75 → b o = a o) : Fm b ls lt F := by
  unfold Fm Lm at *
  rw [h 72 (by omega) (by omega), h 73 (by omega) (by omega), h 74 (by omega) (by omega)]
  exact H
def pix (q : sp_A) : List sp_A → Nat → Option Nat
  | [], _ => none
  | t :: l, i => if t = q then some i else pix q l (i + 1)
theorem pix_none {q : sp_A} : ∀ (l : List sp_A) i, pix q l i = none ↔ q ∉ l
  | [], i => by simp [pix]
  | t :: l, i => by
    unfold pix
    by_cases h : t = q
    · rw [if_pos h]
      simp [h]
    · rw [if_neg h, pix_none l (i + 1)]
      simp [Ne.symm h]
theorem pix_some {q : sp_A} : ∀ (l : List sp_A) i j, pix q l i = some j → ∃ k, l[k]? = some q ∧ j = i + k ∧ k < l.length
  | [], i, j, h => by cases h
  | t :: l, i, j, h => by
    unfold pix at h
    by_cases z : t = q
    · rw [if_pos z] at h
      cases h
      exact ⟨0, by rw [z]; rfl, rfl, Nat.succ_pos _⟩
    · rw [if_neg z] at h
      obtain ⟨k, h1, h2, h3⟩ := pix_some l (i + 1) j h
      exact ⟨k + 1, h1, by omega, Nat.succ_lt_succ h3⟩
def plc (ls lt : List sp_A) (q : sp_A) : Option Nat := if q.1 < 2 then pix q ls 0 else pix q lt 12
theorem Fm.pl {a : mo_a} {ls lt : List sp_A} {F : Nat → Nat → Nat → Bool} (H : Fm a ls lt F) {r x y : Nat} (hr : r < 6) : plc ls lt (r, x, y) = none ↔ F r x y = false := by
  obtain ⟨-, -, -, -, h1, h2, -, -, h⟩ := H
  have h := h r x y hr
  unfold plc
  have e : F r x y = false ↔ ¬ F r x y = true := by simp
  rw [e, h]
  by_cases z : r < 2
  · rw [if_pos z, pix_none]
    constructor
    · rintro q (q2 | q2)
      · exact q q2
      · exact absurd (h2 _ q2).1 (by show ¬ 2 ≤ r; omega)
    · intro q q2
      exact q (Or.inl q2)
  · rw [if_neg z, pix_none]
    constructor
    · rintro q (q2 | q2)
      · exact absurd (h1 _ q2).1 z
      · exact q q2
    · intro q q2
      exact q (Or.inr q2)
theorem enc_neg {o : Option Nat} (h : ∀ x, o = some x → x < 2 ^ 31) : enc o < 0 ↔ o = none := by
  cases o with
  | none => exact ⟨fun _ => rfl, fun _ => by decide⟩
  | some x =>
    constructor
    · intro q
      exact absurd q (nI_pos (h x rfl))
    · intro q
      cases q
theorem plc_lt {ls lt : List sp_A} {q : sp_A} (h1 : ls.length ≤ 12) (h2 : lt.length ≤ 24) : ∀ x, plc ls lt q = some x → x < 36 := by
  intro x h
  unfold plc at h
  split at h
  · obtain ⟨k, -, e, hk⟩ := pix_some _ _ _ h
    omega
  · obtain ⟨k, -, e, hk⟩ := pix_some _ _ _ h
    omega
theorem tri_eq {t q : sp_A} : t = q ↔ t.1 = q.1 ∧ t.2.1 = q.2.1 ∧ t.2.2 = q.2.2 := by
  obtain ⟨a, b, c⟩ := t
  obtain ⟨a', b', c'⟩ := q
  simp
theorem inR_of {x : Int32} {k : Nat} (hk : k + 1 < 2 ^ 31) (h1 : ¬ x < 0) (h2 : ¬ nI k < x) : inR x (k + 1) := by
  obtain ⟨j, hj, rfl⟩ := nI_of h1
  refine ⟨nI_pos' hj, nI_lt ?_ hk⟩
  rcases Nat.lt_or_ge j (k + 1) with q | q
  · exact q
  · exact absurd (nI_lt (a := k) (b := j) (by omega) hj) h2
theorem inR_to {x : Int32} {k : Nat} (hk : k + 1 < 2 ^ 31) (h : inR x (k + 1)) : ¬ x < 0 ∧ ¬ nI k < x := by
  obtain ⟨n, hn, rfl⟩ := (mi_rng hk).mp h
  exact ⟨nI_pos (by omega), nI_nlt (by omega) (by omega)⟩
section Model
variable {X : mi_X} {w : mi_H} {a : mo_a} {T : mo_T}
theorem mv_isAtom (r v u : Int32) : mi_Ev X mi_P 1 k_Mo_isAtom [.int r, .int v, .int u] w (some (.int (jb (inR r 6 ∧ inR v 4 ∧ inR u 4)))) w := by
  have bad : ¬ (inR r 6 ∧ inR v 4 ∧ inR u 4) → mi_wp X mi_P 0 m_Mo_isAtom (31, [some (.int r), some (.int v), some (.int u)], [], w) (fun q w1 => q = some (.int (jb (inR r 6 ∧ inR v 4 ∧ inR u 4))) ∧ w1 = w) := by
    intro h
    repeat (first | refine mi_s1 (fun _ => rfl) ?_ | refine mi_wgf rfl (by assumption) rfl ?_ | refine mi_wal rfl (by assumption) rfl (by omega) (by decide) ?_)
    refine mi_wrz rfl rfl rfl ?_
    exact jb_f h
  refine mi_Ev.of (M := m_Mo_isAtom) rfl (Nat.le_of_ble_eq_true rfl) ?_
  repeat (first | refine mi_s1 (fun _ => rfl) ?_ | refine mi_wgf rfl (by assumption) rfl ?_ | refine mi_wal rfl (by assumption) rfl (by omega) (by decide) ?_)
  refine mi_wif (fun z1 => ?_) (fun z1 => ?_)
  · exact bad (fun q => (inR_to (by decide) q.1).1 z1)
  · repeat (first | refine mi_s1 (fun _ => rfl) ?_ | refine mi_wgf rfl (by assumption) rfl ?_ | refine mi_wal rfl (by assumption) rfl (by omega) (by decide) ?_)
    refine mi_wif (fun z2 => ?_) (fun z2 => ?_)
    · exact bad (fun q => (inR_to (k := 5) (by decide) q.1).2 z2)
    · repeat (first | refine mi_s1 (fun _ => rfl) ?_ | refine mi_wgf rfl (by assumption) rfl ?_ | refine mi_wal rfl (by assumption) rfl (by omega) (by decide) ?_)
      refine mi_wif (fun z3 => ?_) (fun z3 => ?_)
      · exact bad (fun q => (inR_to (by decide) q.2.1).1 z3)
      · repeat (first | refine mi_s1 (fun _ => rfl) ?_ | refine mi_wgf rfl (by assumption) rfl ?_ | refine mi_wal rfl (by assumption) rfl (by omega) (by decide) ?_)
        refine mi_wif (fun z4 => ?_) (fun z4 => ?_)
        · exact bad (fun q => (inR_to (k := 3) (by decide) q.2.1).2 z4)
        · repeat (first | refine mi_s1 (fun _ => rfl) ?_ | refine mi_wgf rfl (by assumption) rfl ?_ | refine mi_wal rfl (by assumption) rfl (by omega) (by decide) ?_)
          refine mi_wif (fun z5 => ?_) (fun z5 => ?_)
          · exact bad (fun q => (inR_to (by decide) q.2.2).1 z5)
          · repeat (first | refine mi_s1 (fun _ => rfl) ?_ | refine mi_wgf rfl (by assumption) rfl ?_ | refine mi_wal rfl (by assumption) rfl (by omega) (by decide) ?_)
            refine mi_wif (fun z6 => ?_) (fun z6 => ?_)
            · exact bad (fun q => (inR_to (k := 3) (by decide) q.2.2).2 z6)
            · repeat (first | refine mi_s1 (fun _ => rfl) ?_ | refine mi_wgf rfl (by assumption) rfl ?_ | refine mi_wal rfl (by assumption) rfl (by omega) (by decide) ?_)
              refine mi_wrz rfl rfl rfl ?_
              exact jb_t ⟨inR_of (k := 5) (by decide) z1 z2, inR_of (k := 3) (by decide) z3 z4, inR_of (k := 3) (by decide) z5 z6⟩
theorem mv_isSource (r v u : Int32) : mi_Ev X mi_P 1 k_Mo_isSource [.int r, .int v, .int u] w (some (.int (jb (inR r 2 ∧ inR v 16 ∧ inR u 16)))) w := by
  have bad : ¬ (inR r 2 ∧ inR v 16 ∧ inR u 16) → mi_wp X mi_P 0 m_Mo_isSource (33, [some (.int r), some (.int v), some (.int u)], [], w) (fun q w1 => q = some (.int (jb (inR r 2 ∧ inR v 16 ∧ inR u 16))) ∧ w1 = w) := by
    intro h
    repeat (first | refine mi_s1 (fun _ => rfl) ?_ | refine mi_wgf rfl (by assumption) rfl ?_ | refine mi_wal rfl (by assumption) rfl (by omega) (by decide) ?_)
    refine mi_wrz rfl rfl rfl ?_
    exact jb_f h
  refine mi_Ev.of (M := m_Mo_isSource) rfl (Nat.le_of_ble_eq_true rfl) ?_
  repeat (first | refine mi_s1 (fun _ => rfl) ?_ | refine mi_wgf rfl (by assumption) rfl ?_ | refine mi_wal rfl (by assumption) rfl (by omega) (by decide) ?_)
  refine mi_wif (fun z1 => ?_) (fun z1 => ?_)
  · exact bad (fun q => (inR_to (by decide) q.1).1 z1)
  · repeat (first | refine mi_s1 (fun _ => rfl) ?_ | refine mi_wgf rfl (by assumption) rfl ?_ | refine mi_wal rfl (by assumption) rfl (by omega) (by decide) ?_)
    refine mi_wif (fun z2 => ?_) (fun z2 => ?_)
    · exact bad (fun q => (inR_to (k := 1) (by decide) q.1).2 z2)
    · repeat (first | refine mi_s1 (fun _ => rfl) ?_ | refine mi_wgf rfl (by assumption) rfl ?_ | refine mi_wal rfl (by assumption) rfl (by omega) (by decide) ?_)
      refine mi_wif (fun z3 => ?_) (fun z3 => ?_)
      · exact bad (fun q => (inR_to (by decide) q.2.1).1 z3)
      · repeat (first | refine mi_s1 (fun _ => rfl) ?_ | refine mi_wgf rfl (by assumption) rfl ?_ | refine mi_wal rfl (by assumption) rfl (by omega) (by decide) ?_)
        refine mi_wif (fun z4 => ?_) (fun z4 => ?_)
        · exact bad (fun q => (inR_to (k := 15) (by decide) q.2.1).2 z4)
        · repeat (first | refine mi_s1 (fun _ => rfl) ?_ | refine mi_wgf rfl (by assumption) rfl ?_ | refine mi_wal rfl (by assumption) rfl (by omega) (by decide) ?_)
          refine mi_wif (fun z5 => ?_) (fun z5 => ?_)
          · exact bad (fun q => (inR_to (by decide) q.2.2).1 z5)
          · repeat (first | refine mi_s1 (fun _ => rfl) ?_ | refine mi_wgf rfl (by assumption) rfl ?_ | refine mi_wal rfl (by assumption) rfl (by omega) (by decide) ?_)
            refine mi_wif (fun z6 => ?_) (fun z6 => ?_)
            · exact bad (fun q => (inR_to (k := 15) (by decide) q.2.2).2 z6)
            · repeat (first | refine mi_s1 (fun _ => rfl) ?_ | refine mi_wgf rfl (by assumption) rfl ?_ | refine mi_wal rfl (by assumption) rfl (by omega) (by decide) ?_)
              refine mi_wrz rfl rfl rfl ?_
              exact jb_t ⟨inR_of (k := 1) (by decide) z1 z2, inR_of (k := 15) (by decide) z3 z4, inR_of (k := 15) (by decide) z5 z6⟩
theorem mv_place_loop (HM : Mo w a T) {l : List sp_A} {c : Nat} (HL : Lm a c l) (hb : ∀ q ∈ l, q.1 < 6 ∧ q.2.1 < 24 ∧ q.2.2 < 24) (hc : c + l.length ≤ 36) {q : sp_A} (hq : q.1 < 2 ^ 31 ∧ q.2.1 < 2 ^ 31 ∧ q.2.2 < 2 ^ 31) : ∀ f i, i + f = l.length → mi_wp X mi_P 0 m_Mo_place (38, [some (.ref 71), some (.int (nI q.1)), some (.int (nI q.2.1)), some (.int (nI q.2.2)), some (.int (nI c)), some (.int (nI (c + l.length))), some (.int (nI (c + i)))], [], w) (fun r w1 => r = some (.int (enc (pix q (l.drop i) (c + i)))) ∧ w1 = w)
  | 0, i, hi => by
    repeat (first | refine mi_s1 (fun _ => rfl) ?_ | refine mi_wgf rfl (by assumption) rfl ?_ | refine mi_wal rfl (by assumption) rfl (by omega) (by decide) ?_)
    refine mi_wif (fun _ => ?_) (fun z => absurd (nI_le (a := c + l.length) (b := c + i) (by omega) (by omega)) z)
    repeat (first | refine mi_s1 (fun _ => rfl) ?_ | refine mi_wgf rfl (by assumption) rfl ?_ | refine mi_wal rfl (by assumption) rfl (by omega) (by decide) ?_)
    refine mi_r1 (fun _ => rfl) ?_
    rw [show i = l.length by omega, List.drop_length]
    exact ⟨rfl, rfl⟩
  | f + 1, i, hi => by
    obtain ⟨t, ht, hd⟩ := drop_at (l := l) (i := i) (by omega)
    obtain ⟨e1, e2, e3⟩ := HL i t ht
    obtain ⟨b1, b2, b3⟩ := hb t (List.mem_of_getElem? ht)
    rw [hd]
    unfold pix
    have go : ¬ t = q → mi_wp X mi_P 0 m_Mo_place (81, [some (.ref 71), some (.int (nI q.1)), some (.int (nI q.2.1)), some (.int (nI q.2.2)), some (.int (nI c)), some (.int (nI (c + l.length))), some (.int (nI (c + i)))], [], w) (fun r w1 => r = some (.int (enc (if t = q then some (c + i) else pix q (l.drop (i + 1)) (c + i + 1)))) ∧ w1 = w) := by
      intro hne
      rw [if_neg hne]
      refine mi_s1 (fun _ => rfl) ?_; refine mi_s1 (fun _ => rfl) ?_
      rw [show nI (c + i) + nI 1 = nI (c + (i + 1)) from nI_1 (c + i), show c + i + 1 = c + (i + 1) from rfl]
      exact mv_place_loop HM HL hb hc hq f (i + 1) (by omega)
    repeat (first | refine mi_s1 (fun _ => rfl) ?_ | refine mi_wgf rfl (by assumption) rfl ?_ | refine mi_wal rfl (by assumption) rfl (by omega) (by decide) ?_)
    refine mi_wif (fun z => absurd z (nI_ge (a := c + i) (b := c + l.length) (by omega) (by omega))) (fun _ => ?_)
    repeat (first | refine mi_s1 (fun _ => rfl) ?_ | refine mi_wgf rfl HM.1 rfl ?_ | refine mi_wal rfl (HM.2.1 _ _ rfl) rfl (by omega) (by decide) ?_ | refine mi_wbl rfl (HM.2.2 _ _ rfl) rfl (by omega) (by decide) ?_)
    rw [e1]
    refine mi_wif (fun z1 => ?_) (fun z1 => ?_)
    · have z1 := (nI_eq (by omega) hq.1).mp z1
      repeat (first | refine mi_s1 (fun _ => rfl) ?_ | refine mi_wgf rfl HM.1 rfl ?_ | refine mi_wal rfl (HM.2.1 _ _ rfl) rfl (by omega) (by decide) ?_ | refine mi_wbl rfl (HM.2.2 _ _ rfl) rfl (by omega) (by decide) ?_)
      rw [e2]
      refine mi_wif (fun z2 => ?_) (fun z2 => ?_)
      · have z2 := (nI_eq (by omega) hq.2.1).mp z2
        repeat (first | refine mi_s1 (fun _ => rfl) ?_ | refine mi_wgf rfl HM.1 rfl ?_ | refine mi_wal rfl (HM.2.1 _ _ rfl) rfl (by omega) (by decide) ?_ | refine mi_wbl rfl (HM.2.2 _ _ rfl) rfl (by omega) (by decide) ?_)
        rw [e3]
        refine mi_wif (fun z3 => ?_) (fun z3 => ?_)
        · have z3 := (nI_eq (by omega) hq.2.2).mp z3
          rw [if_pos (tri_eq.mpr ⟨z1, z2, z3⟩)]
          repeat (first | refine mi_s1 (fun _ => rfl) ?_ | refine mi_wgf rfl (by assumption) rfl ?_ | refine mi_wal rfl (by assumption) rfl (by omega) (by decide) ?_)
          refine mi_r1 (fun _ => rfl) ?_
          exact ⟨rfl, rfl⟩
        · exact go (fun h => z3 (by rw [h]))
      · exact go (fun h => z2 (by rw [h]))
    · exact go (fun h => z1 (by rw [h]))
theorem mv_place {ls lt : List sp_A} {F : Nat → Nat → Nat → Bool} {n : Nat} {ak dr : Bool} {s : Nat} (HM : Mo w a (ls.length, lt.length, n, ak, dr, s)) (HF : Fm a ls lt F) {r x y : Nat} (hr : r < 2 ^ 31) (hx : x < 2 ^ 31) (hy : y < 2 ^ 31) : mi_Ev X mi_P 1 k_Mo_place [.ref 71, .int (nI r), .int (nI x), .int (nI y)] w (some (.int (enc (plc ls lt (r, x, y))))) w := by
  obtain ⟨h1, h2, h3, h4, h5, h6, -⟩ := HF
  refine mi_Ev.of (M := m_Mo_place) rfl (Nat.le_of_ble_eq_true rfl) ?_
  unfold plc
  by_cases z : r < 2
  · rw [if_pos z]
    repeat (first | refine mi_s1 (fun _ => rfl) ?_ | refine mi_wgf rfl (by assumption) rfl ?_ | refine mi_wal rfl (by assumption) rfl (by omega) (by decide) ?_)
    refine mi_wif (fun q => absurd q (nI_ge z (by decide))) (fun _ => ?_)
    repeat (first | refine mi_s1 (fun _ => rfl) ?_ | refine mi_wgf rfl (by assumption) rfl ?_ | refine mi_wal rfl (by assumption) rfl (by omega) (by decide) ?_)
    refine mi_wif (fun q => absurd q (nI_ge z (by decide))) (fun _ => ?_)
    refine mi_s1 (fun _ => rfl) ?_
    refine mi_wgf rfl HM.1 rfl ?_
    refine mi_s1 (fun _ => rfl) ?_; refine mi_s1 (fun _ => rfl) ?_; refine mi_s1 (fun _ => rfl) ?_; refine mi_s1 (fun _ => rfl) ?_
    have e := mv_place_loop (X := X) HM (c := 0) h1 (fun q hq => by
      have := h5 q hq
      unfold okS at this
      omega) (by omega) (q := (r, x, y)) ⟨hr, hx, hy⟩ ls.length 0 (by omega)
    rw [Nat.zero_add] at e
    exact e
  · rw [if_neg z]
    repeat (first | refine mi_s1 (fun _ => rfl) ?_ | refine mi_wgf rfl (by assumption) rfl ?_ | refine mi_wal rfl (by assumption) rfl (by omega) (by decide) ?_)
    refine mi_wif (fun _ => ?_) (fun q => absurd (nI_le (a := 2) (b := r) (by omega) hr) q)
    repeat (first | refine mi_s1 (fun _ => rfl) ?_ | refine mi_wgf rfl (by assumption) rfl ?_ | refine mi_wal rfl (by assumption) rfl (by omega) (by decide) ?_)
    refine mi_wif (fun _ => ?_) (fun q => absurd (nI_le (a := 2) (b := r) (by omega) hr) q)
    refine mi_s1 (fun _ => rfl) ?_; refine mi_s1 (fun _ => rfl) ?_
    refine mi_wgf rfl HM.1 rfl ?_
    refine mi_s1 (fun _ => rfl) ?_; refine mi_s1 (fun _ => rfl) ?_; refine mi_s1 (fun _ => rfl) ?_; refine mi_s1 (fun _ => rfl) ?_
    rw [nI_add]
    exact mv_place_loop (X := X) HM (c := 12) h2 (fun q hq => by
      have := h6 q hq
      unfold okT at this
      omega) (by omega) (q := (r, x, y)) ⟨hr, hx, hy⟩ lt.length 0 (by omega)
theorem mv_inBody_loop (HM : Mo w a T) {d : Nat} {R : sp_R} (hd : d < 8) (HR : Rm a d R) {v : Nat} (hv : v < 2 ^ 31) : ∀ f i, i + f = R.2.1.length → mi_wp X mi_P 0 m_Mo_inBody (4, [some (.ref 71), some (.int (nI d)), some (.int (nI v)), some (.int (nI (3 * d + i)))], [], w) (fun r w1 => r = some (.int (jb (inB (R.2.1.drop i) v = true))) ∧ w1 = w)
  | 0, i, hi => by
    obtain ⟨-, -, r3, r4, -⟩ := id HR
    repeat (first | refine mi_s1 (fun _ => rfl) ?_ | refine mi_wgf rfl HM.1 rfl ?_ | refine mi_wal rfl (HM.2.1 _ _ rfl) rfl (by omega) (by decide) ?_ | refine mi_wbl rfl (HM.2.2 _ _ rfl) rfl (by omega) (by decide) ?_)
    rw [r3, pk_mul, nI_add]
    refine mi_wif (fun _ => ?_) (fun z => absurd (nI_le (a := 3 * d + R.2.1.length) (b := 3 * d + i) (by omega) (by omega)) z)
    repeat (first | refine mi_s1 (fun _ => rfl) ?_ | refine mi_wgf rfl (by assumption) rfl ?_ | refine mi_wal rfl (by assumption) rfl (by omega) (by decide) ?_)
    refine mi_wrz rfl rfl rfl ?_
    refine jb_f ?_
    rw [show i = R.2.1.length by omega, List.drop_length]
    intro q
    cases q
  | f + 1, i, hi => by
    obtain ⟨-, -, r3, r4, -, -, r7, -⟩ := id HR
    obtain ⟨t, ht, hd'⟩ := drop_at (l := R.2.1) (i := i) (by omega)
    obtain ⟨-, e2, e3, ok1, ok2, ok3⟩ := r7 i t ht
    rw [hd']
    repeat (first | refine mi_s1 (fun _ => rfl) ?_ | refine mi_wgf rfl HM.1 rfl ?_ | refine mi_wal rfl (HM.2.1 _ _ rfl) rfl (by omega) (by decide) ?_ | refine mi_wbl rfl (HM.2.2 _ _ rfl) rfl (by omega) (by decide) ?_)
    rw [r3, pk_mul, nI_add]
    refine mi_wif (fun z => absurd z (nI_ge (a := 3 * d + i) (b := 3 * d + R.2.1.length) (by omega) (by omega))) (fun _ => ?_)
    have yes : (t.2.1 = v ∨ t.2.2 = v) → mi_wp X mi_P 0 m_Mo_inBody (38, [some (.ref 71), some (.int (nI d)), some (.int (nI v)), some (.int (nI (3 * d + i)))], [], w) (fun r w1 => r = some (.int (jb (inB (t :: R.2.1.drop (i + 1)) v = true))) ∧ w1 = w) := by
      intro h
      repeat (first | refine mi_s1 (fun _ => rfl) ?_ | refine mi_wgf rfl (by assumption) rfl ?_ | refine mi_wal rfl (by assumption) rfl (by omega) (by decide) ?_)
      refine mi_wrz rfl rfl rfl ?_
      refine jb_t ?_
      unfold inB
      rw [List.any_cons]
      simp [h]
    repeat (first | refine mi_s1 (fun _ => rfl) ?_ | refine mi_wgf rfl HM.1 rfl ?_ | refine mi_wal rfl (HM.2.1 _ _ rfl) rfl (by omega) (by decide) ?_ | refine mi_wbl rfl (HM.2.2 _ _ rfl) rfl (by omega) (by decide) ?_)
    rw [e2]
    refine mi_wif (fun z => ?_) (fun z => ?_)
    · exact yes (Or.inl ((nI_eq (by omega) hv).mp z))
    · repeat (first | refine mi_s1 (fun _ => rfl) ?_ | refine mi_wgf rfl HM.1 rfl ?_ | refine mi_wal rfl (HM.2.1 _ _ rfl) rfl (by omega) (by decide) ?_ | refine mi_wbl rfl (HM.2.2 _ _ rfl) rfl (by omega) (by decide) ?_)
      rw [e3]
      refine mi_wif (fun z2 => ?_) (fun z2 => ?_)
      · exact yes (Or.inr ((nI_eq (by omega) hv).mp z2))
      · refine mi_s1 (fun _ => rfl) ?_; refine mi_s1 (fun _ => rfl) ?_
        rw [show nI (3 * d + i) + nI 1 = nI (3 * d + (i + 1)) from nI_1 (3 * d + i)]
        have e : inB (t :: R.2.1.drop (i + 1)) v = inB (R.2.1.drop (i + 1)) v := by
          unfold inB
          rw [List.any_cons, decide_eq_false (fun q => z (by rw [q])), decide_eq_false (fun q => z2 (by rw [q]))]
          rfl
        rw [e]
        exact mv_inBody_loop HM hd HR hv f (i + 1) (by omega)
theorem mv_inBody (HM : Mo w a T) {d : Nat} {R : sp_R} (hd : d < 8) (HR : Rm a d R) {v : Nat} (hv : v < 2 ^ 31) : mi_Ev X mi_P 1 k_Mo_inBody [.ref 71, .int (nI d), .int (nI v)] w (some (.int (jb (inB R.2.1 v = true)))) w := by
  refine mi_Ev.of (M := m_Mo_inBody) rfl (Nat.le_of_ble_eq_true rfl) ?_
  refine mi_s1 (fun _ => rfl) ?_; refine mi_s1 (fun _ => rfl) ?_; refine mi_s1 (fun _ => rfl) ?_; refine mi_s1 (fun _ => rfl) ?_
  rw [pk_mul]
  exact mv_inBody_loop HM hd HR hv R.2.1.length 0 (by omega)
theorem mv_inHead_loop (HM : Mo w a T) {d : Nat} {R : sp_R} (hd : d < 8) (HR : Rm a d R) {v : Nat} (hv : v < 2 ^ 31) : ∀ f i, i + f = R.2.2.1.length → mi_wp X mi_P 0 m_Mo_inHead (4, [some (.ref 71), some (.int (nI d)), some (.int (nI v)), some (.int (nI (2 * d + i)))], [], w) (fun r w1 => r = some (.int (jb (inB (R.2.2.1.drop i) v = true))) ∧ w1 = w)
  | 0, i, hi => by
    obtain ⟨-, -, -, -, r3, r4, -⟩ := id HR
    repeat (first | refine mi_s1 (fun _ => rfl) ?_ | refine mi_wgf rfl HM.1 rfl ?_ | refine mi_wal rfl (HM.2.1 _ _ rfl) rfl (by omega) (by decide) ?_ | refine mi_wbl rfl (HM.2.2 _ _ rfl) rfl (by omega) (by decide) ?_)
    rw [r3, pk_mul, nI_add]
    refine mi_wif (fun _ => ?_) (fun z => absurd (nI_le (a := 2 * d + R.2.2.1.length) (b := 2 * d + i) (by omega) (by omega)) z)
    repeat (first | refine mi_s1 (fun _ => rfl) ?_ | refine mi_wgf rfl (by assumption) rfl ?_ | refine mi_wal rfl (by assumption) rfl (by omega) (by decide) ?_)
    refine mi_wrz rfl rfl rfl ?_
    refine jb_f ?_
    rw [show i = R.2.2.1.length by omega, List.drop_length]
    intro q
    cases q
  | f + 1, i, hi => by
    obtain ⟨-, -, -, -, r3, r4, -, r7, -⟩ := id HR
    obtain ⟨t, ht, hd'⟩ := drop_at (l := R.2.2.1) (i := i) (by omega)
    obtain ⟨-, e2, e3, ok1, ok2, ok3⟩ := r7 i t ht
    rw [hd']
    repeat (first | refine mi_s1 (fun _ => rfl) ?_ | refine mi_wgf rfl HM.1 rfl ?_ | refine mi_wal rfl (HM.2.1 _ _ rfl) rfl (by omega) (by decide) ?_ | refine mi_wbl rfl (HM.2.2 _ _ rfl) rfl (by omega) (by decide) ?_)
    rw [r3, pk_mul, nI_add]
    refine mi_wif (fun z => absurd z (nI_ge (a := 2 * d + i) (b := 2 * d + R.2.2.1.length) (by omega) (by omega))) (fun _ => ?_)
    have yes : (t.2.1 = v ∨ t.2.2 = v) → mi_wp X mi_P 0 m_Mo_inHead (38, [some (.ref 71), some (.int (nI d)), some (.int (nI v)), some (.int (nI (2 * d + i)))], [], w) (fun r w1 => r = some (.int (jb (inB (t :: R.2.2.1.drop (i + 1)) v = true))) ∧ w1 = w) := by
      intro h
      repeat (first | refine mi_s1 (fun _ => rfl) ?_ | refine mi_wgf rfl (by assumption) rfl ?_ | refine mi_wal rfl (by assumption) rfl (by omega) (by decide) ?_)
      refine mi_wrz rfl rfl rfl ?_
      refine jb_t ?_
      unfold inB
      rw [List.any_cons]
      simp [h]
    repeat (first | refine mi_s1 (fun _ => rfl) ?_ | refine mi_wgf rfl HM.1 rfl ?_ | refine mi_wal rfl (HM.2.1 _ _ rfl) rfl (by omega) (by decide) ?_ | refine mi_wbl rfl (HM.2.2 _ _ rfl) rfl (by omega) (by decide) ?_)
    rw [e2]
    refine mi_wif (fun z => ?_) (fun z => ?_)
    · exact yes (Or.inl ((nI_eq (by omega) hv).mp z))
    · repeat (first | refine mi_s1 (fun _ => rfl) ?_ | refine mi_wgf rfl HM.1 rfl ?_ | refine mi_wal rfl (HM.2.1 _ _ rfl) rfl (by omega) (by decide) ?_ | refine mi_wbl rfl (HM.2.2 _ _ rfl) rfl (by omega) (by decide) ?_)
      rw [e3]
      refine mi_wif (fun z2 => ?_) (fun z2 => ?_)
      · exact yes (Or.inr ((nI_eq (by omega) hv).mp z2))
      · refine mi_s1 (fun _ => rfl) ?_; refine mi_s1 (fun _ => rfl) ?_
        rw [show nI (2 * d + i) + nI 1 = nI (2 * d + (i + 1)) from nI_1 (2 * d + i)]
        have e : inB (t :: R.2.2.1.drop (i + 1)) v = inB (R.2.2.1.drop (i + 1)) v := by
          unfold inB
          rw [List.any_cons, decide_eq_false (fun q => z (by rw [q])), decide_eq_false (fun q => z2 (by rw [q]))]
          rfl
        rw [e]
        exact mv_inHead_loop HM hd HR hv f (i + 1) (by omega)
theorem mv_inHead (HM : Mo w a T) {d : Nat} {R : sp_R} (hd : d < 8) (HR : Rm a d R) {v : Nat} (hv : v < 2 ^ 31) : mi_Ev X mi_P 1 k_Mo_inHead [.ref 71, .int (nI d), .int (nI v)] w (some (.int (jb (inB R.2.2.1 v = true)))) w := by
  refine mi_Ev.of (M := m_Mo_inHead) rfl (Nat.le_of_ble_eq_true rfl) ?_
  refine mi_s1 (fun _ => rfl) ?_; refine mi_s1 (fun _ => rfl) ?_; refine mi_s1 (fun _ => rfl) ?_; refine mi_s1 (fun _ => rfl) ?_
  rw [pk_mul]
  exact mv_inHead_loop HM hd HR hv R.2.2.1.length 0 (by omega)
end Model
