/-! the model: the calls that build -/
def slo (o i : Nat) : Nat := if 77 ≤ o ∧ o < 80 then i / 3 else if 81 ≤ o ∧ o < 84 then i / 2 else i
/-- slot d is as it was -/
def Sl (a b : mo_a) (d : Nat) : Prop := ∀ o i, 75 ≤ o → o < 86 → slo o i = d → b o i = a o i
/-- the facts are as they were -/
def Ff (a b : mo_a) : Prop := ∀ o, 72 ≤ o → o < 75 → b o = a o
theorem Sl.rf {a : mo_a} {d : Nat} : Sl a a d := fun _ _ _ _ _ => rfl
theorem Ff.rf {a : mo_a} : Ff a a := fun _ _ _ => rfl
theorem Sl.up {a b : mo_a} {d o i : Nat} {x : Int32} (H : Sl a b d) (h : 86 ≤ o ∨ slo o i ≠ d) : Sl a (upA b o i x) d := by
  intro p j h1 h2 h3
  unfold upA
  by_cases z : p = o
  · subst z
    rw [if_pos rfl]
    have hne : j ≠ i := fun q => by
      subst q
      rcases h with h | h
      · omega
      · exact h h3
    rw [pk_un hne]
    exact H p j h1 h2 h3
  · rw [if_neg z]
    exact H p j h1 h2 h3
theorem Ff.up {a b : mo_a} {o i : Nat} {x : Int32} (H : Ff a b) (h : 75 ≤ o) : Ff a (upA b o i x) := by
  intro p h1 h2
  rw [upA_o (by omega)]
  exact H p h1 h2
theorem slo_b {o d k : Nat} (h1 : 77 ≤ o) (h2 : o < 80) (hk : k < 3) : slo o (3 * d + k) = d := by
  unfold slo
  rw [if_pos ⟨h1, h2⟩]
  omega
theorem slo_h {o d k : Nat} (h1 : 81 ≤ o) (h2 : o < 84) (hk : k < 2) : slo o (2 * d + k) = d := by
  unfold slo
  rw [if_neg (by omega), if_pos ⟨h1, h2⟩]
  omega
theorem slo_o {o d : Nat} (h : o = 75 ∨ o = 76 ∨ o = 80 ∨ o = 84 ∨ o = 85) : slo o d = d := by
  unfold slo
  rw [if_neg (by omega), if_neg (by omega)]
theorem Rm.mv {a b : mo_a} {c d : Nat} {R : sp_R} (H : Rm a c R) (h1 : ∀ o, (o = 75 ∨ o = 76 ∨ o = 80 ∨ o = 84 ∨ o = 85) → b o d = a o c) (h2 : ∀ o k, 77 ≤ o → o < 80 → k < 3 → b o (3 * d + k) = a o (3 * c + k)) (h3 : ∀ o k, 81 ≤ o → o < 84 → k < 2 → b o (2 * d + k) = a o (2 * c + k)) : Rm b d R := by
  obtain ⟨r1, r2, r3, r4, r5, r6, r7, r8, r9, r10, r11⟩ := H
  refine ⟨by rw [h1 75 (by omega)]; exact r1, r2, by rw [h1 76 (by omega)]; exact r3, r4, by rw [h1 80 (by omega)]; exact r5, r6, fun k q hq => ?_, fun k q hq => ?_, by rw [h1 84 (by omega)]; exact r9, by rw [h1 85 (by omega)]; exact r10, r11⟩
  · have hk := (List.getElem?_eq_some_iff.mp hq).1
    rw [h2 77 k (by omega) (by omega) (by omega), h2 78 k (by omega) (by omega) (by omega), h2 79 k (by omega) (by omega) (by omega)]
    exact r7 k q hq
  · have hk := (List.getElem?_eq_some_iff.mp hq).1
    rw [h3 81 k (by omega) (by omega) (by omega), h3 82 k (by omega) (by omega) (by omega), h3 83 k (by omega) (by omega) (by omega)]
    exact r8 k q hq
theorem Rm.sl {a b : mo_a} {d : Nat} {R : sp_R} (H : Rm a d R) (h : Sl a b d) : Rm b d R :=
  H.mv (fun o ho => h o d (by omega) (by omega) (slo_o ho)) (fun o k h1 h2 hk => h o _ (by omega) (by omega) (slo_b h1 h2 hk)) (fun o k h1 h2 hk => h o _ (by omega) (by omega) (slo_h h1 h2 hk))
theorem Fm.ff {a b : mo_a} {ls lt : List sp_A} {F : Nat → Nat → Nat → Bool} (H : Fm a ls lt F) (h : Ff a b) : Fm b ls lt F := H.congr h
theorem app_get {α : Type} {l : List α} {x q : α} {k : Nat} (h : (l ++ [x])[k]? = some q) : (k < l.length ∧ l[k]? = some q) ∨ (k = l.length ∧ q = x) := by
  by_cases z : k < l.length
  · rw [List.getElem?_append_left z] at h
    exact Or.inl ⟨z, h⟩
  · rw [List.getElem?_append_right (by omega)] at h
    have hi : k - l.length < 1 := (List.getElem?_eq_some_iff.mp h).1
    have e : k - l.length = 0 := by omega
    rw [e] at h
    cases h
    exact Or.inr ⟨by omega, rfl⟩
theorem updX_s {R : Nat → sp_R} {i : Nat} {q : sp_R} : updX R i q i = q := if_pos rfl
theorem updX_o {R : Nat → sp_R} {i j : Nat} {q : sp_R} (h : j ≠ i) : updX R i q j = R j := if_neg h
theorem Md.r7 {w : mi_H} {a b : mo_a} {ls lt : List sp_A} {S : sp_S} {q : sp_R} {hd : Bool} (HM : Mo w b (ls.length, lt.length, S.n, S.hq, hd, S.s)) (HF : Fm b ls lt S.F) (hSl : ∀ j, j ≠ 7 → Sl a b j) (HR : ∀ i, i < S.n → Rm a i (S.R i)) (H6 : S.hq = true → Rm a 6 (S.R 6)) (hn : S.n ≤ 6) (hs : S.s ≤ 4) (h7 : Rm b 7 q) : Md w (S.F, updX S.R 7 q, S.n, hd, S.hq, S.s) := by
  refine ⟨b, ls, lt, HM, HF, fun i hi => ?_, fun hq => ?_, fun _ => ?_, hn, hs⟩
  · have hi : i < S.n := hi
    have e : updX S.R 7 q i = S.R i := updX_o (by omega)
    show Rm b i (updX S.R 7 q i)
    rw [e]
    exact (HR i hi).sl (hSl i (by omega))
  · have e : updX S.R 7 q 6 = S.R 6 := updX_o (by omega)
    show Rm b 6 (updX S.R 7 q 6)
    rw [e]
    exact (H6 hq).sl (hSl 6 (by decide))
  · have e : updX S.R 7 q 7 = q := updX_s
    show Rm b 7 (updX S.R 7 q 7)
    rw [e]
    exact h7
section MBuild
variable {X : mi_X} {w : mi_H} {S : sp_S}
theorem mv_open (H : Md w S) (x : Int32) : mi_Ex X 1 k_Mo_opn [.ref 71, .int x] w (fun r w1 => r = some (.int (op_open S x).1) ∧ Md w1 (op_open S x).2 ∧ mi_Fg w w1 71 94) := by
  obtain ⟨a, ls, lt, HM, HF, HR, H6, H7, hn, hs⟩ := id H
  have hG : mi_Fg w w 71 94 := mi_Fg.rf
  have bad : ¬ inR x 3 → mi_wp X mi_P 0 m_Mo_opn (9, [some (.ref 71), some (.int x)], [], w) (fun r w1 => r = some (.int (op_open S x).1) ∧ Md w1 (op_open S x).2 ∧ mi_Fg w w1 71 94) := by
    intro h
    have e : op_open S x = (0, S) := if_neg h
    rw [e]
    repeat (first | refine mi_s1 (fun _ => rfl) ?_ | refine mi_wgf rfl (by assumption) rfl ?_ | refine mi_wal rfl (by assumption) rfl (by omega) (by decide) ?_)
    refine mi_wrz rfl rfl rfl ?_
    exact ⟨rfl, H, mi_Fg.rf⟩
  refine mi_Ex.of (M := m_Mo_opn) rfl (Nat.le_of_ble_eq_true rfl) ?_
  repeat (first | refine mi_s1 (fun _ => rfl) ?_ | refine mi_wgf rfl (by assumption) rfl ?_ | refine mi_wal rfl (by assumption) rfl (by omega) (by decide) ?_)
  refine mi_wif (fun z0 => ?_) (fun z0 => ?_)
  · exact bad (fun q => (inR_to (k := 2) (by decide) q).1 z0)
  · repeat (first | refine mi_s1 (fun _ => rfl) ?_ | refine mi_wgf rfl (by assumption) rfl ?_ | refine mi_wal rfl (by assumption) rfl (by omega) (by decide) ?_)
    refine mi_wif (fun z1 => ?_) (fun z1 => ?_)
    · have hx : inR x 3 := inR_of (k := 2) (by decide) z0 (by simpa using z1)
      have e : op_open S x = _ := if_pos hx
      rw [e]
      obtain ⟨k, hk, rfl⟩ := (mi_rng (by decide)).mp hx
      rw [nI_clamp (n := k) (by omega)]
      repeat (first | refine mi_s1 (fun _ => rfl) ?_ | refine mi_wgf rfl HM.1 rfl ?_ | refine mi_wal rfl (HM.2.1 _ _ rfl) rfl (by omega) (by decide) ?_ | refine mi_wbl rfl (HM.2.2 _ _ rfl) rfl (by omega) (by decide) ?_)
      refine mi_wpg rfl HM.1 (Nat.le_of_ble_eq_true rfl) rfl (fun w h0 hF => ?_)
      have HM := HM.sc ((ls.length, lt.length, S.n, S.hq, true, S.s)) h0 hF
      have hG := hG.tr (mi_Fg.of1 hF (by omega) (by omega))
      clear h0
      repeat (first | refine mi_s1 (fun _ => rfl) ?_ | refine mi_wgf rfl HM.1 rfl ?_ | refine mi_wal rfl (HM.2.1 _ _ rfl) rfl (by omega) (by decide) ?_ | refine mi_wbl rfl (HM.2.2 _ _ rfl) rfl (by omega) (by decide) ?_)
      refine HM.was rfl rfl rfl (by omega) (fun w HM hF => ?_)
      have hG := hG.tr hF
      repeat (first | refine mi_s1 (fun _ => rfl) ?_ | refine mi_wgf rfl HM.1 rfl ?_ | refine mi_wal rfl (HM.2.1 _ _ rfl) rfl (by omega) (by decide) ?_ | refine mi_wbl rfl (HM.2.2 _ _ rfl) rfl (by omega) (by decide) ?_)
      refine HM.was rfl rfl rfl (by omega) (fun w HM hF => ?_)
      have hG := hG.tr hF
      repeat (first | refine mi_s1 (fun _ => rfl) ?_ | refine mi_wgf rfl HM.1 rfl ?_ | refine mi_wal rfl (HM.2.1 _ _ rfl) rfl (by omega) (by decide) ?_ | refine mi_wbl rfl (HM.2.2 _ _ rfl) rfl (by omega) (by decide) ?_)
      refine HM.was rfl rfl rfl (by omega) (fun w HM hF => ?_)
      have hG := hG.tr hF
      repeat (first | refine mi_s1 (fun _ => rfl) ?_ | refine mi_wgf rfl HM.1 rfl ?_ | refine mi_wal rfl (HM.2.1 _ _ rfl) rfl (by omega) (by decide) ?_ | refine mi_wbl rfl (HM.2.2 _ _ rfl) rfl (by omega) (by decide) ?_)
      refine HM.was rfl rfl rfl (by omega) (fun w HM hF => ?_)
      have hG := hG.tr hF
      repeat (first | refine mi_s1 (fun _ => rfl) ?_ | refine mi_wgf rfl HM.1 rfl ?_ | refine mi_wal rfl (HM.2.1 _ _ rfl) rfl (by omega) (by decide) ?_ | refine mi_wbl rfl (HM.2.2 _ _ rfl) rfl (by omega) (by decide) ?_)
      refine HM.was rfl rfl rfl (by omega) (fun w HM hF => ?_)
      have hG := hG.tr hF
      repeat (first | refine mi_s1 (fun _ => rfl) ?_ | refine mi_wgf rfl HM.1 rfl ?_ | refine mi_wal rfl (HM.2.1 _ _ rfl) rfl (by omega) (by decide) ?_ | refine mi_wbl rfl (HM.2.2 _ _ rfl) rfl (by omega) (by decide) ?_)
      refine mi_wrz rfl rfl rfl ?_
      have hSl : ∀ j, j ≠ 7 → Sl a _ j := fun j hj => ((((Sl.rf (a := a) (d := j)).up (o := 75) (i := 7) (x := nI k) (by right; rw [slo_o (by omega)]; omega)).up (o := 76) (i := 7) (x := nI 0) (by right; rw [slo_o (by omega)]; omega)).up (o := 80) (i := 7) (x := nI 0) (by right; rw [slo_o (by omega)]; omega)).up (o := 84) (i := 7) (x := -1) (by right; rw [slo_o (by omega)]; omega) |>.up (o := 85) (i := 7) (x := -1) (by right; rw [slo_o (by omega)]; omega)
      refine ⟨rfl, Md.r7 HM (HF.ff (((((Ff.rf.up (by decide)).up (by decide)).up (by decide)).up (by decide)).up (by decide))) hSl HR H6 hn hs ?_, hG⟩
      · skip
        refine ⟨by simp [upA, upd], hk, by simp [upA, upd], Nat.zero_le _, by simp [upA, upd], Nat.zero_le _, fun k q hq => by simp at hq, fun k q hq => by simp at hq, by simp [upA, upd, enc], by simp [upA, upd, enc], fun v u h => (by cases h), fun _ => rfl, fun _ => rfl⟩
    · exact bad (fun q => (inR_to (k := 2) (by decide) q).2 (by simpa using z1))
theorem mv_body (H : Md w S) (r v u : Int32) : mi_Ex X 2 k_Mo_body [.ref 71, .int r, .int v, .int u] w (fun q w1 => q = some (.int (op_body S r v u).1) ∧ Md w1 (op_body S r v u).2 ∧ mi_Fg w w1 71 94) := by
  obtain ⟨a, ls, lt, HM, HF, HR, H6, H7, hn, hs⟩ := id H
  have hG : mi_Fg w w 71 94 := mi_Fg.rf
  have bad : ∀ L4, ¬ (S.hd = true ∧ (S.R 7).2.1.length < 3 ∧ inR r 6 ∧ inR v 4 ∧ inR u 4) → mi_wp X mi_P 1 m_Mo_body (27, [some (.ref 71), some (.int r), some (.int v), some (.int u), L4], [], w) (fun q w1 => q = some (.int (op_body S r v u).1) ∧ Md w1 (op_body S r v u).2 ∧ mi_Fg w w1 71 94) := by
    intro L4 h
    have e : op_body S r v u = (-3, S) := if_neg h
    rw [e]
    repeat (first | refine mi_s1 (fun _ => rfl) ?_ | refine mi_wgf rfl (by assumption) rfl ?_ | refine mi_wal rfl (by assumption) rfl (by omega) (by decide) ?_)
    refine mi_r1 (fun _ => rfl) ?_
    exact ⟨rfl, H, mi_Fg.rf⟩
  refine mi_Ex.of (M := m_Mo_body) rfl (Nat.le_of_ble_eq_true rfl) ?_
  repeat (first | refine mi_s1 (fun _ => rfl) ?_ | refine mi_wgf rfl HM.1 rfl ?_ | refine mi_wal rfl (HM.2.1 _ _ rfl) rfl (by omega) (by decide) ?_ | refine mi_wbl rfl (HM.2.2 _ _ rfl) rfl (by omega) (by decide) ?_)
  refine mi_wif (fun z0 => ?_) (fun z0 => ?_)
  · exact bad _ (fun q => jb_0.mp z0 q.1)
  · have z0 := Decidable.not_not.mp (fun q => z0 (jb_0.mpr q))
    have R7 := H7 z0
    obtain ⟨r1, r2, r3, r4, r5, r6, r7, r8, r9⟩ := id R7
    repeat (first | refine mi_s1 (fun _ => rfl) ?_ | refine mi_wgf rfl HM.1 rfl ?_ | refine mi_wal rfl (HM.2.1 _ _ rfl) rfl (by omega) (by decide) ?_ | refine mi_wbl rfl (HM.2.2 _ _ rfl) rfl (by omega) (by decide) ?_)
    rw [r3]
    refine mi_wif (fun z1 => ?_) (fun z1 => ?_)
    · exact bad _ (fun q => absurd ((nI_eq (by omega) (by decide)).mp z1) (by omega))
    · have hl : (S.R 7).2.1.length < 3 := by
        have : (S.R 7).2.1.length ≠ 3 := fun q => z1 (by rw [q])
        omega
      repeat (first | refine mi_s1 (fun _ => rfl) ?_ | refine mi_wgf rfl (by assumption) rfl ?_ | refine mi_wal rfl (by assumption) rfl (by omega) (by decide) ?_)
      refine mi_wcs rfl (Nat.le_of_ble_eq_true rfl) ⟨Nat.le_of_ble_eq_true rfl, Nat.le_of_ble_eq_true rfl⟩ (mv_isAtom r v u) ?_
      repeat (first | refine mi_s1 (fun _ => rfl) ?_ | refine mi_wgf rfl (by assumption) rfl ?_ | refine mi_wal rfl (by assumption) rfl (by omega) (by decide) ?_)
      refine mi_wif (fun z2 => ?_) (fun z2 => ?_)
      · exact bad _ (fun q => jb_0.mp z2 q.2.2)
      · have z2 := Decidable.not_not.mp (fun q => z2 (jb_0.mpr q))
        have e : op_body S r v u = _ := if_pos ⟨z0, hl, z2⟩
        rw [e]
        obtain ⟨rn, hrn, rfl⟩ := (mi_rng (by decide)).mp z2.1
        obtain ⟨vn, hvn, rfl⟩ := (mi_rng (by decide)).mp z2.2.1
        obtain ⟨un, hun, rfl⟩ := (mi_rng (by decide)).mp z2.2.2
        have eat : atm (nI rn) (nI vn) (nI un) = (rn, vn, un) := by
          unfold atm
          rw [nI_clamp (by omega), nI_clamp (by omega), nI_clamp (by omega)]
        rw [eat]
        repeat (first | refine mi_s1 (fun _ => rfl) ?_ | refine mi_wgf rfl HM.1 rfl ?_ | refine mi_wal rfl (HM.2.1 _ _ rfl) rfl (by omega) (by decide) ?_ | refine mi_wbl rfl (HM.2.2 _ _ rfl) rfl (by omega) (by decide) ?_)
        rw [r3, nI_add]
        repeat (first | refine mi_s1 (fun _ => rfl) ?_ | refine mi_wgf rfl HM.1 rfl ?_ | refine mi_wal rfl (HM.2.1 _ _ rfl) rfl (by omega) (by decide) ?_ | refine mi_wbl rfl (HM.2.2 _ _ rfl) rfl (by omega) (by decide) ?_)
        refine HM.was rfl rfl rfl (by omega) (fun w HM hF => ?_)
        have hG := hG.tr hF
        repeat (first | refine mi_s1 (fun _ => rfl) ?_ | refine mi_wgf rfl HM.1 rfl ?_ | refine mi_wal rfl (HM.2.1 _ _ rfl) rfl (by omega) (by decide) ?_ | refine mi_wbl rfl (HM.2.2 _ _ rfl) rfl (by omega) (by decide) ?_)
        refine HM.was rfl rfl rfl (by omega) (fun w HM hF => ?_)
        have hG := hG.tr hF
        repeat (first | refine mi_s1 (fun _ => rfl) ?_ | refine mi_wgf rfl HM.1 rfl ?_ | refine mi_wal rfl (HM.2.1 _ _ rfl) rfl (by omega) (by decide) ?_ | refine mi_wbl rfl (HM.2.2 _ _ rfl) rfl (by omega) (by decide) ?_)
        refine HM.was rfl rfl rfl (by omega) (fun w HM hF => ?_)
        have hG := hG.tr hF
        repeat (first | refine mi_s1 (fun _ => rfl) ?_ | refine mi_wgf rfl HM.1 rfl ?_ | refine mi_wal rfl (HM.2.1 _ _ rfl) rfl (by omega) (by decide) ?_ | refine mi_wbl rfl (HM.2.2 _ _ rfl) rfl (by omega) (by decide) ?_)
        have ev : upA (upA (upA a 77 (21 + (S.R 7).2.1.length) (nI rn)) 78 (21 + (S.R 7).2.1.length) (nI vn)) 79 (21 + (S.R 7).2.1.length) (nI un) 76 7 = nI (S.R 7).2.1.length := by
          rw [upA_o (by decide), upA_o (by decide), upA_o (by decide)]
          exact r3
        rw [ev, nI_add]
        refine HM.was rfl rfl rfl (by omega) (fun w HM hF => ?_)
        have hG := hG.tr hF
        repeat (first | refine mi_s1 (fun _ => rfl) ?_ | refine mi_wgf rfl HM.1 rfl ?_ | refine mi_wal rfl (HM.2.1 _ _ rfl) rfl (by omega) (by decide) ?_ | refine mi_wbl rfl (HM.2.2 _ _ rfl) rfl (by omega) (by decide) ?_)
        rw [upA_s, pk_us]
        refine mi_r1 (fun _ => rfl) ?_
        have hsl : ∀ o, 77 ≤ o → o < 80 → slo o (21 + (S.R 7).2.1.length) = 7 := fun o h1 h2 => slo_b (d := 7) h1 h2 hl
        have hSl : ∀ j, j ≠ 7 → Sl a (upA (upA (upA (upA a 77 (21 + (S.R 7).2.1.length) (nI rn)) 78 (21 + (S.R 7).2.1.length) (nI vn)) 79 (21 + (S.R 7).2.1.length) (nI un)) 76 7 (nI ((S.R 7).2.1.length + 1))) j := fun j hj => (((Sl.rf.up (by right; rw [hsl _ (by decide) (by decide)]; omega)).up (by right; rw [hsl _ (by decide) (by decide)]; omega)).up (by right; rw [hsl _ (by decide) (by decide)]; omega)).up (by right; rw [slo_o (by omega)]; omega)
        refine ⟨rfl, Md.r7 HM (HF.ff ((((Ff.rf.up (by decide)).up (by decide)).up (by decide)).up (by decide))) hSl HR H6 hn hs ?_, hG⟩
        · skip
          refine ⟨by simpa [upA, upd] using r1, r2, by simp [upA, upd], by simp; omega, by simpa [upA, upd] using r5, r6, fun k q hq => ?_, fun k q hq => ?_, by simpa [upA, upd] using r9.1, by simpa [upA, upd] using r9.2.1, r9.2.2⟩
          · rw [upA_o (p := 77) (by decide), upA_o (p := 78) (by decide), upA_o (p := 79) (by decide), upA_o (p := 77) (by decide), upA_o (p := 78) (by decide), upA_o (p := 77) (by decide), upA_s, upA_s, upA_s, upA_o (p := 78) (by decide), upA_o (p := 79) (by decide), upA_o (p := 79) (by decide)]
            rcases app_get hq with ⟨h1, h2⟩ | ⟨h1, h2⟩
            · rw [pk_un (by omega), pk_un (by omega), pk_un (by omega)]
              exact r7 k q h2
            · subst h1
              subst h2
              rw [show 3 * 7 + (S.R 7).2.1.length = 21 + (S.R 7).2.1.length from rfl, pk_us, pk_us, pk_us]
              exact ⟨rfl, rfl, rfl, hrn, hvn, hun⟩
          · rw [upA_o (p := 81) (by decide), upA_o (p := 82) (by decide), upA_o (p := 83) (by decide), upA_o (p := 81) (by decide), upA_o (p := 82) (by decide), upA_o (p := 83) (by decide), upA_o (p := 81) (by decide), upA_o (p := 82) (by decide), upA_o (p := 83) (by decide), upA_o (p := 81) (by decide), upA_o (p := 82) (by decide), upA_o (p := 83) (by decide)]
            exact r8 k q hq
theorem mv_head (H : Md w S) (r v u : Int32) : mi_Ex X 2 k_Mo_head [.ref 71, .int r, .int v, .int u] w (fun q w1 => q = some (.int (op_head S r v u).1) ∧ Md w1 (op_head S r v u).2 ∧ mi_Fg w w1 71 94) := by
  obtain ⟨a, ls, lt, HM, HF, HR, H6, H7, hn, hs⟩ := id H
  have hG : mi_Fg w w 71 94 := mi_Fg.rf
  have bad : ∀ L4, ¬ (S.hd = true ∧ (S.R 7).1 = 0 ∧ (S.R 7).2.2.1.length < 2 ∧ inR r 6 ∧ inR v 4 ∧ inR u 4) → mi_wp X mi_P 1 m_Mo_head (37, [some (.ref 71), some (.int r), some (.int v), some (.int u), L4], [], w) (fun q w1 => q = some (.int (op_head S r v u).1) ∧ Md w1 (op_head S r v u).2 ∧ mi_Fg w w1 71 94) := by
    intro L4 h
    have e : op_head S r v u = (-3, S) := if_neg h
    rw [e]
    repeat (first | refine mi_s1 (fun _ => rfl) ?_ | refine mi_wgf rfl (by assumption) rfl ?_ | refine mi_wal rfl (by assumption) rfl (by omega) (by decide) ?_)
    refine mi_r1 (fun _ => rfl) ?_
    exact ⟨rfl, H, mi_Fg.rf⟩
  refine mi_Ex.of (M := m_Mo_head) rfl (Nat.le_of_ble_eq_true rfl) ?_
  repeat (first | refine mi_s1 (fun _ => rfl) ?_ | refine mi_wgf rfl HM.1 rfl ?_ | refine mi_wal rfl (HM.2.1 _ _ rfl) rfl (by omega) (by decide) ?_ | refine mi_wbl rfl (HM.2.2 _ _ rfl) rfl (by omega) (by decide) ?_)
  refine mi_wif (fun z0 => ?_) (fun z0 => ?_)
  · exact bad _ (fun q => jb_0.mp z0 q.1)
  · have z0 := Decidable.not_not.mp (fun q => z0 (jb_0.mpr q))
    have R7 := H7 z0
    obtain ⟨r1, r2, r3, r4, r5, r6, r7, r8, r9⟩ := id R7
    repeat (first | refine mi_s1 (fun _ => rfl) ?_ | refine mi_wgf rfl HM.1 rfl ?_ | refine mi_wal rfl (HM.2.1 _ _ rfl) rfl (by omega) (by decide) ?_ | refine mi_wbl rfl (HM.2.2 _ _ rfl) rfl (by omega) (by decide) ?_)
    rw [r1]
    refine mi_wif (fun zk => ?_) (fun zk => ?_)
    · have zk := (nI_z (by omega)).mp zk
      repeat (first | refine mi_s1 (fun _ => rfl) ?_ | refine mi_wgf rfl HM.1 rfl ?_ | refine mi_wal rfl (HM.2.1 _ _ rfl) rfl (by omega) (by decide) ?_ | refine mi_wbl rfl (HM.2.2 _ _ rfl) rfl (by omega) (by decide) ?_)
      rw [r5]
      refine mi_wif (fun z1 => ?_) (fun z1 => ?_)
      · exact bad _ (fun q => absurd ((nI_eq (by omega) (by decide)).mp z1) (by omega))
      · have hl : (S.R 7).2.2.1.length < 2 := by
          have : (S.R 7).2.2.1.length ≠ 2 := fun q => z1 (by rw [q])
          omega
        repeat (first | refine mi_s1 (fun _ => rfl) ?_ | refine mi_wgf rfl (by assumption) rfl ?_ | refine mi_wal rfl (by assumption) rfl (by omega) (by decide) ?_)
        refine mi_wcs rfl (Nat.le_of_ble_eq_true rfl) ⟨Nat.le_of_ble_eq_true rfl, Nat.le_of_ble_eq_true rfl⟩ (mv_isAtom r v u) ?_
        repeat (first | refine mi_s1 (fun _ => rfl) ?_ | refine mi_wgf rfl (by assumption) rfl ?_ | refine mi_wal rfl (by assumption) rfl (by omega) (by decide) ?_)
        refine mi_wif (fun z2 => ?_) (fun z2 => ?_)
        · exact bad _ (fun q => jb_0.mp z2 q.2.2.2)
        · have z2 := Decidable.not_not.mp (fun q => z2 (jb_0.mpr q))
          have e : op_head S r v u = _ := if_pos ⟨z0, zk, hl, z2⟩
          rw [e]
          obtain ⟨rn, hrn, rfl⟩ := (mi_rng (by decide)).mp z2.1
          obtain ⟨vn, hvn, rfl⟩ := (mi_rng (by decide)).mp z2.2.1
          obtain ⟨un, hun, rfl⟩ := (mi_rng (by decide)).mp z2.2.2
          have eat : atm (nI rn) (nI vn) (nI un) = (rn, vn, un) := by
            unfold atm
            rw [nI_clamp (by omega), nI_clamp (by omega), nI_clamp (by omega)]
          rw [eat]
          repeat (first | refine mi_s1 (fun _ => rfl) ?_ | refine mi_wgf rfl HM.1 rfl ?_ | refine mi_wal rfl (HM.2.1 _ _ rfl) rfl (by omega) (by decide) ?_ | refine mi_wbl rfl (HM.2.2 _ _ rfl) rfl (by omega) (by decide) ?_)
          rw [r5, nI_add]
          repeat (first | refine mi_s1 (fun _ => rfl) ?_ | refine mi_wgf rfl HM.1 rfl ?_ | refine mi_wal rfl (HM.2.1 _ _ rfl) rfl (by omega) (by decide) ?_ | refine mi_wbl rfl (HM.2.2 _ _ rfl) rfl (by omega) (by decide) ?_)
          refine HM.was rfl rfl rfl (by omega) (fun w HM hF => ?_)
          have hG := hG.tr hF
          repeat (first | refine mi_s1 (fun _ => rfl) ?_ | refine mi_wgf rfl HM.1 rfl ?_ | refine mi_wal rfl (HM.2.1 _ _ rfl) rfl (by omega) (by decide) ?_ | refine mi_wbl rfl (HM.2.2 _ _ rfl) rfl (by omega) (by decide) ?_)
          refine HM.was rfl rfl rfl (by omega) (fun w HM hF => ?_)
          have hG := hG.tr hF
          repeat (first | refine mi_s1 (fun _ => rfl) ?_ | refine mi_wgf rfl HM.1 rfl ?_ | refine mi_wal rfl (HM.2.1 _ _ rfl) rfl (by omega) (by decide) ?_ | refine mi_wbl rfl (HM.2.2 _ _ rfl) rfl (by omega) (by decide) ?_)
          refine HM.was rfl rfl rfl (by omega) (fun w HM hF => ?_)
          have hG := hG.tr hF
          repeat (first | refine mi_s1 (fun _ => rfl) ?_ | refine mi_wgf rfl HM.1 rfl ?_ | refine mi_wal rfl (HM.2.1 _ _ rfl) rfl (by omega) (by decide) ?_ | refine mi_wbl rfl (HM.2.2 _ _ rfl) rfl (by omega) (by decide) ?_)
          have ev : upA (upA (upA a 81 (14 + (S.R 7).2.2.1.length) (nI rn)) 82 (14 + (S.R 7).2.2.1.length) (nI vn)) 83 (14 + (S.R 7).2.2.1.length) (nI un) 80 7 = nI (S.R 7).2.2.1.length := by
            rw [upA_o (by decide), upA_o (by decide), upA_o (by decide)]
            exact r5
          rw [ev, nI_add]
          refine HM.was rfl rfl rfl (by omega) (fun w HM hF => ?_)
          have hG := hG.tr hF
          repeat (first | refine mi_s1 (fun _ => rfl) ?_ | refine mi_wgf rfl HM.1 rfl ?_ | refine mi_wal rfl (HM.2.1 _ _ rfl) rfl (by omega) (by decide) ?_ | refine mi_wbl rfl (HM.2.2 _ _ rfl) rfl (by omega) (by decide) ?_)
          rw [upA_s, pk_us]
          refine mi_r1 (fun _ => rfl) ?_
          have hsl : ∀ o, 81 ≤ o → o < 84 → slo o (14 + (S.R 7).2.2.1.length) = 7 := fun o h1 h2 => slo_h (d := 7) h1 h2 hl
          have hSl : ∀ j, j ≠ 7 → Sl a (upA (upA (upA (upA a 81 (14 + (S.R 7).2.2.1.length) (nI rn)) 82 (14 + (S.R 7).2.2.1.length) (nI vn)) 83 (14 + (S.R 7).2.2.1.length) (nI un)) 80 7 (nI ((S.R 7).2.2.1.length + 1))) j := fun j hj => (((Sl.rf.up (by right; rw [hsl _ (by decide) (by decide)]; omega)).up (by right; rw [hsl _ (by decide) (by decide)]; omega)).up (by right; rw [hsl _ (by decide) (by decide)]; omega)).up (by right; rw [slo_o (by omega)]; omega)
          refine ⟨rfl, Md.r7 HM (HF.ff ((((Ff.rf.up (by decide)).up (by decide)).up (by decide)).up (by decide))) hSl HR H6 hn hs ?_, hG⟩
          · skip
            refine ⟨by simpa [upA, upd] using r1, r2, by simpa [upA, upd] using r3, r4, by simp [upA, upd], by simp; omega, fun k q hq => ?_, fun k q hq => ?_, by simpa [upA, upd] using r9.1, by simpa [upA, upd] using r9.2.1, r9.2.2.1, r9.2.2.2.1, fun q => absurd zk q⟩
            · rw [upA_o (p := 77) (by decide), upA_o (p := 78) (by decide), upA_o (p := 79) (by decide), upA_o (p := 77) (by decide), upA_o (p := 78) (by decide), upA_o (p := 79) (by decide), upA_o (p := 77) (by decide), upA_o (p := 78) (by decide), upA_o (p := 79) (by decide), upA_o (p := 77) (by decide), upA_o (p := 78) (by decide), upA_o (p := 79) (by decide)]
              exact r7 k q hq
            · rw [upA_o (p := 81) (by decide), upA_o (p := 82) (by decide), upA_o (p := 83) (by decide), upA_o (p := 81) (by decide), upA_o (p := 82) (by decide), upA_o (p := 81) (by decide), upA_s, upA_s, upA_s, upA_o (p := 82) (by decide), upA_o (p := 83) (by decide), upA_o (p := 83) (by decide)]
              rcases app_get hq with ⟨h1, h2⟩ | ⟨h1, h2⟩
              · rw [pk_un (by omega), pk_un (by omega), pk_un (by omega)]
                exact r8 k q h2
              · subst h1
                subst h2
                rw [show 2 * 7 + (S.R 7).2.2.1.length = 14 + (S.R 7).2.2.1.length from rfl, pk_us, pk_us, pk_us]
                exact ⟨rfl, rfl, rfl, hrn, hvn, hun⟩
    · exact bad _ (fun q => zk (by rw [q.2.1]; rfl))
theorem mv_pair (H : Md w S) (v u : Int32) : mi_Ex X 1 k_Mo_pair [.ref 71, .int v, .int u] w (fun q w1 => q = some (.int (op_pair S v u).1) ∧ Md w1 (op_pair S v u).2 ∧ mi_Fg w w1 71 94) := by
  obtain ⟨a, ls, lt, HM, HF, HR, H6, H7, hn, hs⟩ := id H
  have hG : mi_Fg w w 71 94 := mi_Fg.rf
  have bad : ¬ (S.hd = true ∧ (S.R 7).1 ≠ 0 ∧ inR v 4 ∧ inR u 4) → mi_wp X mi_P 0 m_Mo_pair (35, [some (.ref 71), some (.int v), some (.int u)], [], w) (fun q w1 => q = some (.int (op_pair S v u).1) ∧ Md w1 (op_pair S v u).2 ∧ mi_Fg w w1 71 94) := by
    intro h
    have e : op_pair S v u = (0, S) := if_neg h
    rw [e]
    repeat (first | refine mi_s1 (fun _ => rfl) ?_ | refine mi_wgf rfl (by assumption) rfl ?_ | refine mi_wal rfl (by assumption) rfl (by omega) (by decide) ?_)
    refine mi_wrz rfl rfl rfl ?_
    exact ⟨rfl, H, mi_Fg.rf⟩
  refine mi_Ex.of (M := m_Mo_pair) rfl (Nat.le_of_ble_eq_true rfl) ?_
  repeat (first | refine mi_s1 (fun _ => rfl) ?_ | refine mi_wgf rfl HM.1 rfl ?_ | refine mi_wal rfl (HM.2.1 _ _ rfl) rfl (by omega) (by decide) ?_ | refine mi_wbl rfl (HM.2.2 _ _ rfl) rfl (by omega) (by decide) ?_)
  refine mi_wif (fun z0 => ?_) (fun z0 => ?_)
  · exact bad (fun q => jb_0.mp z0 q.1)
  · have z0 := Decidable.not_not.mp (fun q => z0 (jb_0.mpr q))
    have R7 := H7 z0
    obtain ⟨r1, r2, r3, r4, r5, r6, r7, r8, r9⟩ := id R7
    repeat (first | refine mi_s1 (fun _ => rfl) ?_ | refine mi_wgf rfl HM.1 rfl ?_ | refine mi_wal rfl (HM.2.1 _ _ rfl) rfl (by omega) (by decide) ?_ | refine mi_wbl rfl (HM.2.2 _ _ rfl) rfl (by omega) (by decide) ?_)
    rw [r1]
    refine mi_wif (fun zk => ?_) (fun zk => ?_)
    · exact bad (fun q => q.2.1 ((nI_z (by omega)).mp zk))
    · have zk : (S.R 7).1 ≠ 0 := fun q => zk (by rw [q]; rfl)
      repeat (first | refine mi_s1 (fun _ => rfl) ?_ | refine mi_wgf rfl (by assumption) rfl ?_ | refine mi_wal rfl (by assumption) rfl (by omega) (by decide) ?_)
      refine mi_wif (fun z1 => ?_) (fun z1 => ?_)
      · exact bad (fun q => (inR_to (k := 3) (by decide) q.2.2.1).1 z1)
      · repeat (first | refine mi_s1 (fun _ => rfl) ?_ | refine mi_wgf rfl (by assumption) rfl ?_ | refine mi_wal rfl (by assumption) rfl (by omega) (by decide) ?_)
        refine mi_wif (fun z2 => ?_) (fun z2 => ?_)
        · exact bad (fun q => (inR_to (k := 3) (by decide) q.2.2.1).2 z2)
        · repeat (first | refine mi_s1 (fun _ => rfl) ?_ | refine mi_wgf rfl (by assumption) rfl ?_ | refine mi_wal rfl (by assumption) rfl (by omega) (by decide) ?_)
          refine mi_wif (fun z3 => ?_) (fun z3 => ?_)
          · exact bad (fun q => (inR_to (k := 3) (by decide) q.2.2.2).1 z3)
          · repeat (first | refine mi_s1 (fun _ => rfl) ?_ | refine mi_wgf rfl (by assumption) rfl ?_ | refine mi_wal rfl (by assumption) rfl (by omega) (by decide) ?_)
            refine mi_wif (fun z4 => ?_) (fun z4 => ?_)
            · have hv : inR v 4 := inR_of (k := 3) (by decide) z1 z2
              have hu : inR u 4 := inR_of (k := 3) (by decide) z3 (by simpa using z4)
              have e : op_pair S v u = _ := if_pos ⟨z0, zk, hv, hu⟩
              rw [e]
              obtain ⟨vn, hvn, rfl⟩ := (mi_rng (by decide)).mp hv
              obtain ⟨un, hun, rfl⟩ := (mi_rng (by decide)).mp hu
              rw [nI_clamp (n := vn) (by omega), nI_clamp (n := un) (by omega)]
              repeat (first | refine mi_s1 (fun _ => rfl) ?_ | refine mi_wgf rfl HM.1 rfl ?_ | refine mi_wal rfl (HM.2.1 _ _ rfl) rfl (by omega) (by decide) ?_ | refine mi_wbl rfl (HM.2.2 _ _ rfl) rfl (by omega) (by decide) ?_)
              refine HM.was rfl rfl rfl (by omega) (fun w HM hF => ?_)
              have hG := hG.tr hF
              repeat (first | refine mi_s1 (fun _ => rfl) ?_ | refine mi_wgf rfl HM.1 rfl ?_ | refine mi_wal rfl (HM.2.1 _ _ rfl) rfl (by omega) (by decide) ?_ | refine mi_wbl rfl (HM.2.2 _ _ rfl) rfl (by omega) (by decide) ?_)
              refine HM.was rfl rfl rfl (by omega) (fun w HM hF => ?_)
              have hG := hG.tr hF
              repeat (first | refine mi_s1 (fun _ => rfl) ?_ | refine mi_wgf rfl (by assumption) rfl ?_ | refine mi_wal rfl (by assumption) rfl (by omega) (by decide) ?_)
              refine mi_wrz rfl rfl rfl ?_
              have hSl : ∀ j, j ≠ 7 → Sl a (upA (upA a 84 7 (nI vn)) 85 7 (nI un)) j := fun j hj => (Sl.rf.up (by right; rw [slo_o (by omega)]; omega)).up (by right; rw [slo_o (by omega)]; omega)
              refine ⟨rfl, Md.r7 HM (HF.ff ((Ff.rf.up (by decide)).up (by decide))) hSl HR H6 hn hs ?_, hG⟩
              · skip
                refine ⟨by simpa [upA, upd] using r1, r2, by simpa [upA, upd] using r3, r4, by simpa [upA, upd] using r5, r6, fun k q hq => ?_, fun k q hq => ?_, by simp [upA, upd, enc], by simp [upA, upd, enc], fun v u h => by cases h; exact ⟨hvn, hun⟩, fun q => absurd q zk, r9.2.2.2.2⟩
                · rw [upA_o (p := 77) (by decide), upA_o (p := 78) (by decide), upA_o (p := 79) (by decide), upA_o (p := 77) (by decide), upA_o (p := 78) (by decide), upA_o (p := 79) (by decide)]
                  exact r7 k q hq
                · rw [upA_o (p := 81) (by decide), upA_o (p := 82) (by decide), upA_o (p := 83) (by decide), upA_o (p := 81) (by decide), upA_o (p := 82) (by decide), upA_o (p := 83) (by decide)]
                  exact r8 k q hq
            · exact bad (fun q => (inR_to (k := 3) (by decide) q.2.2.2).2 (by simpa using z4))
theorem mv_drop (H : Md w S) : mi_Ex X 1 k_Mo_drop [.ref 71] w (fun q w1 => q = some (.int (op_drop S).1) ∧ Md w1 (op_drop S).2 ∧ mi_Fg w w1 71 94) := by
  obtain ⟨a, ls, lt, HM, HF, HR, H6, H7, hn, hs⟩ := id H
  have hG : mi_Fg w w 71 94 := mi_Fg.rf
  refine mi_Ex.of (M := m_Mo_drop) rfl (Nat.le_of_ble_eq_true rfl) ?_
  repeat (first | refine mi_s1 (fun _ => rfl) ?_ | refine mi_wgf rfl HM.1 rfl ?_ | refine mi_wal rfl (HM.2.1 _ _ rfl) rfl (by omega) (by decide) ?_ | refine mi_wbl rfl (HM.2.2 _ _ rfl) rfl (by omega) (by decide) ?_)
  refine mi_wif (fun z => ?_) (fun z => ?_)
  · have e : op_drop S = (nI (S.n - 1), (S.F, S.R, S.n - 1, S.hd, S.hq, S.s)) := if_pos ((nI_z (n := S.s) (by omega)).mp z)
    rw [e]
    have go : ∀ x, x = nI (S.n - 1) → mi_wp X mi_P 0 m_Mo_drop (28, [some (.ref 71)], [.int x, .ref 71], w) (fun q w1 => q = some (.int (nI (S.n - 1))) ∧ Md w1 (S.F, S.R, S.n - 1, S.hd, S.hq, S.s) ∧ mi_Fg w w1 71 94) := by
      intro x hx
      subst hx
      refine mi_wpg rfl HM.1 (Nat.le_of_ble_eq_true rfl) rfl (fun w h0 hF => ?_)
      have HM := HM.sc ((ls.length, lt.length, S.n - 1, S.hq, S.hd, S.s)) h0 hF
      have hG := hG.tr (mi_Fg.of1 hF (by omega) (by omega))
      clear h0
      repeat (first | refine mi_s1 (fun _ => rfl) ?_ | refine mi_wgf rfl HM.1 rfl ?_ | refine mi_wal rfl (HM.2.1 _ _ rfl) rfl (by omega) (by decide) ?_ | refine mi_wbl rfl (HM.2.2 _ _ rfl) rfl (by omega) (by decide) ?_)
      refine mi_r1 (fun _ => rfl) ?_
      refine ⟨rfl, ⟨a, ls, lt, HM, HF, fun i hi => HR i ?_, H6, H7, ?_, hs⟩, hG⟩
      · have : i < S.n - 1 := hi
        omega
      · show S.n - 1 ≤ 6
        omega
    repeat (first | refine mi_s1 (fun _ => rfl) ?_ | refine mi_wgf rfl HM.1 rfl ?_ | refine mi_wal rfl (HM.2.1 _ _ rfl) rfl (by omega) (by decide) ?_ | refine mi_wbl rfl (HM.2.2 _ _ rfl) rfl (by omega) (by decide) ?_)
    refine mi_wif (fun z1 => ?_) (fun z1 => ?_)
    · have z1 : S.n = 0 := (nI_z (n := S.n) (by omega)).mp z1
      refine mi_s1 (fun _ => rfl) ?_; refine mi_s1 (fun _ => rfl) ?_
      exact go _ (by rw [z1])
    · have z1 : S.n ≠ 0 := fun q => z1 (by rw [q]; rfl)
      (first | refine mi_s1 (fun _ => rfl) ?_ | refine mi_wgf rfl HM.1 rfl ?_ | refine mi_wal rfl (HM.2.1 _ _ rfl) rfl (by omega) (by decide) ?_ | refine mi_wbl rfl (HM.2.2 _ _ rfl) rfl (by omega) (by decide) ?_); (first | refine mi_s1 (fun _ => rfl) ?_ | refine mi_wgf rfl HM.1 rfl ?_ | refine mi_wal rfl (HM.2.1 _ _ rfl) rfl (by omega) (by decide) ?_ | refine mi_wbl rfl (HM.2.2 _ _ rfl) rfl (by omega) (by decide) ?_); (first | refine mi_s1 (fun _ => rfl) ?_ | refine mi_wgf rfl HM.1 rfl ?_ | refine mi_wal rfl (HM.2.1 _ _ rfl) rfl (by omega) (by decide) ?_ | refine mi_wbl rfl (HM.2.2 _ _ rfl) rfl (by omega) (by decide) ?_); (first | refine mi_s1 (fun _ => rfl) ?_ | refine mi_wgf rfl HM.1 rfl ?_ | refine mi_wal rfl (HM.2.1 _ _ rfl) rfl (by omega) (by decide) ?_ | refine mi_wbl rfl (HM.2.2 _ _ rfl) rfl (by omega) (by decide) ?_)
      exact go _ (pk_sub (a := S.n) (by omega))
  · have e : op_drop S = (-3, S) := if_neg (fun q => z (by rw [q]; rfl))
    rw [e]
    repeat (first | refine mi_s1 (fun _ => rfl) ?_ | refine mi_wgf rfl (by assumption) rfl ?_ | refine mi_wal rfl (by assumption) rfl (by omega) (by decide) ?_)
    refine mi_r1 (fun _ => rfl) ?_
    exact ⟨rfl, H, mi_Fg.rf⟩
end MBuild
