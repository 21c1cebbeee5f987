/-! rules for walking the small machine where the heap is known by single cells -/
section MiRules
variable {X : mi_X} {P : List mi_M} {d : Nat} {M : mi_M} {Q : Option Value → mi_H → Prop} {pc n a b idx : Nat} {v : Int32} {L : mi_L} {r : List Value} {w : mi_H}
theorem mi_wgf {o : Nat} {fs : List Value} {x : Value} (hf : M.2.2[pc]? = some (some (.getfield idx, n, a, b, v))) (hw : w[o]? = some (.inr (a, fs))) (hx : fs[b]? = some x) (k : mi_wp X P d M (n, L, x :: r, w) Q) : mi_wp X P d M (pc, L, .ref o :: r, w) Q := by
  refine mi_wst (f' := (n, L, x :: r, w)) (fun cal => ?_) k
  simp only [mi_step, hf, mi_ins, hw, hx, if_true]
theorem mi_wpf {o : Nat} {fs : List Value} {x : Value} (hf : M.2.2[pc]? = some (some (.putfield idx, n, a, b, v))) (hw : w[o]? = some (.inr (a, fs))) (hb : b < fs.length) (hx : mi_fit (mi_ft a b) x = true) (k : mi_wp X P d M (n, L, r, w.set o (.inr (a, fs.set b x))) Q) : mi_wp X P d M (pc, L, x :: .ref o :: r, w) Q := by
  refine mi_wst (f' := (n, L, r, w.set o (.inr (a, fs.set b x)))) (fun cal => ?_) k
  simp only [mi_step, hf, mi_ins, hw, hb, hx, and_self, if_true]
theorem mi_inI {j : Int32} {i k : Nat} (hj : j = nI i) (hi : i < k) (hk : k < 2 ^ 31) : ¬ (j < 0 ∨ k ≤ i) ∧ j.toNatClampNeg = i := by
  subst hj
  exact ⟨fun q => q.elim (nI_pos (by omega)) (by omega), nI_clamp (by omega)⟩
theorem mi_wal {o k i : Nat} {f : Nat → Int32} {j : Int32} (hf : M.2.2[pc]? = some (some (.iaload, n, a, b, v))) (hw : w[o]? = some (.inl (0, k, .inl f))) (hj : j = nI i) (hi : i < k) (hk : k < 2 ^ 31) (kk : mi_wp X P d M (n, L, .int (f i) :: r, w) Q) : mi_wp X P d M (pc, L, .int j :: .ref o :: r, w) Q := by
  obtain ⟨h1, h2⟩ := mi_inI hj hi hk
  refine mi_wst (f' := (n, L, .int (f i) :: r, w)) (fun cal => ?_) kk
  simp only [mi_step, hf, mi_ins, hw, h1, h2, if_false]
theorem mi_was {o k i : Nat} {f : Nat → Int32} {j x : Int32} (hf : M.2.2[pc]? = some (some (.iastore, n, a, b, v))) (hw : w[o]? = some (.inl (0, k, .inl f))) (hj : j = nI i) (hi : i < k) (hk : k < 2 ^ 31) (kk : mi_wp X P d M (n, L, r, w.set o (.inl (0, k, .inl (upd f i x)))) Q) : mi_wp X P d M (pc, L, .int x :: .int j :: .ref o :: r, w) Q := by
  obtain ⟨h1, h2⟩ := mi_inI hj hi hk
  refine mi_wst (f' := (n, L, r, w.set o (.inl (0, k, .inl (upd f i x))))) (fun cal => ?_) kk
  simp only [mi_step, hf, mi_ins, hw, h1, h2, if_false]
theorem mi_wbl {o k i : Nat} {f : Nat → Int32} {j : Int32} (hf : M.2.2[pc]? = some (some (.baload, n, a, b, v))) (hw : w[o]? = some (.inl (1, k, .inl f))) (hj : j = nI i) (hi : i < k) (hk : k < 2 ^ 31) (kk : mi_wp X P d M (n, L, .int (f i) :: r, w) Q) : mi_wp X P d M (pc, L, .int j :: .ref o :: r, w) Q := by
  obtain ⟨h1, h2⟩ := mi_inI hj hi hk
  refine mi_wst (f' := (n, L, .int (f i) :: r, w)) (fun cal => ?_) kk
  simp only [mi_step, hf, mi_ins, hw, h1, h2, if_false]
theorem mi_wbs {o k i : Nat} {f : Nat → Int32} {j x : Int32} (hf : M.2.2[pc]? = some (some (.bastore, n, a, b, v))) (hw : w[o]? = some (.inl (1, k, .inl f))) (hj : j = nI i) (hi : i < k) (hk : k < 2 ^ 31) (kk : mi_wp X P d M (n, L, r, w.set o (.inl (1, k, .inl (upd f i (x &&& 1))))) Q) : mi_wp X P d M (pc, L, .int x :: .int j :: .ref o :: r, w) Q := by
  obtain ⟨h1, h2⟩ := mi_inI hj hi hk
  refine mi_wst (f' := (n, L, r, w.set o (.inl (1, k, .inl (upd f i (x &&& 1)))))) (fun cal => ?_) kk
  simp only [mi_step, hf, mi_ins, hw, h1, h2, if_false]
theorem mi_waa {o k i t : Nat} {g : Nat → Option Nat} {j : Int32} (hf : M.2.2[pc]? = some (some (.aaload, n, a, b, v))) (hw : w[o]? = some (.inl (t, k, .inr (.inr (.inr (.inr g)))))) (ht : 2 ≤ t ∧ t < mi_nty) (hj : j = nI i) (hi : i < k) (hk : k < 2 ^ 31) (kk : mi_wp X P d M (n, L, va_rf (g i) :: r, w) Q) : mi_wp X P d M (pc, L, .int j :: .ref o :: r, w) Q := by
  obtain ⟨h1, h2⟩ := mi_inI hj hi hk
  have h3 : ¬ (t < 2 ∨ mi_nty ≤ t ∨ j < 0 ∨ k ≤ i) := by
    rintro (q | q | q)
    · omega
    · omega
    · exact h1 q
  refine mi_wst (f' := (n, L, va_rf (g i) :: r, w)) (fun cal => ?_) kk
  simp only [mi_step, hf, mi_ins, hw, h3, h2, if_false]
theorem mi_waas {o k i t x c : Nat} {g : Nat → Option Nat} {j : Int32} {fs : List Value} (hf : M.2.2[pc]? = some (some (.aastore, n, a, b, v))) (hw : w[o]? = some (.inl (t, k, .inr (.inr (.inr (.inr g)))))) (hx : w[x]? = some (.inr (c, fs))) (ht : 2 ≤ t ∧ t < mi_nty ∧ mi_comp t = c) (hj : j = nI i) (hi : i < k) (hk : k < 2 ^ 31) (kk : mi_wp X P d M (n, L, r, w.set o (.inl (t, k, .inr (.inr (.inr (.inr (va_up g i (some x)))))))) Q) : mi_wp X P d M (pc, L, .ref x :: .int j :: .ref o :: r, w) Q := by
  obtain ⟨h1, h2⟩ := mi_inI hj hi hk
  have h3 : ¬ (t < 2 ∨ mi_nty ≤ t ∨ mi_comp t ≠ c ∨ j < 0 ∨ k ≤ i) := by
    rintro (q | q | q | q)
    · omega
    · omega
    · exact q ht.2.2
    · exact h1 q
  refine mi_wst (f' := (n, L, r, w.set o (.inl (t, k, .inr (.inr (.inr (.inr (va_up g i (some x))))))))) (fun cal => ?_) kk
  simp only [mi_step, hf, mi_ins, hw, hx, h3, h2, if_false]
theorem mi_wlen {o k t : Nat} {y : (Nat → Int32) ⊕ (Nat → Int64) ⊕ (Nat → UInt32) ⊕ (Nat → UInt64) ⊕ (Nat → Option Nat)} (hf : M.2.2[pc]? = some (some (.arraylength, n, a, b, v))) (hw : w[o]? = some (.inl (t, k, y))) (ht : t < mi_nty) (kk : mi_wp X P d M (n, L, .int (nI k) :: r, w) Q) : mi_wp X P d M (pc, L, .ref o :: r, w) Q := by
  refine mi_wst (f' := (n, L, .int (nI k) :: r, w)) (fun cal => ?_) kk
  simp only [mi_step, hf, mi_ins, hw, ht, if_true]
  rfl
/-- a call of a method of the object on the stack -/
theorem mi_wcv {st : List Value} {o c : Nat} {fs : List Value} {r1 : Option Value} {w1 : mi_H} (hf : M.2.2[pc]? = some (some (.invokevirtual idx, n, a, b, v))) (hs : st[b]? = some (.ref o)) (hl : st.length ≤ b + 9) (hw : w[o]? = some (.inr (c, fs))) (hc : c = mi_mc a) (he : mi_Ev X P d a (st.take (b + 1)).reverse w r1 w1) (kk : mi_wp X P d M (n, L, r1.toList ++ st.drop (b + 1), w1) Q) : mi_wp X P d M (pc, L, st, w) Q := by
  refine mi_wca (g := fun r w => (n, L, r.toList ++ st.drop (b + 1), w)) (fun cal => ?_) he kk
  simp only [mi_step, hf, mi_ins, hs, hw, hc, hl, and_self, if_true]
theorem mi_wci {st : List Value} {o : Nat} {r1 : Option Value} {w1 : mi_H} (hf : M.2.2[pc]? = some (some (.invokespecial idx, n, a, b, v))) (hb : ¬ b = 99) (hs : st[b]? = some (.ref o)) (hl : st.length ≤ b + 9) (he : mi_Ev X P d a (st.take (b + 1)).reverse w r1 w1) (kk : mi_wp X P d M (n, L, r1.toList ++ st.drop (b + 1), w1) Q) : mi_wp X P d M (pc, L, st, w) Q := by
  refine mi_wca (g := fun r w => (n, L, r.toList ++ st.drop (b + 1), w)) (fun cal => ?_) he kk
  simp only [mi_step, hf, mi_ins, hb, hs, hl, if_true, if_false]
theorem mi_wcs {st : List Value} {r1 : Option Value} {w1 : mi_H} (hf : M.2.2[pc]? = some (some (.invokestatic idx, n, a, b, v))) (hb : b < 90) (hl : b ≤ st.length ∧ st.length ≤ b + 8) (he : mi_Ev X P d a (st.take b).reverse w r1 w1) (kk : mi_wp X P d M (n, L, r1.toList ++ st.drop b, w1) Q) : mi_wp X P d M (pc, L, st, w) Q := by
  refine mi_wca (g := fun r w => (n, L, r.toList ++ st.drop b, w)) (fun cal => ?_) he kk
  have h1 : ¬ b = 99 := by omega
  have h2 : ¬ b = 98 := by omega
  have h3 : ¬ b = 97 := by omega
  simp only [mi_step, hf, mi_ins, h1, h2, h3, hl, if_true, if_false, and_self]
/-- a straight instruction -/
def mi_sc (X : mi_X) (cal : mi_C) (M : mi_M) (pc : Nat) (L : mi_L) (st : List Value) (w : mi_H) : Option mi_R :=
  match M.2.2[pc]? with
  | some (some (i, n, a, b, v)) => mi_ins X cal M.1 i n a b v pc L st w
  | _ => none
theorem mi_s1 {st : List Value} {f' : mi_F} (h : ∀ cal, mi_sc X cal M pc L st w = some (.inl f')) (k : mi_wp X P d M f' Q) : mi_wp X P d M (pc, L, st, w) Q := mi_wst (f := (pc, L, st, w)) h k
theorem mi_r1 {st : List Value} {q : Option Value} {w1 : mi_H} (h : ∀ cal, mi_sc X cal M pc L st w = some (.inr (q, w1))) (k : Q q w1) : mi_wp X P d M (pc, L, st, w) Q := mi_wrt (f := (pc, L, st, w)) h k
/-- fewer known locals -/
theorem mi_lt {c : Prop} {x y : Nat} [Decidable c] (h : c) : (if c then x else y) = x := if_pos h
theorem mi_lf {c : Prop} {x y : Nat} [Decidable c] (h : ¬ c) : (if c then x else y) = y := if_neg h
end MiRules
/-! what a method leaves as it was -/
def mi_Fr (w w' : mi_H) (S : List Nat) : Prop := w'.length = w.length ∧ ∀ o, o ∉ S → w'[o]? = w[o]?
theorem mi_Fr.rf {w : mi_H} {S : List Nat} : mi_Fr w w S := ⟨rfl, fun _ _ => rfl⟩
theorem mi_Fr.tr {w w1 w2 : mi_H} {S : List Nat} (h1 : mi_Fr w w1 S) (h2 : mi_Fr w1 w2 S) : mi_Fr w w2 S := ⟨h2.1.trans h1.1, fun o ho => (h2.2 o ho).trans (h1.2 o ho)⟩
theorem mi_Fr.mono {w w1 : mi_H} {S T : List Nat} (h : mi_Fr w w1 S) (hs : ∀ o ∈ S, o ∈ T) : mi_Fr w w1 T := ⟨h.1, fun o ho => h.2 o (fun q => ho (hs o q))⟩
theorem mi_Fr.set {w w1 : mi_H} {S : List Nat} {o : Nat} {e : va_E} (h : mi_Fr w w1 S) (ho : o ∈ S) : mi_Fr w (w1.set o e) S := ⟨by rw [List.length_set]; exact h.1, fun q hq => by
  have hne : o ≠ q := fun z => hq (by rw [← z]; exact ho)
  rw [List.getElem?_set_ne hne]
  exact h.2 q hq⟩
theorem mi_Fr.get {w w1 : mi_H} {S : List Nat} {o : Nat} {e : va_E} (h : mi_Fr w w1 S) (ho : o ∉ S) (hw : w[o]? = some e) : w1[o]? = some e := (h.2 o ho).trans hw
theorem mi_gs {w : mi_H} {o : Nat} {e0 e : va_E} (h : w[o]? = some e0) : (w.set o e)[o]? = some e := by
  rw [List.getElem?_set_self (List.getElem?_eq_some_iff.mp h).1]
theorem mi_gn {w : mi_H} {o q : Nat} {e e' : va_E} (hne : o ≠ q) (h : w[q]? = some e') : (w.set o e)[q]? = some e' := by
  rw [List.getElem?_set_ne hne]
  exact h
