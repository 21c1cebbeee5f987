/-! rules that give the heap behind a store by single cells -/
section MiRules2
variable {X : mi_X} {P : List mi_M} {d : Nat} {M : mi_M} {Q : Option Value → mi_H → Prop} {pc n a b idx : Nat} {v : Int32} {L : mi_L} {r : List Value} {w : mi_H}
theorem mi_Fr.one {o : Nat} {e : va_E} : mi_Fr w (w.set o e) [o] := mi_Fr.set mi_Fr.rf (List.mem_singleton.mpr rfl)
theorem mi_wpg {o : Nat} {fs : List Value} {x : Value} (hf : M.2.2[pc]? = some (some (.putfield idx, n, a, b, v))) (hw : w[o]? = some (.inr (a, fs))) (hb : b < fs.length) (hx : mi_fit (mi_ft a b) x = true) (k : ∀ w1 : mi_H, w1[o]? = some (.inr (a, fs.set b x)) → mi_Fr w w1 [o] → mi_wp X P d M (n, L, r, w1) Q) : mi_wp X P d M (pc, L, x :: .ref o :: r, w) Q :=
  mi_wpf hf hw hb hx (k _ (mi_gs hw) mi_Fr.one)
theorem mi_wag {o k i : Nat} {f : Nat → Int32} {j x : Int32} (hf : M.2.2[pc]? = some (some (.iastore, n, a, b, v))) (hw : w[o]? = some (.inl (0, k, .inl f))) (hj : j = nI i) (hi : i < k) (hk : k < 2 ^ 31) (kk : ∀ w1 : mi_H, w1[o]? = some (.inl (0, k, .inl (upd f i x))) → mi_Fr w w1 [o] → mi_wp X P d M (n, L, r, w1) Q) : mi_wp X P d M (pc, L, .int x :: .int j :: .ref o :: r, w) Q :=
  mi_was hf hw hj hi hk (kk _ (mi_gs hw) mi_Fr.one)
theorem mi_wbg {o k i : Nat} {f : Nat → Int32} {j x : Int32} (hf : M.2.2[pc]? = some (some (.bastore, n, a, b, v))) (hw : w[o]? = some (.inl (1, k, .inl f))) (hj : j = nI i) (hi : i < k) (hk : k < 2 ^ 31) (kk : ∀ w1 : mi_H, w1[o]? = some (.inl (1, k, .inl (upd f i (x &&& 1)))) → mi_Fr w w1 [o] → mi_wp X P d M (n, L, r, w1) Q) : mi_wp X P d M (pc, L, .int x :: .int j :: .ref o :: r, w) Q :=
  mi_wbs hf hw hj hi hk (kk _ (mi_gs hw) mi_Fr.one)
end MiRules2
/-- a method's answer and heap, by what holds of them -/
def mi_Ex (X : mi_X) (d k : Nat) (as : List Value) (w : mi_H) (Q : Option Value → mi_H → Prop) : Prop := ∃ r w', mi_Ev X mi_P d k as w r w' ∧ Q r w'
theorem mi_Ex.of {X : mi_X} {d k : Nat} {as : List Value} {w : mi_H} {M : mi_M} {Q : Option Value → mi_H → Prop} (hM : mi_P[k]? = some M) (hl : as.length ≤ M.2.1) (h : mi_wp X mi_P d M (0, mi_ent M.2.1 as, [], w) Q) : mi_Ex X (d + 1) k as w Q := by
  obtain ⟨n, r, w1, h1, h2⟩ := h
  refine ⟨r, w1, ⟨n, ?_⟩, h2⟩
  unfold mi_ev
  simp only [hM, hl, if_true]
  exact h1
theorem mi_Ex.up {X : mi_X} {d d' k : Nat} {as : List Value} {w : mi_H} {Q : Option Value → mi_H → Prop} (h : mi_Ex X d k as w Q) (hd : d ≤ d') : mi_Ex X d' k as w Q := by
  obtain ⟨r, w1, h1, h2⟩ := h
  exact ⟨r, w1, h1.up hd, h2⟩
