/-! from steps to runs, from runs to contracts -/
theorem mi_ins_end {X : mi_X} {cal : mi_C} {ret : Option FieldType} {i : Instr} {n a b : Nat} {v : Int32} {pc : Nat} {L : mi_L} {st : List Value} {w : mi_H} {r : Option Value} {w' : mi_H} (h : mi_ins X cal ret i n a b v pc L st w = some (.inr (r, w'))) : w' = w ∧ ((i = .ireturn ∧ ∃ x ty, st = [.int x] ∧ ret = some ty ∧ mi_fit ty (.int x) = true ∧ r = some (.int x)) ∨ (i = .areturn ∧ ∃ x ty, st = [x] ∧ ret = some ty ∧ ((∃ n, ty = .object n) ∨ ∃ t, ty = .array t) ∧ (x = .null ∨ ∃ a, x = .ref a) ∧ r = some x) ∨ (i = .return_ ∧ st = [] ∧ ret = none ∧ r = none)) := by
  cases i
  case ireturn =>
    simp only [mi_ins] at h
    split at h
    · split at h
      · rename_i hf
        cases h
        exact ⟨rfl, Or.inl ⟨rfl, _, _, rfl, rfl, hf, rfl⟩⟩
      · cases h
    · cases h
  case areturn =>
    simp only [mi_ins] at h
    split at h
    · cases h
      exact ⟨rfl, Or.inr (Or.inl ⟨rfl, _, _, rfl, rfl, Or.inl ⟨_, rfl⟩, Or.inr ⟨_, rfl⟩, rfl⟩)⟩
    · cases h
      exact ⟨rfl, Or.inr (Or.inl ⟨rfl, _, _, rfl, rfl, Or.inl ⟨_, rfl⟩, Or.inl rfl, rfl⟩)⟩
    · cases h
      exact ⟨rfl, Or.inr (Or.inl ⟨rfl, _, _, rfl, rfl, Or.inr ⟨_, rfl⟩, Or.inr ⟨_, rfl⟩, rfl⟩)⟩
    · cases h
      exact ⟨rfl, Or.inr (Or.inl ⟨rfl, _, _, rfl, rfl, Or.inr ⟨_, rfl⟩, Or.inl rfl, rfl⟩)⟩
    · cases h
  case return_ =>
    simp only [mi_ins] at h
    split at h
    · cases h
      exact ⟨rfl, Or.inr (Or.inr ⟨rfl, rfl, rfl, rfl⟩)⟩
    · cases h
  case ifCond q o => cases q <;> (exfalso; simp only [mi_ins] at h; split at h <;> cases h)
  case if_icmp q o => cases q <;> (exfalso; simp only [mi_ins] at h; split at h <;> cases h)
  all_goals (exfalso; simp only [mi_ins] at h)
  all_goals repeat' (first | (cases h; done) | split at h)
theorem mi_ins_grow {X : mi_X} {cal : mi_C} {ret : Option FieldType} {i : Instr} {n a b : Nat} {v : Int32} {pc : Nat} {L : mi_L} {st : List Value} {w : mi_H} {f' : mi_F} (hg : ∀ k as w r w', cal k as w = some (r, w') → w.length ≤ w'.length ∧ mi_sz w ≤ mi_sz w') (h : mi_ins X cal ret i n a b v pc L st w = some (.inl f')) : w.length ≤ f'.2.2.2.length ∧ mi_sz w ≤ mi_sz f'.2.2.2 := by
  have hset : ∀ (k : Nat) (e e' : va_E), w[k]? = some e → mi_es e' = mi_es e → w.length ≤ (w.set k e').length ∧ mi_sz w ≤ mi_sz (w.set k e') := fun k e e' h1 h2 => ⟨by rw [List.length_set]; exact Nat.le_refl _, by rw [mi_sz_set h1 h2]; exact Nat.le_refl _⟩
  have hpush : ∀ e : va_E, w.length ≤ (w ++ [e]).length ∧ mi_sz w ≤ mi_sz (w ++ [e]) := fun e => ⟨by rw [List.length_append]; exact Nat.le_add_right _ _, by rw [mi_sz_push]; exact Nat.le_add_right _ _⟩
  cases i
  case ifCond q o => cases q <;> (simp only [mi_ins] at h; split at h <;> first | (cases h; exact ⟨Nat.le_refl _, Nat.le_refl _⟩) | (cases h; done))
  case if_icmp q o => cases q <;> (simp only [mi_ins] at h; split at h <;> first | (cases h; exact ⟨Nat.le_refl _, Nat.le_refl _⟩) | (cases h; done))
  case putfield x =>
    simp only [mi_ins] at h
    split at h
    · split at h
      · rename_i hw
        split at h
        · cases h
          exact hset _ _ _ hw (by simp [mi_es])
        · cases h
      · cases h
    · cases h
  case iastore =>
    simp only [mi_ins] at h
    split at h
    · split at h
      · rename_i hw
        split at h
        · cases h
        · cases h
          exact hset _ _ _ hw rfl
      · cases h
    · cases h
  case bastore =>
    simp only [mi_ins] at h
    split at h
    · split at h
      · rename_i hw
        split at h
        · cases h
        · cases h
          exact hset _ _ _ hw rfl
      · cases h
    · cases h
  case aastore =>
    simp only [mi_ins] at h
    split at h
    · split at h
      · rename_i hw hv
        split at h
        · cases h
        · cases h
          exact hset _ _ _ hw rfl
      · cases h
    · cases h
  case new x =>
    cases h
    exact hpush _
  case newarray x =>
    simp only [mi_ins] at h
    split at h
    · split at h
      · cases h
      · cases h
        exact hpush _
    · cases h
  case anewarray x =>
    simp only [mi_ins] at h
    split at h
    · split at h
      · cases h
      · cases h
        exact hpush _
    · cases h
  case invokestatic x =>
    simp only [mi_ins] at h
    split at h
    · split at h
      · split at h
        · rename_i hq ho
          split at h
          · cases h
          · cases h
            exact hset _ _ _ ho rfl
        · cases h
      · cases h
    · split at h
      · split at h
        · split at h
          · cases h
            exact ⟨Nat.le_refl _, Nat.le_refl _⟩
          · cases h
        · cases h
      · split at h
        · split at h
          · split at h
            · cases h
              exact ⟨Nat.le_refl _, Nat.le_refl _⟩
            · cases h
          · cases h
        · split at h
          · split at h
            · rename_i q hq
              cases h
              exact hg _ _ _ _ _ hq
            · cases h
          · cases h
  case invokevirtual x =>
    simp only [mi_ins] at h
    split at h
    · split at h
      · split at h
        · split at h
          · rename_i q hq
            cases h
            exact hg _ _ _ _ _ hq
          · cases h
        · cases h
      · cases h
    · cases h
  case invokespecial x =>
    simp only [mi_ins] at h
    split at h
    · split at h
      · split at h
        · cases h
          exact ⟨Nat.le_refl _, Nat.le_refl _⟩
        · cases h
      · cases h
    · split at h
      · split at h
        · split at h
          · rename_i q hq
            cases h
            exact hg _ _ _ _ _ hq
          · cases h
        · cases h
      · cases h
  all_goals simp only [mi_ins] at h
  all_goals repeat' (first | (cases h; exact ⟨Nat.le_refl _, Nat.le_refl _⟩) | (cases h; done) | split at h)
theorem mi_run_grow {X : mi_X} {cal : mi_C} {M : mi_M} (hg : ∀ k as w r w', cal k as w = some (r, w') → w.length ≤ w'.length ∧ mi_sz w ≤ mi_sz w') : ∀ (n : Nat) (f : mi_F) (r : Option Value) (w' : mi_H), mi_run X cal M n f = some (r, w') → f.2.2.2.length ≤ w'.length ∧ mi_sz f.2.2.2 ≤ mi_sz w'
  | 0, _, _, _, h => by cases h
  | n + 1, f, r, w', h => by
    unfold mi_run at h
    split at h
    · rename_i f' hf
      have h1 := mi_run_grow hg n f' r w' h
      unfold mi_step at hf
      split at hf
      · have h2 := mi_ins_grow hg hf
        exact ⟨Nat.le_trans h2.1 h1.1, Nat.le_trans h2.2 h1.2⟩
      · cases hf
    · rename_i q hf
      cases h
      unfold mi_step at hf
      split at hf
      · obtain ⟨rfl, -⟩ := mi_ins_end hf
        exact ⟨Nat.le_refl _, Nat.le_refl _⟩
      · cases hf
    · cases h
section MiMet
variable {p : Program} {l : Launch} {e : Env} {R : Room} {s : State} {m : MethodId} {args : Array Value} {below : List Frame} {meth : Method} {c : Code} {Q : State → Prop} {D : va_G} {ca : Nat → ClassId} {B b : Nat} {X : mi_X} {own : String} {cc : ByteArray} {nL n0 z0 : Nat}
theorem mi_run_ok {P : List mi_M} {cal : mi_C} {M : mi_M} {ini : Bool} (hini : ini = true → meth.name = "<init>") (F : mi_Fx p s m args c D ca B b X own cc nL) (hC : mi_clOk) (hN : mi_nmOk P) (hcal : mi_calOk l R D ca B b X P cal) (hI : ∀ (a : Nat) (q : MethodName × ByteArray × Nat) (M : mi_M), mi_nm[a]? = some q → q.1.name = "<init>" → P[a]? = some M → M.1 = none) (hR : 1 ≤ R.frames ∧ mi_KK ≤ R.locals)
    (hok : ∀ pc q, M.2.2[pc]? = some (some q) → mi_okB own cc nL ini pc q = true) : ∀ (n : Nat) (f : mi_F) (r : Option Value) (w' : mi_H), mi_run X cal M n f = some (r, w') → n0 ≤ f.2.2.2.length → z0 ≤ mi_sz f.2.2.2 → w'.length - n0 ≤ R.cells → mi_sz w' - z0 ≤ R.slots → (∀ g, mi_step X cal M g = some (.inr (r, w')) → mi_At p l e R s m args below meth c Q D ca B b nL n0 z0 g) → mi_At p l e R s m args below meth c Q D ca B b nL n0 z0 f
  | 0, _, _, _, h, _, _, _, _, _ => by cases h
  | n + 1, f, r, w', h, h1, h2, h3, h4, hrt => by
    have hg : ∀ k as w r w', cal k as w = some (r, w') → w.length ≤ w'.length ∧ mi_sz w ≤ mi_sz w' := fun k as w r w' hc => ⟨(hcal k as w r w' hc).1, (hcal k as w r w' hc).2.1⟩
    unfold mi_run at h
    split at h
    · rename_i f' hf
      have hr := mi_run_grow hg n f' r w' h
      have hf2 := hf
      unfold mi_step at hf
      split at hf
      · rename_i i n1 a k v hq
        have g1 := mi_ins_grow hg hf
        have ih := mi_run_ok hini F hC hN hcal hI hR hok n f' r w' h (Nat.le_trans h1 g1.1) (Nat.le_trans h2 g1.2) h3 h4 hrt
        exact mi_ins_ok hini F hC hN hcal hI hR (hok _ _ hq) ⟨h1, h2⟩ hf ⟨by omega, by omega⟩ ih
      · cases hf
    · rename_i q hf
      cases h
      exact hrt f hf
    · cases h
end MiMet
/-- every method's contract, by its depth -/
theorem mi_met (l : Launch) (D : va_G) (ca : Nat → ClassId) {B b : Nat} (hbB : b < B) (X : mi_X) {P : List mi_M} (hC : mi_clOk) (hN : mi_nmOk P) (hI : ∀ (a : Nat) (q : MethodName × ByteArray × Nat) (M : mi_M), mi_nm[a]? = some q → q.1.name = "<init>" → P[a]? = some M → M.1 = none) (n : Nat) : ∀ (d k : Nat) (as : List Value) (w : mi_H) (r : Option Value) (w' : mi_H), mi_ev X P n d k as w = some (r, w') → w.length ≤ w'.length ∧ mi_sz w ≤ mi_sz w' ∧ ∃ d' M, d = d' + 1 ∧ P[k]? = some M ∧ mi_Con l D ca B b X P k d' as w r w'
  | 0, _, _, _, _, _, h => by cases h
  | d + 1, k, as, w, r, w', h => by
    have ih := mi_met l D ca hbB X hC hN hI n d
    unfold mi_ev at h
    split at h
    · rename_i M hM
      split at h
      · rename_i hlen
        have hg := mi_run_grow (fun k as w r w' hc => ⟨(ih k as w r w' hc).1, (ih k as w r w' hc).2.1⟩) n _ r w' h
        refine ⟨hg.1, hg.2, d, M, rfl, hM, ?_⟩
        intro y code np M' hnm hM'
        cases hM.symm.trans hM'
        obtain ⟨y', code', np', hnm', hcode, hpl, hmh, hvh, hpar, hKK, hok⟩ := hN k M hM
        cases hnm.symm.trans hnm'
        refine Met.ofW (cc := code) (maxL := M.2.1) (ret := M.1) hpl rfl ?_
        intro p e s m args below meth c s₁ Bd hml hv
        obtain ⟨rfl, hP, hsz, hKx⟩ := hv
        have hts := atoms_spec (ws := mi_wsM y code M) Bd.pre
        have F : mi_Fx p s m (as.map (mi_tr B b)).toArray c D ca B b X y.cls code M.2.1 := ⟨Bd.exec, Bd.bytes, hml, findClass_of_methodNamed Bd.named, fun w hw => hts w (List.mem_cons_of_mem _ hw), hKx, hbB, by omega⟩
        have hini : decide (y.name = "<init>") = true → meth.name = "<init>" := fun hq => by
          rw [(name_of_methodNamed Bd.named Bd.method).1]
          exact of_decide_eq_true hq
        have hlocks := Bd.notSynchronized
        have hcal : mi_calOk l (mi_rm d w w') D ca B b X P (mi_ev X P n d) := by
          intro k as w1 r1 w2 hc
          obtain ⟨i1, i2, d', M1, rfl, i4, i5⟩ := ih k as w1 r1 w2 hc
          exact ⟨i1, i2, d', M1, i4, Nat.le_refl _, Nat.le_refl _, i5⟩
        obtain ⟨ls, e1, e2⟩ := mi_has_ent (B := B) (b := b) hlen m
        rw [e1]
        have key := mi_run_ok (Q := MQ below (mi_Qc D ca B b r w') (as.map (mi_tr B b)).toArray s (w'.length - w.length) (mi_sz w' - mi_sz w) (fun q => B ≤ q)) (l := l) (e := e) (R := mi_rm d w w') (below := below) (n0 := w.length) (z0 := mi_sz w) hini F hC hN hcal hI ⟨Nat.succ_le_succ (Nat.zero_le d), Nat.le_mul_of_pos_left _ (Nat.succ_pos d)⟩ hok n _ r w' h (Nat.le_refl _) (Nat.le_refl _) (Nat.le_refl _) (Nat.le_refl _) ?_ s.heap [] ls ⟨hP, va_S.rf, hsz⟩ e2
        · simp only [Nat.sub_self] at key
          exact key
        · rintro ⟨pc, L, st, w2⟩ hs H locs ls J hl
          unfold mi_step at hs
          split at hs
          · rename_i i n1 a k v hq
            have hdec := mi_dec (hok _ _ hq)
            obtain ⟨rfl, hs⟩ := mi_ins_end hs
            have hend : ∀ t : State, t.heap = H → mi_Qc D ca B b r w' (as.map (mi_tr B b)).toArray s (.returned (r.map (mi_tr B b))) t := fun t ht => ⟨rfl, by rw [ht]; exact J.1, by rw [ht]; exact J.2.2, J.2.1.F ht⟩
            rcases hs with ⟨rfl, x, ty, rfl, hret, hf, rfl⟩ | ⟨rfl, x, ty, rfl, hret, hty, hx, rfl⟩ | ⟨rfl, rfl, hret, rfl⟩
            · obtain ⟨hd, -, -⟩ := hdec rfl
              exact W.zret F.1 F.2.1 (ty := ty) (by rw [Bd.returns]; exact hret) (mi_fit_tr (B := B) (b := b) hf).1 (fun t ht _ => hend t ht) J.2.1.2.2 hd
            · obtain ⟨hd, -, -⟩ := hdec rfl
              refine W.aret F.1 F.2.1 (rt := ty) (v := mi_tr B b x) (by rw [Bd.returns]; exact hret) hty ?_ (fun t ht _ => hend t ht) J.2.1.2.2 hd
              rcases hx with rfl | ⟨a, rfl⟩
              · exact Or.inl rfl
              · exact Or.inr ⟨_, rfl⟩
            · obtain ⟨hd, -, -⟩ := hdec rfl
              exact W.vret F.1 F.2.1 (by rw [Bd.returns]; exact hret) (fun t ht _ => hend t ht) J.2.1.2.2 hd
          · cases hs
      · cases h
    · cases h
