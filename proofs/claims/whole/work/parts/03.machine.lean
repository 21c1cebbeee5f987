/-! THE SMALL MACHINE: methods as tables of instructions with their links; a heap is a list of cells, a reference is a place in it. What it answers is what the machine answers (part 04). It is a function: methods are then proved by computing with it. -/
def mi_fit (ty : FieldType) (v : Value) : Bool := match ty, v with
  | .int, .int _ => true
  | .boolean, .int x => x == 0 || x == 1
  | .object _, .ref _ => true
  | .object _, .null => true
  | .array _, .ref _ => true
  | .array _, .null => true
  | _, _ => false
def mi_tgt (pc : Nat) (off : Int) : Nat := ((pc : Int) + off).toNat
abbrev mi_q (t n : Nat) (g : Nat → Option Nat) : va_E := .inl (t, n, .inr (.inr (.inr (.inr g))))
abbrev mi_ia (t n : Nat) (f : Nat → Int32) : va_E := .inl (t, n, .inl f)
/-- one instruction -/
def mi_ins (X : mi_X) (cal : mi_C) (ret : Option FieldType) (i : Instr) (n a b : Nat) (v : Int32) (pc : Nat) (L : mi_L) (st : List Value) (w : mi_H) : Option mi_R :=
  match i with
  | .iconst _ => some (.inl (n, L, .int v :: st, w))
  | .bipush _ => some (.inl (n, L, .int v :: st, w))
  | .sipush _ => some (.inl (n, L, .int v :: st, w))
  | .ldc _ => some (.inl (n, L, .int v :: st, w))
  | .ldc_w _ => some (.inl (n, L, .int v :: st, w))
  | .aconst_null => some (.inl (n, L, .null :: st, w))
  | .iload_n _ => match L[a]? with
    | some (some (.int x)) => some (.inl (n, L, .int x :: st, w))
    | _ => none
  | .iload _ => match L[a]? with
    | some (some (.int x)) => some (.inl (n, L, .int x :: st, w))
    | _ => none
  | .aload_n _ => match L[a]? with
    | some (some (.ref x)) => some (.inl (n, L, .ref x :: st, w))
    | some (some (.retAddr x)) => some (.inl (n, L, .retAddr x :: st, w))
    | some (some .null) => some (.inl (n, L, .null :: st, w))
    | _ => none
  | .aload _ => match L[a]? with
    | some (some (.ref x)) => some (.inl (n, L, .ref x :: st, w))
    | some (some (.retAddr x)) => some (.inl (n, L, .retAddr x :: st, w))
    | some (some .null) => some (.inl (n, L, .null :: st, w))
    | _ => none
  | .istore_n _ => match st with
    | .int x :: r => some (.inl (n, L.set a (some (.int x)), r, w))
    | _ => none
  | .istore _ => match st with
    | .int x :: r => some (.inl (n, L.set a (some (.int x)), r, w))
    | _ => none
  | .astore_n _ => match st with
    | .ref x :: r => some (.inl (n, L.set a (some (.ref x)), r, w))
    | .null :: r => some (.inl (n, L.set a (some .null), r, w))
    | _ => none
  | .astore _ => match st with
    | .ref x :: r => some (.inl (n, L.set a (some (.ref x)), r, w))
    | .null :: r => some (.inl (n, L.set a (some .null), r, w))
    | _ => none
  | .iinc _ _ => match L[a]? with
    | some (some (.int x)) => some (.inl (n, L.set a (some (.int (x + v))), st, w))
    | _ => none
  | .iadd => match st with
    | .int y :: .int x :: r => some (.inl (n, L, .int (x + y) :: r, w))
    | _ => none
  | .isub => match st with
    | .int y :: .int x :: r => some (.inl (n, L, .int (x - y) :: r, w))
    | _ => none
  | .imul => match st with
    | .int y :: .int x :: r => some (.inl (n, L, .int (x * y) :: r, w))
    | _ => none
  | .iand => match st with
    | .int y :: .int x :: r => some (.inl (n, L, .int (x &&& y) :: r, w))
    | _ => none
  | .ior => match st with
    | .int y :: .int x :: r => some (.inl (n, L, .int (x ||| y) :: r, w))
    | _ => none
  | .ixor => match st with
    | .int y :: .int x :: r => some (.inl (n, L, .int (x ^^^ y) :: r, w))
    | _ => none
  | .ishl => match st with
    | .int y :: .int x :: r => some (.inl (n, L, .int (x <<< (y &&& 31)) :: r, w))
    | _ => none
  | .ishr => match st with
    | .int y :: .int x :: r => some (.inl (n, L, .int (x >>> (y &&& 31)) :: r, w))
    | _ => none
  | .iushr => match st with
    | .int y :: .int x :: r => some (.inl (n, L, .int (x.toUInt32 >>> (y.toUInt32 &&& Int32.toUInt32 31)).toInt32 :: r, w))
    | _ => none
  | .idiv => match st with
    | .int y :: .int x :: r => if y = 0 then none else some (.inl (n, L, .int (x / y) :: r, w))
    | _ => none
  | .irem => match st with
    | .int y :: .int x :: r => if y = 0 then none else some (.inl (n, L, .int (x - x / y * y) :: r, w))
    | _ => none
  | .ineg => match st with
    | .int x :: r => some (.inl (n, L, .int (-x) :: r, w))
    | _ => none
  | .dup => match st with
    | x :: r => some (.inl (n, L, x :: x :: r, w))
    | _ => none
  | .pop => match st with
    | _ :: r => some (.inl (n, L, r, w))
    | _ => none
  | .dup_x1 => match st with
    | x :: y :: r => some (.inl (n, L, x :: y :: x :: r, w))
    | _ => none
  | .dup_x2 => match st with
    | x :: y :: z :: r => some (.inl (n, L, x :: y :: z :: x :: r, w))
    | _ => none
  | .dup2 => match st with
    | x :: y :: r => some (.inl (n, L, x :: y :: x :: y :: r, w))
    | _ => none
  | .goto _ => some (.inl (a, L, st, w))
  | .ifCond .eq _ => match st with
    | .int x :: r => some (.inl (if x = 0 then a else n, L, r, w))
    | _ => none
  | .ifCond .ne _ => match st with
    | .int x :: r => some (.inl (if x = 0 then n else a, L, r, w))
    | _ => none
  | .ifCond .lt _ => match st with
    | .int x :: r => some (.inl (if x < 0 then a else n, L, r, w))
    | _ => none
  | .ifCond .ge _ => match st with
    | .int x :: r => some (.inl (if 0 ≤ x then a else n, L, r, w))
    | _ => none
  | .ifCond .gt _ => match st with
    | .int x :: r => some (.inl (if 0 < x then a else n, L, r, w))
    | _ => none
  | .ifCond .le _ => match st with
    | .int x :: r => some (.inl (if x ≤ 0 then a else n, L, r, w))
    | _ => none
  | .if_icmp .eq _ => match st with
    | .int y :: .int x :: r => some (.inl (if x = y then a else n, L, r, w))
    | _ => none
  | .if_icmp .ne _ => match st with
    | .int y :: .int x :: r => some (.inl (if x = y then n else a, L, r, w))
    | _ => none
  | .if_icmp .lt _ => match st with
    | .int y :: .int x :: r => some (.inl (if x < y then a else n, L, r, w))
    | _ => none
  | .if_icmp .ge _ => match st with
    | .int y :: .int x :: r => some (.inl (if y ≤ x then a else n, L, r, w))
    | _ => none
  | .if_icmp .gt _ => match st with
    | .int y :: .int x :: r => some (.inl (if y < x then a else n, L, r, w))
    | _ => none
  | .if_icmp .le _ => match st with
    | .int y :: .int x :: r => some (.inl (if x ≤ y then a else n, L, r, w))
    | _ => none
  | .tableswitch d lo hi os => match st with
    | .int x :: r => if x.toInt < lo ∨ hi < x.toInt then some (.inl (mi_tgt pc d, L, r, w)) else
      match os[(x.toInt - lo).toNat]? with
      | some o => some (.inl (mi_tgt pc o, L, r, w))
      | none => none
    | _ => none
  | .getfield _ => match st with
    | .ref o :: r => match w[o]? with
      | some (.inr (c, fs)) => if c = a then match fs[b]? with
        | some x => some (.inl (n, L, x :: r, w))
        | none => none else none
      | _ => none
    | _ => none
  | .putfield _ => match st with
    | x :: .ref o :: r => match w[o]? with
      | some (.inr (c, fs)) => if c = a ∧ b < fs.length ∧ mi_fit (mi_ft a b) x = true then some (.inl (n, L, r, w.set o (.inr (c, fs.set b x)))) else none
      | _ => none
    | _ => none
  | .arraylength => match st with
    | .ref o :: r => match w[o]? with
      | some (.inl (t, k, _)) => if t < mi_nty then some (.inl (n, L, .int (Int32.ofNat k) :: r, w)) else none
      | _ => none
    | .retAddr _ :: r => some (.inl (n, L, .int (Int32.ofNat X.1) :: r, w))
    | _ => none
  | .iaload => match st with
    | .int j :: .ref o :: r => match w[o]? with
      | some (.inl (0, k, .inl f)) => if j < 0 ∨ k ≤ j.toNatClampNeg then none else some (.inl (n, L, .int (f j.toNatClampNeg) :: r, w))
      | _ => none
    | .int j :: .retAddr _ :: r => if j < 0 ∨ X.1 ≤ j.toNatClampNeg then none else some (.inl (n, L, .int (X.2 j.toNatClampNeg) :: r, w))
    | _ => none
  | .iastore => match st with
    | .int x :: .int j :: .ref o :: r => match w[o]? with
      | some (.inl (0, k, .inl f)) => if j < 0 ∨ k ≤ j.toNatClampNeg then none else some (.inl (n, L, r, w.set o (.inl (0, k, .inl (upd f j.toNatClampNeg x)))))
      | _ => none
    | _ => none
  | .baload => match st with
    | .int j :: .ref o :: r => match w[o]? with
      | some (.inl (1, k, .inl f)) => if j < 0 ∨ k ≤ j.toNatClampNeg then none else some (.inl (n, L, .int (f j.toNatClampNeg) :: r, w))
      | _ => none
    | _ => none
  | .bastore => match st with
    | .int x :: .int j :: .ref o :: r => match w[o]? with
      | some (.inl (1, k, .inl f)) => if j < 0 ∨ k ≤ j.toNatClampNeg then none else some (.inl (n, L, r, w.set o (.inl (1, k, .inl (upd f j.toNatClampNeg (x &&& 1))))))
      | _ => none
    | _ => none
  | .aaload => match st with
    | .int j :: .ref o :: r => match w[o]? with
      | some (.inl (t, k, .inr (.inr (.inr (.inr g))))) => if t < 2 ∨ mi_nty ≤ t ∨ j < 0 ∨ k ≤ j.toNatClampNeg then none else some (.inl (n, L, va_rf (g j.toNatClampNeg) :: r, w))
      | _ => none
    | _ => none
  | .aastore => match st with
    | .ref x :: .int j :: .ref o :: r => match w[o]?, w[x]? with
      | some (.inl (t, k, .inr (.inr (.inr (.inr g))))), some (.inr (c, _)) => if t < 2 ∨ mi_nty ≤ t ∨ mi_comp t ≠ c ∨ j < 0 ∨ k ≤ j.toNatClampNeg then none else some (.inl (n, L, r, w.set o (.inl (t, k, .inr (.inr (.inr (.inr (va_up g j.toNatClampNeg (some x)))))))))
      | _, _ => none
    | _ => none
  | .new _ => some (.inl (n, L, .ref w.length :: st, w ++ [.inr (a, mi_dflt a)]))
  | .newarray _ => match st with
    | .int j :: r => if j < 0 ∨ 100000 ≤ j.toNatClampNeg then none else some (.inl (n, L, .ref w.length :: r, w ++ [.inl (a, j.toNatClampNeg, .inl (fun _ => 0))]))
    | _ => none
  | .anewarray _ => match st with
    | .int j :: r => if j < 0 ∨ 100000 ≤ j.toNatClampNeg then none else some (.inl (n, L, .ref w.length :: r, w ++ [.inl (a, j.toNatClampNeg, .inr (.inr (.inr (.inr (fun _ => none)))))]))
    | _ => none
  | .invokestatic _ => if b = 99 then match st with
      | .int k :: .int dp :: .ref o :: .int sp :: .ref q :: r => match w[q]?, w[o]? with
        | some (.inl (0, n0, .inl f)), some (.inl (0, n1, .inl g)) => if 8 < r.length ∨ sp < 0 ∨ dp < 0 ∨ k < 0 ∨ n0 < sp.toNatClampNeg + k.toNatClampNeg ∨ n1 < dp.toNatClampNeg + k.toNatClampNeg then none else some (.inl (n, L, r, w.set o (.inl (0, n1, .inl (va_cpy f g sp.toNatClampNeg dp.toNatClampNeg k.toNatClampNeg)))))
        | _, _ => none
      | _ => none
    else if b = 98 then match st with
      | .int y :: .int x :: r => if r.length ≤ 8 then some (.inl (n, L, .int (if x < y then y else x) :: r, w)) else none
      | _ => none
    else if b = 97 then match st with
      | .int y :: .int x :: r => if r.length ≤ 8 then some (.inl (n, L, .int (if y < x then y else x) :: r, w)) else none
      | _ => none
    else if b ≤ st.length ∧ st.length ≤ b + 8 then match cal a (st.take b).reverse w with
    | some q => some (.inl (n, L, q.1.toList ++ st.drop b, q.2))
    | none => none else none
  | .invokevirtual _ => match st[b]? with
    | some (.ref o) => match w[o]? with
      | some (.inr (c, _)) => if c = mi_mc a ∧ st.length ≤ b + 9 then match cal a (st.take (b + 1)).reverse w with
        | some q => some (.inl (n, L, q.1.toList ++ st.drop (b + 1), q.2))
        | none => none else none
      | _ => none
    | _ => none
  | .invokespecial _ => if b = 99 then match st with
      | .ref _ :: r => if r.length ≤ 8 then some (.inl (n, L, r, w)) else none
      | _ => none
    else match st[b]? with
    | some (.ref o) => if st.length ≤ b + 9 then match cal a (st.take (b + 1)).reverse w with
        | some q => some (.inl (n, L, q.1.toList ++ st.drop (b + 1), q.2))
        | none => none else none
    | _ => none
  | .ireturn => match st, ret with
    | [.int x], some ty => if mi_fit ty (.int x) = true then some (.inr (some (.int x), w)) else none
    | _, _ => none
  | .areturn => match st, ret with
    | [.ref x], some (.object _) => some (.inr (some (.ref x), w))
    | [.null], some (.object _) => some (.inr (some .null, w))
    | [.ref x], some (.array _) => some (.inr (some (.ref x), w))
    | [.null], some (.array _) => some (.inr (some .null, w))
    | _, _ => none
  | .return_ => match st, ret with
    | [], none => some (.inr (none, w))
    | _, _ => none
  | _ => none
def mi_step (X : mi_X) (cal : mi_C) (M : mi_M) (f : mi_F) : Option mi_R :=
  match M.2.2[f.1]? with
  | some (some (i, n, a, b, v)) => mi_ins X cal M.1 i n a b v f.1 f.2.1 f.2.2.1 f.2.2.2
  | _ => none
def mi_run (X : mi_X) (cal : mi_C) (M : mi_M) : Nat → mi_F → Option (Option Value × mi_H)
  | 0, _ => none
  | n + 1, f => match mi_step X cal M f with
    | some (.inl f') => mi_run X cal M n f'
    | some (.inr r) => some r
    | none => none
/-- a method's locals at its entry -/
def mi_ent (k : Nat) (as : List Value) : mi_L := as.map some ++ List.replicate (k - as.length) none
def mi_ev (X : mi_X) (P : List mi_M) (n : Nat) : Nat → mi_C
  | 0 => fun _ _ _ => none
  | d + 1 => fun k as w => match P[k]? with
    | some M => if as.length ≤ M.2.1 then mi_run X (mi_ev X P n d) M n (0, mi_ent M.2.1 as, [], w) else none
    | none => none
/-! more fuel, more depth: the same answer -/
theorem mi_ins_mono {X : mi_X} {cal cal' : mi_C} {ret : Option FieldType} {i : Instr} {n a b : Nat} {v : Int32} {pc : Nat} {L : mi_L} {st : List Value} {w : mi_H} {r : mi_R} (hc : ∀ k as w q, cal k as w = some q → cal' k as w = some q) (h : mi_ins X cal ret i n a b v pc L st w = some r) : mi_ins X cal' ret i n a b v pc L st w = some r := by
  cases i
  case invokespecial x =>
    simp only [mi_ins] at h ⊢
    split at h
    · rename_i hb
      rw [if_pos hb]
      exact h
    · rename_i hb
      rw [if_neg hb]
      split at h
      · rename_i o ho
        split at h
        · rename_i hl
          rw [if_pos hl]
          split at h
          · rename_i q hq
            rw [hc _ _ _ _ hq]
            exact h
          · cases h
        · cases h
      · cases h
  case invokestatic x =>
    simp only [mi_ins] at h ⊢
    split at h
    · rename_i hb
      rw [if_pos hb]
      exact h
    · rename_i hb
      rw [if_neg hb]
      split at h
      · rename_i hb
        rw [if_pos hb]
        exact h
      · rename_i hb
        rw [if_neg hb]
        split at h
        · rename_i hb
          rw [if_pos hb]
          exact h
        · rename_i hb
          rw [if_neg hb]
          split at h
          · rename_i hl
            rw [if_pos hl]
            split at h
            · rename_i q hq
              rw [hc _ _ _ _ hq]
              exact h
            · cases h
          · cases h
  case invokevirtual x =>
    simp only [mi_ins] at h ⊢
    split at h
    · rename_i o ho
      split at h
      · rename_i c fs hw
        split at h
        · rename_i hl
          rw [if_pos hl]
          split at h
          · rename_i q hq
            rw [hc _ _ _ _ hq]
            exact h
          · cases h
        · cases h
      · cases h
    · cases h
  case ifCond c o => cases c <;> exact h
  case if_icmp c o => cases c <;> exact h
  all_goals exact h
theorem mi_step_mono {X : mi_X} {cal cal' : mi_C} {M : mi_M} {f : mi_F} {r : mi_R} (hc : ∀ k as w q, cal k as w = some q → cal' k as w = some q) (h : mi_step X cal M f = some r) : mi_step X cal' M f = some r := by
  unfold mi_step at h ⊢
  split at h
  · exact mi_ins_mono hc h
  · cases h
theorem mi_run_mono {X : mi_X} {cal cal' : mi_C} {M : mi_M} (hc : ∀ k as w q, cal k as w = some q → cal' k as w = some q) : ∀ (n n' : Nat) (f : mi_F) (q : Option Value × mi_H), n ≤ n' → mi_run X cal M n f = some q → mi_run X cal' M n' f = some q
  | 0, _, _, _, _, h => by cases h
  | n + 1, 0, _, _, hn, _ => by omega
  | n + 1, n' + 1, f, q, hn, h => by
    unfold mi_run at h ⊢
    split at h
    · rename_i f' hf
      rw [mi_step_mono hc hf]
      exact mi_run_mono hc n n' f' q (by omega) h
    · rename_i r hf
      rw [mi_step_mono hc hf]
      exact h
    · cases h
theorem mi_ev_mono {X : mi_X} {P : List mi_M} : ∀ (d d' n n' : Nat), d ≤ d' → n ≤ n' → ∀ k as w q, mi_ev X P n d k as w = some q → mi_ev X P n' d' k as w = some q
  | 0, _, _, _, _, _, _, _, _, _, h => by cases h
  | d + 1, 0, _, _, hd, _, _, _, _, _, _ => by omega
  | d + 1, d' + 1, n, n', hd, hn, k, as, w, q, h => by
    unfold mi_ev at h ⊢
    split at h
    · split at h
      · rename_i M hM hl
        simp only [hl, if_true]
        exact mi_run_mono (fun k as w q hq => mi_ev_mono d d' n n' (by omega) hn k as w q hq) n n' _ q hn h
      · cases h
    · cases h
/-! what is proved of methods: mi_Ev (depth, method, arguments, heap; answer, heap), by mi_wp from place to place -/
def mi_Ev (X : mi_X) (P : List mi_M) (d k : Nat) (as : List Value) (w : mi_H) (r : Option Value) (w' : mi_H) : Prop := ∃ n, mi_ev X P n d k as w = some (r, w')
def mi_wp (X : mi_X) (P : List mi_M) (d : Nat) (M : mi_M) (f : mi_F) (Q : Option Value → mi_H → Prop) : Prop := ∃ n r w, mi_run X (mi_ev X P n d) M n f = some (r, w) ∧ Q r w
section MiWp
variable {X : mi_X} {P : List mi_M} {d : Nat} {M : mi_M} {f f' : mi_F} {Q : Option Value → mi_H → Prop} {pc n t e : Nat} {L : mi_L} {st : List Value} {w : mi_H}
theorem mi_Ev.up {d' k : Nat} {as : List Value} {r : Option Value} {w' : mi_H} (h : mi_Ev X P d k as w r w') (hd : d ≤ d') : mi_Ev X P d' k as w r w' := by
  obtain ⟨n, h⟩ := h
  exact ⟨n, mi_ev_mono d d' n n hd (Nat.le_refl n) _ _ _ _ h⟩
theorem mi_Ev.of {k : Nat} {as : List Value} {r : Option Value} {w' : mi_H} (hM : P[k]? = some M) (hl : as.length ≤ M.2.1) (h : mi_wp X P d M (0, mi_ent M.2.1 as, [], w) (fun r' w1 => r' = r ∧ w1 = w')) : mi_Ev X P (d + 1) k as w r w' := by
  obtain ⟨n, r', w1, h, rfl, rfl⟩ := h
  refine ⟨n, ?_⟩
  unfold mi_ev
  simp only [hM, hl, if_true]
  exact h
theorem mi_wst (h : ∀ cal, mi_step X cal M f = some (.inl f')) (k : mi_wp X P d M f' Q) : mi_wp X P d M f Q := by
  obtain ⟨n, r, w, h1, h2⟩ := k
  refine ⟨n + 1, r, w, ?_, h2⟩
  unfold mi_run
  rw [h]
  exact mi_run_mono (fun k as w q hq => mi_ev_mono d d n (n + 1) (Nat.le_refl d) (by omega) k as w q hq) n n _ _ (Nat.le_refl n) h1
theorem mi_wrt {r : Option Value} (h : ∀ cal, mi_step X cal M f = some (.inr (r, w))) (k : Q r w) : mi_wp X P d M f Q := by
  refine ⟨1, r, w, ?_, k⟩
  unfold mi_run
  rw [h]
theorem mi_wca {k : Nat} {as : List Value} {w1 : mi_H} {r : Option Value} {g : Option Value → mi_H → mi_F} (h : ∀ cal, mi_step X cal M f = match cal k as w with
    | some q => some (.inl (g q.1 q.2))
    | none => none) (hc : mi_Ev X P d k as w r w1) (kk : mi_wp X P d M (g r w1) Q) : mi_wp X P d M f Q := by
  obtain ⟨n1, hc⟩ := hc
  obtain ⟨n, r2, w2, h1, h2⟩ := kk
  refine ⟨n + n1 + 1, r2, w2, ?_, h2⟩
  unfold mi_run
  rw [h, mi_ev_mono d d n1 (n + n1 + 1) (Nat.le_refl d) (by omega) _ _ _ _ hc]
  exact mi_run_mono (fun k as w q hq => mi_ev_mono d d n (n + n1 + 1) (Nat.le_refl d) (by omega) k as w q hq) n (n + n1) _ _ (by omega) h1
theorem mi_wif {c : Prop} [Decidable c] (ht : c → mi_wp X P d M (t, L, st, w) Q) (hf : ¬ c → mi_wp X P d M (e, L, st, w) Q) : mi_wp X P d M (if c then t else e, L, st, w) Q := by
  by_cases h : c
  · rw [if_pos h]; exact ht h
  · rw [if_neg h]; exact hf h
theorem mi_wp.imp {Q' : Option Value → mi_H → Prop} (h : mi_wp X P d M f Q) (hq : ∀ r w, Q r w → Q' r w) : mi_wp X P d M f Q' := by
  obtain ⟨n, r, w, h1, h2⟩ := h
  exact ⟨n, r, w, h1, hq r w h2⟩
end MiWp
