/-! THE CLAIM OUT OF ONE WALK OF THE LAW'S BODY. Your part is whole_start (and what it stands on); all else here is the same for every law, but numbers. -/
def R_law : String := "MappingChaseLaw"
def lw_P (b : Addr) (xs : List Int32) (args : Array Value) (s : State) : Prop := args = #[.ref b] ∧ s.IntsAt b xs ∧ xs.length ≤ 2048 ∧ (Jvm.Cond.and given_1 narrow_1).before args s = true
def lw_Q (_ : Array Value) (s : State) (o : Outcome) (t : State) : Prop := o = .returned (some (.int 1)) ∧ Framed s o t [] 600000 7302250
def lw_Z (below : List Frame) (a : Array Value) (s : State) : State → Prop := fun t => ∃ o, t.status = .running ∧ Ended t below o ∧ lw_Q a s o t
/-- the law's own end, with 1 on the stack, nothing written that was there before, its room as the claim has it -/
theorem lw_ret {p : Program} {l : Launch} {e : Env} {s : State} {m : MethodId} {below : List Frame} {meth : Method} {c : Code} {b : Nat} (hx : p.tables.exec = Jvm.exec) (hb : c.code = code) (hr : meth.sig.returnType = ret) (hlocks : meth.locks = false) {pc : Nat} {H : Heap} {ls : Array Slot} (hdg : decode code pc = .ok (.ireturn, 1)) : W p l e room_1 s m #[Value.ref b] below meth c H [] 600000 7302250 (lw_Z below #[Value.ref b] s) (F0 m pc ls [.int 1]) := by
  intro T hT X
  obtain ⟨fs, hret, hrun, hended, hW, hframe⟩ := X.leave (v := some (.int 1)) (hlocks := hlocks) (fun h => by rw [hr] at h; cases h)
  have hmeth' : T.vm.method? m = some meth := X.method'
  refine ⟨T.setFrames fs, ?_, .returned (some (.int 1)), hrun, hended, rfl, ⟨_, rfl⟩, hW, hframe⟩
  jvm_step X.here [X.here.top, hx, hb, hdg, hmeth', hr, ret, narrow_b1]
  (try refine ⟨rfl, ?_⟩); (try refine ⟨rfl, ?_⟩)
  first | (intro acts; rw [hret _ acts rfl rfl rfl]) | rw [hret _ _ rfl rfl rfl]
  exact Steps.refl _
/-- what holds at the law's entry: the machine, the code, the tables' words (any of lw_tbl by 'hts w (by decide +kernel)'), the script of L ints xs at the cell b, what the Statement gives of the start (any of its parts by flat_of_before) -/
def lw_At (p : Program) (s : State) (m : MethodId) (meth : Method) (c : Code) (b L : Nat) (xs : Nat → Int32) : Prop :=
  p.tables.exec = Jvm.exec ∧ c.code = code ∧ meth.sig.returnType = ret ∧ c.maxLocals = 4 ∧ s.vm.findClass R_law = some m.cls ∧ (∀ w ∈ lw_tbl, w.before #[Value.ref b] s = true) ∧ va_X b L xs s s.heap ∧ b < s.heap.size ∧ meth.locks = false ∧ (Jvm.Cond.and given_1 narrow_1).before #[Value.ref b] s = true
/-! the law's walk out of the small machine's run -/
def mi_insOkB (a : Nat) : Bool := match mi_cl[a]? with
  | some (C, _, N) => mi_in (.instantiable C N)
  | none => false
set_option maxRecDepth 100000 in
theorem ok_inst : (List.range 9).all mi_insOkB = true := by decide +kernel
set_option maxRecDepth 100000 in
theorem ok_arrI : Cond.arrayClass .int ∈ lw_tbl := by decide +kernel
set_option maxRecDepth 100000 in
theorem ok_arrZ : Cond.arrayClass .boolean ∈ lw_tbl := by decide +kernel
set_option maxRecDepth 100000 in
theorem ok_over2 : Cond.arrayOver (.object "MappingChase$Relation") ∈ lw_tbl := by decide +kernel
set_option maxRecDepth 100000 in
theorem ok_over3 : Cond.arrayOver (.object "MappingChase$Rule") ∈ lw_tbl := by decide +kernel
theorem mi_tabs {args : Array Value} {s : State} (hts : ∀ w ∈ lw_tbl, w.before args s = true) {b L : Nat} {xs : Nat → Int32} (hX : va_X b L xs s s.heap) : ∃ (D : va_G) (ca : Nat → ClassId), mi_Kx D ca b (L, xs) s := by
  have hg : ∀ w ∈ mi_good, w.before args s = true := fun w hw => hts w (List.mem_filter.mp hw).1
  have h1 : ∀ a : Nat, ∃ q : ClassId × (Nat → Nat), ∀ C T N, mi_cl[a]? = some (C, T, N) → u_Kn s C T N q.1 q.2 := by
    intro a
    cases hc : mi_cl[a]? with
    | none => exact ⟨(0, fun _ => 0), fun C T N h => by cases h⟩
    | some q =>
      obtain ⟨C, T, N⟩ := q
      have ha : a < 9 := (List.getElem?_eq_some_iff.mp hc).1
      have hb := List.all_eq_true.mp ok_inst a (List.mem_range.mpr ha)
      unfold mi_insOkB at hb
      rw [hc] at hb
      obtain ⟨cC, iS, h⟩ := u_known hg (mi_clOk_all a C T N hc).1 (hg _ (mi_in_good hb))
      exact ⟨(cC, iS), fun C' T' N' h' => by cases h'; exact h⟩
  have h2 : ∀ t : Nat, ∃ cA : ClassId, t < mi_nty → ArrOfT s cA (mi_ty t) ∧ va_RA s cA (mi_ty t) := by
    intro t
    by_cases ht : t < mi_nty
    · have h4 : t = 0 ∨ t = 1 ∨ t = 2 ∨ t = 3 := by unfold mi_nty at ht; omega
      rcases h4 with rfl | rfl | rfl | rfl
      · obtain ⟨cA, kA, comp, e1, e2, e3⟩ := Cond.arrayClass_spec (hts _ ok_arrI)
        exact ⟨cA, fun _ => ⟨fun n z => ⟨fun k h => (by cases h), kA, e2, comp, e3⟩, e1⟩⟩
      · obtain ⟨cA, kA, comp, e1, e2, e3⟩ := Cond.arrayClass_spec (hts _ ok_arrZ)
        exact ⟨cA, fun _ => ⟨fun n z => ⟨fun k h => (by cases h), kA, e2, comp, e3⟩, e1⟩⟩
      · obtain ⟨comp, cA, kA, e1, e2, e3, e4, e5⟩ := Cond.arrayOver_spec (hts _ ok_over2)
        exact ⟨cA, fun _ => ⟨fun n z => ⟨fun k h => (by cases h), kA, e3, comp, e4⟩, kA, comp, e3, e4, e1, e5⟩⟩
      · obtain ⟨comp, cA, kA, e1, e2, e3, e4, e5⟩ := Cond.arrayOver_spec (hts _ ok_over3)
        exact ⟨cA, fun _ => ⟨fun n z => ⟨fun k h => (by cases h), kA, e3, comp, e4⟩, kA, comp, e3, e4, e1, e5⟩⟩
    · exact ⟨0, fun h => absurd h ht⟩
  refine ⟨(fun a => (Classical.choose (h1 a)).1, fun a => (Classical.choose (h1 a)).2), fun t => Classical.choose (h2 t), ⟨fun a q hq => ?_, fun k q hk => ?_⟩, fun w hw => va_Nw.of (mi_nest_on hw) (hts w (List.mem_filter.mp hw).1), fun t i1 i2 => ?_, hX⟩
  · obtain ⟨C, T, N⟩ := q
    exact Classical.choose_spec (h1 a) C T N hq
  · have hk4 : k < mi_nty := by
      have := (List.getElem?_eq_some_iff.mp hk).1
      simpa [mi_tys] using this
    rw [mi_tys_at hk4] at hk
    cases hk
    exact Classical.choose_spec (h2 k) hk4
  · have h4 : t = 2 ∨ t = 3 := by unfold mi_nty at i2; omega
    rcases h4 with rfl | rfl
    · exact va_AO.of (hts _ ok_over2)
    · exact va_AO.of (hts _ ok_over3)
/-- the law, by a run of the small machine that answers 1 and keeps within the room -/
theorem mi_law_start {p : Program} {e : Env} {s : State} {m : MethodId} {below : List Frame} {meth : Method} {c : Code} (l : Launch) {b L : Nat} {xs : Nat → Int32} (C0 : lw_At p s m meth c b L xs) {d : Nat} (hd : d + 1 ≤ 1000)
    (h : mi_wp (L, xs) mi_P d m_law (0, mi_ent 4 [.retAddr 0], [], []) (fun r w' => r = some (.int 1) ∧ w'.length ≤ 600000 ∧ mi_sz w' ≤ 7302250)) : W p l e room_1 s m #[Value.ref b] below meth c s.heap [] 0 0 (lw_Z below #[Value.ref b] s) (entryFrame m ([Value.ref b] : List Value).toArray 4) := by
  obtain ⟨hx, hb, hr, hml, hown, hts, hX, hbl, hlocks, hgv⟩ := id C0
  obtain ⟨D, ca, hK⟩ := mi_tabs hts hX
  obtain ⟨n, r, w', hrun, rfl, hc1, hc2⟩ := h
  have F : mi_Fx p s m #[Value.ref b] c D ca s.heap.size b (L, xs) "MappingChaseLaw" code 4 := ⟨hx, hb, hml, hown, fun w hw => hts w (List.mem_filter.mp hw).1, hK, hbl, Nat.le_refl _⟩
  have hcal : mi_calOk l room_1 D ca s.heap.size b (L, xs) mi_P (mi_ev (L, xs) mi_P n d) := by
    intro k as w1 r1 w2 hc
    obtain ⟨i1, i2, d', M1, i3, i4, i5⟩ := mi_met l D ca hbl (L, xs) mi_clOk_all mi_nmOk_all mi_iniOk n d k as w1 r1 w2 hc
    refine ⟨i1, i2, d', M1, i4, ?_, ?_, i5⟩
    · show d' + 2 ≤ 2048
      omega
    · show (d' + 2) * 60 ≤ 84000
      omega
  have hok : ∀ pc q, m_law.2.2[pc]? = some (some q) → mi_okB "MappingChaseLaw" code 4 false pc q = true := by
    intro pc q hq
    have := ok_law pc (List.getElem?_eq_some_iff.mp hq).1
    unfold mi_lawB at this
    rw [hq] at this
    exact this
  obtain ⟨ls, e1, e2⟩ := mi_has_ent (B := s.heap.size) (b := b) (nL := 4) (as := [.retAddr 0]) (by decide) m
  have e1 : entryFrame m ([Value.ref b] : List Value).toArray 4 = F0 m 0 ls [] := e1
  rw [e1]
  have key := mi_run_ok (Q := lw_Z below #[Value.ref b] s) (l := l) (e := e) (R := room_1) (meth := meth) (below := below) (n0 := 0) (z0 := 0) (ini := false) (fun q => by cases q) F mi_clOk_all mi_nmOk_all hcal mi_iniOk ⟨by decide, by decide⟩ hok n _ (some (.int 1)) w' hrun (Nat.zero_le _) (Nat.zero_le _) hc1 hc2 ?_ s.heap [] ls ⟨fun k q hk => by simp [mi_ws] at hk, va_S.rf, rfl⟩ e2
  · exact key
  · rintro ⟨pc, L2, st, w2⟩ hs H locs ls J hl
    unfold mi_step at hs
    split at hs
    · rename_i i n1 a k v hq
      have hdec := mi_dec (hok _ _ hq)
      obtain ⟨rfl, hs⟩ := mi_ins_end hs
      rcases hs with ⟨rfl, x, ty, rfl, hret, hf, hx1⟩ | ⟨rfl, x, ty, -, hret, hty, hx1, hx2⟩ | ⟨rfl, -, hret, hx1⟩
      · obtain ⟨hd2, -, -⟩ := hdec rfl
        cases hx1
        refine va_forget (fun q hq => J.2.1.2.2 q hq) ?_
        refine W.widen (k := 600000) (n := 7302250) (by show w'.length - 0 ≤ _; omega) (by show mi_sz w' - 0 ≤ _; omega) ?_
        exact lw_ret hx hb hr hlocks hd2
      · cases hret
        rcases hty with ⟨n, hn⟩ | ⟨t, hn⟩ <;> cases hn
      · cases hx1
    · cases hs
