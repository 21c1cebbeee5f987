/-! folding: lists and maps -/
theorem nodup_sub {α : Type} [DecidableEq α] : ∀ (l l' : List α), l.Nodup → (∀ x ∈ l, x ∈ l') → l.length ≤ l'.length
  | [], l', _, _ => Nat.zero_le _
  | x :: t, l', hn, h => by
    obtain ⟨h1, h2⟩ := List.nodup_cons.mp hn
    have hx := h x List.mem_cons_self
    have := nodup_sub t (l'.erase x) h2 (fun y hy => (List.mem_erase_of_ne (fun e : y = x => h1 (e ▸ hy))).mpr (h y (List.mem_cons_of_mem _ hy)))
    rw [List.length_erase_of_mem hx] at this
    have hp := List.length_pos_of_mem hx
    rw [List.length_cons]
    omega
theorem nodup_mp {α : Type} {f : α → α} : ∀ (l : List α), l.Nodup → (∀ x ∈ l, ∀ y ∈ l, f x = f y → x = y) → (l.map f).Nodup
  | [], _, _ => List.nodup_nil
  | x :: t, hn, h => by
    obtain ⟨h1, h2⟩ := List.nodup_cons.mp hn
    rw [List.map_cons, List.nodup_cons]
    refine ⟨fun q => ?_, nodup_mp t h2 (fun a ha b hb => h a (List.mem_cons_of_mem _ ha) b (List.mem_cons_of_mem _ hb))⟩
    obtain ⟨y, hy, e⟩ := List.mem_map.mp q
    exact h1 (h y (List.mem_cons_of_mem _ hy) x List.mem_cons_self e ▸ hy)
/-- one to one, into itself: onto -/
theorem inj_onto {α : Type} [DecidableEq α] {f : α → α} {l : List α} (hn : l.Nodup) (hi : ∀ x ∈ l, f x ∈ l) (hj : ∀ x ∈ l, ∀ y ∈ l, f x = f y → x = y) : ∀ y ∈ l, ∃ x ∈ l, f x = y := by
  intro y hy
  by_cases z : y ∈ l.map f
  · obtain ⟨x, hx, e⟩ := List.mem_map.mp z
    exact ⟨x, hx, e⟩
  · exfalso
    have h := nodup_sub (l.map f) (l.erase y) (nodup_mp l hn hj) (fun x hx => by
      have hne : x ≠ y := fun e => z (e ▸ hx)
      obtain ⟨x', hx', rfl⟩ := List.mem_map.mp hx
      exact (List.mem_erase_of_ne hne).mpr (hi x' hx'))
    rw [List.length_map, List.length_erase_of_mem hy] at h
    have := List.length_pos_of_mem hy
    omega
/-- onto: one to one -/
theorem onto_inj {α : Type} [DecidableEq α] {f : α → α} {l : List α} (hn : l.Nodup) (hs : ∀ y ∈ l, ∃ x ∈ l, f x = y) : ∀ x ∈ l, ∀ y ∈ l, f x = f y → x = y := by
  intro x hx y hy e
  by_cases z : x = y
  · exact z
  · exfalso
    have h := nodup_sub l ((l.erase x).map f) hn (fun u hu => by
      obtain ⟨t, ht, rfl⟩ := hs u hu
      by_cases q : t = x
      · rw [q, e]
        exact List.mem_map.mpr ⟨y, (List.mem_erase_of_ne (Ne.symm z)).mpr hy, rfl⟩
      · exact List.mem_map.mpr ⟨t, (List.mem_erase_of_ne q).mpr ht, rfl⟩)
    rw [List.length_map, List.length_erase_of_mem hx] at h
    have := List.length_pos_of_mem hx
    omega
theorem img_iff {mp : Nat → Nat} {g : Nat → Bool} {y : Nat} (hc : ∀ u, u < 16 → mp u = u) (hg : ∀ u, g u = true → u < 24) : img mp g 24 y = true ↔ ∃ u, g u = true ∧ y = mp u := by
  unfold img
  rw [Bool.or_eq_true, List.any_eq_true, Bool.and_eq_true]
  constructor
  · rintro (⟨h1, h2⟩ | ⟨u, h1, h2⟩)
    · exact ⟨y, h2, (hc y (of_decide_eq_true h1)).symm⟩
    · rw [Bool.and_eq_true, Bool.and_eq_true] at h2
      exact ⟨u, h2.1.2, of_decide_eq_true h2.2⟩
  · rintro ⟨u, h1, h2⟩
    by_cases z : u < 16
    · left
      rw [hc u z] at h2
      subst h2
      exact ⟨decide_eq_true z, h1⟩
    · right
      refine ⟨u, List.mem_range.mpr (hg u h1), ?_⟩
      rw [h1, decide_eq_true (show 16 ≤ u by omega), decide_eq_true h2]
      rfl
section FoldPure
variable {F : Nat → Nat → Nat → Bool} {lt : List sp_A}
/-- facts with values below v are kept -/
def Kp (F : Nat → Nat → Nat → Bool) (lt : List sp_A) (mp : Nat → Nat) (v : Nat) : Prop := ∀ q ∈ lt, q.2.1 < v → q.2.2 < v → F q.1 (mp q.2.1) (mp q.2.2) = true
theorem all32 {p : Nat → Bool} : (List.range 32).all p = true ↔ ∀ y, y < 32 → p y = true := by
  rw [List.all_eq_true]
  constructor
  · intro h y hy
    exact h y (List.mem_range.mpr hy)
  · intro h y hy
    exact h y (List.mem_range.mp hy)
theorem kpS_iff {mp : Nat → Nat} {v : Nat} (hb24 : ∀ i, i < 6 → ∀ x y, F i x y = true → x < 24 ∧ y < 24) (hlt : ∀ r x y, 2 ≤ r → r < 6 → (F r x y = true ↔ (r, x, y) ∈ lt)) (hokT : ∀ q ∈ lt, okT q) (hc : ∀ u, u < 16 → mp u = u) (hm : ∀ u, u < v + 1 → inB lt u = true → mp u < 24) (hK : Kp F lt mp v) : kpS F mp v 6 = true ↔ Kp F lt mp (v + 1) := by
  unfold kpS
  rw [List.all_eq_true]
  constructor
  · intro h q hq h1 h2
    have ho := hokT q hq
    unfold okT at ho
    have hin := inB_mem hq
    have hF : F q.1 q.2.1 q.2.2 = true := (hlt q.1 q.2.1 q.2.2 ho.1 ho.2.1).mpr hq
    have hk := h q.1 (List.mem_range.mpr ho.2.1)
    rw [decide_eq_false (by omega), Bool.false_or] at hk
    unfold kpB at hk
    rw [Bool.and_eq_true, all32, all32] at hk
    by_cases e1 : q.2.1 = v
    · have := hk.1 (mp q.2.2) (by have := hm q.2.2 h2 hin.2; omega)
      rw [(img_iff hc (fun u hu => by
        rw [Bool.and_eq_true] at hu
        exact (hb24 q.1 ho.2.1 _ _ hu.1).2)).mpr ⟨q.2.2, by rw [← e1, hF, decide_eq_true (by omega)]; rfl, rfl⟩] at this
      rw [e1]
      simpa using this
    · by_cases e2 : q.2.2 = v
      · have := hk.2 (mp q.2.1) (by have := hm q.2.1 h1 hin.1; omega)
        rw [(img_iff hc (fun u hu => by
          rw [Bool.and_eq_true] at hu
          exact (hb24 q.1 ho.2.1 _ _ hu.1).1)).mpr ⟨q.2.1, by rw [← e2, hF, decide_eq_true (by omega)]; rfl, rfl⟩] at this
        rw [e2]
        simpa using this
      · exact hK q hq (by omega) (by omega)
  · intro h i hi
    have hi := List.mem_range.mp hi
    by_cases z : i < 2
    · rw [decide_eq_true z]
      rfl
    · rw [decide_eq_false z, Bool.false_or]
      unfold kpB
      rw [Bool.and_eq_true, all32, all32]
      constructor
      · intro y hy
        cases e : img mp (fun b => F i v b && decide (b ≤ v)) 24 y with
        | false => rfl
        | true =>
          obtain ⟨u, h1, h2⟩ := (img_iff hc (fun u hu => by
            rw [Bool.and_eq_true] at hu
            exact (hb24 i hi _ _ hu.1).2)).mp e
          rw [Bool.and_eq_true] at h1
          have := h (i, v, u) ((hlt i v u (by omega) hi).mp h1.1) (by show v < v + 1; omega) (by have := of_decide_eq_true h1.2; show u < v + 1; omega)
          rw [h2]
          exact this
      · intro y hy
        cases e : img mp (fun a => F i a v && decide (a ≤ v)) 24 y with
        | false => rfl
        | true =>
          obtain ⟨u, h1, h2⟩ := (img_iff hc (fun u hu => by
            rw [Bool.and_eq_true] at hu
            exact (hb24 i hi _ _ hu.1).1)).mp e
          rw [Bool.and_eq_true] at h1
          have := h (i, u, v) ((hlt i u v (by omega) hi).mp h1.1) (by have := of_decide_eq_true h1.2; show u < v + 1; omega) (by show v < v + 1; omega)
          rw [h2]
          exact this
/-- what the model's array tells -/
def tol (lt : List sp_A) (mp : Nat → Nat) (v : Nat) : sp_V := fun u => if u < 16 then some u else if u < v then (if inB lt u = true then some (mp u) else some 0) else none
theorem tol_in {mp : Nat → Nat} {v u : Nat} (hc : ∀ u, u < 16 → mp u = u) (_ : 16 ≤ v) (hi : inB lt u = true) (hu : u < v) : tol lt mp v u = some (mp u) := by
  unfold tol
  by_cases z : u < 16
  · rw [if_pos z, hc u z]
  · rw [if_neg z, if_pos hu, if_pos hi]
theorem tol_out {mp : Nat → Nat} {v u : Nat} (h16 : 16 ≤ v) (hu : v ≤ u) : tol lt mp v u = none := by
  unfold tol
  rw [if_neg (by omega), if_neg (by omega)]
theorem kf_Kp {mp : Nat → Nat} {v : Nat} (hc : ∀ u, u < 16 → mp u = u) (h16 : 16 ≤ v) : kf F (tol lt mp v) lt = true ↔ Kp F lt mp v := by
  rw [kf_iff]
  constructor
  · intro h q hq h1 h2
    have hin := inB_mem hq
    exact h q hq _ _ (tol_in hc h16 hin.1 h1) (tol_in hc h16 hin.2 h2)
  · intro h q hq x y h1 h2
    have hin := inB_mem hq
    have u1 : q.2.1 < v := by
      rcases Nat.lt_or_ge q.2.1 v with z | z
      · exact z
      · rw [tol_out h16 z] at h1
        cases h1
    have u2 : q.2.2 < v := by
      rcases Nat.lt_or_ge q.2.2 v with z | z
      · exact z
      · rw [tol_out h16 z] at h2
        cases h2
    rw [tol_in hc h16 hin.1 u1] at h1
    rw [tol_in hc h16 hin.2 u2] at h2
    cases h1
    cases h2
    exact h q hq u1 u2
/-- some fact is no fact's image -/
def lvB (mp : Nat → Nat) (lt : List sp_A) : Bool := lt.any (fun f => !lt.any (fun h => decide (imA mp h = f)))
theorem lsN_lvB {mp : Nat → Nat} (hlt : ∀ r x y, 2 ≤ r → r < 6 → (F r x y = true ↔ (r, x, y) ∈ lt)) (hokT : ∀ q ∈ lt, okT q) (hnd : lt.Nodup) (hc : ∀ u, u < 16 → mp u = u) (hm : ∀ u, inB lt u = true → inB lt (mp u) = true) (hK : Kp F lt mp 24) : lsN mp (inB lt) = lvB mp lt := by
  have h24 : ∀ u, inB lt u = true → u < 24 := fun u hu => by
    obtain ⟨q, hq, e⟩ := inB_iff.mp hu
    have ho := hokT q hq
    unfold okT at ho
    omega
  have him : ∀ q ∈ lt, imA mp q ∈ lt := fun q hq => by
    have ho := hokT q hq
    unfold okT at ho
    exact (hlt q.1 _ _ ho.1 ho.2.1).mp (hK q hq (by omega) (by omega))
  -- values onto, facts onto
  have main : (∀ y, inB lt y = true → ∃ x, inB lt x = true ∧ mp x = y) ↔ ∀ f ∈ lt, ∃ h ∈ lt, imA mp h = f := by
    constructor
    · intro hs
      let oc := (List.range 24).filter (fun u => inB lt u)
      have moc : ∀ u, u ∈ oc ↔ inB lt u = true := fun u => by
        show u ∈ (List.range 24).filter (fun u => inB lt u) ↔ _
        rw [List.mem_filter, List.mem_range]
        exact ⟨fun h => h.2, fun h => ⟨h24 u h, h⟩⟩
      have nd : oc.Nodup := List.Nodup.sublist List.filter_sublist List.nodup_range
      have inj := onto_inj (f := mp) (l := oc) nd (fun y hy => by
        obtain ⟨x, hx, e⟩ := hs y ((moc y).mp hy)
        exact ⟨x, (moc x).mpr hx, e⟩)
      refine inj_onto hnd him (fun f hf g hg e => ?_)
      have hinf := inB_mem hf
      have hing := inB_mem hg
      unfold imA at e
      injection e with e1 e2
      injection e2 with e2 e3
      exact tri_eq.mpr ⟨e1, inj _ ((moc _).mpr hinf.1) _ ((moc _).mpr hing.1) e2, inj _ ((moc _).mpr hinf.2) _ ((moc _).mpr hing.2) e3⟩
    · intro hs y hy
      obtain ⟨f, hf, e⟩ := inB_iff.mp hy
      obtain ⟨h, hh, rfl⟩ := hs f hf
      have hin := inB_mem hh
      rcases e with e | e
      · exact ⟨h.2.1, hin.1, e⟩
      · exact ⟨h.2.2, hin.2, e⟩
  have e1 : lsN mp (inB lt) = false ↔ ∀ y, inB lt y = true → ∃ x, inB lt x = true ∧ mp x = y := by
    unfold lsN
    rw [List.any_eq_false]
    constructor
    · intro h y hy
      have := h y (List.mem_range.mpr (by have := h24 y hy; omega))
      have e : img mp (inB lt) 24 y = inB lt y := by simpa using this
      rw [hy] at e
      obtain ⟨x, hx, e⟩ := (img_iff hc h24).mp e
      exact ⟨x, hx, e.symm⟩
    · intro h y _
      have e : img mp (inB lt) 24 y = inB lt y := by
        rw [Bool.eq_iff_iff, img_iff hc h24]
        constructor
        · rintro ⟨x, hx, rfl⟩
          exact hm x hx
        · intro hy
          obtain ⟨x, hx, e⟩ := h y hy
          exact ⟨x, hx, e.symm⟩
      rw [e]
      simp
  have e2 : lvB mp lt = false ↔ ∀ f ∈ lt, ∃ h ∈ lt, imA mp h = f := by
    unfold lvB
    rw [List.any_eq_false]
    constructor
    · intro h f hf
      have := h f hf
      have : lt.any (fun h => decide (imA mp h = f)) = true := by simpa using this
      obtain ⟨x, hx, e⟩ := List.any_eq_true.mp this
      exact ⟨x, hx, of_decide_eq_true e⟩
    · intro h f hf
      obtain ⟨x, hx, e⟩ := h f hf
      have : lt.any (fun h => decide (imA mp h = f)) = true := List.any_eq_true.mpr ⟨x, hx, decide_eq_true e⟩
      rw [this]
      decide
  have e3 : lsN mp (inB lt) = false ↔ lvB mp lt = false := by rw [e1, main, ← e2]
  cases h1 : lsN mp (inB lt) <;> cases h2 : lvB mp lt
  · rfl
  · rw [h1, h2] at e3
    exact absurd (e3.mp rfl) (by decide)
  · rw [h1, h2] at e3
    exact absurd (e3.mpr rfl) (by decide)
  · rfl
/-- the search leaves what lies below, and keeps the count -/
theorem tlp_low {oc : Nat → Bool} {v : Nat} {nx : (Nat → Nat) → Nat → Bool → sp_O} (hn : ∀ mp tl gu, tl ≤ 10000 → (∀ u, u < v + 1 → (nx mp tl gu).2.1 u = mp u) ∧ (nx mp tl gu).2.2.1 ≤ 10000) : ∀ f x (mp : Nat → Nat) tl gu, tl ≤ 10000 → (∀ u, u < v → (tlp F oc v nx f x mp tl gu).2.1 u = mp u) ∧ (tlp F oc v nx f x mp tl gu).2.2.1 ≤ 10000
  | 0, x, mp, tl, gu, h => ⟨fun _ _ => rfl, h⟩
  | f + 1, x, mp, tl, gu, h => by
    have up : ∀ u, u < v → updN mp v x u = mp u := fun u hu => if_neg (by omega)
    unfold tlp
    split
    · exact tlp_low hn f (x + 1) mp tl gu h
    · split
      · exact ⟨fun _ _ => rfl, h⟩
      · split
        · obtain ⟨h1, h2⟩ := hn (updN mp v x) (tl + 1) gu (by omega)
          split
          · exact ⟨fun u hu => by rw [h1 u (by omega)]; exact up u hu, h2⟩
          · obtain ⟨h3, h4⟩ := tlp_low (oc := oc) hn f (x + 1) (nx (updN mp v x) (tl + 1) gu).2.1 (nx (updN mp v x) (tl + 1) gu).2.2.1 (nx (updN mp v x) (tl + 1) gu).2.2.2 h2
            exact ⟨fun u hu => by rw [h3 u hu, h1 u (by omega)]; exact up u hu, h4⟩
        · obtain ⟨h3, h4⟩ := tlp_low (oc := oc) hn f (x + 1) (updN mp v x) (tl + 1) gu (by omega)
          exact ⟨fun u hu => by rw [h3 u hu]; exact up u hu, h4⟩
theorem tf_low {oc : Nat → Bool} : ∀ n v (mp : Nat → Nat) tl gu, tl ≤ 10000 → (∀ u, u < v → (tf F oc n v mp tl gu).2.1 u = mp u) ∧ (tf F oc n v mp tl gu).2.2.1 ≤ 10000
  | 0, v, mp, tl, gu, h => ⟨fun _ _ => rfl, h⟩
  | n + 1, v, mp, tl, gu, h => by
    unfold tf
    split
    · obtain ⟨h1, h2⟩ := tf_low (oc := oc) n (v + 1) mp tl gu h
      exact ⟨fun u hu => h1 u (by omega), h2⟩
    · exact tlp_low (fun mp tl gu h => tf_low n (v + 1) mp tl gu h) 24 0 mp tl gu h
/-- given up: nothing more is tried -/
def gvu (O : sp_O) : Prop := O.1 = false ∧ O.2.2.2 = true ∧ 10000 ≤ O.2.2.1
theorem tlp_gu {oc : Nat → Bool} {v : Nat} {nx : (Nat → Nat) → Nat → Bool → sp_O} : ∀ f x (mp : Nat → Nat) tl, 10000 ≤ tl → gvu (tlp F oc v nx f x mp tl true)
  | 0, x, mp, tl, h => ⟨rfl, rfl, h⟩
  | f + 1, x, mp, tl, h => by
    unfold tlp
    split
    · exact tlp_gu f (x + 1) mp tl h
    · exact ⟨rfl, rfl, h⟩
theorem tlp_end {oc : Nat → Bool} {v : Nat} {nx : (Nat → Nat) → Nat → Bool → sp_O} (hn : ∀ mp tl, (nx mp tl false).2.2.2 = true → gvu (nx mp tl false)) : ∀ f x (mp : Nat → Nat) tl, (tlp F oc v nx f x mp tl false).2.2.2 = true → gvu (tlp F oc v nx f x mp tl false)
  | 0, x, mp, tl, h => by cases h
  | f + 1, x, mp, tl, h => by
    unfold tlp at h ⊢
    split at h
    · rename_i z
      rw [if_pos z]
      exact tlp_end hn f (x + 1) mp tl h
    · rename_i z
      rw [if_neg z]
      split at h
      · rename_i z2
        rw [if_pos z2]
        exact ⟨rfl, rfl, z2⟩
      · rename_i z2
        rw [if_neg z2]
        split at h
        · rename_i z3
          rw [if_pos z3]
          split at h
          · rename_i z4
            rw [if_pos z4]
            exact hn _ _ h
          · rename_i z4
            rw [if_neg z4]
            cases e : (nx (updN mp v x) (tl + 1) false).2.2.2 with
            | true => exact tlp_gu f (x + 1) _ _ (hn _ _ e).2.2
            | false =>
              rw [e] at h
              exact tlp_end hn f (x + 1) _ _ h
        · rename_i z3
          rw [if_neg z3]
          exact tlp_end hn f (x + 1) _ _ h
theorem tf_end {oc : Nat → Bool} : ∀ n v (mp : Nat → Nat) tl, (tf F oc n v mp tl false).2.2.2 = true → gvu (tf F oc n v mp tl false)
  | 0, v, mp, tl, h => by cases h
  | n + 1, v, mp, tl, h => by
    unfold tf at h ⊢
    split at h
    · rename_i z
      rw [if_pos z]
      exact tf_end n (v + 1) mp tl h
    · rename_i z
      rw [if_neg z]
      exact tlp_end (fun mp tl => tf_end n (v + 1) mp tl) 24 0 mp tl h
end FoldPure
