/-! Integer.bitCount: as many as there are bits, for sets of 24 -/
def us (x : Int32) (n : Nat) : Int32 := (x.toUInt32 >>> ((nI n).toUInt32 &&& Int32.toUInt32 31)).toInt32
def bc1 (i : Int32) : Int32 := i - (us i 1 &&& nI 1431655765)
def bc2 (i : Int32) : Int32 := (i &&& nI 858993459) + (us i 2 &&& nI 858993459)
def bc3 (i : Int32) : Int32 := (i + us i 4) &&& nI 252645135
def bc4 (i : Int32) : Int32 := i + us i 8
def bc5 (i : Int32) : Int32 := i + us i 16
theorem ev_bitCount0 {X : mi_X} {w : mi_H} (x : Int32) : mi_Ev X mi_P 1 k_In_bitCount [.int x] w (some (.int (bc5 (bc4 (bc3 (bc2 (bc1 x)))) &&& nI 63))) w := by
  refine mi_Ev.of (M := m_In_bitCount) rfl (Nat.le_of_ble_eq_true rfl) ?_
  repeat (first | refine mi_s1 (fun _ => rfl) ?_ | refine mi_wgf rfl (by assumption) rfl ?_ | refine mi_wal rfl (by assumption) rfl (by omega) (by decide) ?_)
  refine mi_r1 (fun _ => rfl) ?_
  exact ⟨rfl, rfl⟩
theorem land16 {a b c d : Nat} (hb : b < 65536) (hd : d < 65536) : (65536 * a + b) &&& (65536 * c + d) = 65536 * (a &&& c) + (b &&& d) := by
  have e : ∀ x y j : Nat, y < 65536 → (65536 * x + y).testBit j = if j < 16 then y.testBit j else x.testBit (j - 16) := fun x y j hy => Nat.testBit_two_pow_mul_add x (i := 16) hy j
  have hbd : b &&& d < 65536 := Nat.and_lt_two_pow b (n := 16) hd
  apply Nat.eq_of_testBit_eq
  intro j
  rw [Nat.testBit_and, e a b j hb, e c d j hd, e (a &&& c) (b &&& d) j hbd]
  split
  · rw [Nat.testBit_and]
  · rw [Nat.testBit_and]
theorem sland16 {a b c d k : Nat} (hk : k ≤ 16) (hb : b < 65536) (hd : d < 2 ^ (16 - k)) : (65536 * a + b) / 2 ^ k &&& (65536 * c + d) = 65536 * ((a / 2 ^ k) &&& c) + ((b / 2 ^ k) &&& d) := by
  have e : ∀ x y j : Nat, y < 65536 → (65536 * x + y).testBit j = if j < 16 then y.testBit j else x.testBit (j - 16) := fun x y j hy => Nat.testBit_two_pow_mul_add x (i := 16) hy j
  have hd2 : d < 65536 := Nat.lt_of_lt_of_le hd (Nat.pow_le_pow_right (by decide) (by omega : 16 - k ≤ 16))
  have hbd : (b / 2 ^ k) &&& d < 65536 := Nat.and_lt_two_pow _ (n := 16) hd2
  apply Nat.eq_of_testBit_eq
  intro j
  rw [Nat.testBit_and, Nat.testBit_div_two_pow, e a b _ hb, e c d j hd2, e _ _ j hbd]
  by_cases h1 : j < 16
  · rw [if_pos h1, if_pos h1, Nat.testBit_and, Nat.testBit_div_two_pow]
    by_cases h2 : j + k < 16
    · rw [if_pos h2]
    · have h3 : d.testBit j = false := Nat.testBit_lt_two_pow (Nat.lt_of_lt_of_le hd (Nat.pow_le_pow_right (by decide) (by omega)))
      rw [h3, Bool.and_false, Bool.and_false]
  · rw [if_neg h1, if_neg h1, if_neg (by omega), Nat.testBit_and, Nat.testBit_div_two_pow]
    congr 2
    omega
def p8 (b : Nat) : Nat := cn (fun i => b.testBit i) 8
def n1 (u : Nat) : Nat := u - ((u / 2) &&& 21845)
def n2 (u : Nat) : Nat := (u &&& 13107) + ((u / 4) &&& 13107)
def n3 (u : Nat) : Nat := (u + u / 16) &&& 3855
set_option maxRecDepth 100000 in
theorem n_all : ∀ a, a < 256 → ∀ b, b < 256 → n3 (n2 (n1 (256 * a + b))) = 256 * p8 a + p8 b ∧ n2 (n1 (256 * a + b)) ≤ 17476 ∧ n2 (n1 (256 * a + b)) % 16 ≤ 4 ∧ n1 (256 * a + b) < 65536 := by decide +kernel
theorem n_end : ∀ a, a < 9 → ∀ b, b < 9 → ∀ c, c < 9 → ((65536 * a + 256 * b + c) + (65536 * a + 256 * b + c) / 256 + ((65536 * a + 256 * b + c) + (65536 * a + 256 * b + c) / 256) / 65536) &&& 63 = a + b + c := by decide +kernel
