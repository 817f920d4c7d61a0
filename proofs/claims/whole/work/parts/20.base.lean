/-! Int32 by whole numbers -/
def iz (z : Int) : Int32 := Int32.ofInt z
theorem iz_of (x : Int32) : ∃ z : Int, -2147483648 ≤ z ∧ z ≤ 2147483647 ∧ x = iz z := ⟨x.toInt, Int32.le_toInt x, by have := Int32.toInt_lt x; omega, (Int32.ofInt_toInt x).symm⟩
theorem iz_n (n : Nat) : (OfNat.ofNat n : Int32) = iz (OfNat.ofNat n : Int) := (Int32.ofInt_eq_ofNat (n := n)).symm
theorem iz_add (a b : Int) : iz a + iz b = iz (a + b) := (Int32.ofInt_add a b).symm
theorem iz_sub (a b : Int) : iz a - iz b = iz (a - b) := (Int32.ofInt_sub a b).symm
theorem iz_mul (a b : Int) : iz a * iz b = iz (a * b) := (Int32.ofInt_mul a b).symm
theorem iz_neg (a : Int) : -iz a = iz (-a) := Int32.neg_ofInt
theorem iz_t {a : Int} (h1 : -2147483648 ≤ a) (h2 : a ≤ 2147483647) : (iz a).toInt = a := Int32.toInt_ofInt_of_le h1 (by omega)
theorem iz_c {a : Int} (h1 : -2147483648 ≤ a) (h2 : a ≤ 2147483647) : (iz a).toNatClampNeg = a.toNat := Int32.toNatClampNeg_ofInt_of_le h1 (by omega)
theorem iz_lt {a b : Int} (h1 : -2147483648 ≤ a) (h2 : a ≤ 2147483647) (h3 : -2147483648 ≤ b) (h4 : b ≤ 2147483647) : iz a < iz b ↔ a < b := by rw [Int32.lt_iff_toInt_lt, iz_t h1 h2, iz_t h3 h4]
theorem iz_le {a b : Int} (h1 : -2147483648 ≤ a) (h2 : a ≤ 2147483647) (h3 : -2147483648 ≤ b) (h4 : b ≤ 2147483647) : iz a ≤ iz b ↔ a ≤ b := by rw [Int32.le_iff_toInt_le, iz_t h1 h2, iz_t h3 h4]
theorem iz_eq {a b : Int} (h1 : -2147483648 ≤ a) (h2 : a ≤ 2147483647) (h3 : -2147483648 ≤ b) (h4 : b ≤ 2147483647) : iz a = iz b ↔ a = b := by rw [← Int32.toInt_inj, iz_t h1 h2, iz_t h3 h4]
theorem iz_test (a b : Int) (h : 0 ≤ a ∧ a ≤ 5) (h2 : 0 ≤ b ∧ b ≤ 7) : ((iz a * (32 : Int32)) + (8 : Int32) * iz b + (-1 : Int32)) < (2000 : Int32) := by
  simp (disch := omega) only [iz_n, iz_neg, iz_add, iz_sub, iz_mul, iz_lt]
  omega
theorem iz_test2 (a b : Int) (h : 0 ≤ a ∧ a ≤ 5) (h2 : 0 ≤ b ∧ b ≤ 7) (f : Nat → Int32) : (if 0 ≤ ((iz a * (32 : Int32)) + (8 : Int32) * iz b + (-1 : Int32)).toInt then f ((iz a * (32 : Int32)) + (8 : Int32) * iz b + (1 : Int32)).toNatClampNeg else 0) = (if 0 ≤ (a * 32 + 8 * b + -1) then f (a * 32 + 8 * b + 1).toNat else 0) := by
  simp (disch := omega) only [iz_n, iz_neg, iz_add, iz_sub, iz_mul, iz_lt, iz_t, iz_c]
