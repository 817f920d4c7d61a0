/-! Int64 by whole numbers; yes-or-no answers -/
def lz (z : Int) : Int64 := Int64.ofInt z
theorem lz_n (n : Nat) : (OfNat.ofNat n : Int64) = lz (OfNat.ofNat n : Int) := (Int64.ofInt_eq_ofNat (n := n)).symm
theorem lz_add (a b : Int) : lz a + lz b = lz (a + b) := (Int64.ofInt_add a b).symm
theorem lz_sub (a b : Int) : lz a - lz b = lz (a - b) := (Int64.ofInt_sub a b).symm
theorem lz_mul (a b : Int) : lz a * lz b = lz (a * b) := (Int64.ofInt_mul a b).symm
theorem lz_neg (a : Int) : -lz a = lz (-a) := Int64.neg_ofInt
theorem lz_t {a : Int} (h1 : -9223372036854775808 ≤ a) (h2 : a ≤ 9223372036854775807) : (lz a).toInt = a := Int64.toInt_ofInt_of_le h1 (by omega)
theorem lz_self (x : Int64) : x = lz x.toInt := (Int64.ofInt_toInt x).symm
theorem iz_self (x : Int32) : x = iz x.toInt := (Int32.ofInt_toInt x).symm
theorem iz_64 {a : Int} (h1 : -2147483648 ≤ a) (h2 : a ≤ 2147483647) : (iz a).toInt64 = lz a := by
  rw [← Int64.toInt_inj, Int32.toInt_toInt64, iz_t h1 h2, lz_t (by omega) (by omega)]
def bi (p : Prop) [Decidable p] : Int32 := if p then iz 1 else iz 0
theorem iz01 : ¬ iz 1 = iz 0 := by rw [iz_eq (by omega) (by omega) (by omega) (by omega)]; omega
theorem bi0 {p : Prop} [Decidable p] : (bi p = iz 0) = ¬ p := by unfold bi; split <;> simp_all [iz01]
theorem bi1 {p : Prop} [Decidable p] : (bi p = iz 1) = p := by unfold bi; split <;> simp_all [iz01, Ne.symm iz01]
theorem bi01 {p : Prop} [Decidable p] : (¬ p ∨ p) = True := by by_cases h : p <;> simp [h]
theorem bi10 {p : Prop} [Decidable p] (h : p) : bi p = iz 1 := if_pos h
theorem bi11 {p : Prop} [Decidable p] (h : ¬ p) : bi p = iz 0 := if_neg h
theorem ite_bi {p : Prop} [Decidable p] : (if p then some (iz 1) else some (iz 0)) = some (bi p) := by unfold bi; split <;> rfl
theorem bi_c {p q : Prop} [Decidable p] [Decidable q] (h : p ↔ q) : bi p = bi q := by unfold bi; simp only [h]
theorem lg0 (x y : Int64) : lg_cmp x y < 0 ↔ x.toInt < y.toInt := by
  have h := lg_cmp_lt (x := x) (y := y); rw [h]; exact Int64.lt_iff_toInt_lt
