/-! dividing downwards -/
theorem iz_tdiv {a b : Int} (h1 : -2147483647 ≤ a ∧ a ≤ 2147483647) (h2 : 1 ≤ b ∧ b ≤ 2147483647) : iz a / iz b = iz (a.tdiv b) := by
  have hb : iz b ≠ -1 := by rw [iz_n, iz_neg]; intro e; rw [iz_eq (by omega) (by omega) (by omega) (by omega)] at e; omega
  have hq : -2147483647 ≤ a.tdiv b ∧ a.tdiv b ≤ 2147483647 := by
    by_cases c : 0 ≤ a
    · rw [Int.tdiv_eq_ediv_of_nonneg c]
      have := Int.ediv_nonneg c (show 0 ≤ b by omega)
      have := Int.ediv_le_self b c
      omega
    · have e : a.tdiv b = -((-a) / b) := by rw [← Int.tdiv_eq_ediv_of_nonneg (show 0 ≤ -a by omega), ← Int.neg_tdiv, Int.neg_neg]
      have := Int.ediv_nonneg (show 0 ≤ -a by omega) (show 0 ≤ b by omega)
      have := Int.ediv_le_self b (show 0 ≤ -a by omega)
      omega
  rw [← Int32.toInt_inj, Int32.toInt_div_of_ne_right _ _ hb, iz_t (by omega) (by omega), iz_t (by omega) (by omega), iz_t (by omega) (by omega)]
theorem lz_eq {a b : Int} (h1 : -9223372036854775808 ≤ a) (h2 : a ≤ 9223372036854775807) (h3 : -9223372036854775808 ≤ b) (h4 : b ≤ 9223372036854775807) : lz a = lz b ↔ a = b := by rw [← Int64.toInt_inj, lz_t h1 h2, lz_t h3 h4]
theorem lz_inj {a b : Int} (h : a = b) : lz a = lz b := congrArg lz h
theorem lz_tdiv {a b : Int} (h1 : -9223372036854775807 ≤ a ∧ a ≤ 9223372036854775807) (h2 : 1 ≤ b ∧ b ≤ 9223372036854775807) : lz a / lz b = lz (a.tdiv b) := by
  have hb : lz b ≠ -1 := by rw [lz_n, lz_neg]; intro e; rw [lz_eq (by omega) (by omega) (by omega) (by omega)] at e; omega
  have hq : -9223372036854775807 ≤ a.tdiv b ∧ a.tdiv b ≤ 9223372036854775807 := by
    by_cases c : 0 ≤ a
    · rw [Int.tdiv_eq_ediv_of_nonneg c]
      have := Int.ediv_nonneg c (show 0 ≤ b by omega)
      have := Int.ediv_le_self b c
      omega
    · have e : a.tdiv b = -((-a) / b) := by rw [← Int.tdiv_eq_ediv_of_nonneg (show 0 ≤ -a by omega), ← Int.neg_tdiv, Int.neg_neg]
      have := Int.ediv_nonneg (show 0 ≤ -a by omega) (show 0 ≤ b by omega)
      have := Int.ediv_le_self b (show 0 ≤ -a by omega)
      omega
  rw [← Int64.toInt_inj, Int64.toInt_div_of_ne_right _ _ hb, lz_t (by omega) (by omega), lz_t (by omega) (by omega), lz_t (by omega) (by omega)]
/-- the quotient cut towards 0 and the one below -/
theorem fl_d {a b : Int} (hb : 1 ≤ b) : (0 ≤ a → a.tdiv b = a / b ∧ 0 ≤ a - a.tdiv b * b) ∧ (a < 0 → (a - a.tdiv b * b = 0 → a.tdiv b = a / b) ∧ (a - a.tdiv b * b ≠ 0 → a - a.tdiv b * b < 0 ∧ a.tdiv b - 1 = a / b)) ∧ a - a.tdiv b * b ≤ b ∧ -b ≤ a - a.tdiv b * b := by
  refine ⟨fun c => ?_, fun c => ?_, ?_⟩
  · rw [Int.tdiv_eq_ediv_of_nonneg c]
    have h1 := Int.mul_ediv_add_emod a b
    have h2 := Int.emod_nonneg a (show b ≠ 0 by omega)
    rw [Int.mul_comm] at h1
    exact ⟨rfl, by omega⟩
  · have e : a.tdiv b = -((-a) / b) := by rw [← Int.tdiv_eq_ediv_of_nonneg (show 0 ≤ -a by omega), ← Int.neg_tdiv, Int.neg_neg]
    have h1 := Int.mul_ediv_add_emod (-a) b
    have h2 := Int.emod_nonneg (-a) (show b ≠ 0 by omega)
    have h3 := Int.emod_lt_of_pos (-a) (show 0 < b by omega)
    rw [Int.mul_comm] at h1
    rw [e]
    generalize (-a) / b = q at *
    have e2 : -q * b = -(q * b) := Int.neg_mul q b
    have e3 : (-q - 1) * b = -(q * b) - b := by rw [Int.sub_mul, e2, Int.one_mul]
    refine ⟨fun hz => ?_, fun hz => ⟨by omega, ?_⟩⟩
    · refine ((Int.ediv_eq_iff_of_pos (show 0 < b by omega)).mpr ?_).symm
      omega
    · refine ((Int.ediv_eq_iff_of_pos (show 0 < b by omega)).mpr ?_).symm
      rw [e3]
      omega
  · by_cases c : 0 ≤ a
    · rw [Int.tdiv_eq_ediv_of_nonneg c]
      have h1 := Int.mul_ediv_add_emod a b
      have h2 := Int.emod_nonneg a (show b ≠ 0 by omega)
      have h3 := Int.emod_lt_of_pos a (show 0 < b by omega)
      rw [Int.mul_comm] at h1
      omega
    · have e : a.tdiv b = -((-a) / b) := by rw [← Int.tdiv_eq_ediv_of_nonneg (show 0 ≤ -a by omega), ← Int.neg_tdiv, Int.neg_neg]
      have h1 := Int.mul_ediv_add_emod (-a) b
      have h2 := Int.emod_nonneg (-a) (show b ≠ 0 by omega)
      have h3 := Int.emod_lt_of_pos (-a) (show 0 < b by omega)
      rw [Int.mul_comm] at h1
      rw [e]
      generalize (-a) / b = q at *
      have e2 : -q * b = -(q * b) := Int.neg_mul q b
      omega
theorem sMo_floorBy {a b : Int} (h1 : -1000000000 ≤ a ∧ a ≤ 1000000000) (h2 : 1 ≤ b ∧ b ≤ 1000000000) : fMo_floorBy (iz a) (iz b) = some (iz (a / b)) := by
  obtain ⟨p1, p2, p3, p4⟩ := fl_d (a := a) h2.1
  have hd := iz_tdiv (a := a) (b := b) (by omega) (by omega)
  unfold fMo_floorBy
  rw [hd, iz_mul, iz_sub]
  have n1 : ¬ iz b = (0 : Int32) := by simp (disch := omega) only [iz_n, iz_neg, iz_add, iz_sub, iz_mul, iz_lt, iz_le, iz_eq, iz_t, iz_c]; omega
  have n2 : (0 ≤ iz (a - a.tdiv b * b)) ↔ 0 ≤ a - a.tdiv b * b := by rw [iz_n]; exact iz_le (by omega) (by omega) (by omega) (by omega)
  have e1 : iz (a.tdiv b) - (1 : Int32) = iz (a.tdiv b - 1) := iz_sub _ 1
  rw [e1]
  generalize a.tdiv b = q at *
  simp only [if_pos n1]
  by_cases c : 0 ≤ a
  · rw [if_pos (n2.mpr (p1 c).2), (p1 c).1]
  · by_cases c2 : a - q * b = 0
    · rw [if_pos (n2.mpr (by omega)), (p2 (by omega)).1 c2]
    · have := (p2 (by omega)).2 c2
      simp only [if_neg (fun k => by have := n2.mp k; omega : ¬ 0 ≤ iz (a - q * b)), this.2]
theorem xor_s {a b : Int} (h1 : -9223372036854775808 ≤ a ∧ a ≤ 9223372036854775807) (h2 : 1 ≤ b ∧ b ≤ 9223372036854775807) : (0 ≤ lg_cmp (lz a ^^^ lz b) (0 : Int64)) ↔ 0 ≤ a := by
  have m1 : (lz a).toBitVec.msb = decide (a < 0) := by
    rw [BitVec.msb_eq_toInt, show (lz a).toBitVec.toInt = a from lz_t h1.1 h1.2]
  have m2 : (lz b).toBitVec.msb = decide (b < 0) := by
    rw [BitVec.msb_eq_toInt, show (lz b).toBitVec.toInt = b from lz_t (by omega) (by omega)]
  have m3 : (lz a ^^^ lz b).toBitVec.msb = decide ((lz a ^^^ lz b).toInt < 0) := BitVec.msb_eq_toInt
  have m4 : (lz a ^^^ lz b).toBitVec.msb = ((lz a).toBitVec.msb ^^ (lz b).toBitVec.msb) := BitVec.msb_xor
  rw [m1, m2, m3] at m4
  rw [lg_cmp_ge, Int64.le_iff_toInt_le, show (0 : Int64).toInt = 0 by decide]
  have hb : decide (b < 0) = false := decide_eq_false (by omega)
  rw [hb, Bool.xor_false] at m4
  have := (decide_eq_decide.mp m4)
  omega
theorem sJ9_floorDiv {a b : Int} (h1 : -4000000000000000000 ≤ a ∧ a ≤ 4000000000000000000) (h2 : 1 ≤ b ∧ b ≤ 4000000000000000000) : fJ9_floorDiv_f86c9 (lz a) (lz b) = some (lz (a / b)) := by
  obtain ⟨p1, p2, p3, p4⟩ := fl_d (a := a) h2.1
  have hd := lz_tdiv (a := a) (b := b) (by omega) (by omega)
  have n1 : ¬ lz b = (0 : Int64) := by rw [lz_n, lz_eq (by omega) (by omega) (by omega) (by omega)]; omega
  have n2 := xor_s (a := a) (b := b) (by omega) (by omega)
  have n3 : (lg_cmp (lz (a.tdiv b * b)) (lz a) = 0) ↔ a.tdiv b * b = a := by rw [lg_cmp_eq, lz_eq (by omega) (by omega) (by omega) (by omega)]
  have e1 : lz (a.tdiv b) - (1 : Int64) = lz (a.tdiv b - 1) := lz_sub _ 1
  unfold fJ9_floorDiv_f86c9
  rw [hd, lz_mul, e1, if_pos n1]
  generalize a.tdiv b = q at *
  by_cases c : 0 ≤ a
  · rw [if_pos (n2.mpr c), (p1 c).1]
  · rw [if_neg (fun k => c (n2.mp k))]
    by_cases c2 : a - q * b = 0
    · rw [if_pos (n3.mpr (by omega)), (p2 (by omega)).1 c2]
    · rw [if_neg (fun k => by have := n3.mp k; omega), ((p2 (by omega)).2 c2).2]
theorem sRi_nearest {a b : Int} (h1 : -1000000000000000000 ≤ a ∧ a ≤ 1000000000000000000) (h2 : 1 ≤ b ∧ b ≤ 1000000000000000000) : fRi_nearest (lz a) (lz b) = some (lz ((2 * a + b) / (2 * b))) := by
  unfold fRi_nearest
  have n1 : ¬ lg_cmp (lz b) (0 : Int64) ≤ 0 := by rw [lg_cmp_le, Int64.le_iff_toInt_le, lz_t (by omega) (by omega), show (0 : Int64).toInt = 0 by decide]; omega
  rw [if_neg n1, lz_n, lz_mul, lz_mul, lz_add, sJ9_floorDiv (by omega) (by omega)]
  rfl
