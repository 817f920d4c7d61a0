/-! the greatest divisor, both sides -/
def eu : Nat → Int → Int → Int
  | 0, a, _ => a
  | k + 1, a, b => if b = 0 then a else eu k b (a % b)
def ed : Nat → Int → Int → Prop
  | 0, _, b => b = 0
  | k + 1, a, b => b = 0 ∨ ed k b (a % b)
theorem ed_lo : ∀ (k : Nat) (a b : Int), 0 ≤ b → b < 2 ^ k → ed (2 * k + 1) a b := by
  intro k
  induction k with
  | zero => intro a b h1 h2; exact .inl (by have : b < 1 := h2; omega)
  | succ k ih =>
    intro a b h1 h2
    by_cases c : b = 0
    · exact .inl c
    · right
      have hr1 := Int.emod_nonneg a c
      have hr2 := Int.emod_lt_of_pos a (show 0 < b by omega)
      show ed (2 * k + 2) b (a % b)
      by_cases d : a % b = 0
      · exact .inl d
      · right
        generalize hr : a % b = r at *
        have s1 := Int.emod_nonneg b d
        have s2 := Int.emod_lt_of_pos b (show 0 < r by omega)
        have s3 : (b - r) % r = b % r := Int.sub_emod_right b r
        have s4 : (b - r) % r ≤ b - r := by
          have q1 := Int.mul_ediv_add_emod (b - r) r
          have q2 : 0 ≤ r * ((b - r) / r) := Int.mul_nonneg (by omega) (Int.ediv_nonneg (by omega) (by omega))
          omega
        have s5 : (2 : Int) ^ (k + 1) = 2 ^ k * 2 := Int.pow_succ 2 k
        exact ih r (b % r) s1 (by omega)
theorem eu_0 : ∀ (k : Nat) (a : Int), eu k a 0 = a := by
  intro k a
  cases k with
  | zero => rfl
  | succ k => exact if_pos rfl
theorem eu_r : ∀ (k : Nat) (a b : Int), ed k a b → 0 < b → 1 ≤ eu k a b ∧ eu k a b ≤ b := by
  intro k
  induction k with
  | zero => intro a b h1 h2; have : b = 0 := h1; omega
  | succ k ih =>
    intro a b h1 h2
    have hr1 := Int.emod_nonneg a (show b ≠ 0 by omega)
    have hr2 := Int.emod_lt_of_pos a h2
    have e : eu (k + 1) a b = eu k b (a % b) := if_neg (by omega)
    rw [e]
    by_cases c : a % b = 0
    · rw [c, eu_0]; omega
    · have : ed k b (a % b) := by rcases h1 with h | h; · omega
                                  · exact h
      have := ih b (a % b) this (by omega)
      omega
theorem lz_mod {a b : Int} (h1 : 0 ≤ a ∧ a ≤ 4000000000000000000) (h2 : 1 ≤ b ∧ b ≤ 4000000000000000000) : lz a - lz a / lz b * lz b = lz (a % b) := by
  rw [lz_div (by omega) (by omega), lz_mul, lz_sub]
  refine lz_inj ?_
  have := Int.mul_ediv_add_emod a b
  rw [Int.mul_comm] at this
  omega
theorem lz0 : (0 : Int64) = lz 0 := lz_n 0
theorem cmp0 {b : Int} (h : 0 ≤ b ∧ b ≤ 4000000000000000000) : (lg_cmp (lz b) (0 : Int64) = 0) ↔ b = 0 := by
  rw [lz0, iz_l0, lc_eq (by omega) (by omega)]
theorem ne0 {b : Int} (h : 0 ≤ b ∧ b ≤ 4000000000000000000) : (lz b = (0 : Int64)) ↔ b = 0 := by
  rw [lz0]; exact lz_eq (by omega) (by omega) (by omega) (by omega)
theorem eu_c : ∀ (k : Nat) (a b : Int) (m : Nat) (s : Int), ed k a b → 0 ≤ a ∧ a ≤ 4000000000000000000 → 0 ≤ b ∧ b ≤ 4000000000000000000 → k < m → 0 ≤ s → s + k ≤ 199 → fRi_greatestDivisor_L31 m (lz a) (lz b) (iz s) = some (lz (eu k a b)) := by
  intro k
  induction k with
  | zero =>
    intro a b m s h ha hb hm h0 hs
    obtain ⟨m, rfl⟩ : ∃ q, m = q + 1 := ⟨m - 1, by omega⟩
    have hb0 : b = 0 := h
    have n1 : ¬ (200 : Int32) ≤ iz s := by rw [iz_n, iz_le (by omega) (by omega) (by omega) (by omega)]; omega
    unfold fRi_greatestDivisor_L31
    rw [if_neg n1, if_pos ((cmp0 hb).mpr hb0)]
    rfl
  | succ k ih =>
    intro a b m s h ha hb hm h0 hs
    obtain ⟨m, rfl⟩ : ∃ q, m = q + 1 := ⟨m - 1, by omega⟩
    have n1 : ¬ (200 : Int32) ≤ iz s := by rw [iz_n, iz_le (by omega) (by omega) (by omega) (by omega)]; omega
    have e1 : iz s + (1 : Int32) = iz (s + 1) := iz_add s 1
    unfold fRi_greatestDivisor_L31
    rw [if_neg n1]
    by_cases c : b = 0
    · rw [if_pos ((cmp0 hb).mpr c), show eu (k + 1) a b = a from if_pos c]
    · have hr1 := Int.emod_nonneg a c
      have hr2 := Int.emod_lt_of_pos a (show 0 < b by omega)
      rw [if_neg (fun z => c ((cmp0 hb).mp z)), if_pos (fun z => c ((ne0 hb).mp z)), lz_mod ha (by omega), e1, show eu (k + 1) a b = eu k b (a % b) from if_neg c]
      simp only [Option.bind_some]
      exact ih b (a % b) m (s + 1) (by rcases h with h | h; · omega
                                       · exact h) hb (by omega) (by omega) (by omega) (by omega)
theorem eu_m : ∀ (k : Nat) (a b : Int) (m : Nat), ed k a b → 0 ≤ a ∧ a ≤ 4000000000000000000 → 0 ≤ b ∧ b ≤ 4000000000000000000 → k < m → fMo_lowest_L27 m (lz a) (lz b) = some (lz (eu k a b)) := by
  intro k
  induction k with
  | zero =>
    intro a b m h ha hb hm
    obtain ⟨m, rfl⟩ : ∃ q, m = q + 1 := ⟨m - 1, by omega⟩
    have hb0 : b = 0 := h
    unfold fMo_lowest_L27
    rw [if_pos ((cmp0 hb).mpr hb0)]
    rfl
  | succ k ih =>
    intro a b m h ha hb hm
    obtain ⟨m, rfl⟩ : ∃ q, m = q + 1 := ⟨m - 1, by omega⟩
    unfold fMo_lowest_L27
    by_cases c : b = 0
    · rw [if_pos ((cmp0 hb).mpr c), show eu (k + 1) a b = a from if_pos c]
    · have hr1 := Int.emod_nonneg a c
      have hr2 := Int.emod_lt_of_pos a (show 0 < b by omega)
      rw [if_neg (fun z => c ((cmp0 hb).mp z)), if_pos (fun z => c ((ne0 hb).mp z)), lz_mod ha (by omega), show eu (k + 1) a b = eu k b (a % b) from if_neg c]
      simp only [Option.bind_some]
      exact ih b (a % b) m (by rcases h with h | h; · omega
                               · exact h) hb (by omega) (by omega)
/-- the greatest divisor of a and b -/
theorem GD_ex (a b : Int) : ∃ v : Int, v = eu 53 (ab a) b := ⟨_, rfl⟩
noncomputable def GD (a b : Int) : Int := Classical.choose (GD_ex a b)
theorem GD_eq (a b : Int) : GD a b = eu 53 (ab a) b := Classical.choose_spec (GD_ex a b)
theorem ed_53 {a b : Int} (hb : 1 ≤ b ∧ b ≤ 60000000) : ed 53 a b := ed_lo 26 a b (by omega) (by rw [show (2 : Int) ^ 26 = 67108864 from rfl]; omega)
theorem GD_r {a b : Int} (hb : 1 ≤ b ∧ b ≤ 60000000) : 1 ≤ GD a b ∧ GD a b ≤ b := by
  rw [GD_eq]; exact eu_r 53 _ _ (ed_53 hb) (by omega)
theorem lab {a : Int} (h : -4000000000000000000 ≤ a ∧ a ≤ 4000000000000000000) : (if 0 ≤ lg_cmp (lz a) (0 : Int64) then some (lz a) else some (-lz a)) = some (lz (ab a)) := by
  have n : (0 ≤ lg_cmp (lz a) (0 : Int64)) ↔ 0 ≤ a := by rw [lz0, iz_l0, lc_ge (by omega) (by omega)]
  unfold ab
  by_cases c : 0 ≤ a
  · rw [if_pos (n.mpr c), if_pos c]
  · rw [if_neg (fun z => c (n.mp z)), if_neg c, lz_neg]
theorem sRi_gd {a b : Int} (h : -4000000000000000000 ≤ a ∧ a ≤ 4000000000000000000) (hb : 1 ≤ b ∧ b ≤ 60000000) : fRi_greatestDivisor (lz a) (lz b) = some (lz (GD a b)) := by
  have ha : 0 ≤ ab a ∧ ab a ≤ 4000000000000000000 := by unfold ab; split <;> omega
  have hbb : ab b = b := if_pos (by omega)
  have h1 := eu_c 53 (ab a) b FU 0 (ed_53 hb) ha (by omega) (by show _ < 5000; omega) (by omega) (by omega)
  rw [← iz_l0] at h1
  unfold fRi_greatestDivisor
  rw [lab h, lab (a := b) (by omega), hbb]
  simp only [Option.bind_some, h1]
  rw [GD_eq]
theorem sMo_lowest {a b : Int} (h : -4000000000000000000 ≤ a ∧ a ≤ 4000000000000000000) (hb : 1 ≤ b ∧ b ≤ 60000000) : fMo_lowest (lz a) (lz b) = some (lz a / lz (GD a b), lz b / lz (GD a b)) := by
  have ha : 0 ≤ ab a ∧ ab a ≤ 4000000000000000000 := by unfold ab; split <;> omega
  have h1 := eu_m 53 (ab a) b FU (ed_53 hb) ha (by omega) (by show _ < 5000; omega)
  have hg := GD_r (a := a) hb
  have n1 : ¬ lz (GD a b) = (0 : Int64) := fun z => by have := (ne0 (b := GD a b) (by omega)).mp z; omega
  rw [← GD_eq] at h1
  unfold fMo_lowest
  rw [lab h]
  simp only [Option.bind_some, h1, if_pos n1]
