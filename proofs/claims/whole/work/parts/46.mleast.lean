/-! the model's least cost -/
theorem m47_3 {a r c : Int} {E' G least : Nat → Int32} (hrow : fMo_hasRow (iz a) (iz (r + 1)) E' G = some (iz 1)) (hc : 0 ≤ c ∧ c ≤ 7) : ∀ (d : Nat) (x : Int) (m : Nat), x = 8 - d → c + 1 < x → d < m → ∀ best any : Int32,
    fMo_laysSeam_L47 (iz a) (iz r) (iz c) E' G least m best any (iz x) = some best := by
  intro d
  induction d with
  | zero =>
    intro x m hx h0 hm best any
    obtain ⟨m, rfl⟩ : ∃ q, m = q + 1 := ⟨m - 1, by omega⟩
    have n2 : (8 : Int32) ≤ iz x := by rw [iz_n, iz_le (by omega) (by omega) (by omega) (by omega)]; omega
    unfold fMo_laysSeam_L47
    rw [if_pos n2]
  | succ d ih =>
    intro x m hx h0 hm best any
    obtain ⟨m, rfl⟩ : ∃ q, m = q + 1 := ⟨m - 1, by omega⟩
    have n2 : ¬ (8 : Int32) ≤ iz x := by rw [iz_n, iz_le (by omega) (by omega) (by omega) (by omega)]; omega
    have e1 : iz x + (1 : Int32) = iz (x + 1) := iz_add x 1
    have e3 : iz r + (1 : Int32) = iz (r + 1) := iz_add r 1
    have n3 : ¬ iz 1 = (0 : Int32) := by rw [iz_l0]; exact iz01
    have n4 : bi (c - x ≤ 1 ∧ x - c ≤ 1) = (0 : Int32) := by rw [iz_l0, bi0]; omega
    unfold fMo_laysSeam_L47
    rw [if_neg n2, e3, hrow, sMo_isNear (by omega) (by omega), e1]
    simp only [Option.bind_some, if_neg n3, if_pos n4]
    exact ih (x + 1) m (by omega) (by omega) (by omega) best any
theorem m47_2 {a r c : Int} {E' G least : Nat → Int32} {g : Int → Int} (hrow : fMo_hasRow (iz a) (iz (r + 1)) E' G = some (iz 1)) (hr : 0 ≤ r ∧ r ≤ 2) (hc : 0 ≤ c ∧ c ≤ 7) (lo : Int) (hlo : 0 ≤ lo ∧ lo ≤ c ∧ c - 1 ≤ lo) (hg : ∀ x, lo ≤ x ∧ x ≤ mi7 (c + 1) → least (8 * (r + 1) + x).toNat = iz (g x) ∧ 0 ≤ g x ∧ g x ≤ 1000) :
    ∀ (d : Nat) (x b : Int) (m : Nat), x = mi7 (c + 1) + 1 - d → lo < x → lo ≤ b ∧ b ≤ mi7 (c + 1) → d + 9 < m →
    fMo_laysSeam_L47 (iz a) (iz r) (iz c) E' G least m (iz (g b)) (iz 1) (iz x) = some (iz (g (chp g d b x))) := by
  have hm : c ≤ mi7 (c + 1) ∧ mi7 (c + 1) ≤ 7 ∧ mi7 (c + 1) ≤ c + 1 ∧ (mi7 (c + 1) = 7 ∨ mi7 (c + 1) = c + 1) := by unfold mi7; split <;> omega
  intro d
  induction d with
  | zero =>
    intro x b m hx h0 hb hm'
    by_cases q : c + 1 < x
    · exact m47_3 hrow hc (8 - x).toNat x m (by omega) q (by omega) _ _
    · obtain ⟨m, rfl⟩ : ∃ q, m = q + 1 := ⟨m - 1, by omega⟩
      have n2 : (8 : Int32) ≤ iz x := by rw [iz_n, iz_le (by omega) (by omega) (by omega) (by omega)]; omega
      unfold fMo_laysSeam_L47
      rw [if_pos n2]
      rfl
  | succ d ih =>
    intro x b m hx h0 hb hm'
    obtain ⟨m, rfl⟩ : ∃ q, m = q + 1 := ⟨m - 1, by omega⟩
    have n2 : ¬ (8 : Int32) ≤ iz x := by rw [iz_n, iz_le (by omega) (by omega) (by omega) (by omega)]; omega
    have e1 : iz x + (1 : Int32) = iz (x + 1) := iz_add x 1
    have e3 : iz r + (1 : Int32) = iz (r + 1) := iz_add r 1
    have e2 : (8 : Int32) * iz (r + 1) + iz x = iz (8 * (r + 1) + x) := by rw [iz_n, iz_mul, iz_add]
    have n3 : ¬ iz 1 = (0 : Int32) := by rw [iz_l0]; exact iz01
    have n4 : ¬ bi (c - x ≤ 1 ∧ x - c ≤ 1) = (0 : Int32) := by rw [iz_l0, bi0]; omega
    have i1 : 0 ≤ (iz (8 * (r + 1) + x)).toInt ∧ (iz (8 * (r + 1) + x)).toInt < 32 := by rw [iz_t (by omega) (by omega)]; omega
    have i2 : (iz (8 * (r + 1) + x)).toNatClampNeg = (8 * (r + 1) + x).toNat := iz_c (by omega) (by omega)
    obtain ⟨g1, g2, g3⟩ := hg x (by omega)
    obtain ⟨_, g4, g5⟩ := hg b hb
    have nle : (iz (g b) ≤ iz (g x)) ↔ g b ≤ g x := iz_le (by omega) (by omega) (by omega) (by omega)
    have st : chp g (d + 1) b x = chp g d (if g x < g b then x else b) (x + 1) := rfl
    unfold fMo_laysSeam_L47
    rw [if_neg n2, e3, hrow, sMo_isNear (by omega) (by omega), e1, st]
    simp only [Option.bind_some, if_neg n3, if_neg n4, e2, if_pos i1, i2, g1]
    by_cases q : g x < g b
    · rw [if_neg (fun z => by have := nle.mp z; omega), if_pos q]
      rw [show (1 : Int32) = iz 1 from iz_n 1]
      exact ih (x + 1) x m (by omega) (by omega) (by omega) (by omega)
    · rw [if_pos (nle.mpr (by omega)), if_neg q]
      exact ih (x + 1) b m (by omega) (by omega) (by omega) (by omega)
theorem m47_1 {a r c f : Int} {E' G least : Nat → Int32} {g : Int → Int} (hrow : fMo_hasRow (iz a) (iz (r + 1)) E' G = some (iz 1)) (hr : 0 ≤ r ∧ r ≤ 2) (hf : 1 ≤ f ∧ f ≤ 5) (hc : f ≤ c ∧ c ≤ 7) (hg : ∀ x, f ≤ x ∧ x ≤ 7 → least (8 * (r + 1) + x).toNat = iz (g x) ∧ 0 ≤ g x ∧ g x ≤ 1000) :
    ∀ (d : Nat) (x : Int) (m : Nat), x = mx f (c - 1) - d → f ≤ x → d + 20 < m → ∀ best : Int32,
    fMo_laysSeam_L47 (iz a) (iz r) (iz c) E' G least m best (iz 0) (iz x) = some (iz (g (chs g (mx f (c - 1)) (mi7 (c + 1))))) := by
  have hm := mx_r hf hc
  have hx' : mx f (c - 1) = f ∨ mx f (c - 1) = c - 1 := by unfold mx; split <;> omega
  have e3 : iz r + (1 : Int32) = iz (r + 1) := iz_add r 1
  have n3 : ¬ iz 1 = (0 : Int32) := by rw [iz_l0]; exact iz01
  have n5 : iz 0 = (0 : Int32) := iz_l0.symm
  intro d
  induction d with
  | zero =>
    intro x m hx h0 hm' best
    obtain ⟨m, rfl⟩ : ∃ q, m = q + 1 := ⟨m - 1, by omega⟩
    have n2 : ¬ (8 : Int32) ≤ iz x := by rw [iz_n, iz_le (by omega) (by omega) (by omega) (by omega)]; omega
    have e1 : iz x + (1 : Int32) = iz (x + 1) := iz_add x 1
    have e2 : (8 : Int32) * iz (r + 1) + iz x = iz (8 * (r + 1) + x) := by rw [iz_n, iz_mul, iz_add]
    have n4 : ¬ bi (c - x ≤ 1 ∧ x - c ≤ 1) = (0 : Int32) := by rw [iz_l0, bi0]; omega
    have i1 : 0 ≤ (iz (8 * (r + 1) + x)).toInt ∧ (iz (8 * (r + 1) + x)).toInt < 32 := by rw [iz_t (by omega) (by omega)]; omega
    have i2 : (iz (8 * (r + 1) + x)).toNatClampNeg = (8 * (r + 1) + x).toNat := iz_c (by omega) (by omega)
    obtain ⟨g1, g2, g3⟩ := hg x (by omega)
    have k := m47_2 (c := c) hrow hr (by omega) (mx f (c - 1)) (by omega) (g := g) (least := least) (fun y hy => hg y (by omega)) (mi7 (c + 1) - mx f (c - 1)).toNat (x + 1) x m (by omega) (by omega) (by omega) (by omega)
    have ex : x = mx f (c - 1) := by omega
    unfold fMo_laysSeam_L47
    rw [if_neg n2, e3, hrow, sMo_isNear (by omega) (by omega), e1]
    simp only [Option.bind_some, if_neg n3, if_neg n4, if_pos n5, e2, if_pos i1, i2, g1]
    rw [show (1 : Int32) = iz 1 from iz_n 1, k, ← ex]
    rfl
  | succ d ih =>
    intro x m hx h0 hm' best
    obtain ⟨m, rfl⟩ : ∃ q, m = q + 1 := ⟨m - 1, by omega⟩
    have n2 : ¬ (8 : Int32) ≤ iz x := by rw [iz_n, iz_le (by omega) (by omega) (by omega) (by omega)]; omega
    have e1 : iz x + (1 : Int32) = iz (x + 1) := iz_add x 1
    have n4 : bi (c - x ≤ 1 ∧ x - c ≤ 1) = (0 : Int32) := by rw [iz_l0, bi0]; omega
    unfold fMo_laysSeam_L47
    rw [if_neg n2, e3, hrow, sMo_isNear (by omega) (by omega), e1]
    simp only [Option.bind_some, if_neg n3, if_pos n4]
    exact ih (x + 1) m (by omega) (by omega) (by omega) best
