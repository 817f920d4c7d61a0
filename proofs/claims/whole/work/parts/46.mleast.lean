/-! the model's least cost -/
theorem m47_3 {a r c : Int} {E' G least : Nat → Int32} (hrow : fMo_hasRow (iz a) (iz (r + 1)) E' G = some (iz 1)) (hc : 0 ≤ c ∧ c ≤ 7) : ∀ (d : Nat) (x : Int) (m : Nat), x = 8 - d → c + 1 < x → d < m → ∀ best any : Int32,
    fMo_laysSeam_L47 (iz a) (iz r) (iz c) E' G least m best any (iz x) = some best := by
  intro d
  induction d with
  | zero =>
    intro x m hx h0 hm best any
    obtain ⟨m, rfl⟩ : ∃ q, m = q + 1 := ⟨m - 1, by omega⟩
    have n2 : (8 : Int32) ≤ iz x := by rw [iz_n, iz_le (by omega) (by omega) (by omega) (by omega)]; omega
    unfold fMo_laysSeam_L47
    rw [if_pos n2]
  | succ d ih =>
    intro x m hx h0 hm best any
    obtain ⟨m, rfl⟩ : ∃ q, m = q + 1 := ⟨m - 1, by omega⟩
    have n2 : ¬ (8 : Int32) ≤ iz x := by rw [iz_n, iz_le (by omega) (by omega) (by omega) (by omega)]; omega
    have e1 : iz x + (1 : Int32) = iz (x + 1) := iz_add x 1
    have e3 : iz r + (1 : Int32) = iz (r + 1) := iz_add r 1
    have n3 : ¬ iz 1 = (0 : Int32) := by rw [iz_l0]; exact iz01
    have n4 : bi (c - x ≤ 1 ∧ x - c ≤ 1) = (0 : Int32) := by rw [iz_l0, bi0]; omega
    unfold fMo_laysSeam_L47
    rw [if_neg n2, e3, hrow, sMo_isNear (by omega) (by omega), e1]
    simp only [Option.bind_some, if_neg n3, if_pos n4]
    exact ih (x + 1) m (by omega) (by omega) (by omega) best any
