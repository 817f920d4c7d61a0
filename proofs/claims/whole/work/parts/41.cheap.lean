/-! the least column of least cost -/
def chp (g : Int → Int) : Nat → Int → Int → Int
  | 0, b, _ => b
  | d + 1, b, c => chp g d (if g c < g b then c else b) (c + 1)
theorem chp_r (g : Int → Int) {lo hi : Int} : ∀ (d : Nat) (b c : Int), lo ≤ b ∧ b ≤ hi → lo ≤ c → c + d ≤ hi + 1 → lo ≤ chp g d b c ∧ chp g d b c ≤ hi := by
  intro d
  induction d with
  | zero => intro b c h _ _; exact h
  | succ d ih =>
    intro b c h h1 h2
    refine ih _ _ ?_ (by omega) (by omega)
    split <;> omega
theorem chp_c {g g' : Int → Int} {lo hi : Int} (hg : ∀ x, lo ≤ x ∧ x ≤ hi → g x = g' x) : ∀ (d : Nat) (b c : Int), lo ≤ b ∧ b ≤ hi → lo ≤ c → c + d ≤ hi + 1 → chp g d b c = chp g' d b c := by
  intro d
  induction d with
  | zero => intro b c _ _ _; rfl
  | succ d ih =>
    intro b c h h1 h2
    show chp g d (if g c < g b then c else b) (c + 1) = chp g' d (if g' c < g' b then c else b) (c + 1)
    rw [hg c (by omega), hg b h]
    refine ih _ _ ?_ (by omega) (by omega)
    split <;> omega
def rw' (cost : Nat → Int32) (r c : Int) : Int := (cost (r * 8 + c).toNat).toInt
theorem sSe_cheapL {cost : Nat → Int32} {r to : Int} (hr : 0 ≤ r ∧ r ≤ 3) (ht : -100 ≤ to ∧ to ≤ 100) : ∀ (d : Nat) (b c : Int) (m : Nat), (to + 1 ≤ 8 → c + d = to + 1) → (8 < to + 1 → c + d = 8) → 0 ≤ b ∧ b ≤ 7 → 0 ≤ c → c ≤ 8 → d < m →
    fSe_cheapest_L30 (iz r) (iz to) cost m (iz b) (iz c) = some (iz (chp (rw' cost r) d b c)) := by
  intro d
  induction d with
  | zero =>
    intro b c m h1 h2 hb hc hc8 hm
    obtain ⟨m, rfl⟩ : ∃ q, m = q + 1 := ⟨m - 1, by omega⟩
    have n1 : (iz to < iz c) ↔ to < c := iz_lt (by omega) (by omega) (by omega) (by omega)
    have n2 : ((8 : Int32) ≤ iz c) ↔ 8 ≤ c := by rw [iz_n]; exact iz_le (by omega) (by omega) (by omega) (by omega)
    unfold fSe_cheapest_L30
    by_cases q : to < c
    · rw [if_pos (n1.mpr q)]; rfl
    · rw [if_neg (fun z => q (n1.mp z)), if_pos (n2.mpr (by omega))]; rfl
  | succ d ih =>
    intro b c m h1 h2 hb hc hc8 hm
    obtain ⟨m, rfl⟩ : ∃ q, m = q + 1 := ⟨m - 1, by omega⟩
    have n1 : ¬ iz to < iz c := by rw [iz_lt (by omega) (by omega) (by omega) (by omega)]; omega
    have n2 : ¬ (8 : Int32) ≤ iz c := by rw [iz_n, iz_le (by omega) (by omega) (by omega) (by omega)]; omega
    have e1 : iz c + (1 : Int32) = iz (c + 1) := iz_add c 1
    have e2 : iz r * (8 : Int32) + iz c = iz (r * 8 + c) := by rw [iz_n, iz_mul, iz_add]
    have e3 : iz r * (8 : Int32) + iz b = iz (r * 8 + b) := by rw [iz_n, iz_mul, iz_add]
    have i1 : 0 ≤ (iz (r * 8 + c)).toInt ∧ (iz (r * 8 + c)).toInt < 32 := by rw [iz_t (by omega) (by omega)]; omega
    have i2 : 0 ≤ (iz (r * 8 + b)).toInt ∧ (iz (r * 8 + b)).toInt < 32 := by rw [iz_t (by omega) (by omega)]; omega
    have i3 : (iz (r * 8 + c)).toNatClampNeg = (r * 8 + c).toNat := iz_c (by omega) (by omega)
    have i4 : (iz (r * 8 + b)).toNatClampNeg = (r * 8 + b).toNat := iz_c (by omega) (by omega)
    have hle : (cost (r * 8 + b).toNat ≤ cost (r * 8 + c).toNat) ↔ ¬ rw' cost r c < rw' cost r b := by
      unfold rw'; rw [Int32.le_iff_toInt_le]; omega
    have st : chp (rw' cost r) (d + 1) b c = chp (rw' cost r) d (if rw' cost r c < rw' cost r b then c else b) (c + 1) := rfl
    unfold fSe_cheapest_L30
    rw [if_neg n1, if_neg n2, e2, e3, if_pos i1, if_pos i2, i3, i4, e1, st]
    by_cases q : rw' cost r c < rw' cost r b
    · rw [if_neg (fun z => hle.mp z q), if_pos q]
      exact ih c (c + 1) m (by omega) (by omega) (by omega) (by omega) (by omega) (by omega)
    · rw [if_pos (hle.mpr q), if_neg q]
      exact ih b (c + 1) m (by omega) (by omega) (by omega) (by omega) (by omega) (by omega)
/-- the cheapest of the columns from lo to hi -/
def chs (g : Int → Int) (lo hi : Int) : Int := chp g (hi - lo).toNat lo (lo + 1)
theorem chs_r (g : Int → Int) {lo hi : Int} (h : lo ≤ hi) : lo ≤ chs g lo hi ∧ chs g lo hi ≤ hi := chp_r g _ _ _ ⟨by omega, h⟩ (by omega) (by omega)
theorem chs_c {g g' : Int → Int} {lo hi : Int} (h : lo ≤ hi) (hg : ∀ x, lo ≤ x ∧ x ≤ hi → g x = g' x) : chs g lo hi = chs g' lo hi := chp_c hg _ _ _ ⟨by omega, h⟩ (by omega) (by omega)
theorem sSe_cheapest {cost : Nat → Int32} {r lo to : Int} (hr : 0 ≤ r ∧ r ≤ 3) (hl : 0 ≤ lo ∧ lo ≤ 7) (ht : lo ≤ to ∧ to ≤ 100) : fSe_cheapest (iz r) (iz lo) (iz to) cost = some (iz (chs (rw' cost r) lo (if to < 7 then to else 7))) := by
  have hcl : (if (0 : Int32) < (if iz lo < (7 : Int32) then iz lo else (7 : Int32)) then (if iz lo < (7 : Int32) then iz lo else (7 : Int32)) else (0 : Int32)) = iz lo := by
    simp (disch := omega) only [iz_n, iz_neg, iz_add, iz_sub, iz_mul, iz_lt, iz_le, iz_eq, iz_t, iz_c]
    by_cases q : lo < 7
    · rw [if_pos q]
      by_cases q2 : 0 < lo
      · rw [if_pos ((iz_lt (by omega) (by omega) (by omega) (by omega)).mpr q2)]
      · rw [if_neg (fun z => q2 ((iz_lt (by omega) (by omega) (by omega) (by omega)).mp z))]; exact iz_inj (by omega)
    · rw [if_neg q, if_pos ((iz_lt (by omega) (by omega) (by omega) (by omega)).mpr (by omega))]; exact iz_inj (by omega)
  have w1 : fRi_within (iz r) (0 : Int32) (3 : Int32) = some (bi (0 ≤ r ∧ r ≤ 3)) := by rw [iz_n, iz_n]; exact sRi_within (by omega) (by omega) (by omega)
  have n1 : ¬ bi (0 ≤ r ∧ r ≤ 3) = (0 : Int32) := by rw [iz_n, bi0]; omega
  have e1 : iz lo + (1 : Int32) = iz (lo + 1) := iz_add lo 1
  unfold fSe_cheapest
  rw [hcl, w1]
  simp only [Option.bind_some, if_neg n1, e1]
  unfold chs
  by_cases q : to < 7
  · rw [if_pos q, sSe_cheapL hr (by omega) (to - lo).toNat lo (lo + 1) FU (by omega) (by omega) hl (by omega) (by omega) (by show _ < 5000; omega)]
    rfl
  · rw [if_neg q, sSe_cheapL hr (by omega) (7 - lo).toNat lo (lo + 1) FU (by omega) (by omega) hl (by omega) (by omega) (by show _ < 5000; omega)]
    rfl
