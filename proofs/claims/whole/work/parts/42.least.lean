/-! the least cost from a row down -/
def mx (a b : Int) : Int := if a < b then b else a
def mi7 (b : Int) : Int := if b < 7 then b else 7
def LC (dd : Int → Int → Int) (f : Int) : Nat → Int → Int → Int
  | 0, r, c => dd r c
  | k + 1, r, c => dd r c + LC dd f k (r + 1) (chs (LC dd f k (r + 1)) (mx f (c - 1)) (mi7 (c + 1)))
theorem LC_r {dd : Int → Int → Int} {f : Int} (hd : ∀ r c, 0 ≤ dd r c ∧ dd r c ≤ 63) : ∀ (k : Nat) (r c : Int), 0 ≤ LC dd f k r c ∧ LC dd f k r c ≤ 63 * (k + 1) := by
  intro k
  induction k with
  | zero => intro r c; have := hd r c; show 0 ≤ dd r c ∧ dd r c ≤ 63 * (((0 : Nat) : Int) + 1); omega
  | succ k ih =>
    intro r c
    have h1 := hd r c
    have h2 := ih (r + 1) (chs (LC dd f k (r + 1)) (mx f (c - 1)) (mi7 (c + 1)))
    show 0 ≤ dd r c + LC dd f k (r + 1) (chs (LC dd f k (r + 1)) (mx f (c - 1)) (mi7 (c + 1))) ∧ dd r c + LC dd f k (r + 1) (chs (LC dd f k (r + 1)) (mx f (c - 1)) (mi7 (c + 1))) ≤ 63 * (((k + 1 : Nat) : Int) + 1)
    omega
theorem mx_r {f c : Int} (hf : 1 ≤ f ∧ f ≤ 5) (hc : f ≤ c ∧ c ≤ 7) : f ≤ mx f (c - 1) ∧ mx f (c - 1) ≤ c ∧ c ≤ mi7 (c + 1) ∧ mi7 (c + 1) ≤ 7 ∧ c - 1 ≤ mx f (c - 1) ∧ mi7 (c + 1) ≤ c + 1 := by
  unfold mx mi7
  split <;> split <;> omega
theorem row_58 {dd : Int → Int → Int} {f bo r : Int} {gap : Nat → Int32} (hf : 1 ≤ f ∧ f ≤ 5) (hr : 0 ≤ r ∧ r ≤ bo) (hbo : bo ≤ 3) (hd : ∀ r c, 0 ≤ dd r c ∧ dd r c ≤ 63) (hg : ∀ x, f ≤ x ∧ x ≤ 7 → gap (r * 8 + x).toNat = iz (dd r x)) :
    ∀ (d : Nat) (c : Int) (m : Nat), c = 8 - d → f ≤ c → d < m → ∀ cost : Nat → Int32, (r < bo → ∀ x, f ≤ x ∧ x ≤ 7 → cost ((r + 1) * 8 + x).toNat = iz (LC dd f (bo - (r + 1)).toNat (r + 1) x)) →
    ∃ cost', fSe_cutOne_L58 (iz f) (iz bo) (iz r) gap m (iz c) cost = some cost' ∧ (∀ x, c ≤ x ∧ x ≤ 7 → cost' (r * 8 + x).toNat = iz (LC dd f (bo - r).toNat r x)) ∧ (∀ j : Nat, (∀ x, c ≤ x ∧ x ≤ 7 → j ≠ (r * 8 + x).toNat) → cost' j = cost j) := by
  intro d
  induction d with
  | zero =>
    intro c m hc h0 hm cost _
    obtain ⟨m, rfl⟩ : ∃ q, m = q + 1 := ⟨m - 1, by omega⟩
    have n2 : (8 : Int32) ≤ iz c := by rw [iz_n, iz_le (by omega) (by omega) (by omega) (by omega)]; omega
    refine ⟨cost, ?_, fun x hx => by omega, fun _ _ => rfl⟩
    unfold fSe_cutOne_L58
    rw [if_pos n2]
  | succ d ih =>
    intro c m hc h0 hm cost hcost
    obtain ⟨m, rfl⟩ : ∃ q, m = q + 1 := ⟨m - 1, by omega⟩
    have n2 : ¬ (8 : Int32) ≤ iz c := by rw [iz_n, iz_le (by omega) (by omega) (by omega) (by omega)]; omega
    have e1 : iz c + (1 : Int32) = iz (c + 1) := iz_add c 1
    have e2 : iz r * (8 : Int32) + iz c = iz (r * 8 + c) := by rw [iz_n, iz_mul, iz_add]
    have e3 : iz r + (1 : Int32) = iz (r + 1) := iz_add r 1
    have e4 : iz c - (1 : Int32) = iz (c - 1) := iz_sub c 1
    have i1 : 0 ≤ (iz (r * 8 + c)).toInt ∧ (iz (r * 8 + c)).toInt < 32 := by rw [iz_t (by omega) (by omega)]; omega
    have i3 : (iz (r * 8 + c)).toNatClampNeg = (r * 8 + c).toNat := iz_c (by omega) (by omega)
    have nb : (iz bo ≤ iz r) ↔ bo ≤ r := iz_le (by omega) (by omega) (by omega) (by omega)
    have hgc := hg c (by omega)
    by_cases q : bo ≤ r
    · have er : r = bo := by omega
      obtain ⟨cost', k1, k2, k3⟩ := ih (c + 1) m (by omega) (by omega) (by omega) (upd cost (r * 8 + c).toNat (iz (dd r c))) (fun h => by omega)
      refine ⟨cost', ?_, ?_, ?_⟩
      · unfold fSe_cutOne_L58
        rw [if_neg n2, e2, if_pos i1, if_pos i1, if_pos (nb.mpr q), i3, hgc, e1]
        exact k1
      · intro x hx
        by_cases ex : x = c
        · rw [ex, k3 _ (fun y hy e => by omega), upd_s, show (bo - r).toNat = 0 by omega]; rfl
        · exact k2 x (by omega)
      · intro j hj
        rw [k3 j (fun x hx => hj x (by omega)), upd_n _ _ (hj c (by omega))]
    · have hm7 := mx_r hf (c := c) (by omega)
      have hrow : ∀ x, f ≤ x ∧ x ≤ 7 → upd cost (r * 8 + c).toNat (iz (dd r c)) ((r + 1) * 8 + x).toNat = iz (LC dd f (bo - (r + 1)).toNat (r + 1) x) := fun x hx => by
        rw [upd_n _ _ (by omega)]; exact hcost (by omega) x hx
      have hrw : ∀ x, mx f (c - 1) ≤ x ∧ x ≤ mi7 (c + 1) → rw' (upd cost (r * 8 + c).toNat (iz (dd r c))) (r + 1) x = LC dd f (bo - (r + 1)).toNat (r + 1) x := fun x hx => by
        have b := LC_r (f := f) hd (bo - (r + 1)).toNat (r + 1) x
        unfold rw'; rw [hrow x (by omega), iz_t (by omega) (by omega)]
      have hch := sSe_cheapest (cost := upd cost (r * 8 + c).toNat (iz (dd r c))) (r := r + 1) (lo := mx f (c - 1)) (to := c + 1) (by omega) (by omega) (by omega)
      rw [show (if c + 1 < 7 then c + 1 else 7) = mi7 (c + 1) from rfl, chs_c (by omega) hrw] at hch
      have hcr := chs_r (LC dd f (bo - (r + 1)).toNat (r + 1)) (lo := mx f (c - 1)) (hi := mi7 (c + 1)) (by omega)
      have hmx : (if iz f < iz (c - 1) then iz (c - 1) else iz f) = iz (mx f (c - 1)) := by
        unfold mx
        by_cases z : f < c - 1
        · rw [if_pos ((iz_lt (by omega) (by omega) (by omega) (by omega)).mpr z), if_pos z]
        · rw [if_neg (fun y => z ((iz_lt (by omega) (by omega) (by omega) (by omega)).mp y)), if_neg z]
      have hLs : LC dd f (bo - r).toNat r c = dd r c + LC dd f (bo - (r + 1)).toNat (r + 1) (chs (LC dd f (bo - (r + 1)).toNat (r + 1)) (mx f (c - 1)) (mi7 (c + 1))) := by
        rw [show (bo - r).toNat = (bo - (r + 1)).toNat + 1 by omega]; rfl
      have hro := hrow (chs (LC dd f (bo - (r + 1)).toNat (r + 1)) (mx f (c - 1)) (mi7 (c + 1))) ⟨by omega, by omega⟩
      generalize hx : chs (LC dd f (bo - (r + 1)).toNat (r + 1)) (mx f (c - 1)) (mi7 (c + 1)) = y at *
      have e5 : iz (r + 1) * (8 : Int32) + iz y = iz ((r + 1) * 8 + y) := by rw [iz_n, iz_mul, iz_add]
      have i5 : 0 ≤ (iz ((r + 1) * 8 + y)).toInt ∧ (iz ((r + 1) * 8 + y)).toInt < 32 := by rw [iz_t (by omega) (by omega)]; omega
      have i6 : (iz ((r + 1) * 8 + y)).toNatClampNeg = ((r + 1) * 8 + y).toNat := iz_c (by omega) (by omega)
      obtain ⟨cost', k1, k2, k3⟩ := ih (c + 1) m (by omega) (by omega) (by omega) (upd (upd cost (r * 8 + c).toNat (iz (dd r c))) (r * 8 + c).toNat (iz (LC dd f (bo - r).toNat r c))) (fun _ x hx => by rw [upd_n _ _ (by omega)]; exact hrow x hx)
      refine ⟨cost', ?_, ?_, ?_⟩
      · unfold fSe_cutOne_L58
        rw [if_neg n2, e2, if_pos i1, if_pos i1, if_neg (fun z => q (nb.mp z)), i3, hgc, e1, e3, e4, hmx, hch]
        simp only [Option.bind_some, e5, if_pos i1, if_pos i5, i6, hro, upd_s, iz_add]
        rw [hLs] at k1
        exact k1
      · intro x hx'
        by_cases ex : x = c
        · rw [ex, k3 _ (fun z hz e => by omega), upd_s]
        · exact k2 x (by omega)
      · intro j hj
        rw [k3 j (fun x hx => hj x (by omega)), upd_n _ _ (hj c (by omega)), upd_n _ _ (hj c (by omega))]
