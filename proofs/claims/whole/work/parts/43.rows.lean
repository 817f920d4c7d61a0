theorem rows_43 {dd : Int → Int → Int} {f top bo : Int} {gap : Nat → Int32} (hf : 1 ≤ f ∧ f ≤ 5) (ht : 0 ≤ top ∧ top ≤ bo) (hbo : bo ≤ 3) (hd : ∀ r c, 0 ≤ dd r c ∧ dd r c ≤ 63) (hg : ∀ r x, top ≤ r ∧ r ≤ bo → f ≤ x ∧ x ≤ 7 → gap (r * 8 + x).toNat = iz (dd r x)) :
    ∀ (d : Nat) (r : Int) (m : Nat), r = top - 1 + d → r ≤ bo → d < m → ∀ cost : Nat → Int32, (∀ r' x, r < r' ∧ r' ≤ bo → f ≤ x ∧ x ≤ 7 → cost (r' * 8 + x).toNat = iz (LC dd f (bo - r').toNat r' x)) →
    ∃ cost', fSe_cutOne_L43 (iz f) (iz top) (iz bo) gap m (iz r) cost = some cost' ∧ (∀ r' x, top ≤ r' ∧ r' ≤ bo → f ≤ x ∧ x ≤ 7 → cost' (r' * 8 + x).toNat = iz (LC dd f (bo - r').toNat r' x)) := by
  intro d
  induction d with
  | zero =>
    intro r m hr h0 hm cost hc
    obtain ⟨m, rfl⟩ : ∃ q, m = q + 1 := ⟨m - 1, by omega⟩
    have n1 : iz r < iz top := (iz_lt (by omega) (by omega) (by omega) (by omega)).mpr (by omega)
    refine ⟨cost, ?_, fun r' x h1 h2 => hc r' x (by omega) h2⟩
    unfold fSe_cutOne_L43
    rw [if_pos n1]
  | succ d ih =>
    intro r m hr h0 hm cost hc
    obtain ⟨m, rfl⟩ : ∃ q, m = q + 1 := ⟨m - 1, by omega⟩
    have n1 : ¬ iz r < iz top := by rw [iz_lt (by omega) (by omega) (by omega) (by omega)]; omega
    have n2 : ¬ iz f < (0 : Int32) := by rw [iz_n, iz_lt (by omega) (by omega) (by omega) (by omega)]; omega
    have e1 : iz r + (-1 : Int32) = iz (r - 1) := by rw [iz_n, iz_neg, iz_add]; exact iz_inj (by omega)
    obtain ⟨c1, k1, k2, k3⟩ := row_58 (bo := bo) (r := r) (gap := gap) hf (by omega) hbo hd (fun x hx => hg r x (by omega) hx) (8 - f).toNat f FU (by omega) (by omega) (by show _ < 5000; omega) cost (fun _ x hx => hc (r + 1) x (by omega) hx)
    obtain ⟨c2, l1, l2⟩ := ih (r - 1) m (by omega) (by omega) (by omega) c1 (fun r' x h1 h2 => by
      by_cases e : r' = r
      · rw [e]; exact k2 x h2
      · rw [k3 _ (fun y hy q => by omega)]; exact hc r' x (by omega) h2)
    refine ⟨c2, ?_, l2⟩
    unfold fSe_cutOne_L43
    rw [if_neg n1, if_neg n2]
    simp only [Option.bind_some, k1, e1]
    exact l1
