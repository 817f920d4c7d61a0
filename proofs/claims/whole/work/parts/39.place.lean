/-! places -/
def WS (f h : Int → Int) : Nat → Int
  | 0 => 0
  | k + 1 => WS f h k + h (it f k 0)
theorem WS_r {f h : Int → Int} {l u : Int} (hh : ∀ x : Int, l ≤ h x ∧ h x ≤ u) : ∀ k : Nat, l * k ≤ WS f h k ∧ WS f h k ≤ u * k := by
  intro k
  induction k with
  | zero => show l * 0 ≤ 0 ∧ 0 ≤ u * 0; omega
  | succ k ih =>
    have := hh (it f k 0)
    show l * ((k + 1 : Nat) : Int) ≤ WS f h k + h (it f k 0) ∧ WS f h k + h (it f k 0) ≤ u * ((k + 1 : Nat) : Int)
    rw [show ((k + 1 : Nat) : Int) = (k : Int) + 1 by omega, Int.mul_add, Int.mul_add, Int.mul_one, Int.mul_one]
    omega
/-- the ideal height, rounded -/
def HI (d N : Int) (k : Nat) : Int := (2 * (d * k) + N) / (2 * N)
theorem dk_r {d : Int} {k : Nat} (hd : -6 ≤ d ∧ d ≤ 6) (hk : k ≤ 6) : -36 ≤ d * k ∧ d * k ≤ 36 := by
  have : k = 0 ∨ k = 1 ∨ k = 2 ∨ k = 3 ∨ k = 4 ∨ k = 5 ∨ k = 6 := by omega
  rcases this with rfl | rfl | rfl | rfl | rfl | rfl | rfl <;> omega
theorem HI_r {d N : Int} {k : Nat} (hd : -6 ≤ d ∧ d ≤ 6) (hN : 1 ≤ N ∧ N ≤ 6) (hk : k ≤ 6) : -100 ≤ HI d N k ∧ HI d N k ≤ 100 := by
  have h := dk_r hd hk
  unfold HI
  generalize d * (k : Int) = z at *
  have : N = 1 ∨ N = 2 ∨ N = 3 ∨ N = 4 ∨ N = 5 ∨ N = 6 := by omega
  rcases this with rfl | rfl | rfl | rfl | rfl | rfl <;> omega
theorem sCh_places {N D : Int} {f eo' fo' : Int → Int} {F LE LF : Nat → Int32} (hN : 1 ≤ N ∧ N ≤ 6) (hD : -6 ≤ D ∧ D ≤ 6) (hf : fw F = f) (hr : ∀ i, 0 ≤ it f i 0 ∧ it f i 0 < N) (hd : ∀ i j : Nat, i < j → (j : Int) < N → it f i 0 ≠ it f j 0)
    (hL : ∀ x, 0 ≤ x ∧ x < N → LE x.toNat = iz (eo' x) ∧ LF x.toNat = iz (fo' x)) (he : ∀ x, -1 ≤ eo' x ∧ eo' x ≤ 1) (hfo : ∀ x, 0 ≤ fo' x ∧ fo' x ≤ 5) :
    ∀ (d k m : Nat), (k : Int) + d = N → d < m → ∀ PR' PL : Nat → Int32, ∃ PR1 PL1, fCh_findPlaces_L10 (iz N) (iz D) F LE LF m (iz (it f k 0)) (iz (WS f fo' k)) (iz (WS f eo' k)) (iz k) PR' PL = some (PR1, PL1) ∧
      (∀ i : Nat, k ≤ i → (i : Int) < N → PR1 (it f i 0).toNat = iz (WS f fo' i) ∧ PL1 (it f i 0).toNat = iz (WS f eo' i - HI D N i)) ∧
      (∀ j : Nat, (∀ i : Nat, k ≤ i → (i : Int) < N → j ≠ (it f i 0).toNat) → PR1 j = PR' j ∧ PL1 j = PL j) := by
  intro d
  induction d with
  | zero =>
    intro k m hk hm PR' PL
    obtain ⟨m, rfl⟩ : ∃ q, m = q + 1 := ⟨m - 1, by omega⟩
    have g6 : iz N ≤ iz k := by simp (disch := omega) only [iz_n, iz_neg, iz_add, iz_sub, iz_mul, iz_lt, iz_le, iz_eq, iz_t, iz_c]; omega
    refine ⟨PR', PL, ?_, fun i _ _ => by omega, fun _ _ => ⟨rfl, rfl⟩⟩
    unfold fCh_findPlaces_L10
    rw [if_pos g6]
  | succ d ih =>
    intro k m hk hm PR' PL
    obtain ⟨m, rfl⟩ : ∃ q, m = q + 1 := ⟨m - 1, by omega⟩
    have hx := hr k
    have g6 : ¬ iz N ≤ iz k := by simp (disch := omega) only [iz_n, iz_neg, iz_add, iz_sub, iz_mul, iz_lt, iz_le, iz_eq, iz_t, iz_c]; omega
    have e1 : iz (k : Int) + (1 : Int32) = iz ((k + 1 : Nat) : Int) := by rw [iz_n, iz_add]; exact iz_inj (by omega)
    have i1 : 0 ≤ (iz (it f k 0)).toInt ∧ (iz (it f k 0)).toInt < 6 := by rw [iz_t (by omega) (by omega)]; omega
    have i3 : (iz (it f k 0)).toNatClampNeg = (it f k 0).toNat := iz_c (by omega) (by omega)
    have w1 : fRi_within (iz (it f k 0)) (0 : Int32) (5 : Int32) = some (bi (0 ≤ it f k 0 ∧ it f k 0 ≤ 5)) := by rw [iz_n, iz_n]; exact sRi_within (by omega) (by omega) (by omega)
    have n1 : ¬ bi (0 ≤ it f k 0 ∧ it f k 0 ≤ 5) = (0 : Int32) := by rw [iz_n, bi0]; omega
    have hb := dk_r hD (k := k) (by omega)
    have hh := HI_r hD hN (k := k) (by omega)
    have nr : fRi_nearest ((iz D).toInt64 * (iz (k : Int)).toInt64) (iz N).toInt64 = some (lz (HI D N k)) := by
      rw [iz_64 (by omega) (by omega), iz_64 (by omega) (by omega), iz_64 (by omega) (by omega), lz_mul, sRi_nearest (by omega) (by omega)]
      rfl
    have hg : F (it f k 0).toNat = iz (it f (k + 1) 0) := by
      have q := fw_i F (x := it f k 0) (by omega)
      rw [hf] at q
      exact q
    obtain ⟨l1, l2⟩ := hL _ hx
    have s1 : WS f fo' (k + 1) = WS f fo' k + fo' (it f k 0) := rfl
    have s2 : WS f eo' (k + 1) = WS f eo' k + eo' (it f k 0) := rfl
    obtain ⟨PR1, PL1, k1, k2, k3⟩ := ih (k + 1) m (by omega) (by omega) (upd PR' (it f k 0).toNat (iz (WS f fo' k))) (upd PL (it f k 0).toNat (iz (WS f eo' k - HI D N k)))
    refine ⟨PR1, PL1, ?_, ?_, ?_⟩
    · unfold fCh_findPlaces_L10
      rw [if_neg g6, w1]
      simp only [Option.bind_some, if_neg n1, if_pos i1, nr, i3, l1, l2, hg, lz_32 (show -2147483648 ≤ HI D N k ∧ HI D N k ≤ 2147483647 by omega), iz_add, iz_sub, e1]
      rw [s1, s2] at k1
      exact k1
    · intro i h1 h2
      by_cases q : i = k
      · subst q
        have := k3 (it f i 0).toNat (fun j hj1 hj2 e => by
          have := hd i j (by omega) hj2
          have := hr j
          omega)
        rw [this.1, this.2, upd_s, upd_s]
        exact ⟨rfl, rfl⟩
      · exact k2 i (by omega) h2
    · intro j hj
      have := k3 j (fun i h1 h2 => hj i (by omega) h2)
      have hjk := hj k (by omega) (by omega)
      rw [this.1, this.2, upd_n _ _ hjk, upd_n _ _ hjk]
      exact ⟨rfl, rfl⟩
