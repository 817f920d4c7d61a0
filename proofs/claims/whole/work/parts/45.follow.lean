theorem foll_17 {dd : Int → Int → Int} {f top bo a : Int} {gap cost : Nat → Int32} (ha : 0 ≤ a ∧ a < 6) (hf : 1 ≤ f ∧ f ≤ 5) (ht : 0 ≤ top ∧ top ≤ bo) (hbo : bo ≤ 3) (hd : ∀ r c, 0 ≤ dd r c ∧ dd r c ≤ 63) (hg : ∀ r x, top ≤ r ∧ r ≤ bo → f ≤ x ∧ x ≤ 7 → gap (r * 8 + x).toNat = iz (dd r x))
    (hc : ∀ r x, top ≤ r ∧ r ≤ bo → f ≤ x ∧ x ≤ 7 → cost (r * 8 + x).toNat = iz (LC dd f (bo - r).toNat r x)) :
    ∀ (d k m : Nat), (k : Int) + d = bo - top + 1 → d < m → ∀ (lo to : Int), (k = 0 → lo = f ∧ to = 7) → (∀ q : Nat, k = q + 1 → lo = mx f (SM dd f top bo q - 1) ∧ to = SM dd f top bo q + 1) → ∀ sc cl : Nat → Int32, sc a.toNat = iz (SS dd f top bo k) →
    ∃ sc' cl', fSe_follow_L17 (iz a) (iz f) (iz bo) gap cost m (iz lo) (iz to) (iz (top + k)) sc cl = some (sc', cl') ∧ sc' a.toNat = iz (SS dd f top bo (bo - top + 1).toNat) ∧
      (∀ q : Nat, k ≤ q → (q : Int) ≤ bo - top → cl' (a * 4 + (top + q)).toNat = iz (SM dd f top bo q)) ∧ (∀ j, j ≠ a.toNat → sc' j = sc j) ∧ (∀ j : Nat, (∀ q : Nat, k ≤ q → (q : Int) ≤ bo - top → j ≠ (a * 4 + (top + q)).toNat) → cl' j = cl j) := by
  intro d
  induction d with
  | zero =>
    intro k m hk hm lo to _ _ sc cl hs
    obtain ⟨m, rfl⟩ : ∃ q, m = q + 1 := ⟨m - 1, by omega⟩
    have n1 : iz bo < iz (top + k) := (iz_lt (by omega) (by omega) (by omega) (by omega)).mpr (by omega)
    refine ⟨sc, cl, ?_, ?_, fun q _ _ => by omega, fun _ _ => rfl, fun _ _ => rfl⟩
    · unfold fSe_follow_L17
      rw [if_pos n1]
    · rw [hs, show (bo - top + 1).toNat = k by omega]
  | succ d ih =>
    intro k m hk hm lo to h0 h1 sc cl hs
    obtain ⟨m, rfl⟩ : ∃ q, m = q + 1 := ⟨m - 1, by omega⟩
    have n1 : ¬ iz bo < iz (top + k) := by rw [iz_lt (by omega) (by omega) (by omega) (by omega)]; omega
    have hsm := SM_r (dd := dd) (top := top) (bo := bo) hf k
    have hlt : f ≤ lo ∧ lo ≤ 7 ∧ lo ≤ to ∧ to ≤ 8 ∧ chs (LC dd f (bo - (top + k)).toNat (top + k)) lo (mi7 to) = SM dd f top bo k := by
      cases k with
      | zero =>
        obtain ⟨rfl, rfl⟩ := h0 rfl
        refine ⟨by omega, by omega, by omega, by omega, ?_⟩
        show chs (LC dd lo (bo - (top + ((0 : Nat) : Int))).toNat (top + ((0 : Nat) : Int))) lo (mi7 7) = chs (LC dd lo (bo - top).toNat top) lo 7
        rw [show top + ((0 : Nat) : Int) = top by omega, show mi7 7 = 7 from rfl]
      | succ q =>
        obtain ⟨e1, e2⟩ := h1 q rfl
        have hq := SM_r (dd := dd) (top := top) (bo := bo) hf q
        have hm := mx_r hf (c := SM dd f top bo q) hq
        rw [e1, e2]
        refine ⟨by omega, by omega, by omega, by omega, rfl⟩
    obtain ⟨l1, l2, l3, l4, l5⟩ := hlt
    have hch := sSe_cheapest (cost := cost) (r := top + k) (lo := lo) (to := to) (by omega) (by omega) (by omega)
    have hmi : lo ≤ mi7 to ∧ mi7 to ≤ 7 := by unfold mi7; split <;> omega
    rw [show (if to < 7 then to else 7) = mi7 to from rfl, chs_c hmi.1 (g' := LC dd f (bo - (top + k)).toNat (top + k)) (fun x hx => by
      have b := LC_r (f := f) hd (bo - (top + k)).toNat (top + k) x
      unfold rw'; rw [hc _ _ (by omega) (by omega), iz_t (by omega) (by omega)]), l5] at hch
    have hgk := hg (top + k) (SM dd f top bo k) (by omega) hsm
    have i1 : 0 ≤ (iz (a * 4 + (top + k))).toInt ∧ (iz (a * 4 + (top + k))).toInt < 24 := by rw [iz_t (by omega) (by omega)]; omega
    have i2 : (iz (a * 4 + (top + k))).toNatClampNeg = (a * 4 + (top + k)).toNat := iz_c (by omega) (by omega)
    have i3 : 0 ≤ (iz a).toInt ∧ (iz a).toInt < 6 := by rw [iz_t (by omega) (by omega)]; omega
    have i4 : (iz a).toNatClampNeg = a.toNat := iz_c (by omega) (by omega)
    have i5 : 0 ≤ (iz ((top + k) * 8 + SM dd f top bo k)).toInt ∧ (iz ((top + k) * 8 + SM dd f top bo k)).toInt < 32 := by rw [iz_t (by omega) (by omega)]; omega
    have i6 : (iz ((top + k) * 8 + SM dd f top bo k)).toNatClampNeg = ((top + k) * 8 + SM dd f top bo k).toNat := iz_c (by omega) (by omega)
    have e1 : iz a * (4 : Int32) + iz (top + k) = iz (a * 4 + (top + k)) := by rw [iz_n, iz_mul, iz_add]
    have e2 : iz (top + k) * (8 : Int32) + iz (SM dd f top bo k) = iz ((top + k) * 8 + SM dd f top bo k) := by rw [iz_n, iz_mul, iz_add]
    have e3 : iz (SM dd f top bo k) - (1 : Int32) = iz (SM dd f top bo k - 1) := iz_sub _ 1
    have e4 : iz (SM dd f top bo k) + (1 : Int32) = iz (SM dd f top bo k + 1) := iz_add _ 1
    have e5 : iz (top + k) + (1 : Int32) = iz (top + ((k + 1 : Nat) : Int)) := by rw [iz_n, iz_add]; exact iz_inj (by omega)
    have hmx : (if iz f < iz (SM dd f top bo k - 1) then iz (SM dd f top bo k - 1) else iz f) = iz (mx f (SM dd f top bo k - 1)) := by
      unfold mx
      by_cases z : f < SM dd f top bo k - 1
      · rw [if_pos ((iz_lt (by omega) (by omega) (by omega) (by omega)).mpr z), if_pos z]
      · rw [if_neg (fun y => z ((iz_lt (by omega) (by omega) (by omega) (by omega)).mp y)), if_neg z]
    obtain ⟨sc', cl', k1, k2, k3, k4, k5⟩ := ih (k + 1) m (by omega) (by omega) (mx f (SM dd f top bo k - 1)) (SM dd f top bo k + 1) (fun h => by omega) (fun q hq => by
      obtain rfl : q = k := by omega
      exact ⟨rfl, rfl⟩) (upd sc a.toNat (iz (SS dd f top bo k + dd (top + k) (SM dd f top bo k)))) (upd cl (a * 4 + (top + k)).toNat (iz (SM dd f top bo k))) (upd_s _ _ _)
    refine ⟨sc', cl', ?_, k2, ?_, ?_, ?_⟩
    · unfold fSe_follow_L17
      rw [if_neg n1, hch]
      simp only [Option.bind_some, e1, e2, if_pos i1, if_pos i3, if_pos i5, i2, i4, i6, hgk, hs, iz_add, e3, e4, e5, hmx]
      exact k1
    · intro q h1 h2
      by_cases e : q = k
      · rw [e, k5 _ (fun q' h1' h2' e' => by omega), upd_s]
      · exact k3 q (by omega) h2
    · intro j hj
      rw [k4 j hj, upd_n _ _ hj]
    · intro j hj
      rw [k5 j (fun q h1 h2 => hj q (by omega) h2), upd_n _ _ (hj k (by omega) (by omega))]
