/-! a walk from follower to follower -/
noncomputable def lsT (al : Nat → Int32) (P D x : Int) : Int := if fC al x = -1 then 0 else (UU al x * P - D) * QQ al x
theorem lsT_r {al : Nat → Int32} {w n t a : Int32} {dots cells sx sy sp : Nat → Int32} (hR : RS al w n t a dots cells sx sy sp) (o : OkA al) (cn : Cn al) {P D : Int} (hP : 1 ≤ P ∧ P ≤ 3360) (hD : -5927040 ≤ D ∧ D ≤ 5927040) (x : Int) : -7000000000 ≤ lsT al P D x ∧ lsT al P D x ≤ 7000000000 := by
  unfold lsT
  by_cases z : fC al x = -1
  · rw [if_pos z]; omega
  · have hf := cn.fr x
    have h1 := QQ_r hR o cn (x := x) (by omega)
    have h2 := UU_r hR o cn (x := x) (by omega)
    rw [if_neg z]
    have a1 : 0 ≤ (1764 - UU al x) * P := Int.mul_nonneg (by omega) (by omega)
    have a2 : 0 ≤ (UU al x + 1764) * P := Int.mul_nonneg (by omega) (by omega)
    rw [Int.sub_mul] at a1
    rw [Int.add_mul] at a2
    have a3 : -12000000 ≤ UU al x * P - D ∧ UU al x * P - D ≤ 12000000 := by omega
    generalize UU al x * P - D = v at *
    have b1 : 0 ≤ (12000000 - v) * QQ al x := Int.mul_nonneg (by omega) (by omega)
    have b2 : 0 ≤ (v + 12000000) * QQ al x := Int.mul_nonneg (by omega) (by omega)
    rw [Int.sub_mul] at b1
    rw [Int.add_mul] at b2
    omega
def WT (f h : Int → Int) (y : Int) : Nat → Int
  | 0 => 0
  | k + 1 => WT f h y k + h (it f k y)
theorem WT_r {f h : Int → Int} {l u y : Int} (hh : ∀ x : Int, l ≤ h x ∧ h x ≤ u) : ∀ k : Nat, l * k ≤ WT f h y k ∧ WT f h y k ≤ u * k := by
  intro k
  induction k with
  | zero => show l * 0 ≤ 0 ∧ 0 ≤ u * 0; omega
  | succ k ih =>
    have := hh (it f k y)
    show l * ((k + 1 : Nat) : Int) ≤ WT f h y k + h (it f k y) ∧ WT f h y k + h (it f k y) ≤ u * ((k + 1 : Nat) : Int)
    rw [show ((k + 1 : Nat) : Int) = (k : Int) + 1 by omega, Int.mul_add, Int.mul_add, Int.mul_one, Int.mul_one]
    omega
theorem vl_s (f : Nat → Int64) (k : Nat) (x : Int64) : vp_updL f k x k = x := if_pos rfl
theorem vl_n (f : Nat → Int64) {k j : Nat} (x : Int64) (h : j ≠ k) : vp_updL f k x j = f j := if_neg h
theorem sLe_setLevel {x s P : Int} (hx : 0 ≤ x ∧ x < 6) (hs : -4000000000000000000 ≤ s ∧ s ≤ 4000000000000000000) (hP : 1 ≤ P ∧ P ≤ 60000000) (ab be : Nat → Int64) :
    fLe_setLevel (iz x) (lz s) (lz P) ab be = some (vp_updL ab x.toNat (lz s / lz (GD s P)), vp_updL be x.toNat (lz P / lz (GD s P))) := by
  have w1 : fRi_within (iz x) (0 : Int32) (5 : Int32) = some (bi (0 ≤ x ∧ x ≤ 5)) := by rw [iz_n, iz_n]; exact sRi_within (by omega) (by omega) (by omega)
  have n1 : ¬ bi (0 ≤ x ∧ x ≤ 5) = (0 : Int32) := by rw [iz_n, bi0]; omega
  have i1 : 0 ≤ (iz x).toInt ∧ (iz x).toInt < 6 := by rw [iz_t (by omega) (by omega)]; omega
  have i3 : (iz x).toNatClampNeg = x.toNat := iz_c (by omega) (by omega)
  have hg := GD_r (a := s) hP
  have n2 : ¬ lg_cmp (lz (GD s P)) (0 : Int64) ≤ 0 := by
    rw [lz0, show (0 : Int32) = iz 0 from iz_n 0, lc_le (by omega) (by omega)]; omega
  have n3 : ¬ lz (GD s P) = 0 := fun z => by have := (ne0 (b := GD s P) (by omega)).mp z; omega
  unfold fLe_setLevel
  rw [sRi_gd hs hP, w1]
  simp only [Option.bind_some, if_neg n1, if_neg n2, if_pos n3, if_pos i1, i3]
theorem walk_9 {al : Nat → Int32} {w n t a : Int32} {dots cells sx sy sp : Nat → Int32} (hR : RS al w n t a dots cells sx sy sp) (o : OkA al) (cn : Cn al) {F A B C S K : Nat → Int32} (hF : fw F = fC al) (hS : SEI al A B C S K) {P D y : Int} (hP : 1 ≤ P ∧ P ≤ 3360) (hD : -5927040 ≤ D ∧ D ≤ 5927040) (hy : 0 ≤ y ∧ y < 6) (ta tb : Int → Int64)
    (hT : ∀ j : Nat, j < 6 → 0 ≤ it (fC al) j y → (∀ j', 1 ≤ j' → j' ≤ j → it (fC al) j' y ≠ y) → lz (WT (fC al) (lsT al P D) y j) / lz (GD (WT (fC al) (lsT al P D) y j) (5040 * P)) = ta (it (fC al) j y) ∧ lz (5040 * P) / lz (GD (WT (fC al) (lsT al P D) y j) (5040 * P)) = tb (it (fC al) j y)) :
    ∀ (d i m : Nat), i + d = 6 → d < m → ∀ (sum : Int64) (ab be : Nat → Int64), (0 ≤ it (fC al) i y → sum = lz (WT (fC al) (lsT al P D) y i)) → (∀ j', 1 ≤ j' → j' < i → it (fC al) j' y ≠ y) →
    ∃ ab' be', (fLe_walk_L9 (iz y) (lz P) (lz D) F A C m (iz (it (fC al) i y)) sum (iz i) ab be = some (.inl (ab', be')) ∨ fLe_walk_L9 (iz y) (lz P) (lz D) F A C m (iz (it (fC al) i y)) sum (iz i) ab be = some (.inr (ab', be'))) ∧
      (∀ x : Int, 0 ≤ x ∧ x < 6 → (ab' x.toNat = ab x.toNat ∧ be' x.toNat = be x.toNat) ∨ (ab' x.toNat = ta x ∧ be' x.toNat = tb x)) ∧
      (∀ j : Nat, i ≤ j → j < 6 → 0 ≤ it (fC al) j y → (∀ j', 1 ≤ j' → j' ≤ j → it (fC al) j' y ≠ y) → ab' (it (fC al) j y).toNat = ta (it (fC al) j y) ∧ be' (it (fC al) j y).toNat = tb (it (fC al) j y)) := by
  have on := o.n
  have f1 := cn.gi.f1 (by omega)
  have hlsT := lsT_r hR o cn hP hD
  intro d
  induction d with
  | zero =>
    intro i m hi hm sum ab be _ _
    obtain ⟨m, rfl⟩ : ∃ q, m = q + 1 := ⟨m - 1, by omega⟩
    have g6 : (6 : Int32) ≤ iz i := by rw [iz_n, iz_le (by omega) (by omega) (by omega) (by omega)]; omega
    refine ⟨ab, be, .inr ?_, fun _ _ => .inl ⟨rfl, rfl⟩, fun j _ _ => by omega⟩
    unfold fLe_walk_L9
    rw [if_pos g6]
  | succ d ih =>
    intro i m hi hm sum ab be hs hr
    obtain ⟨m, rfl⟩ : ∃ q, m = q + 1 := ⟨m - 1, by omega⟩
    have g6 : ¬ (6 : Int32) ≤ iz i := by rw [iz_n, iz_le (by omega) (by omega) (by omega) (by omega)]; omega
    have hxr : -1 ≤ it (fC al) i y ∧ it (fC al) i y < 6 := by
      cases i with
      | zero => exact ⟨by show -1 ≤ y; omega, by show y < 6; omega⟩
      | succ i =>
        have := cn.fr (it (fC al) i y)
        show -1 ≤ fC al (it (fC al) i y) ∧ fC al (it (fC al) i y) < 6
        omega
    have st : it (fC al) (i + 1) y = fC al (it (fC al) i y) := rfl
    have stW : WT (fC al) (lsT al P D) y (i + 1) = WT (fC al) (lsT al P D) y i + lsT al P D (it (fC al) i y) := rfl
    have e1 : iz (i : Int) + (1 : Int32) = iz ((i + 1 : Nat) : Int) := by rw [iz_n, iz_add]; exact iz_inj (by omega)
    have hwb := WT_r (f := fC al) (y := y) hlsT i
    have w1 : fRi_within (iz (it (fC al) i y)) (0 : Int32) (5 : Int32) = some (bi (0 ≤ it (fC al) i y ∧ it (fC al) i y ≤ 5)) := by rw [iz_n, iz_n]; exact sRi_within (by omega) (by omega) (by omega)
    by_cases z : 0 ≤ it (fC al) i y
    · have n1 : ¬ bi (0 ≤ it (fC al) i y ∧ it (fC al) i y ≤ 5) = (0 : Int32) := by rw [iz_n, bi0]; omega
      have hsum := hs z
      by_cases ret : 0 < i ∧ it (fC al) i y = y
      · have n0 : ¬ iz (i : Int) ≤ 0 := by rw [show (0 : Int32) = iz 0 from iz_n 0, iz_le (by omega) (by omega) (by omega) (by omega)]; omega
        refine ⟨ab, be, .inl ?_, fun _ _ => .inl ⟨rfl, rfl⟩, fun j h1 h2 h3 h4 => absurd ret.2 (h4 i (by omega) h1)⟩
        unfold fLe_walk_L9
        rw [if_neg g6, w1]
        simp only [Option.bind_some, if_neg n1, if_neg n0]
        rw [if_pos (iz_inj ret.2)]
      · have hnr : ∀ j', 1 ≤ j' → j' ≤ i → it (fC al) j' y ≠ y := fun j' h1 h2 => by
          by_cases e : j' = i
          · rw [e]; exact fun q => ret ⟨by omega, q⟩
          · exact hr j' h1 (by omega)
        obtain ⟨t1, t2⟩ := hT i (by omega) z hnr
        have hset := sLe_setLevel (x := it (fC al) i y) (s := WT (fC al) (lsT al P D) y i) (P := 5040 * P) (by omega) (by omega) (by omega) ab be
        rw [t1, t2] at hset
        have hmul : (5040 : Int64) * lz P = lz (5040 * P) := by rw [lz_n, lz_mul]
        have ff := sCh_followerOf F (x := it (fC al) i y) (by omega)
        rw [hF, ← st] at ff
        obtain ⟨s1, s2, s3, s4⟩ := sSe_of (A := A) (C := C) (x := it (fC al) i y) (by omega)
        have hnext : ∃ sh s', fLe_share (A (it (fC al) i y).toNat) = some sh ∧ s' = lz (WT (fC al) (lsT al P D) y i) + (((C (it (fC al) i y).toNat).toInt64 * lz P) - lz D) * sh ∧ (0 ≤ it (fC al) (i + 1) y → s' = lz (WT (fC al) (lsT al P D) y (i + 1))) := by
          by_cases q : 0 ≤ it (fC al) (i + 1) y
          · rw [st] at q
            obtain ⟨v1, v2, v3, v4⟩ := (hS (it (fC al) i y) (by omega)).1 q
            have hu := UU_r hR o cn q
            refine ⟨_, _, by rw [v1]; exact sLe_share hR o cn q, rfl, fun _ => ?_⟩
            rw [v3, show OV al (it (fC al) i y) (DF al (it (fC al) i y)) = UU al (it (fC al) i y) from rfl, iz_64 (by omega) (by omega), lz_mul, lz_sub, lz_mul, lz_add, stW]
            have : lsT al P D (it (fC al) i y) = (UU al (it (fC al) i y) * P - D) * QQ al (it (fC al) i y) := if_neg (by omega)
            rw [this]
          · obtain ⟨v, hv⟩ := sLe_share_any (A (it (fC al) i y).toNat)
            exact ⟨v, _, hv, rfl, fun y => absurd y q⟩
        obtain ⟨sh, s', hsh, hs', hs''⟩ := hnext
        obtain ⟨ab', be', k1, k2, k3⟩ := ih (i + 1) m (by omega) (by omega) s' (vp_updL ab (it (fC al) i y).toNat (ta (it (fC al) i y))) (vp_updL be (it (fC al) i y).toNat (tb (it (fC al) i y))) hs'' (fun j' h1 h2 => hnr j' h1 (by omega))
        have hstep : fLe_walk_L9 (iz y) (lz P) (lz D) F A C (m + 1) (iz (it (fC al) i y)) sum (iz i) ab be = fLe_walk_L9 (iz y) (lz P) (lz D) F A C m (iz (it (fC al) (i + 1) y)) s' (iz ((i + 1 : Nat) : Int)) (vp_updL ab (it (fC al) i y).toNat (ta (it (fC al) i y))) (vp_updL be (it (fC al) i y).toNat (tb (it (fC al) i y))) := by
          generalize hX : fLe_walk_L9 (iz y) (lz P) (lz D) F A C m (iz (it (fC al) (i + 1) y)) s' (iz ((i + 1 : Nat) : Int)) (vp_updL ab (it (fC al) i y).toNat (ta (it (fC al) i y))) (vp_updL be (it (fC al) i y).toNat (tb (it (fC al) i y))) = X
          unfold fLe_walk_L9
          rw [if_neg g6, w1]
          simp only [Option.bind_some, if_neg n1, hsum, hmul, hset, s1, s2, hsh, ff, e1]
          by_cases i0 : iz (i : Int) ≤ 0
          · rw [if_pos i0, ← hs']
            exact hX
          · have hi0 : 0 < i := by
              by_cases q : 0 < i
              · exact q
              · exfalso; apply i0; rw [show (0 : Int32) = iz 0 from iz_n 0, iz_le (by omega) (by omega) (by omega) (by omega)]; omega
            have nret : ¬ iz (it (fC al) i y) = iz y := by
              rw [iz_eq (by omega) (by omega) (by omega) (by omega)]; exact fun q => ret ⟨hi0, q⟩
            rw [if_neg i0, if_neg nret, ← hs']
            exact hX
        rw [hstep]
        refine ⟨ab', be', k1, ?_, ?_⟩
        · intro x hx
          rcases k2 x hx with ⟨q1, q2⟩ | q
          · by_cases e : x = it (fC al) i y
            · right; rw [q1, q2, ← e, vl_s, vl_s]; exact ⟨rfl, rfl⟩
            · left; rw [q1, q2, vl_n _ _ (by omega), vl_n _ _ (by omega)]; exact ⟨rfl, rfl⟩
          · exact .inr q
        · intro j h1 h2 h3 h4
          by_cases e : j = i
          · rw [e]
            rcases k2 (it (fC al) i y) (by omega) with ⟨q1, q2⟩ | q
            · rw [q1, q2, vl_s, vl_s]; exact ⟨rfl, rfl⟩
            · exact q
          · exact k3 j (by omega) h2 h3 h4
    · have n1 : bi (0 ≤ it (fC al) i y ∧ it (fC al) i y ≤ 5) = (0 : Int32) := by rw [iz_n, bi0]; omega
      refine ⟨ab, be, .inr ?_, fun _ _ => .inl ⟨rfl, rfl⟩, ?_⟩
      · unfold fLe_walk_L9
        rw [if_neg g6, w1]
        simp only [Option.bind_some, if_pos n1]
      · intro j h1 h2 h3 h4
        exfalso
        have : it (fC al) i y = -1 := by omega
        have := (it_neg f1 i (j - i)).2 y this
        rw [show j - i + i = j by omega] at this
        omega
theorem sLe_walk {al : Nat → Int32} {w n t a : Int32} {dots cells sx sy sp : Nat → Int32} (hR : RS al w n t a dots cells sx sy sp) (o : OkA al) (cn : Cn al) {F A B C S K : Nat → Int32} (hF : fw F = fC al) (hS : SEI al A B C S K) {P D y : Int} (hP : 1 ≤ P ∧ P ≤ 3360) (hD : -5927040 ≤ D ∧ D ≤ 5927040) (hy : 0 ≤ y ∧ y < 6) (ta tb : Int → Int64)
    (hT : ∀ j : Nat, j < 6 → 0 ≤ it (fC al) j y → (∀ j', 1 ≤ j' → j' ≤ j → it (fC al) j' y ≠ y) → lz (WT (fC al) (lsT al P D) y j) / lz (GD (WT (fC al) (lsT al P D) y j) (5040 * P)) = ta (it (fC al) j y) ∧ lz (5040 * P) / lz (GD (WT (fC al) (lsT al P D) y j) (5040 * P)) = tb (it (fC al) j y)) (ab be : Nat → Int64) :
    ∃ ab' be', fLe_walk (iz y) (lz P) (lz D) F A C ab be = some (ab', be') ∧
      (∀ x : Int, 0 ≤ x ∧ x < 6 → (ab' x.toNat = ab x.toNat ∧ be' x.toNat = be x.toNat) ∨ (ab' x.toNat = ta x ∧ be' x.toNat = tb x)) ∧
      (∀ j : Nat, j < 6 → 0 ≤ it (fC al) j y → (∀ j', 1 ≤ j' → j' ≤ j → it (fC al) j' y ≠ y) → ab' (it (fC al) j y).toNat = ta (it (fC al) j y) ∧ be' (it (fC al) j y).toNat = tb (it (fC al) j y)) := by
  obtain ⟨ab', be', k1, k2, k3⟩ := walk_9 hR o cn hF hS hP hD hy ta tb hT 6 0 FU (by omega) (by show _ < 5000; omega) (0 : Int64) ab be (fun _ => lz0) (fun j' h1 h2 => by omega)
  rw [show it (fC al) 0 y = y from rfl, show iz ((0 : Nat) : Int) = (0 : Int32) from iz_l0.symm] at k1
  refine ⟨ab', be', ?_, k2, fun j hj => k3 j (by omega) hj⟩
  unfold fLe_walk
  rcases k1 with k1 | k1 <;> rw [k1] <;> rfl
