/-! the model's seam as told -/
noncomputable def SC (al : Nat → Int32) (x r : Int) : Int :=
  if 0 ≤ r ∧ r ≤ 3 ∧ 0 ≤ r - eo al (fC al) x ∧ r - eo al (fC al) x ≤ 3 then SM (DD al x) (fo al (fC al) x) (tp (eo al (fC al) x)) (bt (eo al (fC al) x)) (r - tp (eo al (fC al) x)).toNat else -1
theorem SC_r {al : Nat → Int32} {w n t a : Int32} {dots cells sx sy sp : Nat → Int32} (hR : RS al w n t a dots cells sx sy sp) (o : OkA al) (cn : Cn al) {x : Int} (hp : 0 ≤ fC al x) (r : Int) : (SC al x r = -1 ↔ ¬ (0 ≤ r ∧ r ≤ 3 ∧ 0 ≤ r - eo al (fC al) x ∧ r - eo al (fC al) x ≤ 3)) ∧ -1 ≤ SC al x r ∧ SC al x r ≤ 7 ∧ (0 ≤ r ∧ r ≤ 3 ∧ 0 ≤ r - eo al (fC al) x ∧ r - eo al (fC al) x ≤ 3 → fo al (fC al) x ≤ SC al x r) := by
  obtain ⟨p1, p2, p3, p4, p5, p6⟩ := Cn.ef hR o cn hp
  have h := SM_r (dd := DD al x) (f := fo al (fC al) x) (top := tp (eo al (fC al) x)) (bo := bt (eo al (fC al) x)) (by omega) (r - tp (eo al (fC al) x)).toNat
  unfold SC
  by_cases q : 0 ≤ r ∧ r ≤ 3 ∧ 0 ≤ r - eo al (fC al) x ∧ r - eo al (fC al) x ≤ 3
  · rw [if_pos q]; exact ⟨⟨fun z => by omega, fun z => absurd q z⟩, by omega, by omega, fun _ => by omega⟩
  · rw [if_neg q]; exact ⟨⟨fun _ => q, fun _ => rfl⟩, by omega, by omega, fun z => absurd z q⟩
theorem m164 {al : Nat → Int32} {w n t a : Int32} {dots cells sx sy sp : Nat → Int32} (hR : RS al w n t a dots cells sx sy sp) (o : OkA al) (cn : Cn al) {V E' Q' G : Nat → Int32} (hV : LMb al V E' Q') (hG : fw G = fC al) {x : Int} (hp : 0 ≤ fC al x) {least : Nat → Int32}
    (hl : ∀ r' y, tp (eo al (fC al) x) ≤ r' ∧ r' ≤ bt (eo al (fC al) x) → fo al (fC al) x ≤ y ∧ y ≤ 7 → least (8 * r' + y).toNat = iz (LC (DD al x) (fo al (fC al) x) (bt (eo al (fC al) x) - r').toNat r' y)) :
    ∀ (d : Nat) (r : Int) (m : Nat), r = 4 - d → 0 ≤ r → d < m → ∀ seam : Nat → Int32, (∀ j : Nat, (j : Int) < r → seam j = iz (SC al x j)) → (∀ j : Nat, r ≤ j → j < 4 → seam j = iz (-1)) →
    ∃ seam', fMo_laysSeam_L164 (iz x) (iz (fo al (fC al) x)) E' G least m (iz r) seam = some seam' ∧ (∀ j : Nat, j < 4 → seam' j = iz (SC al x j)) := by
  obtain ⟨p1, p2, p3, p4, p5, p6⟩ := Cn.ef hR o cn hp
  obtain ⟨t1, t2, t3, t4⟩ := tb_r (e := eo al (fC al) x) (by omega)
  have hD := DD_r hR o cn hp
  have m1 : (-1 : Int32) = iz (-1) := by rw [iz_n, iz_neg]
  intro d
  induction d with
  | zero =>
    intro r m hr h0 hm seam h1 h2
    obtain ⟨m, rfl⟩ : ∃ q, m = q + 1 := ⟨m - 1, by omega⟩
    have n1 : (4 : Int32) ≤ iz r := by rw [iz_n]; exact (iz_le (by omega) (by omega) (by omega) (by omega)).mpr (by omega)
    refine ⟨seam, ?_, fun j hj => h1 j (by omega)⟩
    unfold fMo_laysSeam_L164
    rw [if_pos n1]
  | succ d ih =>
    intro r m hr h0 hm seam h1 h2
    obtain ⟨m, rfl⟩ : ∃ q, m = q + 1 := ⟨m - 1, by omega⟩
    have n1 : ¬ (4 : Int32) ≤ iz r := by rw [iz_n, iz_le (by omega) (by omega) (by omega) (by omega)]; omega
    have e1 : iz r + (1 : Int32) = iz (r + 1) := iz_add r 1
    have hrow := sMo_hasRow hR o cn hV hG (r := r) hp (by omega)
    have t5 := t4 r
    have hrs : ((r.toNat : Nat) : Int) = r := by omega
    have key : ∃ s1, fMo_laysSeam_L172 (iz x) (iz r) E' G least FU (iz (fo al (fC al) x)) seam = some s1 ∧ s1 r.toNat = iz (SC al x r) ∧ (∀ j, j ≠ r.toNat → s1 j = seam j) := by
      by_cases q : 0 ≤ r ∧ r ≤ 3 ∧ 0 ≤ r - eo al (fC al) x ∧ r - eo al (fC al) x ≤ 3
      · have hro : fMo_hasRow (iz x) (iz r) E' G = some (iz 1) := by rw [hrow, bi10 q]
        have hg : ∀ y, fo al (fC al) x ≤ y ∧ y ≤ 7 → least (8 * r + y).toNat = iz (LC (DD al x) (fo al (fC al) x) (bt (eo al (fC al) x) - r).toNat r y) ∧ 0 ≤ LC (DD al x) (fo al (fC al) x) (bt (eo al (fC al) x) - r).toNat r y ∧ LC (DD al x) (fo al (fC al) x) (bt (eo al (fC al) x) - r).toNat r y ≤ 1000 := fun y hy => by
          have b := LC_r (f := fo al (fC al) x) hD (bt (eo al (fC al) x) - r).toNat r y
          exact ⟨hl r y (by omega) hy, by omega, by omega⟩
        have hsm := h2 r.toNat (by omega) (by omega)
        by_cases qt : r = tp (eo al (fC al) x)
        · have hmay : ∀ c (s : Nat → Int32), fo al (fC al) x ≤ c ∧ c ≤ 7 → (∀ j, j ≠ r.toNat → s j = seam j) → MAY (iz r) (iz c) s = some (bi (fo al (fC al) x ≤ c ∧ c ≤ 7)) := fun c s hc hs => by
            rw [bi10 hc]
            unfold MAY
            by_cases q0 : r = 0
            · rw [if_pos (by rw [q0, iz_l0]), iz_n]
            · have n0 : ¬ iz r = (0 : Int32) := by rw [iz_l0, iz_eq (by omega) (by omega) (by omega) (by omega)]; exact q0
              have e2 : iz r - (1 : Int32) = iz (r - 1) := iz_sub r 1
              have i1 : 0 ≤ (iz (r - 1)).toInt ∧ (iz (r - 1)).toInt < 4 := by rw [iz_t (by omega) (by omega)]; omega
              have i3 : (iz (r - 1)).toNatClampNeg = (r - 1).toNat := iz_c (by omega) (by omega)
              have hv : s (r - 1).toNat = iz (-1) := by
                rw [hs _ (by omega), h1 _ (by omega)]
                have := (SC_r hR o cn hp (((r - 1).toNat : Nat) : Int)).1
                rw [this.mpr (by have := t4 (r - 1); omega)]
              rw [if_neg n0, e2, if_pos i1, i3, hv, m1, if_pos rfl, iz_n]
          obtain ⟨s1, k1, k2, k3⟩ := m172_1 (a := x) (r := r) (lo := fo al (fC al) x) (hi := 7) (f := fo al (fC al) x) (g := LC (DD al x) (fo al (fC al) x) (bt (eo al (fC al) x) - r).toNat r) (by omega) (by omega) (by omega) hro seam hmay hg hsm 0 (fo al (fC al) x) FU (by omega) (by omega) (by show _ < 5000; omega)
          refine ⟨s1, k1, ?_, k3⟩
          rw [k2]
          unfold SC
          rw [if_pos q, show (r - tp (eo al (fC al) x)).toNat = 0 by omega]
          show _ = iz (chs (LC (DD al x) (fo al (fC al) x) (bt (eo al (fC al) x) - tp (eo al (fC al) x)).toNat (tp (eo al (fC al) x))) (fo al (fC al) x) 7)
          rw [qt]
        · have hS := SM_r (dd := DD al x) (f := fo al (fC al) x) (top := tp (eo al (fC al) x)) (bo := bt (eo al (fC al) x)) (by omega) (r - 1 - tp (eo al (fC al) x)).toNat
          have hSC : SC al x (r - 1) = SM (DD al x) (fo al (fC al) x) (tp (eo al (fC al) x)) (bt (eo al (fC al) x)) (r - 1 - tp (eo al (fC al) x)).toNat := by
            unfold SC
            rw [if_pos ((t4 (r - 1)).mp (by omega))]
          have hmx := mx_r (f := fo al (fC al) x) (by omega) hS
          have hSs : SM (DD al x) (fo al (fC al) x) (tp (eo al (fC al) x)) (bt (eo al (fC al) x)) ((r - 1 - tp (eo al (fC al) x)).toNat + 1) = chs (LC (DD al x) (fo al (fC al) x) (bt (eo al (fC al) x) - (tp (eo al (fC al) x) + (((r - 1 - tp (eo al (fC al) x)).toNat : Int) + 1))).toNat (tp (eo al (fC al) x) + (((r - 1 - tp (eo al (fC al) x)).toNat : Int) + 1))) (mx (fo al (fC al) x) (SM (DD al x) (fo al (fC al) x) (tp (eo al (fC al) x)) (bt (eo al (fC al) x)) (r - 1 - tp (eo al (fC al) x)).toNat - 1)) (mi7 (SM (DD al x) (fo al (fC al) x) (tp (eo al (fC al) x)) (bt (eo al (fC al) x)) (r - 1 - tp (eo al (fC al) x)).toNat + 1)) := rfl
          rw [show tp (eo al (fC al) x) + (((r - 1 - tp (eo al (fC al) x)).toNat : Int) + 1) = r by omega, ← hSC] at hSs
          rw [← hSC] at hS hmx
          have hmy : mx (fo al (fC al) x) (SC al x (r - 1) - 1) = fo al (fC al) x ∨ mx (fo al (fC al) x) (SC al x (r - 1) - 1) = SC al x (r - 1) - 1 := by unfold mx; split <;> omega
          have hmz : mi7 (SC al x (r - 1) + 1) = 7 ∨ mi7 (SC al x (r - 1) + 1) = SC al x (r - 1) + 1 := by unfold mi7; split <;> omega
          have hmay : ∀ c (s : Nat → Int32), fo al (fC al) x ≤ c ∧ c ≤ 7 → (∀ j, j ≠ r.toNat → s j = seam j) → MAY (iz r) (iz c) s = some (bi (mx (fo al (fC al) x) (SC al x (r - 1) - 1) ≤ c ∧ c ≤ mi7 (SC al x (r - 1) + 1))) := fun c s hc hs => by
            have n0 : ¬ iz r = (0 : Int32) := by rw [iz_l0, iz_eq (by omega) (by omega) (by omega) (by omega)]; omega
            have e2 : iz r - (1 : Int32) = iz (r - 1) := iz_sub r 1
            have i1 : 0 ≤ (iz (r - 1)).toInt ∧ (iz (r - 1)).toInt < 4 := by rw [iz_t (by omega) (by omega)]; omega
            have i3 : (iz (r - 1)).toNatClampNeg = (r - 1).toNat := iz_c (by omega) (by omega)
            have hv : s (r - 1).toNat = iz (SC al x (r - 1)) := by
              rw [hs _ (by omega), h1 _ (by omega), show (((r - 1).toNat : Nat) : Int) = r - 1 by omega]
            have nv : ¬ iz (SC al x (r - 1)) = iz (-1) := by rw [iz_eq (by omega) (by omega) (by omega) (by omega)]; omega
            unfold MAY
            rw [if_neg n0, e2, if_pos i1, i3, hv, m1, if_neg nv, if_pos i1, sMo_isNear (by omega) (by omega)]
            simp only [Option.bind_some]
            by_cases z : c - SC al x (r - 1) ≤ 1 ∧ SC al x (r - 1) - c ≤ 1
            · rw [bi10 z, if_neg (show ¬ iz 1 = (0 : Int32) by rw [iz_l0]; exact iz01), iz_n, bi10 (by omega)]
            · rw [bi11 z, if_pos iz_l0.symm, iz_l0, bi11 (by omega)]
          obtain ⟨s1, k1, k2, k3⟩ := m172_1 (a := x) (r := r) (lo := mx (fo al (fC al) x) (SC al x (r - 1) - 1)) (hi := mi7 (SC al x (r - 1) + 1)) (f := fo al (fC al) x) (g := LC (DD al x) (fo al (fC al) x) (bt (eo al (fC al) x) - r).toNat r) (by omega) (by omega) (by omega) hro seam hmay (fun y hy => hg y (by omega)) hsm (mx (fo al (fC al) x) (SC al x (r - 1) - 1) - fo al (fC al) x).toNat (fo al (fC al) x) FU (by omega) (by omega) (by show _ < 5000; omega)
          refine ⟨s1, k1, ?_, k3⟩
          rw [k2, ← hSs]
          have : SC al x r = SM (DD al x) (fo al (fC al) x) (tp (eo al (fC al) x)) (bt (eo al (fC al) x)) (r - tp (eo al (fC al) x)).toNat := by
            unfold SC
            rw [if_pos q]
          rw [this, show (r - tp (eo al (fC al) x)).toNat = (r - 1 - tp (eo al (fC al) x)).toNat + 1 by omega]
      · refine ⟨seam, ?_, ?_, fun _ _ => rfl⟩
        · have n2 : ¬ (8 : Int32) ≤ iz (fo al (fC al) x) := by rw [iz_n, iz_le (by omega) (by omega) (by omega) (by omega)]; omega
          rw [show FU = 4999 + 1 from rfl, L172_s, if_neg n2, hrow, bi11 q]
          simp only [Option.bind_some, if_pos iz_l0.symm]
        · rw [h2 r.toNat (by omega) (by omega)]
          have := (SC_r hR o cn hp r).1
          rw [this.mpr q]
    obtain ⟨s1, k1, k2, k3⟩ := key
    obtain ⟨s2, a1, a2⟩ := ih (r + 1) m (by omega) (by omega) (by omega) s1 (fun j hj => by
      by_cases e : j = r.toNat
      · rw [e, k2, hrs]
      · rw [k3 j e]; exact h1 j (by omega)) (fun j hj hj2 => by
      rw [k3 j (by omega)]; exact h2 j (by omega) hj2)
    refine ⟨s2, ?_, a2⟩
    unfold fMo_laysSeam_L164
    rw [if_neg n1, k1]
    simp only [Option.bind_some, e1]
    exact a1
theorem sMo_laysSeam {al : Nat → Int32} {w n t a : Int32} {dots cells sx sy sp : Nat → Int32} (hR : RS al w n t a dots cells sx sy sp) (o : OkA al) (cn : Cn al) {V E' Q' G : Nat → Int32} (hV : LMb al V E' Q') (hG : fw G = fC al) {x : Int} (hp : 0 ≤ fC al x) (least seam : Nat → Int32) :
    ∃ l1 s1, fMo_laysSeam (iz x) al E' Q' G least seam = some (l1, s1) ∧ (∀ j : Nat, j < 4 → s1 j = iz (SC al x j)) := by
  obtain ⟨p1, p2, p3⟩ := sMo_eOf hR o cn hV hG hp
  obtain ⟨l1, s1, a1, a2, a3⟩ := m8 hR o cn hV hG hp rfl 4 3 FU (by omega) (by omega) (by show _ < 5000; omega) least seam (fun r' y h1 h2 => by
    obtain ⟨_, _, q3, q4, _, _⟩ := Cn.ef hR o cn hp
    obtain ⟨t1, t2, t3, t4⟩ := tb_r (e := eo al (fC al) x) (by omega)
    omega) (fun j h1 h2 => by omega)
  obtain ⟨s2, b1, b2⟩ := m164 hR o cn hV hG hp a2 4 0 FU (by omega) (by omega) (by show _ < 5000; omega) s1 (fun j hj => by omega) (fun j _ hj => a3 j hj)
  refine ⟨l1, s2, ?_, b2⟩
  unfold fMo_laysSeam
  rw [p2]
  simp only [Option.bind_some]
  rw [show (3 : Int32) = iz 3 from iz_n 3, a1]
  simp only [Option.bind_some]
  rw [iz_l0, b1]
  rfl
