/-! the model's rows of least cost, and its seam -/
noncomputable def DD (al : Nat → Int32) (x r c : Int) : Int :=
  if 0 ≤ r ∧ r ≤ 3 ∧ 0 ≤ r - eo al (fC al) x ∧ r - eo al (fC al) x ≤ 3 ∧ fo al (fC al) x ≤ c ∧ c ≤ 7 then (if 0 ≤ DF al x r c then DF al x r c else -DF al x r c) else 0
theorem DD_r {al : Nat → Int32} {w n t a : Int32} {dots cells sx sy sp : Nat → Int32} (hR : RS al w n t a dots cells sx sy sp) (o : OkA al) (cn : Cn al) {x : Int} (hp : 0 ≤ fC al x) (r c : Int) : 0 ≤ DD al x r c ∧ DD al x r c ≤ 63 := by
  unfold DD
  by_cases q : 0 ≤ r ∧ r ≤ 3 ∧ 0 ≤ r - eo al (fC al) x ∧ r - eo al (fC al) x ≤ 3 ∧ fo al (fC al) x ≤ c ∧ c ≤ 7
  · have := DF_r hR o cn hp (r := r) (c := c) (by omega) (by omega) (by omega)
    rw [if_pos q]
    split <;> omega
  · rw [if_neg q]; omega
def tp (e : Int) : Int := if 0 < e then e else 0
def bt (e : Int) : Int := if e < 0 then 3 + e else 3
theorem tb_r {e : Int} (he : -1 ≤ e ∧ e ≤ 1) : 0 ≤ tp e ∧ tp e ≤ bt e ∧ bt e ≤ 3 ∧ (∀ r, (tp e ≤ r ∧ r ≤ bt e) ↔ (0 ≤ r ∧ r ≤ 3 ∧ 0 ≤ r - e ∧ r - e ≤ 3)) := by
  unfold tp bt
  have : e = -1 ∨ e = 0 ∨ e = 1 := by omega
  rcases this with rfl | rfl | rfl
  · refine ⟨by decide, by decide, by decide, fun r => ?_⟩
    rw [if_neg (by omega), if_pos (by omega)]; omega
  · refine ⟨by decide, by decide, by decide, fun r => ?_⟩
    rw [if_neg (by omega), if_neg (by omega)]; omega
  · refine ⟨by decide, by decide, by decide, fun r => ?_⟩
    rw [if_pos (by omega), if_neg (by omega)]; omega
theorem sMo_adif {al : Nat → Int32} {w n t a : Int32} {dots cells sx sy sp : Nat → Int32} (hR : RS al w n t a dots cells sx sy sp) (o : OkA al) (cn : Cn al) {V E' Q' G : Nat → Int32} (hV : LMb al V E' Q') (hG : fw G = fC al) {x r c : Int} (hp : 0 ≤ fC al x) (hr : 0 ≤ r ∧ r ≤ 3) (hr2 : 0 ≤ r - eo al (fC al) x ∧ r - eo al (fC al) x ≤ 3) (hc : fo al (fC al) x ≤ c ∧ c ≤ 7) :
    fMo_differs (iz x) (iz r) (iz c) al E' Q' G = some (iz (DF al x r c)) ∧ fMo_abs (iz (DF al x r c)) = some (iz (DD al x r c)) := by
  have h1 := DF_r hR o cn hp (r := r) (c := c) hr hr2 hc
  refine ⟨sMo_differs hR o cn hV hG hp hr hr2 hc, ?_⟩
  rw [sMo_abs (by omega)]
  unfold DD
  rw [if_pos (show 0 ≤ r ∧ r ≤ 3 ∧ 0 ≤ r - eo al (fC al) x ∧ r - eo al (fC al) x ≤ 3 ∧ fo al (fC al) x ≤ c ∧ c ≤ 7 by omega)]
theorem m22 {al : Nat → Int32} {w n t a : Int32} {dots cells sx sy sp : Nat → Int32} (hR : RS al w n t a dots cells sx sy sp) (o : OkA al) (cn : Cn al) {V E' Q' G : Nat → Int32} (hV : LMb al V E' Q') (hG : fw G = fC al) {x r bo : Int} (hp : 0 ≤ fC al x) (hbo : bo = bt (eo al (fC al) x)) (hr : tp (eo al (fC al) x) ≤ r ∧ r ≤ bo) :
    ∀ (d : Nat) (c : Int) (m : Nat), c = 8 - d → fo al (fC al) x ≤ c → d < m → ∀ least : Nat → Int32, (r < bo → ∀ y, fo al (fC al) x ≤ y ∧ y ≤ 7 → least (8 * (r + 1) + y).toNat = iz (LC (DD al x) (fo al (fC al) x) (bo - (r + 1)).toNat (r + 1) y)) →
    ∃ least', fMo_laysSeam_L22 (iz x) (iz (fo al (fC al) x)) (iz r) al E' Q' G m (iz c) least = some least' ∧ (∀ y, c ≤ y ∧ y ≤ 7 → least' (8 * r + y).toNat = iz (LC (DD al x) (fo al (fC al) x) (bo - r).toNat r y)) ∧ (∀ j : Nat, (∀ y, c ≤ y ∧ y ≤ 7 → j ≠ (8 * r + y).toNat) → least' j = least j) := by
  obtain ⟨p1, p2, p3, p4, p5, p6⟩ := Cn.ef hR o cn hp
  obtain ⟨t1, t2, t3, t4⟩ := tb_r (e := eo al (fC al) x) (by omega)
  have t5 := (t4 r).mp (by omega)
  have hD := DD_r hR o cn hp
  intro d
  induction d with
  | zero =>
    intro c m hc h0 hm least _
    obtain ⟨m, rfl⟩ : ∃ q, m = q + 1 := ⟨m - 1, by omega⟩
    have n2 : (8 : Int32) ≤ iz c := by rw [iz_n, iz_le (by omega) (by omega) (by omega) (by omega)]; omega
    refine ⟨least, ?_, fun x hx => by omega, fun _ _ => rfl⟩
    unfold fMo_laysSeam_L22
    rw [if_pos n2]
  | succ d ih =>
    intro c m hc h0 hm least hl
    obtain ⟨m, rfl⟩ : ∃ q, m = q + 1 := ⟨m - 1, by omega⟩
    have n2 : ¬ (8 : Int32) ≤ iz c := by rw [iz_n, iz_le (by omega) (by omega) (by omega) (by omega)]; omega
    have e1 : iz c + (1 : Int32) = iz (c + 1) := iz_add c 1
    have e2 : (8 : Int32) * iz r + iz c = iz (8 * r + c) := by rw [iz_n, iz_mul, iz_add]
    have i1 : 0 ≤ (iz (8 * r + c)).toInt ∧ (iz (8 * r + c)).toInt < 32 := by rw [iz_t (by omega) (by omega)]; omega
    have i3 : (iz (8 * r + c)).toNatClampNeg = (8 * r + c).toNat := iz_c (by omega) (by omega)
    have hrow := sMo_hasRow hR o cn hV hG (r := r) hp (by omega)
    have n3 : ¬ bi (0 ≤ r ∧ r ≤ 3 ∧ 0 ≤ r - eo al (fC al) x ∧ r - eo al (fC al) x ≤ 3) = (0 : Int32) := by rw [iz_l0, bi0]; omega
    have hrow1 := sMo_hasRow hR o cn hV hG (r := r + 1) hp (by omega)
    obtain ⟨d1, d2⟩ := sMo_adif hR o cn hV hG (r := r) (c := c) hp (by omega) (by omega) (by omega)
    have key : ∃ v, fMo_laysSeam_L47 (iz x) (iz r) (iz c) E' G least FU (0 : Int32) (0 : Int32) (iz (fo al (fC al) x)) = some (iz v) ∧ DD al x r c + v = LC (DD al x) (fo al (fC al) x) (bo - r).toNat r c := by
      by_cases q : r < bo
      · have ht1 := (t4 (r + 1)).mp (by omega)
        have hro : fMo_hasRow (iz x) (iz (r + 1)) E' G = some (iz 1) := by rw [hrow1, bi10 ht1]
        have hm := mx_r (f := fo al (fC al) x) (c := c) (by omega) (by omega)
        have hk := m47_1 (a := x) (r := r) (c := c) (f := fo al (fC al) x) (g := LC (DD al x) (fo al (fC al) x) (bo - (r + 1)).toNat (r + 1)) hro (by omega) (by omega) (by omega) (fun y hy => by
          have b := LC_r (f := fo al (fC al) x) hD (bo - (r + 1)).toNat (r + 1) y
          exact ⟨hl q y hy, by omega, by omega⟩) (mx (fo al (fC al) x) (c - 1) - fo al (fC al) x).toNat (fo al (fC al) x) FU (by omega) (by omega) (by show _ < 5000; omega) (iz 0)
        refine ⟨LC (DD al x) (fo al (fC al) x) (bo - (r + 1)).toNat (r + 1) (chs (LC (DD al x) (fo al (fC al) x) (bo - (r + 1)).toNat (r + 1)) (mx (fo al (fC al) x) (c - 1)) (mi7 (c + 1))), ?_, ?_⟩
        · rw [iz_l0]; exact hk
        · rw [show (bo - r).toNat = (bo - (r + 1)).toNat + 1 by omega]; rfl
      · refine ⟨0, ?_, ?_⟩
        · have n7 : ¬ (8 : Int32) ≤ iz (fo al (fC al) x) := by rw [iz_n, iz_le (by omega) (by omega) (by omega) (by omega)]; omega
          have ht1 : ¬ (0 ≤ r + 1 ∧ r + 1 ≤ 3 ∧ 0 ≤ r + 1 - eo al (fC al) x ∧ r + 1 - eo al (fC al) x ≤ 3) := fun z => by
            have := (t4 (r + 1)).mpr z; omega
          have n4 : bi (0 ≤ r + 1 ∧ r + 1 ≤ 3 ∧ 0 ≤ r + 1 - eo al (fC al) x ∧ r + 1 - eo al (fC al) x ≤ 3) = (0 : Int32) := by rw [bi11 ht1, iz_l0]
          have e3 : iz r + (1 : Int32) = iz (r + 1) := iz_add r 1
          rw [show FU = 4999 + 1 from rfl]
          unfold fMo_laysSeam_L47
          rw [if_neg n7, e3, hrow1]
          simp only [Option.bind_some, if_pos n4]
          rw [iz_l0]
        · rw [show (bo - r).toNat = 0 by omega]; show DD al x r c + 0 = DD al x r c; omega
    obtain ⟨v, k1, k2⟩ := key
    have eS : iz (DD al x r c) + iz v = iz (LC (DD al x) (fo al (fC al) x) (bo - r).toNat r c) := by rw [iz_add, k2]
    obtain ⟨l', a1, a2, a3⟩ := ih (c + 1) m (by omega) (by omega) (by omega) (upd least (8 * r + c).toNat (iz (LC (DD al x) (fo al (fC al) x) (bo - r).toNat r c))) (fun z y hy => by rw [upd_n _ _ (by omega)]; exact hl z y hy)
    refine ⟨l', ?_, ?_, ?_⟩
    · unfold fMo_laysSeam_L22
      rw [if_neg n2, hrow]
      simp only [Option.bind_some, if_neg n3, k1, d1, d2, e2, if_pos i1, i3, eS, e1]
      exact a1
    · intro y hy
      by_cases ey : y = c
      · rw [ey, a3 _ (fun z hz e => by omega), upd_s]
      · exact a2 y (by omega)
    · intro j hj
      rw [a3 j (fun y hy => hj y (by omega)), upd_n _ _ (hj c (by omega))]
