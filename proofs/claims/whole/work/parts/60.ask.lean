/-! the questions -/
theorem c1e : (iz 1 = (0 : Int32)) = False := eq_false (by rw [iz_l0]; exact iz01)
theorem c0e : (iz 0 = (0 : Int32)) = True := eq_true iz_l0.symm
theorem rfC2 (rf : Nat → Int32) : fRi_refuse (-2 : Int32) rf = some (iz (-2), ref rf (-2)) := by rw [show (-2 : Int32) = iz (-2) by rw [iz_n, iz_neg]]; exact sRi_refuse (by omega)
theorem rfC3 (rf : Nat → Int32) : fRi_refuse (-3 : Int32) rf = some (iz (-3), ref rf (-3)) := by rw [show (-3 : Int32) = iz (-3) by rw [iz_n, iz_neg]]; exact sRi_refuse (by omega)
theorem rfC4 (rf : Nat → Int32) : fRi_refuse (-4 : Int32) rf = some (iz (-4), ref rf (-4)) := by rw [show (-4 : Int32) = iz (-4) by rw [iz_n, iz_neg]]; exact sRi_refuse (by omega)
theorem rfM2 (rf : Nat → Int32) : fMo_refuses (-2 : Int32) rf = some (iz (-2), ref rf (-2)) := by rw [show (-2 : Int32) = iz (-2) by rw [iz_n, iz_neg]]; exact sMo_refuses (by omega)
theorem rfM3 (rf : Nat → Int32) : fMo_refuses (-3 : Int32) rf = some (iz (-3), ref rf (-3)) := by rw [show (-3 : Int32) = iz (-3) by rw [iz_n, iz_neg]]; exact sMo_refuses (by omega)
theorem rfM4 (rf : Nat → Int32) : fMo_refuses (-4 : Int32) rf = some (iz (-4), ref rf (-4)) := by rw [show (-4 : Int32) = iz (-4) by rw [iz_n, iz_neg]]; exact sMo_refuses (by omega)
theorem pic_b {al : Nat → Int32} {w n t a : Int32} {dots cells sx sy sp : Nat → Int32} (h : RS al w n t a dots cells sx sy sp) (o : OkA al) {k : Int} (hk : -2147483648 ≤ k ∧ k ≤ 2147483647) : fSc_hasPicture (iz k) n = some (bi (0 ≤ k ∧ k < NN al)) ∧ fMo_isPicture (iz k) al = some (bi (0 ≤ k ∧ k < NN al)) := by
  have on := o.n
  refine ⟨?_, sMo_isPicture o hk⟩
  rw [h.iN, sSc_hasPicture hk (by omega)]
  exact congrArg some (bi_c (by omega))
theorem two_b {al : Nat → Int32} {w n t a : Int32} {dots cells sx sy sp : Nat → Int32} (h : RS al w n t a dots cells sx sy sp) (o : OkA al) {x y : Int} (hx : -2147483648 ≤ x ∧ x ≤ 2147483647) (hy : -2147483648 ≤ y ∧ y ≤ 2147483647) : fRi_isPair (iz x) (iz y) n = some (bi (0 ≤ x ∧ x < NN al ∧ 0 ≤ y ∧ y < NN al ∧ x ≠ y)) ∧ fMo_areTwo (iz x) (iz y) al = some (bi (0 ≤ x ∧ x < NN al ∧ 0 ≤ y ∧ y < NN al ∧ x ≠ y)) := by
  have on := o.n
  refine ⟨?_, sMo_areTwo o hx hy⟩
  rw [h.iN, sRi_isPair hx hy (by omega)]
theorem m1e {z : Int} (hz : -2147483648 ≤ z ∧ z ≤ 2147483647) : (iz z = (-1 : Int32)) = (z = -1) := by rw [iz_n, iz_neg]; exact propext (iz_eq (by omega) (by omega) (by omega) (by omega))
theorem wi0_1 {z : Int} (hz : -2147483648 ≤ z ∧ z ≤ 2147483647) : fRi_within (iz z) (0 : Int32) (1 : Int32) = some (bi (0 ≤ z ∧ z ≤ 1)) ∧ fMo_in (iz z).toInt64 (0 : Int64) (1 : Int64) = some (bi (0 ≤ z ∧ z ≤ 1)) := by
  constructor
  · rw [show (0 : Int32) = iz 0 from iz_n 0, show (1 : Int32) = iz 1 from iz_n 1]
    exact sRi_within hz (by omega) (by omega)
  · rw [iz_64 hz.1 hz.2, show (0 : Int64) = lz 0 from lz_n 0, show (1 : Int64) = lz 1 from lz_n 1]
    exact sMo_in (by omega) (by omega) (by omega)
theorem wi0_2 {z : Int} (hz : -2147483648 ≤ z ∧ z ≤ 2147483647) : fRi_within (iz z) (0 : Int32) (2 : Int32) = some (bi (0 ≤ z ∧ z ≤ 2)) ∧ fMo_in (iz z).toInt64 (0 : Int64) (2 : Int64) = some (bi (0 ≤ z ∧ z ≤ 2)) := by
  constructor
  · rw [show (0 : Int32) = iz 0 from iz_n 0, show (2 : Int32) = iz 2 from iz_n 2]
    exact sRi_within hz (by omega) (by omega)
  · rw [iz_64 hz.1 hz.2, show (0 : Int64) = lz 0 from lz_n 0, show (2 : Int64) = lz 2 from lz_n 2]
    exact sMo_in (by omega) (by omega) (by omega)
theorem wi0_3 {z : Int} (hz : -2147483648 ≤ z ∧ z ≤ 2147483647) : fRi_within (iz z) (0 : Int32) (3 : Int32) = some (bi (0 ≤ z ∧ z ≤ 3)) ∧ fMo_in (iz z).toInt64 (0 : Int64) (3 : Int64) = some (bi (0 ≤ z ∧ z ≤ 3)) := by
  constructor
  · rw [show (0 : Int32) = iz 0 from iz_n 0, show (3 : Int32) = iz 3 from iz_n 3]
    exact sRi_within hz (by omega) (by omega)
  · rw [iz_64 hz.1 hz.2, show (0 : Int64) = lz 0 from lz_n 0, show (3 : Int64) = lz 3 from lz_n 3]
    exact sMo_in (by omega) (by omega) (by omega)
theorem wi0_5 {z : Int} (hz : -2147483648 ≤ z ∧ z ≤ 2147483647) : fRi_within (iz z) (0 : Int32) (5 : Int32) = some (bi (0 ≤ z ∧ z ≤ 5)) ∧ fMo_in (iz z).toInt64 (0 : Int64) (5 : Int64) = some (bi (0 ≤ z ∧ z ≤ 5)) := by
  constructor
  · rw [show (0 : Int32) = iz 0 from iz_n 0, show (5 : Int32) = iz 5 from iz_n 5]
    exact sRi_within hz (by omega) (by omega)
  · rw [iz_64 hz.1 hz.2, show (0 : Int64) = lz 0 from lz_n 0, show (5 : Int64) = lz 5 from lz_n 5]
    exact sMo_in (by omega) (by omega) (by omega)
theorem wi0_8 {z : Int} (hz : -2147483648 ≤ z ∧ z ≤ 2147483647) : fRi_within (iz z) (0 : Int32) (8 : Int32) = some (bi (0 ≤ z ∧ z ≤ 8)) ∧ fMo_in (iz z).toInt64 (0 : Int64) (8 : Int64) = some (bi (0 ≤ z ∧ z ≤ 8)) := by
  constructor
  · rw [show (0 : Int32) = iz 0 from iz_n 0, show (8 : Int32) = iz 8 from iz_n 8]
    exact sRi_within hz (by omega) (by omega)
  · rw [iz_64 hz.1 hz.2, show (0 : Int64) = lz 0 from lz_n 0, show (8 : Int64) = lz 8 from lz_n 8]
    exact sMo_in (by omega) (by omega) (by omega)
theorem wi1_5 {z : Int} (hz : -2147483648 ≤ z ∧ z ≤ 2147483647) : fRi_within (iz z) (1 : Int32) (5 : Int32) = some (bi (1 ≤ z ∧ z ≤ 5)) ∧ fMo_in (iz z).toInt64 (1 : Int64) (5 : Int64) = some (bi (1 ≤ z ∧ z ≤ 5)) := by
  constructor
  · rw [show (1 : Int32) = iz 1 from iz_n 1, show (5 : Int32) = iz 5 from iz_n 5]
    exact sRi_within hz (by omega) (by omega)
  · rw [iz_64 hz.1 hz.2, show (1 : Int64) = lz 1 from lz_n 1, show (5 : Int64) = lz 5 from lz_n 5]
    exact sMo_in (by omega) (by omega) (by omega)
theorem wim1_1 {z : Int} (hz : -2147483648 ≤ z ∧ z ≤ 2147483647) : fRi_within (iz z) (-1 : Int32) (1 : Int32) = some (bi (-1 ≤ z ∧ z ≤ 1)) ∧ fMo_in (iz z).toInt64 (-1 : Int64) (1 : Int64) = some (bi (-1 ≤ z ∧ z ≤ 1)) := by
  constructor
  · rw [show (-1 : Int32) = iz (-1) by rw [iz_n, iz_neg], show (1 : Int32) = iz 1 from iz_n 1]
    exact sRi_within hz (by omega) (by omega)
  · rw [iz_64 hz.1 hz.2, show (-1 : Int64) = lz (-1) by rw [lz_n, lz_neg], show (1 : Int64) = lz 1 from lz_n 1]
    exact sMo_in (by omega) (by omega) (by omega)
theorem wi0_127 {z : Int} (hz : -2147483648 ≤ z ∧ z ≤ 2147483647) : fRi_within (iz z) (0 : Int32) (127 : Int32) = some (bi (0 ≤ z ∧ z ≤ 127)) ∧ fMo_in (iz z).toInt64 (0 : Int64) (127 : Int64) = some (bi (0 ≤ z ∧ z ≤ 127)) := by
  constructor
  · rw [show (0 : Int32) = iz 0 from iz_n 0, show (127 : Int32) = iz 127 from iz_n 127]
    exact sRi_within hz (by omega) (by omega)
  · rw [iz_64 hz.1 hz.2, show (0 : Int64) = lz 0 from lz_n 0, show (127 : Int64) = lz 127 from lz_n 127]
    exact sMo_in (by omega) (by omega) (by omega)
theorem c_corners {al : Nat → Int32} {w n t a : Int32} {dots cells sx sy sp : Nat → Int32} (h : RS al w n t a dots cells sx sy sp) (o : OkA al) {u : T27} (hu : CI al u) {rf mr : Nat → Int32} (hR : RF rf mr) (jk : Int32) :
    ∃ (ans : Int32) (v : T27) (rf1 mr1 : Nat → Int32), fRi_corners jk u.1 n t a cells sx sy sp u.2.1 u.2.2.1 u.2.2.2.1 u.2.2.2.2.1 u.2.2.2.2.2.1 u.2.2.2.2.2.2.1 u.2.2.2.2.2.2.2.1 u.2.2.2.2.2.2.2.2.1 u.2.2.2.2.2.2.2.2.2.1 u.2.2.2.2.2.2.2.2.2.2.1 u.2.2.2.2.2.2.2.2.2.2.2.1 u.2.2.2.2.2.2.2.2.2.2.2.2.1 u.2.2.2.2.2.2.2.2.2.2.2.2.2.1 u.2.2.2.2.2.2.2.2.2.2.2.2.2.2.1 u.2.2.2.2.2.2.2.2.2.2.2.2.2.2.2.1 u.2.2.2.2.2.2.2.2.2.2.2.2.2.2.2.2.1 u.2.2.2.2.2.2.2.2.2.2.2.2.2.2.2.2.2.1 u.2.2.2.2.2.2.2.2.2.2.2.2.2.2.2.2.2.2.1 u.2.2.2.2.2.2.2.2.2.2.2.2.2.2.2.2.2.2.2.1 u.2.2.2.2.2.2.2.2.2.2.2.2.2.2.2.2.2.2.2.2.1 u.2.2.2.2.2.2.2.2.2.2.2.2.2.2.2.2.2.2.2.2.2.1 u.2.2.2.2.2.2.2.2.2.2.2.2.2.2.2.2.2.2.2.2.2.2.1 u.2.2.2.2.2.2.2.2.2.2.2.2.2.2.2.2.2.2.2.2.2.2.2.1 u.2.2.2.2.2.2.2.2.2.2.2.2.2.2.2.2.2.2.2.2.2.2.2.2.1 u.2.2.2.2.2.2.2.2.2.2.2.2.2.2.2.2.2.2.2.2.2.2.2.2.2.1 u.2.2.2.2.2.2.2.2.2.2.2.2.2.2.2.2.2.2.2.2.2.2.2.2.2.2 rf = some (ans, v.1, v.2.1, v.2.2.1, v.2.2.2.1, v.2.2.2.2.1, v.2.2.2.2.2.1, v.2.2.2.2.2.2.1, v.2.2.2.2.2.2.2.1, v.2.2.2.2.2.2.2.2.1, v.2.2.2.2.2.2.2.2.2.1, v.2.2.2.2.2.2.2.2.2.2.1, v.2.2.2.2.2.2.2.2.2.2.2.1, v.2.2.2.2.2.2.2.2.2.2.2.2.1, v.2.2.2.2.2.2.2.2.2.2.2.2.2.1, v.2.2.2.2.2.2.2.2.2.2.2.2.2.2.1, v.2.2.2.2.2.2.2.2.2.2.2.2.2.2.2.1, v.2.2.2.2.2.2.2.2.2.2.2.2.2.2.2.2.1, v.2.2.2.2.2.2.2.2.2.2.2.2.2.2.2.2.2.1, v.2.2.2.2.2.2.2.2.2.2.2.2.2.2.2.2.2.2.1, v.2.2.2.2.2.2.2.2.2.2.2.2.2.2.2.2.2.2.2.1, v.2.2.2.2.2.2.2.2.2.2.2.2.2.2.2.2.2.2.2.2.1, v.2.2.2.2.2.2.2.2.2.2.2.2.2.2.2.2.2.2.2.2.2.1, v.2.2.2.2.2.2.2.2.2.2.2.2.2.2.2.2.2.2.2.2.2.2.1, v.2.2.2.2.2.2.2.2.2.2.2.2.2.2.2.2.2.2.2.2.2.2.2.1, v.2.2.2.2.2.2.2.2.2.2.2.2.2.2.2.2.2.2.2.2.2.2.2.2.1, v.2.2.2.2.2.2.2.2.2.2.2.2.2.2.2.2.2.2.2.2.2.2.2.2.2.1, v.2.2.2.2.2.2.2.2.2.2.2.2.2.2.2.2.2.2.2.2.2.2.2.2.2.2, rf1) ∧ fMo_corners jk al mr = some (ans, mr1) ∧ CI al v ∧ RF rf1 mr1 := by
  have on := o.n
  obtain ⟨ik, lk, uk, rfl⟩ := iz_of jk
  have p := pic_b h o (k := ik) (by omega)
  by_cases q : 0 ≤ ik ∧ ik < NN al
  · rw [bi10 q] at p
    obtain ⟨p1, p2⟩ := p
    obtain ⟨v, e, v1, v2⟩ := refresh_s h o hu
    have w := (wi0_5 (z := ik) (by omega)).1
    rw [bi10 (by omega)] at w
    have i1 : 0 ≤ (iz ik).toInt ∧ (iz ik).toInt < 6 := by rw [iz_t (by omega) (by omega)]; omega
    have i3 : (iz ik).toNatClampNeg = ik.toNat := iz_c (by omega) (by omega)
    have hc := v2.1 ik.toNat (by omega)
    refine ⟨CO al ik.toNat, v, rf, mr, ?_, ?_, CI_of v1 v2, hR⟩
    · unfold fRi_corners fLi_cornerBits
      simp only [p1, e, w, if_pos i1, i3, hc, Option.bind_some, c1e, c0e, if_true, if_false]
    · unfold fMo_corners
      simp only [p2, (cor_s h o q).2, Option.bind_some, c1e, c0e, if_true, if_false]
  · rw [bi11 q] at p
    obtain ⟨p1, p2⟩ := p
    refine ⟨iz (-2), u, ref rf (-2), ref mr (-2), ?_, ?_, hu, RF_ref hR (by omega)⟩
    · unfold fRi_corners
      simp only [p1, p2, rfC2, Option.bind_some, c1e, c0e, if_true, if_false]
    · unfold fMo_corners
      simp only [p1, p2, rfM2, Option.bind_some, c1e, c0e, if_true, if_false]
theorem c_votes {al : Nat → Int32} {w n t a : Int32} {dots cells sx sy sp : Nat → Int32} (h : RS al w n t a dots cells sx sy sp) (o : OkA al) {u : T27} (hu : CI al u) {rf mr : Nat → Int32} (hR : RF rf mr) (jx jy je jf : Int32) (g : Nat → Int32) :
    ∃ (ans : Int32) (v : T27) (rf1 mr1 : Nat → Int32) (g1 : Nat → Int32), fRi_votes jx jy je jf u.1 n t a cells sx sy sp u.2.1 u.2.2.1 u.2.2.2.1 u.2.2.2.2.1 u.2.2.2.2.2.1 u.2.2.2.2.2.2.1 u.2.2.2.2.2.2.2.1 u.2.2.2.2.2.2.2.2.1 u.2.2.2.2.2.2.2.2.2.1 u.2.2.2.2.2.2.2.2.2.2.1 u.2.2.2.2.2.2.2.2.2.2.2.1 u.2.2.2.2.2.2.2.2.2.2.2.2.1 u.2.2.2.2.2.2.2.2.2.2.2.2.2.1 u.2.2.2.2.2.2.2.2.2.2.2.2.2.2.1 u.2.2.2.2.2.2.2.2.2.2.2.2.2.2.2.1 u.2.2.2.2.2.2.2.2.2.2.2.2.2.2.2.2.1 u.2.2.2.2.2.2.2.2.2.2.2.2.2.2.2.2.2.1 u.2.2.2.2.2.2.2.2.2.2.2.2.2.2.2.2.2.2.1 u.2.2.2.2.2.2.2.2.2.2.2.2.2.2.2.2.2.2.2.1 u.2.2.2.2.2.2.2.2.2.2.2.2.2.2.2.2.2.2.2.2.1 u.2.2.2.2.2.2.2.2.2.2.2.2.2.2.2.2.2.2.2.2.2.1 u.2.2.2.2.2.2.2.2.2.2.2.2.2.2.2.2.2.2.2.2.2.2.1 u.2.2.2.2.2.2.2.2.2.2.2.2.2.2.2.2.2.2.2.2.2.2.2.1 u.2.2.2.2.2.2.2.2.2.2.2.2.2.2.2.2.2.2.2.2.2.2.2.2.1 u.2.2.2.2.2.2.2.2.2.2.2.2.2.2.2.2.2.2.2.2.2.2.2.2.2.1 u.2.2.2.2.2.2.2.2.2.2.2.2.2.2.2.2.2.2.2.2.2.2.2.2.2.2 rf = some (ans, v.1, v.2.1, v.2.2.1, v.2.2.2.1, v.2.2.2.2.1, v.2.2.2.2.2.1, v.2.2.2.2.2.2.1, v.2.2.2.2.2.2.2.1, v.2.2.2.2.2.2.2.2.1, v.2.2.2.2.2.2.2.2.2.1, v.2.2.2.2.2.2.2.2.2.2.1, v.2.2.2.2.2.2.2.2.2.2.2.1, v.2.2.2.2.2.2.2.2.2.2.2.2.1, v.2.2.2.2.2.2.2.2.2.2.2.2.2.1, v.2.2.2.2.2.2.2.2.2.2.2.2.2.2.1, v.2.2.2.2.2.2.2.2.2.2.2.2.2.2.2.1, v.2.2.2.2.2.2.2.2.2.2.2.2.2.2.2.2.1, v.2.2.2.2.2.2.2.2.2.2.2.2.2.2.2.2.2.1, v.2.2.2.2.2.2.2.2.2.2.2.2.2.2.2.2.2.2.1, v.2.2.2.2.2.2.2.2.2.2.2.2.2.2.2.2.2.2.2.1, v.2.2.2.2.2.2.2.2.2.2.2.2.2.2.2.2.2.2.2.2.1, v.2.2.2.2.2.2.2.2.2.2.2.2.2.2.2.2.2.2.2.2.2.1, v.2.2.2.2.2.2.2.2.2.2.2.2.2.2.2.2.2.2.2.2.2.2.1, v.2.2.2.2.2.2.2.2.2.2.2.2.2.2.2.2.2.2.2.2.2.2.2.1, v.2.2.2.2.2.2.2.2.2.2.2.2.2.2.2.2.2.2.2.2.2.2.2.2.1, v.2.2.2.2.2.2.2.2.2.2.2.2.2.2.2.2.2.2.2.2.2.2.2.2.2.1, v.2.2.2.2.2.2.2.2.2.2.2.2.2.2.2.2.2.2.2.2.2.2.2.2.2.2, rf1) ∧ fMo_votes jx jy je jf al mr g = some (ans, mr1, g1) ∧ CI al v ∧ RF rf1 mr1 := by
  have on := o.n
  obtain ⟨ix, lx, ux, rfl⟩ := iz_of jx
  obtain ⟨iy, ly, uy, rfl⟩ := iz_of jy
  obtain ⟨ie, le, ue, rfl⟩ := iz_of je
  obtain ⟨if9, lf, uf, rfl⟩ := iz_of jf
  have p := two_b h o (x := ix) (y := iy) (by omega) (by omega)
  have pe := wim1_1 (z := ie) (by omega)
  have pf := wi1_5 (z := if9) (by omega)
  by_cases q : 0 ≤ ix ∧ ix < NN al ∧ 0 ≤ iy ∧ iy < NN al ∧ ix ≠ iy
  · rw [bi10 q] at p
    obtain ⟨p1, p2⟩ := p
    by_cases qe : -1 ≤ ie ∧ ie ≤ 1
    · rw [bi10 qe] at pe
      obtain ⟨e1, e2⟩ := pe
      by_cases qf : 1 ≤ if9 ∧ if9 ≤ 5
      · rw [bi10 qf] at pf
        obtain ⟨f1, f2⟩ := pf
        obtain ⟨v, e, v1, v2⟩ := refresh_s h o hu
        obtain ⟨g1, k1, k2⟩ := sMo_laysCorners h o g
        have w1 := sLi_votes h o (a' := ix) (b := iy) (e := ie) (f := if9) (by omega) (by omega) qe qf (v2.1 ix.toNat (by omega)) (v2.1 iy.toNat (by omega))
        have w2 := sMo_votes h o (a' := ix) (b := iy) (e := ie) (f := if9) (by omega) (by omega) qe qf (k2 ix.toNat (by omega)) (k2 iy.toNat (by omega))
        refine ⟨iz (VT al ix iy ie if9), v, rf, mr, g1, ?_, ?_, CI_of v1 v2, hR⟩
        · unfold fRi_votes
          simp only [p1, e1, f1, e, w1, Option.bind_some, c1e, c0e, if_true, if_false]
        · unfold fMo_votes
          simp only [p2, e2, f2, k1, w2, Option.bind_some, c1e, c0e, if_true, if_false]
      · rw [bi11 qf] at pf
        obtain ⟨f1, f2⟩ := pf
        refine ⟨iz (-2), u, ref rf (-2), ref mr (-2), g, ?_, ?_, hu, RF_ref hR (by omega)⟩
        · unfold fRi_votes
          simp only [p1, p2, e1, e2, f1, f2, rfC2, Option.bind_some, c1e, c0e, if_true, if_false]
        · unfold fMo_votes
          simp only [p1, p2, e1, e2, f1, f2, rfM2, Option.bind_some, c1e, c0e, if_true, if_false]
    · rw [bi11 qe] at pe
      obtain ⟨e1, e2⟩ := pe
      refine ⟨iz (-2), u, ref rf (-2), ref mr (-2), g, ?_, ?_, hu, RF_ref hR (by omega)⟩
      · unfold fRi_votes
        simp only [p1, p2, e1, e2, rfC2, Option.bind_some, c1e, c0e, if_true, if_false]
      · unfold fMo_votes
        simp only [p1, p2, e1, e2, rfM2, Option.bind_some, c1e, c0e, if_true, if_false]
  · rw [bi11 q] at p
    obtain ⟨p1, p2⟩ := p
    refine ⟨iz (-2), u, ref rf (-2), ref mr (-2), g, ?_, ?_, hu, RF_ref hR (by omega)⟩
    · unfold fRi_votes
      simp only [p1, p2, rfC2, Option.bind_some, c1e, c0e, if_true, if_false]
    · unfold fMo_votes
      simp only [p1, p2, rfM2, Option.bind_some, c1e, c0e, if_true, if_false]
theorem c_link {al : Nat → Int32} {w n t a : Int32} {dots cells sx sy sp : Nat → Int32} (h : RS al w n t a dots cells sx sy sp) (o : OkA al) {u : T27} (hu : CI al u) {rf mr : Nat → Int32} (hR : RF rf mr) (jx jy jq : Int32) (g V0 E0 Q0 : Nat → Int32) :
    ∃ (ans : Int32) (v : T27) (rf1 mr1 : Nat → Int32) (g1 V1 E1 Q1 : Nat → Int32), fRi_link jx jy jq u.1 n t a cells sx sy sp u.2.1 u.2.2.1 u.2.2.2.1 u.2.2.2.2.1 u.2.2.2.2.2.1 u.2.2.2.2.2.2.1 u.2.2.2.2.2.2.2.1 u.2.2.2.2.2.2.2.2.1 u.2.2.2.2.2.2.2.2.2.1 u.2.2.2.2.2.2.2.2.2.2.1 u.2.2.2.2.2.2.2.2.2.2.2.1 u.2.2.2.2.2.2.2.2.2.2.2.2.1 u.2.2.2.2.2.2.2.2.2.2.2.2.2.1 u.2.2.2.2.2.2.2.2.2.2.2.2.2.2.1 u.2.2.2.2.2.2.2.2.2.2.2.2.2.2.2.1 u.2.2.2.2.2.2.2.2.2.2.2.2.2.2.2.2.1 u.2.2.2.2.2.2.2.2.2.2.2.2.2.2.2.2.2.1 u.2.2.2.2.2.2.2.2.2.2.2.2.2.2.2.2.2.2.1 u.2.2.2.2.2.2.2.2.2.2.2.2.2.2.2.2.2.2.2.1 u.2.2.2.2.2.2.2.2.2.2.2.2.2.2.2.2.2.2.2.2.1 u.2.2.2.2.2.2.2.2.2.2.2.2.2.2.2.2.2.2.2.2.2.1 u.2.2.2.2.2.2.2.2.2.2.2.2.2.2.2.2.2.2.2.2.2.2.1 u.2.2.2.2.2.2.2.2.2.2.2.2.2.2.2.2.2.2.2.2.2.2.2.1 u.2.2.2.2.2.2.2.2.2.2.2.2.2.2.2.2.2.2.2.2.2.2.2.2.1 u.2.2.2.2.2.2.2.2.2.2.2.2.2.2.2.2.2.2.2.2.2.2.2.2.2.1 u.2.2.2.2.2.2.2.2.2.2.2.2.2.2.2.2.2.2.2.2.2.2.2.2.2.2 rf = some (ans, v.1, v.2.1, v.2.2.1, v.2.2.2.1, v.2.2.2.2.1, v.2.2.2.2.2.1, v.2.2.2.2.2.2.1, v.2.2.2.2.2.2.2.1, v.2.2.2.2.2.2.2.2.1, v.2.2.2.2.2.2.2.2.2.1, v.2.2.2.2.2.2.2.2.2.2.1, v.2.2.2.2.2.2.2.2.2.2.2.1, v.2.2.2.2.2.2.2.2.2.2.2.2.1, v.2.2.2.2.2.2.2.2.2.2.2.2.2.1, v.2.2.2.2.2.2.2.2.2.2.2.2.2.2.1, v.2.2.2.2.2.2.2.2.2.2.2.2.2.2.2.1, v.2.2.2.2.2.2.2.2.2.2.2.2.2.2.2.2.1, v.2.2.2.2.2.2.2.2.2.2.2.2.2.2.2.2.2.1, v.2.2.2.2.2.2.2.2.2.2.2.2.2.2.2.2.2.2.1, v.2.2.2.2.2.2.2.2.2.2.2.2.2.2.2.2.2.2.2.1, v.2.2.2.2.2.2.2.2.2.2.2.2.2.2.2.2.2.2.2.2.1, v.2.2.2.2.2.2.2.2.2.2.2.2.2.2.2.2.2.2.2.2.2.1, v.2.2.2.2.2.2.2.2.2.2.2.2.2.2.2.2.2.2.2.2.2.2.1, v.2.2.2.2.2.2.2.2.2.2.2.2.2.2.2.2.2.2.2.2.2.2.2.1, v.2.2.2.2.2.2.2.2.2.2.2.2.2.2.2.2.2.2.2.2.2.2.2.2.1, v.2.2.2.2.2.2.2.2.2.2.2.2.2.2.2.2.2.2.2.2.2.2.2.2.2.1, v.2.2.2.2.2.2.2.2.2.2.2.2.2.2.2.2.2.2.2.2.2.2.2.2.2.2, rf1) ∧ fMo_link jx jy jq al mr g V0 E0 Q0 = some (ans, mr1, g1, V1, E1, Q1) ∧ CI al v ∧ RF rf1 mr1 := by
  have on := o.n
  obtain ⟨ix, lx, ux, rfl⟩ := iz_of jx
  obtain ⟨iy, ly, uy, rfl⟩ := iz_of jy
  obtain ⟨iq, lq, uq, rfl⟩ := iz_of jq
  have p := two_b h o (x := ix) (y := iy) (by omega) (by omega)
  have pe := wi0_2 (z := iq) (by omega)
  by_cases q : 0 ≤ ix ∧ ix < NN al ∧ 0 ≤ iy ∧ iy < NN al ∧ ix ≠ iy
  · rw [bi10 q] at p
    obtain ⟨p1, p2⟩ := p
    by_cases qe : 0 ≤ iq ∧ iq ≤ 2
    · rw [bi10 qe] at pe
      obtain ⟨e1, e2⟩ := pe
      obtain ⟨v, e, v1, v2⟩ := refresh_s h o hu
      obtain ⟨g1, k1, k2⟩ := sMo_laysCorners h o g
      obtain ⟨V1, E1, Q1, m1, ⟨m2, m3, m4⟩, _⟩ := sMo_laysLink h o (a' := ix) (b := iy) (by omega) (by omega) k2 V0 E0 Q0
      have w1 := sLi_votesOf v2.2.1 (a := ix) (b := iy) (by omega) (by omega)
      have hLV : LV al ix iy = (LK al ix iy).1 := if_pos (by omega)
      rw [hLV] at w1
      have hrq := LK_r h o (a' := ix) (b := iy) (by omega) (by omega)
      have ea : (6 : Int32) * iz ix + iz iy = iz (6 * ix + iy) := by rw [iz_n, iz_mul, iz_add]
      have i1 : 0 ≤ (iz (6 * ix + iy)).toInt ∧ (iz (6 * ix + iy)).toInt < 36 := by rw [iz_t (by omega) (by omega)]; omega
      have i3 : (iz (6 * ix + iy)).toNatClampNeg = (6 * ix + iy).toNat := iz_c (by omega) (by omega)
      have hq0 : (iz iq = (0 : Int32)) = (iq = 0) := by rw [iz_l0]; exact propext (iz_eq (by omega) (by omega) (by omega) (by omega))
      have hq1 : (iz iq = (1 : Int32)) = (iq = 1) := by rw [iz_n]; exact propext (iz_eq (by omega) (by omega) (by omega) (by omega))
      have hv0 : (iz (LK al ix iy).1 = (0 : Int32)) = ((LK al ix iy).1 = 0) := by rw [iz_l0]; exact propext (iz_eq (by have := hrq.1; omega) (by have := hrq.2.1; omega) (by omega) (by omega))
      by_cases c0 : iq = 0
      · have d0 := hq0.trans (eq_true c0)
        refine ⟨iz (LK al ix iy).1, v, rf, mr, g1, V1, E1, Q1, ?_, ?_, CI_of v1 v2, hR⟩
        · unfold fRi_link
          simp only [p1, e1, e, w1, d0, Option.bind_some, c1e, c0e, if_true, if_false]
        · unfold fMo_link
          simp only [p2, e2, k1, m1, d0, ea, if_pos i1, i3, m2, Option.bind_some, c1e, c0e, if_true, if_false]
      · have d0 := hq0.trans (eq_false c0)
        by_cases cv : (LK al ix iy).1 = 0
        · have dv := hv0.trans (eq_true cv)
          refine ⟨iz (-1), v, rf, mr, g1, V1, E1, Q1, ?_, ?_, CI_of v1 v2, hR⟩
          · unfold fRi_link
            simp only [p1, e1, e, w1, d0, dv, Option.bind_some, c1e, c0e, if_true, if_false]
            rw [show (-1 : Int32) = iz (-1) by rw [iz_n, iz_neg]]
          · unfold fMo_link
            simp only [p2, e2, k1, m1, d0, dv, ea, if_pos i1, i3, m2, Option.bind_some, c1e, c0e, if_true, if_false]
            rw [show (-1 : Int32) = iz (-1) by rw [iz_n, iz_neg]]
        · have dv := hv0.trans (eq_false cv)
          have hs := sLi_shift v2.2.1 (a := ix) (b := iy) (by omega) (by omega) (by rw [hLV]; have := hrq.1; omega)
          by_cases c1 : iq = 1
          · have d1 := hq1.trans (eq_true c1)
            refine ⟨iz (LK al ix iy).2.1 + (1 : Int32), v, rf, mr, g1, V1, E1, Q1, ?_, ?_, CI_of v1 v2, hR⟩
            · unfold fRi_link
              simp only [p1, e1, e, w1, d0, dv, d1, hs.1, Option.bind_some, c1e, c0e, if_true, if_false]
            · unfold fMo_link
              simp only [p2, e2, k1, m1, d0, dv, d1, ea, if_pos i1, i3, m2, m3, Option.bind_some, c1e, c0e, if_true, if_false]
          · have d1 := hq1.trans (eq_false c1)
            refine ⟨iz (LK al ix iy).2.2, v, rf, mr, g1, V1, E1, Q1, ?_, ?_, CI_of v1 v2, hR⟩
            · unfold fRi_link
              simp only [p1, e1, e, w1, d0, dv, d1, hs.2, Option.bind_some, c1e, c0e, if_true, if_false]
            · unfold fMo_link
              simp only [p2, e2, k1, m1, d0, dv, d1, ea, if_pos i1, i3, m2, m4, Option.bind_some, c1e, c0e, if_true, if_false]
    · rw [bi11 qe] at pe
      obtain ⟨e1, e2⟩ := pe
      refine ⟨iz (-2), u, ref rf (-2), ref mr (-2), g, V0, E0, Q0, ?_, ?_, hu, RF_ref hR (by omega)⟩
      · unfold fRi_link
        simp only [p1, p2, e1, e2, rfC2, Option.bind_some, c1e, c0e, if_true, if_false]
      · unfold fMo_link
        simp only [p1, p2, e1, e2, rfM2, Option.bind_some, c1e, c0e, if_true, if_false]
  · rw [bi11 q] at p
    obtain ⟨p1, p2⟩ := p
    refine ⟨iz (-2), u, ref rf (-2), ref mr (-2), g, V0, E0, Q0, ?_, ?_, hu, RF_ref hR (by omega)⟩
    · unfold fRi_link
      simp only [p1, p2, rfC2, Option.bind_some, c1e, c0e, if_true, if_false]
    · unfold fMo_link
      simp only [p1, p2, rfM2, Option.bind_some, c1e, c0e, if_true, if_false]
theorem c_chain {al : Nat → Int32} {w n t a : Int32} {dots cells sx sy sp : Nat → Int32} (h : RS al w n t a dots cells sx sy sp) (o : OkA al) {u : T27} (hu : CI al u) {rf mr : Nat → Int32} (hR : RF rf mr) (jk jq : Int32) (g V0 E0 Q0 G0 H0 : Nat → Int32) :
    ∃ (ans : Int32) (v : T27) (rf1 mr1 : Nat → Int32) (g1 V1 E1 Q1 G1 H1 : Nat → Int32), fRi_chain jk jq u.1 n t a cells sx sy sp u.2.1 u.2.2.1 u.2.2.2.1 u.2.2.2.2.1 u.2.2.2.2.2.1 u.2.2.2.2.2.2.1 u.2.2.2.2.2.2.2.1 u.2.2.2.2.2.2.2.2.1 u.2.2.2.2.2.2.2.2.2.1 u.2.2.2.2.2.2.2.2.2.2.1 u.2.2.2.2.2.2.2.2.2.2.2.1 u.2.2.2.2.2.2.2.2.2.2.2.2.1 u.2.2.2.2.2.2.2.2.2.2.2.2.2.1 u.2.2.2.2.2.2.2.2.2.2.2.2.2.2.1 u.2.2.2.2.2.2.2.2.2.2.2.2.2.2.2.1 u.2.2.2.2.2.2.2.2.2.2.2.2.2.2.2.2.1 u.2.2.2.2.2.2.2.2.2.2.2.2.2.2.2.2.2.1 u.2.2.2.2.2.2.2.2.2.2.2.2.2.2.2.2.2.2.1 u.2.2.2.2.2.2.2.2.2.2.2.2.2.2.2.2.2.2.2.1 u.2.2.2.2.2.2.2.2.2.2.2.2.2.2.2.2.2.2.2.2.1 u.2.2.2.2.2.2.2.2.2.2.2.2.2.2.2.2.2.2.2.2.2.1 u.2.2.2.2.2.2.2.2.2.2.2.2.2.2.2.2.2.2.2.2.2.2.1 u.2.2.2.2.2.2.2.2.2.2.2.2.2.2.2.2.2.2.2.2.2.2.2.1 u.2.2.2.2.2.2.2.2.2.2.2.2.2.2.2.2.2.2.2.2.2.2.2.2.1 u.2.2.2.2.2.2.2.2.2.2.2.2.2.2.2.2.2.2.2.2.2.2.2.2.2.1 u.2.2.2.2.2.2.2.2.2.2.2.2.2.2.2.2.2.2.2.2.2.2.2.2.2.2 rf = some (ans, v.1, v.2.1, v.2.2.1, v.2.2.2.1, v.2.2.2.2.1, v.2.2.2.2.2.1, v.2.2.2.2.2.2.1, v.2.2.2.2.2.2.2.1, v.2.2.2.2.2.2.2.2.1, v.2.2.2.2.2.2.2.2.2.1, v.2.2.2.2.2.2.2.2.2.2.1, v.2.2.2.2.2.2.2.2.2.2.2.1, v.2.2.2.2.2.2.2.2.2.2.2.2.1, v.2.2.2.2.2.2.2.2.2.2.2.2.2.1, v.2.2.2.2.2.2.2.2.2.2.2.2.2.2.1, v.2.2.2.2.2.2.2.2.2.2.2.2.2.2.2.1, v.2.2.2.2.2.2.2.2.2.2.2.2.2.2.2.2.1, v.2.2.2.2.2.2.2.2.2.2.2.2.2.2.2.2.2.1, v.2.2.2.2.2.2.2.2.2.2.2.2.2.2.2.2.2.2.1, v.2.2.2.2.2.2.2.2.2.2.2.2.2.2.2.2.2.2.2.1, v.2.2.2.2.2.2.2.2.2.2.2.2.2.2.2.2.2.2.2.2.1, v.2.2.2.2.2.2.2.2.2.2.2.2.2.2.2.2.2.2.2.2.2.1, v.2.2.2.2.2.2.2.2.2.2.2.2.2.2.2.2.2.2.2.2.2.2.1, v.2.2.2.2.2.2.2.2.2.2.2.2.2.2.2.2.2.2.2.2.2.2.2.1, v.2.2.2.2.2.2.2.2.2.2.2.2.2.2.2.2.2.2.2.2.2.2.2.2.1, v.2.2.2.2.2.2.2.2.2.2.2.2.2.2.2.2.2.2.2.2.2.2.2.2.2.1, v.2.2.2.2.2.2.2.2.2.2.2.2.2.2.2.2.2.2.2.2.2.2.2.2.2.2, rf1) ∧ fMo_chain jk jq al mr g V0 E0 Q0 G0 H0 = some (ans, mr1, g1, V1, E1, Q1, G1, H1) ∧ CI al v ∧ RF rf1 mr1 := by
  have on := o.n
  obtain ⟨ik, lk, uk, rfl⟩ := iz_of jk
  obtain ⟨iq, lq, uq, rfl⟩ := iz_of jq
  have p := pic_b h o (k := ik) (by omega)
  have pe := wi0_1 (z := iq) (by omega)
  by_cases q : 0 ≤ ik ∧ ik < NN al
  · rw [bi10 q] at p
    obtain ⟨p1, p2⟩ := p
    by_cases qe : 0 ≤ iq ∧ iq ≤ 1
    · rw [bi10 qe] at pe
      obtain ⟨e1, e2⟩ := pe
      have cn := Cn_i h o
      obtain ⟨v, e, v1, v2⟩ := refresh_s h o hu
      obtain ⟨g1, V1, E1, Q1, G1, H1, k1, k2, kV, kG, kH⟩ := lays_s h o g V0 E0 Q0 G0 H0
      have i1 : 0 ≤ (iz ik).toInt ∧ (iz ik).toInt < 6 := by rw [iz_t (by omega) (by omega)]; omega
      have i3 : (iz ik).toNatClampNeg = ik.toNat := iz_c (by omega) (by omega)
      have hG : G1 ik.toNat = iz (fC al ik) := by rw [← kG]; exact fw_i G1 (by omega)
      have hH : H1 ik.toNat = iz (gC al ik) := by rw [← kH]; exact fw_i H1 (by omega)
      have ff := sCh_followerOf v.2.2.2.2.2.2.2.2.2.2.1 (x := ik) (by omega)
      rw [v2.2.2.1.1] at ff
      have fa := sCh_aheadOf v.2.2.2.2.2.2.2.2.2.2.2.1 (x := ik) (by omega)
      rw [v2.2.2.1.2.1] at fa
      have hfr := cn.fr ik
      have hgr := cn.gr ik
      have hq0 : (iz iq = (0 : Int32)) = (iq = 0) := by rw [iz_l0]; exact propext (iz_eq (by omega) (by omega) (by omega) (by omega))
      have hq1 : (iz iq = (1 : Int32)) = (iq = 1) := by rw [iz_n]; exact propext (iz_eq (by omega) (by omega) (by omega) (by omega))
      have hq2 : (iz iq = (2 : Int32)) = (iq = 2) := by rw [iz_n]; exact propext (iz_eq (by omega) (by omega) (by omega) (by omega))
      have hfm := m1e (z := fC al ik) (by omega)
      by_cases c0 : iq = 0
      · have d0 := hq0.trans (eq_true c0)
        refine ⟨iz (fC al ik), v, rf, mr, g1, V1, E1, Q1, G1, H1, ?_, ?_, CI_of v1 v2, hR⟩
        · unfold fRi_chain
          simp only [p1, e1, e, ff, d0, Option.bind_some, c1e, c0e, if_true, if_false]
        · unfold fMo_chain
          simp only [p2, e2, k1, d0, if_pos i1, i3, hG, Option.bind_some, c1e, c0e, if_true, if_false]
      · have d0 := hq0.trans (eq_false c0)
        refine ⟨iz (gC al ik), v, rf, mr, g1, V1, E1, Q1, G1, H1, ?_, ?_, CI_of v1 v2, hR⟩
        · unfold fRi_chain
          simp only [p1, e1, e, fa, d0, Option.bind_some, c1e, c0e, if_true, if_false]
        · unfold fMo_chain
          simp only [p2, e2, k1, d0, if_pos i1, i3, hH, Option.bind_some, c1e, c0e, if_true, if_false]
    · rw [bi11 qe] at pe
      obtain ⟨e1, e2⟩ := pe
      refine ⟨iz (-2), u, ref rf (-2), ref mr (-2), g, V0, E0, Q0, G0, H0, ?_, ?_, hu, RF_ref hR (by omega)⟩
      · unfold fRi_chain
        simp only [p1, p2, e1, e2, rfC2, Option.bind_some, c1e, c0e, if_true, if_false]
      · unfold fMo_chain
        simp only [p1, p2, e1, e2, rfM2, Option.bind_some, c1e, c0e, if_true, if_false]
  · rw [bi11 q] at p
    obtain ⟨p1, p2⟩ := p
    refine ⟨iz (-2), u, ref rf (-2), ref mr (-2), g, V0, E0, Q0, G0, H0, ?_, ?_, hu, RF_ref hR (by omega)⟩
    · unfold fRi_chain
      simp only [p1, p2, rfC2, Option.bind_some, c1e, c0e, if_true, if_false]
    · unfold fMo_chain
      simp only [p1, p2, rfM2, Option.bind_some, c1e, c0e, if_true, if_false]
theorem about_s {al : Nat → Int32} {w n t a : Int32} {dots cells sx sy sp : Nat → Int32} (h : RS al w n t a dots cells sx sy sp) (o : OkA al) {v : T27} (v2 : CA al v) {q : Int} (hq : 0 ≤ q ∧ q ≤ 5) : fRi_aboutAll (iz q) n v.2.2.2.2.2.1 v.2.2.2.2.2.2.1 v.2.2.2.2.2.2.2.1 v.2.2.2.2.2.2.2.2.1 v.2.2.2.2.2.2.2.2.2.1 = some (iz (AL al q)) := by
  have on := o.n
  have hq0 : (iz q = (0 : Int32)) ↔ q = 0 := by rw [iz_l0]; exact (iz_eq (by omega) (by omega) (by omega) (by omega))
  have hq1 : (iz q = (1 : Int32)) ↔ q = 1 := by rw [iz_n]; exact (iz_eq (by omega) (by omega) (by omega) (by omega))
  have hq2 : (iz q = (2 : Int32)) ↔ q = 2 := by rw [iz_n]; exact (iz_eq (by omega) (by omega) (by omega) (by omega))
  have hq3 : (iz q = (3 : Int32)) ↔ q = 3 := by rw [iz_n]; exact (iz_eq (by omega) (by omega) (by omega) (by omega))
  have hq4 : (iz q = (4 : Int32)) ↔ q = 4 := by rw [iz_n]; exact (iz_eq (by omega) (by omega) (by omega) (by omega))
  obtain ⟨j1, j2, j3, j4, j5, j6, j7⟩ := v2.2.2.1
  unfold fRi_aboutAll AL
  rw [j4, j5, j6, j7]
  by_cases c0 : q = 0
  · rw [if_pos (hq0.mpr c0), if_pos c0]; rfl
  · rw [if_neg (fun z => c0 (hq0.mp z)), if_neg c0]
    by_cases c1 : q = 1
    · rw [if_pos (hq1.mpr c1), if_pos c1]
      by_cases cl : Cl al
      · rw [if_neg (fun z => v2.2.2.2.1.mp z cl), if_pos cl, iz_n]
      · rw [if_pos (v2.2.2.2.1.mpr cl), if_neg cl, iz_l0]
    · rw [if_neg (fun z => c1 (hq1.mp z)), if_neg c1]
      by_cases c2 : q = 2
      · rw [if_pos (hq2.mpr c2), if_pos c2]
      · rw [if_neg (fun z => c2 (hq2.mp z)), if_neg c2]
        by_cases c3 : q = 3
        · rw [if_pos (hq3.mpr c3), if_pos c3, iz_n, iz_add]
        · rw [if_neg (fun z => c3 (hq3.mp z)), if_neg c3]
          by_cases c4 : q = 4
          · rw [if_pos (hq4.mpr c4), if_pos c4]
          · rw [if_neg (fun z => c4 (hq4.mp z)), if_neg c4, h.iN, iz_sub]; rfl
theorem c_all {al : Nat → Int32} {w n t a : Int32} {dots cells sx sy sp : Nat → Int32} (h : RS al w n t a dots cells sx sy sp) (o : OkA al) {u : T27} (hu : CI al u) {rf mr : Nat → Int32} (hR : RF rf mr) (jq : Int32) (g V0 E0 Q0 G0 H0 : Nat → Int32) :
    ∃ (ans : Int32) (v : T27) (rf1 mr1 : Nat → Int32) (g1 V1 E1 Q1 G1 H1 : Nat → Int32), fRi_all jq u.1 n t a cells sx sy sp u.2.1 u.2.2.1 u.2.2.2.1 u.2.2.2.2.1 u.2.2.2.2.2.1 u.2.2.2.2.2.2.1 u.2.2.2.2.2.2.2.1 u.2.2.2.2.2.2.2.2.1 u.2.2.2.2.2.2.2.2.2.1 u.2.2.2.2.2.2.2.2.2.2.1 u.2.2.2.2.2.2.2.2.2.2.2.1 u.2.2.2.2.2.2.2.2.2.2.2.2.1 u.2.2.2.2.2.2.2.2.2.2.2.2.2.1 u.2.2.2.2.2.2.2.2.2.2.2.2.2.2.1 u.2.2.2.2.2.2.2.2.2.2.2.2.2.2.2.1 u.2.2.2.2.2.2.2.2.2.2.2.2.2.2.2.2.1 u.2.2.2.2.2.2.2.2.2.2.2.2.2.2.2.2.2.1 u.2.2.2.2.2.2.2.2.2.2.2.2.2.2.2.2.2.2.1 u.2.2.2.2.2.2.2.2.2.2.2.2.2.2.2.2.2.2.2.1 u.2.2.2.2.2.2.2.2.2.2.2.2.2.2.2.2.2.2.2.2.1 u.2.2.2.2.2.2.2.2.2.2.2.2.2.2.2.2.2.2.2.2.2.1 u.2.2.2.2.2.2.2.2.2.2.2.2.2.2.2.2.2.2.2.2.2.2.1 u.2.2.2.2.2.2.2.2.2.2.2.2.2.2.2.2.2.2.2.2.2.2.2.1 u.2.2.2.2.2.2.2.2.2.2.2.2.2.2.2.2.2.2.2.2.2.2.2.2.1 u.2.2.2.2.2.2.2.2.2.2.2.2.2.2.2.2.2.2.2.2.2.2.2.2.2.1 u.2.2.2.2.2.2.2.2.2.2.2.2.2.2.2.2.2.2.2.2.2.2.2.2.2.2 rf = some (ans, v.1, v.2.1, v.2.2.1, v.2.2.2.1, v.2.2.2.2.1, v.2.2.2.2.2.1, v.2.2.2.2.2.2.1, v.2.2.2.2.2.2.2.1, v.2.2.2.2.2.2.2.2.1, v.2.2.2.2.2.2.2.2.2.1, v.2.2.2.2.2.2.2.2.2.2.1, v.2.2.2.2.2.2.2.2.2.2.2.1, v.2.2.2.2.2.2.2.2.2.2.2.2.1, v.2.2.2.2.2.2.2.2.2.2.2.2.2.1, v.2.2.2.2.2.2.2.2.2.2.2.2.2.2.1, v.2.2.2.2.2.2.2.2.2.2.2.2.2.2.2.1, v.2.2.2.2.2.2.2.2.2.2.2.2.2.2.2.2.1, v.2.2.2.2.2.2.2.2.2.2.2.2.2.2.2.2.2.1, v.2.2.2.2.2.2.2.2.2.2.2.2.2.2.2.2.2.2.1, v.2.2.2.2.2.2.2.2.2.2.2.2.2.2.2.2.2.2.2.1, v.2.2.2.2.2.2.2.2.2.2.2.2.2.2.2.2.2.2.2.2.1, v.2.2.2.2.2.2.2.2.2.2.2.2.2.2.2.2.2.2.2.2.2.1, v.2.2.2.2.2.2.2.2.2.2.2.2.2.2.2.2.2.2.2.2.2.2.1, v.2.2.2.2.2.2.2.2.2.2.2.2.2.2.2.2.2.2.2.2.2.2.2.1, v.2.2.2.2.2.2.2.2.2.2.2.2.2.2.2.2.2.2.2.2.2.2.2.2.1, v.2.2.2.2.2.2.2.2.2.2.2.2.2.2.2.2.2.2.2.2.2.2.2.2.2.1, v.2.2.2.2.2.2.2.2.2.2.2.2.2.2.2.2.2.2.2.2.2.2.2.2.2.2, rf1) ∧ fMo_all jq al mr g V0 E0 Q0 G0 H0 = some (ans, mr1, g1, V1, E1, Q1, G1, H1) ∧ CI al v ∧ RF rf1 mr1 := by
  have on := o.n
  obtain ⟨iq, lq, uq, rfl⟩ := iz_of jq
  have pe := wi0_5 (z := iq) (by omega)
  by_cases qe : 0 ≤ iq ∧ iq ≤ 5
  · rw [bi10 qe] at pe
    obtain ⟨e1, e2⟩ := pe
    have cn := Cn_i h o
    obtain ⟨v, e, v1, v2⟩ := refresh_s h o hu
    obtain ⟨g1, V1, E1, Q1, G1, H1, k1, k2, kV, kG, kH⟩ := lays_s h o g V0 E0 Q0 G0 H0
    refine ⟨iz (AL al iq), v, rf, mr, g1, V1, E1, Q1, G1, H1, ?_, ?_, CI_of v1 v2, hR⟩
    · unfold fRi_all
      simp only [e1, e, about_s h o v2 qe, Option.bind_some, c1e, c0e, if_true, if_false]
    · unfold fMo_all
      simp only [e2, k1, sMo_allNow h o cn kV kG kH qe, Option.bind_some, c1e, c0e, if_true, if_false]
  · rw [bi11 qe] at pe
    obtain ⟨e1, e2⟩ := pe
    refine ⟨iz (-2), u, ref rf (-2), ref mr (-2), g, V0, E0, Q0, G0, H0, ?_, ?_, hu, RF_ref hR (by omega)⟩
    · unfold fRi_all
      simp only [e1, e2, rfC2, Option.bind_some, c1e, c0e, if_true, if_false]
    · unfold fMo_all
      simp only [e1, e2, rfM2, Option.bind_some, c1e, c0e, if_true, if_false]
