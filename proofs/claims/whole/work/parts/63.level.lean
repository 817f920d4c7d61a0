/-! level, rest, seen -/
theorem bump (rf : Nat → Int32) : upd rf (0 : Int32).toNatClampNeg ((rf (0 : Int32).toNatClampNeg) + (1 : Int32)) = ref rf (-2) := by
  have e : (0 : Int32).toNatClampNeg = 0 := by decide
  rw [e, iz_n]
  rfl
theorem z03 : 0 ≤ (0 : Int32).toInt ∧ (0 : Int32).toInt < 3 := by decide
theorem sLe_of {A : Nat → Int64} {x : Int} (hx : 0 ≤ x ∧ x < 6) : fLe_aboveOf (iz x) A = some (A x.toNat) ∧ fLe_belowOf (iz x) A = some (A x.toNat) := by
  have w1 : fRi_within (iz x) (0 : Int32) (5 : Int32) = some (bi (0 ≤ x ∧ x ≤ 5)) := by rw [iz_n, iz_n]; exact sRi_within (by omega) (by omega) (by omega)
  have n1 : ¬ bi (0 ≤ x ∧ x ≤ 5) = (0 : Int32) := by rw [iz_n, bi0]; omega
  have i1 : 0 ≤ (iz x).toInt ∧ (iz x).toInt < 6 := by rw [iz_t (by omega) (by omega)]; omega
  have i3 : (iz x).toNatClampNeg = x.toNat := iz_c (by omega) (by omega)
  constructor
  · unfold fLe_aboveOf
    rw [w1]
    simp only [Option.bind_some, if_neg n1, if_pos i1, i3]
  · unfold fLe_belowOf
    rw [w1]
    simp only [Option.bind_some, if_neg n1, if_pos i1, i3]
theorem c_level {al : Nat → Int32} {w n t a : Int32} {dots cells sx sy sp : Nat → Int32} (h : RS al w n t a dots cells sx sy sp) (o : OkA al) {u : T27} (hu : CI al u) {rf mr : Nat → Int32} (hR : RF rf mr) (jk jq : Int32) (g V0 E0 Q0 G0 H0 : Nat → Int32) (ra0 rb0 : Int64) :
    ∃ (ans : Int64) (v : T27) (rf1 mr1 : Nat → Int32) (g1 V1 E1 Q1 G1 H1 : Nat → Int32) (ra1 rb1 : Int64), fRi_level jk jq u.1 n t a cells sx sy sp u.2.1 u.2.2.1 u.2.2.2.1 u.2.2.2.2.1 u.2.2.2.2.2.1 u.2.2.2.2.2.2.1 u.2.2.2.2.2.2.2.1 u.2.2.2.2.2.2.2.2.1 u.2.2.2.2.2.2.2.2.2.1 u.2.2.2.2.2.2.2.2.2.2.1 u.2.2.2.2.2.2.2.2.2.2.2.1 u.2.2.2.2.2.2.2.2.2.2.2.2.1 u.2.2.2.2.2.2.2.2.2.2.2.2.2.1 u.2.2.2.2.2.2.2.2.2.2.2.2.2.2.1 u.2.2.2.2.2.2.2.2.2.2.2.2.2.2.2.1 u.2.2.2.2.2.2.2.2.2.2.2.2.2.2.2.2.1 u.2.2.2.2.2.2.2.2.2.2.2.2.2.2.2.2.2.1 u.2.2.2.2.2.2.2.2.2.2.2.2.2.2.2.2.2.2.1 u.2.2.2.2.2.2.2.2.2.2.2.2.2.2.2.2.2.2.2.1 u.2.2.2.2.2.2.2.2.2.2.2.2.2.2.2.2.2.2.2.2.1 u.2.2.2.2.2.2.2.2.2.2.2.2.2.2.2.2.2.2.2.2.2.1 u.2.2.2.2.2.2.2.2.2.2.2.2.2.2.2.2.2.2.2.2.2.2.1 u.2.2.2.2.2.2.2.2.2.2.2.2.2.2.2.2.2.2.2.2.2.2.2.1 u.2.2.2.2.2.2.2.2.2.2.2.2.2.2.2.2.2.2.2.2.2.2.2.2.1 u.2.2.2.2.2.2.2.2.2.2.2.2.2.2.2.2.2.2.2.2.2.2.2.2.2.1 u.2.2.2.2.2.2.2.2.2.2.2.2.2.2.2.2.2.2.2.2.2.2.2.2.2.2 rf = some (ans, v.1, v.2.1, v.2.2.1, v.2.2.2.1, v.2.2.2.2.1, v.2.2.2.2.2.1, v.2.2.2.2.2.2.1, v.2.2.2.2.2.2.2.1, v.2.2.2.2.2.2.2.2.1, v.2.2.2.2.2.2.2.2.2.1, v.2.2.2.2.2.2.2.2.2.2.1, v.2.2.2.2.2.2.2.2.2.2.2.1, v.2.2.2.2.2.2.2.2.2.2.2.2.1, v.2.2.2.2.2.2.2.2.2.2.2.2.2.1, v.2.2.2.2.2.2.2.2.2.2.2.2.2.2.1, v.2.2.2.2.2.2.2.2.2.2.2.2.2.2.2.1, v.2.2.2.2.2.2.2.2.2.2.2.2.2.2.2.2.1, v.2.2.2.2.2.2.2.2.2.2.2.2.2.2.2.2.2.1, v.2.2.2.2.2.2.2.2.2.2.2.2.2.2.2.2.2.2.1, v.2.2.2.2.2.2.2.2.2.2.2.2.2.2.2.2.2.2.2.1, v.2.2.2.2.2.2.2.2.2.2.2.2.2.2.2.2.2.2.2.2.1, v.2.2.2.2.2.2.2.2.2.2.2.2.2.2.2.2.2.2.2.2.2.1, v.2.2.2.2.2.2.2.2.2.2.2.2.2.2.2.2.2.2.2.2.2.2.1, v.2.2.2.2.2.2.2.2.2.2.2.2.2.2.2.2.2.2.2.2.2.2.2.1, v.2.2.2.2.2.2.2.2.2.2.2.2.2.2.2.2.2.2.2.2.2.2.2.2.1, v.2.2.2.2.2.2.2.2.2.2.2.2.2.2.2.2.2.2.2.2.2.2.2.2.2.1, v.2.2.2.2.2.2.2.2.2.2.2.2.2.2.2.2.2.2.2.2.2.2.2.2.2.2, rf1) ∧ fMo_level jk jq al mr g V0 E0 Q0 G0 H0 ra0 rb0 = some (ans, mr1, g1, V1, E1, Q1, G1, H1, ra1, rb1) ∧ CI al v ∧ RF rf1 mr1 := by
  have on := o.n
  obtain ⟨ik, lk, uk, rfl⟩ := iz_of jk
  obtain ⟨iq, lq, uq, rfl⟩ := iz_of jq
  have p := pic_b h o (k := ik) (by omega)
  have pe := wi0_1 (z := iq) (by omega)
  by_cases q : 0 ≤ ik ∧ ik < NN al
  · rw [bi10 q] at p
    obtain ⟨p1, p2⟩ := p
    by_cases qe : 0 ≤ iq ∧ iq ≤ 1
    · rw [bi10 qe] at pe
      obtain ⟨e1, e2⟩ := pe
      have cn := Cn_i h o
      obtain ⟨v, e, v1, v2⟩ := refresh_s h o hu
      obtain ⟨g1, V1, E1, Q1, G1, H1, k1, k2, kV, kG, kH⟩ := lays_s h o g V0 E0 Q0 G0 H0
      have i1 : 0 ≤ (iz ik).toInt ∧ (iz ik).toInt < 6 := by rw [iz_t (by omega) (by omega)]; omega
      have i3 : (iz ik).toNatClampNeg = ik.toNat := iz_c (by omega) (by omega)
      have hG : G1 ik.toNat = iz (fC al ik) := by rw [← kG]; exact fw_i G1 (by omega)
      have hH : H1 ik.toNat = iz (gC al ik) := by rw [← kH]; exact fw_i H1 (by omega)
      have ff := sCh_followerOf v.2.2.2.2.2.2.2.2.2.2.1 (x := ik) (by omega)
      rw [v2.2.2.1.1] at ff
      have fa := sCh_aheadOf v.2.2.2.2.2.2.2.2.2.2.2.1 (x := ik) (by omega)
      rw [v2.2.2.1.2.1] at fa
      have hfr := cn.fr ik
      have hgr := cn.gr ik
      have hq0 : (iz iq = (0 : Int32)) = (iq = 0) := by rw [iz_l0]; exact propext (iz_eq (by omega) (by omega) (by omega) (by omega))
      have hq1 : (iz iq = (1 : Int32)) = (iq = 1) := by rw [iz_n]; exact propext (iz_eq (by omega) (by omega) (by omega) (by omega))
      have hq2 : (iz iq = (2 : Int32)) = (iq = 2) := by rw [iz_n]; exact propext (iz_eq (by omega) (by omega) (by omega) (by omega))
      have hfm := m1e (z := fC al ik) (by omega)
      have hl := v2.2.2.2.2.2.2.2.2 ik q
      have b1 := (sLe_of (A := v.2.2.2.2.2.2.2.2.2.2.2.2.2.2.2.2.2.2.2.2.2.2.2.2.2.1) (x := ik) (by omega)).1
      have b2 := (sLe_of (A := v.2.2.2.2.2.2.2.2.2.2.2.2.2.2.2.2.2.2.2.2.2.2.2.2.2.2) (x := ik) (by omega)).2
      have hm := sMo_laysLevel h o cn kV kG kH q ra0 rb0
      by_cases c0 : iq = 0
      · have d0 := hq0.trans (eq_true c0)
        refine ⟨LA al ik, v, rf, mr, g1, V1, E1, Q1, G1, H1, LA al ik, LB al ik, ?_, ?_, CI_of v1 v2, hR⟩
        · unfold fRi_level
          simp only [p1, e1, e, d0, b1, hl.1, Option.bind_some, c1e, c0e, if_true, if_false]
        · unfold fMo_level
          simp only [p2, e2, k1, d0, hm, Option.bind_some, c1e, c0e, if_true, if_false]
      · have d0 := hq0.trans (eq_false c0)
        refine ⟨LB al ik, v, rf, mr, g1, V1, E1, Q1, G1, H1, LA al ik, LB al ik, ?_, ?_, CI_of v1 v2, hR⟩
        · unfold fRi_level
          simp only [p1, e1, e, d0, b2, hl.2, Option.bind_some, c1e, c0e, if_true, if_false]
        · unfold fMo_level
          simp only [p2, e2, k1, d0, hm, Option.bind_some, c1e, c0e, if_true, if_false]
    · rw [bi11 qe] at pe
      obtain ⟨e1, e2⟩ := pe
      refine ⟨(-999999 : Int64), u, ref rf (-2), ref mr (-2), g, V0, E0, Q0, G0, H0, ra0, rb0, ?_, ?_, hu, RF_ref hR (by omega)⟩
      · unfold fRi_level
        simp only [p1, p2, e1, e2, rfC2, Option.bind_some, c1e, c0e, if_true, if_false]
      · unfold fMo_level
        simp only [p1, p2, e1, e2, bump, if_pos z03, Option.bind_some, c1e, c0e, if_true, if_false]
  · rw [bi11 q] at p
    obtain ⟨p1, p2⟩ := p
    refine ⟨(-999999 : Int64), u, ref rf (-2), ref mr (-2), g, V0, E0, Q0, G0, H0, ra0, rb0, ?_, ?_, hu, RF_ref hR (by omega)⟩
    · unfold fRi_level
      simp only [p1, p2, rfC2, Option.bind_some, c1e, c0e, if_true, if_false]
    · unfold fMo_level
      simp only [p1, p2, bump, if_pos z03, Option.bind_some, c1e, c0e, if_true, if_false]
theorem c_rest {al : Nat → Int32} {w n t a : Int32} {dots cells sx sy sp : Nat → Int32} (h : RS al w n t a dots cells sx sy sp) (o : OkA al) {u : T27} (hu : CI al u) {rf mr : Nat → Int32} (hR : RF rf mr) (jq : Int32) (g V0 E0 Q0 G0 H0 : Nat → Int32) (ra0 rb0 : Int64) :
    ∃ (ans : Int64) (v : T27) (rf1 mr1 : Nat → Int32) (g1 V1 E1 Q1 G1 H1 : Nat → Int32) (ra1 rb1 : Int64), fRi_rest jq u.1 n t a cells sx sy sp u.2.1 u.2.2.1 u.2.2.2.1 u.2.2.2.2.1 u.2.2.2.2.2.1 u.2.2.2.2.2.2.1 u.2.2.2.2.2.2.2.1 u.2.2.2.2.2.2.2.2.1 u.2.2.2.2.2.2.2.2.2.1 u.2.2.2.2.2.2.2.2.2.2.1 u.2.2.2.2.2.2.2.2.2.2.2.1 u.2.2.2.2.2.2.2.2.2.2.2.2.1 u.2.2.2.2.2.2.2.2.2.2.2.2.2.1 u.2.2.2.2.2.2.2.2.2.2.2.2.2.2.1 u.2.2.2.2.2.2.2.2.2.2.2.2.2.2.2.1 u.2.2.2.2.2.2.2.2.2.2.2.2.2.2.2.2.1 u.2.2.2.2.2.2.2.2.2.2.2.2.2.2.2.2.2.1 u.2.2.2.2.2.2.2.2.2.2.2.2.2.2.2.2.2.2.1 u.2.2.2.2.2.2.2.2.2.2.2.2.2.2.2.2.2.2.2.1 u.2.2.2.2.2.2.2.2.2.2.2.2.2.2.2.2.2.2.2.2.1 u.2.2.2.2.2.2.2.2.2.2.2.2.2.2.2.2.2.2.2.2.2.1 u.2.2.2.2.2.2.2.2.2.2.2.2.2.2.2.2.2.2.2.2.2.2.1 u.2.2.2.2.2.2.2.2.2.2.2.2.2.2.2.2.2.2.2.2.2.2.2.1 u.2.2.2.2.2.2.2.2.2.2.2.2.2.2.2.2.2.2.2.2.2.2.2.2.1 u.2.2.2.2.2.2.2.2.2.2.2.2.2.2.2.2.2.2.2.2.2.2.2.2.2.1 u.2.2.2.2.2.2.2.2.2.2.2.2.2.2.2.2.2.2.2.2.2.2.2.2.2.2 rf = some (ans, v.1, v.2.1, v.2.2.1, v.2.2.2.1, v.2.2.2.2.1, v.2.2.2.2.2.1, v.2.2.2.2.2.2.1, v.2.2.2.2.2.2.2.1, v.2.2.2.2.2.2.2.2.1, v.2.2.2.2.2.2.2.2.2.1, v.2.2.2.2.2.2.2.2.2.2.1, v.2.2.2.2.2.2.2.2.2.2.2.1, v.2.2.2.2.2.2.2.2.2.2.2.2.1, v.2.2.2.2.2.2.2.2.2.2.2.2.2.1, v.2.2.2.2.2.2.2.2.2.2.2.2.2.2.1, v.2.2.2.2.2.2.2.2.2.2.2.2.2.2.2.1, v.2.2.2.2.2.2.2.2.2.2.2.2.2.2.2.2.1, v.2.2.2.2.2.2.2.2.2.2.2.2.2.2.2.2.2.1, v.2.2.2.2.2.2.2.2.2.2.2.2.2.2.2.2.2.2.1, v.2.2.2.2.2.2.2.2.2.2.2.2.2.2.2.2.2.2.2.1, v.2.2.2.2.2.2.2.2.2.2.2.2.2.2.2.2.2.2.2.2.1, v.2.2.2.2.2.2.2.2.2.2.2.2.2.2.2.2.2.2.2.2.2.1, v.2.2.2.2.2.2.2.2.2.2.2.2.2.2.2.2.2.2.2.2.2.2.1, v.2.2.2.2.2.2.2.2.2.2.2.2.2.2.2.2.2.2.2.2.2.2.2.1, v.2.2.2.2.2.2.2.2.2.2.2.2.2.2.2.2.2.2.2.2.2.2.2.2.1, v.2.2.2.2.2.2.2.2.2.2.2.2.2.2.2.2.2.2.2.2.2.2.2.2.2.1, v.2.2.2.2.2.2.2.2.2.2.2.2.2.2.2.2.2.2.2.2.2.2.2.2.2.2, rf1) ∧ fMo_rest jq al mr g V0 E0 Q0 G0 H0 ra0 rb0 = some (ans, mr1, g1, V1, E1, Q1, G1, H1, ra1, rb1) ∧ CI al v ∧ RF rf1 mr1 := by
  have on := o.n
  obtain ⟨iq, lq, uq, rfl⟩ := iz_of jq
  have pe := wi0_1 (z := iq) (by omega)
  by_cases qe : 0 ≤ iq ∧ iq ≤ 1
  · rw [bi10 qe] at pe
    obtain ⟨e1, e2⟩ := pe
    have cn := Cn_i h o
    obtain ⟨v, e, v1, v2⟩ := refresh_s h o hu
    obtain ⟨g1, V1, E1, Q1, G1, H1, k1, k2, kV, kG, kH⟩ := lays_s h o g V0 E0 Q0 G0 H0
    have hq0 : (iz iq = (0 : Int32)) = (iq = 0) := by rw [iz_l0]; exact propext (iz_eq (by omega) (by omega) (by omega) (by omega))
    have h1 := v2.2.2.2.2.2.2.1
    have h2 := v2.2.2.2.2.2.2.2.1
    obtain ⟨cu, cu1, cu2, cu3⟩ := sMo_isClosed o cn kG
    have hm : (if cu = 0 then some ((0 : Int64), (1 : Int64)) else (fMo_leftOver al E1 Q1 G1).bind fun u7 => (fMo_leftOver al E1 Q1 G1).bind fun u8 => (fMo_shares al E1 Q1 G1).bind fun u9 => (fMo_lowest (u7 * u8) ((5040 : Int64) * u9)).bind fun u10 => some (u10.1, u10.2)) = some (RA al, RB al) := by
      unfold RA RB
      by_cases cl : Cl al
      · have hW := W_r h o cn cl
        have hd := dd_r (D := DD' al) (by omega)
        rw [if_neg (fun z => cu3.mp (z.trans iz_l0) cl), if_pos cl, if_pos cl, sMo_leftOver h o cn cl kV kG, sMo_shares h o cn cl kV kG]
        simp only [Option.bind_some]
        rw [lz_mul, lz_n, lz_mul, sMo_lowest (by omega) (by omega)]
        rfl
      · rw [if_pos ((cu3.mpr cl).trans iz_l0.symm), if_neg cl, if_neg cl, ← lz0, ← lz_n]
    by_cases c0 : iq = 0
    · have d0 := hq0.trans (eq_true c0)
      refine ⟨RA al, v, rf, mr, g1, V1, E1, Q1, G1, H1, RA al, RB al, ?_, ?_, CI_of v1 v2, hR⟩
      · unfold fRi_rest
        simp only [e1, e, d0, h1, Option.bind_some, c1e, c0e, if_true, if_false]
      · unfold fMo_rest
        rw [e2]
        simp only [Option.bind_some, c1e, if_false]
        rw [k1]
        simp only [Option.bind_some]
        rw [cu1]
        simp only [Option.bind_some]
        rw [hm]
        simp only [Option.bind_some, d0, if_true]
    · have d0 := hq0.trans (eq_false c0)
      refine ⟨RB al, v, rf, mr, g1, V1, E1, Q1, G1, H1, RA al, RB al, ?_, ?_, CI_of v1 v2, hR⟩
      · unfold fRi_rest
        simp only [e1, e, d0, h2, Option.bind_some, c1e, c0e, if_true, if_false]
      · unfold fMo_rest
        rw [e2]
        simp only [Option.bind_some, c1e, if_false]
        rw [k1]
        simp only [Option.bind_some]
        rw [cu1]
        simp only [Option.bind_some]
        rw [hm]
        simp only [Option.bind_some, d0, if_false]
  · rw [bi11 qe] at pe
    obtain ⟨e1, e2⟩ := pe
    refine ⟨(iz (-2)).toInt64, u, ref rf (-2), ref mr (-2), g, V0, E0, Q0, G0, H0, ra0, rb0, ?_, ?_, hu, RF_ref hR (by omega)⟩
    · unfold fRi_rest
      simp only [e1, rfC2, Option.bind_some, c1e, c0e, if_true, if_false]
    · unfold fMo_rest
      simp only [e2, rfM2, Option.bind_some, c1e, c0e, if_true, if_false]
theorem lz_lt {a b : Int} (h1 : -9223372036854775808 ≤ a ∧ a ≤ 9223372036854775807) (h2 : -9223372036854775808 ≤ b ∧ b ≤ 9223372036854775807) : (lz a < lz b) ↔ a < b := by
  rw [Int64.lt_iff_toInt_lt, lz_t h1.1 h1.2, lz_t h2.1 h2.2]
/-- the level as whole numbers -/
theorem lev_z {al : Nat → Int32} {w n t a : Int32} {dots cells sx sy sp : Nat → Int32} (hR : RS al w n t a dots cells sx sy sp) (o : OkA al) (cn : Cn al) {x : Int} (hx : 0 ≤ x ∧ x < NN al) : ∃ A B : Int, LA al x = lz A ∧ LB al x = lz B ∧ 1 ≤ B ∧ B ≤ 16934400 ∧ -42000000000 ≤ A ∧ A ≤ 42000000000 := by
  have hraw := RAW_r hR o cn hx
  have hpar := PAR_r hR o cn
  have hg := GD_r (a := RAW al x) (b := PAR al) (by omega)
  refine ⟨(RAW al x).tdiv (GD (RAW al x) (PAR al)), PAR al / GD (RAW al x) (PAR al), lz_tdiv (by omega) (by omega), lz_div (by omega) (by omega), ?_, ?_, ?_⟩
  · generalize GD (RAW al x) (PAR al) = g at *
    have h1 := Int.mul_ediv_add_emod (PAR al) g
    have h3 := Int.emod_lt_of_pos (PAR al) (show 0 < g by omega)
    by_cases c : 1 ≤ PAR al / g
    · exact c
    · have h4 : 0 ≤ g * (-(PAR al / g)) := Int.mul_nonneg (by omega) (by omega)
      rw [Int.mul_neg] at h4
      omega
  · generalize GD (RAW al x) (PAR al) = g at *
    have h1 := Int.mul_ediv_add_emod (PAR al) g
    have h2 := Int.emod_nonneg (PAR al) (show g ≠ 0 by omega)
    have h3 : 0 ≤ (g - 1) * (PAR al / g) := Int.mul_nonneg (by omega) (Int.ediv_nonneg (by omega) (by omega))
    rw [Int.sub_mul] at h3
    omega
  · obtain ⟨f1, f2, f3, f4⟩ := fl_d (a := RAW al x) (b := GD (RAW al x) (PAR al)) hg.1
    generalize GD (RAW al x) (PAR al) = g at *
    have key : ∀ r q : Int, (0 ≤ r → q = r / g) → (r < 0 → q = r / g ∨ q - 1 = r / g) → -42000000000 ≤ r ∧ r ≤ 42000000000 → -42000000000 ≤ q ∧ q ≤ 42000000000 := fun r q h1 h2 h3 => by
      have b1 := Int.mul_ediv_add_emod r g
      have b2 := Int.emod_nonneg r (show g ≠ 0 by omega)
      have b3 := Int.emod_lt_of_pos r (show 0 < g by omega)
      by_cases c : 0 ≤ r
      · have e := h1 c
        have h0 : 0 ≤ r / g := Int.ediv_nonneg c (by omega)
        have h4 : 0 ≤ (g - 1) * (r / g) := Int.mul_nonneg (by omega) h0
        rw [Int.sub_mul] at h4
        omega
      · have e := h2 (by omega)
        have hneg : r / g < 0 := by
          by_cases y : r / g < 0
          · exact y
          · have h5 : 0 ≤ g * (r / g) := Int.mul_nonneg (by omega) (by omega)
            omega
        have h4 : 0 ≤ (g - 1) * (-(r / g) - 1) := Int.mul_nonneg (by omega) (by omega)
        rw [Int.sub_mul, Int.mul_sub, Int.mul_neg] at h4
        omega
    refine key (RAW al x) _ (fun c => (f1 c).1) (fun c => ?_) hraw
    by_cases z : RAW al x - (RAW al x).tdiv g * g = 0
    · exact .inl ((f2 c).1 z)
    · exact .inr ((f2 c).2 z).2
theorem c_seen {al : Nat → Int32} {w n t a : Int32} {dots cells sx sy sp : Nat → Int32} (h : RS al w n t a dots cells sx sy sp) (o : OkA al) {u : T27} (hu : CI al u) {rf mr : Nat → Int32} (hR : RF rf mr) (jk jr jc : Int32) (g V0 E0 Q0 G0 H0 : Nat → Int32) (ra0 rb0 : Int64) :
    ∃ (ans : Int32) (v : T27) (rf1 mr1 : Nat → Int32) (g1 V1 E1 Q1 G1 H1 : Nat → Int32) (ra1 rb1 : Int64), fRi_seen jk jr jc u.1 n t a cells sx sy sp u.2.1 u.2.2.1 u.2.2.2.1 u.2.2.2.2.1 u.2.2.2.2.2.1 u.2.2.2.2.2.2.1 u.2.2.2.2.2.2.2.1 u.2.2.2.2.2.2.2.2.1 u.2.2.2.2.2.2.2.2.2.1 u.2.2.2.2.2.2.2.2.2.2.1 u.2.2.2.2.2.2.2.2.2.2.2.1 u.2.2.2.2.2.2.2.2.2.2.2.2.1 u.2.2.2.2.2.2.2.2.2.2.2.2.2.1 u.2.2.2.2.2.2.2.2.2.2.2.2.2.2.1 u.2.2.2.2.2.2.2.2.2.2.2.2.2.2.2.1 u.2.2.2.2.2.2.2.2.2.2.2.2.2.2.2.2.1 u.2.2.2.2.2.2.2.2.2.2.2.2.2.2.2.2.2.1 u.2.2.2.2.2.2.2.2.2.2.2.2.2.2.2.2.2.2.1 u.2.2.2.2.2.2.2.2.2.2.2.2.2.2.2.2.2.2.2.1 u.2.2.2.2.2.2.2.2.2.2.2.2.2.2.2.2.2.2.2.2.1 u.2.2.2.2.2.2.2.2.2.2.2.2.2.2.2.2.2.2.2.2.2.1 u.2.2.2.2.2.2.2.2.2.2.2.2.2.2.2.2.2.2.2.2.2.2.1 u.2.2.2.2.2.2.2.2.2.2.2.2.2.2.2.2.2.2.2.2.2.2.2.1 u.2.2.2.2.2.2.2.2.2.2.2.2.2.2.2.2.2.2.2.2.2.2.2.2.1 u.2.2.2.2.2.2.2.2.2.2.2.2.2.2.2.2.2.2.2.2.2.2.2.2.2.1 u.2.2.2.2.2.2.2.2.2.2.2.2.2.2.2.2.2.2.2.2.2.2.2.2.2.2 rf = some (ans, v.1, v.2.1, v.2.2.1, v.2.2.2.1, v.2.2.2.2.1, v.2.2.2.2.2.1, v.2.2.2.2.2.2.1, v.2.2.2.2.2.2.2.1, v.2.2.2.2.2.2.2.2.1, v.2.2.2.2.2.2.2.2.2.1, v.2.2.2.2.2.2.2.2.2.2.1, v.2.2.2.2.2.2.2.2.2.2.2.1, v.2.2.2.2.2.2.2.2.2.2.2.2.1, v.2.2.2.2.2.2.2.2.2.2.2.2.2.1, v.2.2.2.2.2.2.2.2.2.2.2.2.2.2.1, v.2.2.2.2.2.2.2.2.2.2.2.2.2.2.2.1, v.2.2.2.2.2.2.2.2.2.2.2.2.2.2.2.2.1, v.2.2.2.2.2.2.2.2.2.2.2.2.2.2.2.2.2.1, v.2.2.2.2.2.2.2.2.2.2.2.2.2.2.2.2.2.2.1, v.2.2.2.2.2.2.2.2.2.2.2.2.2.2.2.2.2.2.2.1, v.2.2.2.2.2.2.2.2.2.2.2.2.2.2.2.2.2.2.2.2.1, v.2.2.2.2.2.2.2.2.2.2.2.2.2.2.2.2.2.2.2.2.2.1, v.2.2.2.2.2.2.2.2.2.2.2.2.2.2.2.2.2.2.2.2.2.2.1, v.2.2.2.2.2.2.2.2.2.2.2.2.2.2.2.2.2.2.2.2.2.2.2.1, v.2.2.2.2.2.2.2.2.2.2.2.2.2.2.2.2.2.2.2.2.2.2.2.2.1, v.2.2.2.2.2.2.2.2.2.2.2.2.2.2.2.2.2.2.2.2.2.2.2.2.2.1, v.2.2.2.2.2.2.2.2.2.2.2.2.2.2.2.2.2.2.2.2.2.2.2.2.2.2, rf1) ∧ fMo_seen jk jr jc al mr g V0 E0 Q0 G0 H0 ra0 rb0 = some (ans, mr1, g1, V1, E1, Q1, G1, H1, ra1, rb1) ∧ CI al v ∧ RF rf1 mr1 := by
  have on := o.n
  obtain ⟨ik, lk, uk, rfl⟩ := iz_of jk
  obtain ⟨ir, lr, ur, rfl⟩ := iz_of jr
  obtain ⟨ic, lc, uc, rfl⟩ := iz_of jc
  have p := pic_b h o (k := ik) (by omega)
  have hcell : fSc_hasCell (iz ik) (iz ir) (iz ic) n = some (bi (0 ≤ ik ∧ ik < NN al ∧ 0 ≤ ir ∧ ir ≤ 3 ∧ 0 ≤ ic ∧ ic ≤ 7)) := by
    rw [h.iN, sSc_hasCell (by omega) (by omega) (by omega) (by omega)]
    exact congrArg some (bi_c (by omega))
  have hic := sMo_isCell (r := ir) (c := ic) (by omega) (by omega)
  by_cases q : 0 ≤ ik ∧ ik < NN al
  · rw [bi10 q] at p
    obtain ⟨p1, p2⟩ := p
    by_cases qe : 0 ≤ ir ∧ ir ≤ 3 ∧ 0 ≤ ic ∧ ic ≤ 7
    · rw [bi10 (by omega)] at hcell
      rw [bi10 qe] at hic
      have cn := Cn_i h o
      obtain ⟨v, e, v1, v2⟩ := refresh_s h o hu
      obtain ⟨g1, V1, E1, Q1, G1, H1, k1, k2, kV, kG, kH⟩ := lays_s h o g V0 E0 Q0 G0 H0
      have hl := v2.2.2.2.2.2.2.2.2 ik q
      have b1 := (sLe_of (A := v.2.2.2.2.2.2.2.2.2.2.2.2.2.2.2.2.2.2.2.2.2.2.2.2.2.1) (x := ik) (by omega)).1
      have b2 := (sLe_of (A := v.2.2.2.2.2.2.2.2.2.2.2.2.2.2.2.2.2.2.2.2.2.2.2.2.2.2) (x := ik) (by omega)).2
      have hm := sMo_laysLevel h o cn kV kG kH q ra0 rb0
      obtain ⟨A, B, hA, hB, B1, B2, A1, A2⟩ := lev_z h o cn q
      rw [hl.1, hA] at b1
      rw [hl.2, hB] at b2
      rw [hA, hB] at hm
      have hce := sSc_cellAt h (k := ik) (r := ir) (c := ic) on q (by omega) (by omega)
      have hat := sMo_at (al := al) (k := ik) (r := ir) (c := ic) (by omega) (by omega) (by omega)
      have hcr := o.ce (k := ik) (r := ir) (c := ic) (by omega) (by omega) (by omega)
      generalize CE al ik ir ic = C at *
      have hCB : 0 ≤ C * B ∧ C * B ≤ 1066867200 := by
        refine ⟨Int.mul_nonneg (by omega) (by omega), ?_⟩
        have z1 : 0 ≤ (63 - C) * B := Int.mul_nonneg (by omega) (by omega)
        rw [Int.sub_mul] at z1
        omega
      have hn := sRi_nearest (a := C * B + A) (b := B) (by omega) (by omega)
      have ex : (iz C).toInt64 * lz B + lz A = lz (C * B + A) := by rw [iz_64 (by omega) (by omega), lz_mul, lz_add]
      have et : (2 : Int64) * lz (C * B + A) + lz B = lz (2 * (C * B + A) + B) := by rw [lz_n, lz_mul, lz_add]
      have eb : (2 : Int64) * lz B = lz (2 * B) := by rw [lz_n, lz_mul]
      have hfl := fl_d (a := 2 * (C * B + A) + B) (b := 2 * B) (by omega)
      have hdv := lz_tdiv (a := 2 * (C * B + A) + B) (b := 2 * B) (by omega) (by omega)
      have nb : ¬ lz (2 * B) = 0 := fun z => by have := (ne0 (b := 2 * B) (by omega)).mp z; omega
      have hqb : -100000000000 ≤ (2 * (C * B + A) + B) / (2 * B) ∧ (2 * (C * B + A) + B) / (2 * B) ≤ 100000000000 := by
        have hrr : -90000000000 ≤ 2 * (C * B + A) + B ∧ 2 * (C * B + A) + B ≤ 90000000000 := by omega
        generalize 2 * (C * B + A) + B = r at *
        have y1 := Int.mul_ediv_add_emod r (2 * B)
        have y2 := Int.emod_nonneg r (show 2 * B ≠ 0 by omega)
        have y3 := Int.emod_lt_of_pos r (show 0 < 2 * B by omega)
        by_cases c : 0 ≤ r
        · have h0 : 0 ≤ r / (2 * B) := Int.ediv_nonneg c (by omega)
          have h4 : 0 ≤ (2 * B - 1) * (r / (2 * B)) := Int.mul_nonneg (by omega) h0
          rw [Int.sub_mul] at h4
          omega
        · have hneg : r / (2 * B) < 0 := by
            by_cases y : r / (2 * B) < 0
            · exact y
            · have h5 : 0 ≤ (2 * B) * (r / (2 * B)) := Int.mul_nonneg (by omega) (by omega)
              omega
          have h4 : 0 ≤ (2 * B - 1) * (-(r / (2 * B)) - 1) := Int.mul_nonneg (by omega) (by omega)
          rw [Int.sub_mul, Int.mul_sub, Int.mul_neg] at h4
          omega
      have hnear : ((if 0 ≤ lg_cmp (lz (2 * (C * B + A) + B) - lz ((2 * (C * B + A) + B).tdiv (2 * B)) * lz (2 * B)) (0 : Int64) then some (0 : Int64) else some (1 : Int64) : Option Int64)).bind (fun u13 => some (lz ((2 * (C * B + A) + B).tdiv (2 * B)) - u13)) = some (lz ((2 * (C * B + A) + B) / (2 * B))) := by
        obtain ⟨f1, f2, f3, f4⟩ := hfl
        rw [lz_mul, lz_sub]
        have nn : (0 ≤ lg_cmp (lz (2 * (C * B + A) + B - (2 * (C * B + A) + B).tdiv (2 * B) * (2 * B))) (0 : Int64)) ↔ 0 ≤ 2 * (C * B + A) + B - (2 * (C * B + A) + B).tdiv (2 * B) * (2 * B) := by rw [lz0, iz_l0, lc_ge (by omega) (by omega)]
        generalize (2 * (C * B + A) + B).tdiv (2 * B) = t9 at *
        by_cases c : 0 ≤ 2 * (C * B + A) + B
        · rw [if_pos (nn.mpr (f1 c).2), (f1 c).1]
          simp only [Option.bind_some]
          rw [lz0, lz_sub, Int.sub_zero]
        · by_cases c2 : 2 * (C * B + A) + B - t9 * (2 * B) = 0
          · rw [if_pos (nn.mpr (by omega)), (f2 (by omega)).1 c2]
            simp only [Option.bind_some]
            rw [lz0, lz_sub, Int.sub_zero]
          · have := (f2 (by omega)).2 c2
            rw [if_neg (fun z => by have := nn.mp z; omega)]
            simp only [Option.bind_some]
            rw [lz_n, lz_sub, this.2]
      generalize hN9 : (2 * (C * B + A) + B) / (2 * B) = N9 at *
      have hcl : ∃ z : Int32, ((if (if lz N9 < (63 : Int64) then lz N9 else (63 : Int64)) < (0 : Int64) then (0 : Int64) else (if lz N9 < (63 : Int64) then lz N9 else (63 : Int64))).toInt32 = z) ∧
          (∀ {β : Type} (f : Int32 → β), (if 0 ≤ lg_cmp (lz N9) (0 : Int64) then if lg_cmp (lz N9) (63 : Int64) ≤ 0 then some (f (lz N9).toInt32) else some (f (63 : Int32)) else some (f (0 : Int32))) = some (f z)) := by
        have a1 : (lz N9 < (63 : Int64)) ↔ N9 < 63 := by rw [lz_n]; exact lz_lt (by omega) (by omega)
        have a2 : (0 ≤ lg_cmp (lz N9) (0 : Int64)) ↔ 0 ≤ N9 := by rw [lz0, iz_l0, lc_ge (by omega) (by omega)]
        have a3 : (lg_cmp (lz N9) (63 : Int64) ≤ 0) ↔ N9 ≤ 63 := by rw [show (63 : Int64) = lz 63 from lz_n 63, show (0 : Int32) = iz 0 from iz_n 0, lc_le (by omega) (by omega)]
        have a4 : (lz N9 < (0 : Int64)) ↔ N9 < 0 := by rw [lz0]; exact lz_lt (by omega) (by omega)
        have a5 : ¬ (63 : Int64) < (0 : Int64) := by decide
        have a6 : ((63 : Int64)).toInt32 = (63 : Int32) := by decide
        have a7 : ((0 : Int64)).toInt32 = (0 : Int32) := by decide
        by_cases c1 : N9 < 0
        · refine ⟨(0 : Int32), ?_, fun f => ?_⟩
          · rw [if_pos (a1.mpr (by omega)), if_pos (a4.mpr c1), a7]
          · rw [if_neg (fun z => by have := a2.mp z; omega)]
        · by_cases c2 : N9 < 63
          · refine ⟨(lz N9).toInt32, ?_, fun f => ?_⟩
            · rw [if_pos (a1.mpr c2), if_neg (fun z => c1 (a4.mp z))]
            · rw [if_pos (a2.mpr (by omega)), if_pos (a3.mpr (by omega))]
          · refine ⟨(63 : Int32), ?_, fun f => ?_⟩
            · rw [if_neg (fun z => c2 (a1.mp z)), if_neg a5, a6]
            · rw [if_pos (a2.mpr (by omega))]
              by_cases c3 : N9 = 63
              · rw [if_pos (a3.mpr (by omega)), c3, ← lz_n, a6]
              · rw [if_neg (fun z => by have := a3.mp z; omega)]
      obtain ⟨z, z1, z2⟩ := hcl
      refine ⟨z, v, rf, mr, g1, V1, E1, Q1, G1, H1, lz A, lz B, ?_, ?_, CI_of v1 v2, hR⟩
      · unfold fRi_seen
        rw [hcell]
        simp only [Option.bind_some, c1e, if_false]
        rw [e]
        simp only [Option.bind_some]
        rw [b1, b2, hce]
        simp only [Option.bind_some]
        rw [ex, hn]
        simp only [Option.bind_some]
        rw [z1]
      · unfold fMo_seen
        rw [p2]
        simp only [Option.bind_some, c1e, if_false]
        rw [hic]
        simp only [Option.bind_some, c1e, if_false]
        rw [k1]
        simp only [Option.bind_some]
        rw [hm]
        simp only [Option.bind_some]
        rw [hat]
        simp only [Option.bind_some]
        rw [ex, et, eb, hdv]
        simp only [if_pos nb]
        have h9 : ∀ (f : Int64 → Option (Int32 × (Nat → Int32) × (Nat → Int32) × (Nat → Int32) × (Nat → Int32) × (Nat → Int32) × (Nat → Int32) × (Nat → Int32) × Int64 × Int64)), ((if 0 ≤ lg_cmp (lz (2 * (C * B + A) + B) - lz ((2 * (C * B + A) + B).tdiv (2 * B)) * lz (2 * B)) (0 : Int64) then some (0 : Int64) else some (1 : Int64) : Option Int64)).bind (fun u13 => f (lz ((2 * (C * B + A) + B).tdiv (2 * B)) - u13)) = f (lz N9) := fun f => by
          by_cases c : 0 ≤ lg_cmp (lz (2 * (C * B + A) + B) - lz ((2 * (C * B + A) + B).tdiv (2 * B)) * lz (2 * B)) (0 : Int64)
          · rw [if_pos c] at hnear ⊢
            simp only [Option.bind_some] at hnear ⊢
            injection hnear with hnear
            rw [hnear]
          · rw [if_neg c] at hnear ⊢
            simp only [Option.bind_some] at hnear ⊢
            injection hnear with hnear
            rw [hnear]
        refine (h9 (fun t14 => if 0 ≤ lg_cmp t14 (0 : Int64) then if lg_cmp t14 (63 : Int64) ≤ 0 then some (t14.toInt32, mr, g1, V1, E1, Q1, G1, H1, lz A, lz B) else some ((63 : Int32), mr, g1, V1, E1, Q1, G1, H1, lz A, lz B) else some ((0 : Int32), mr, g1, V1, E1, Q1, G1, H1, lz A, lz B))).trans ?_
        exact z2 (fun y => (y, mr, g1, V1, E1, Q1, G1, H1, lz A, lz B))
    · rw [bi11 (by omega)] at hcell
      rw [bi11 qe] at hic
      refine ⟨iz (-2), u, ref rf (-2), ref mr (-2), g, V0, E0, Q0, G0, H0, ra0, rb0, ?_, ?_, hu, RF_ref hR (by omega)⟩
      · unfold fRi_seen
        simp only [hcell, p2, hic, rfC2, Option.bind_some, c1e, c0e, if_true, if_false]
      · unfold fMo_seen
        simp only [hcell, p2, hic, rfM2, Option.bind_some, c1e, c0e, if_true, if_false]
  · rw [bi11 q] at p
    obtain ⟨p1, p2⟩ := p
    rw [bi11 (by omega)] at hcell
    refine ⟨iz (-2), u, ref rf (-2), ref mr (-2), g, V0, E0, Q0, G0, H0, ra0, rb0, ?_, ?_, hu, RF_ref hR (by omega)⟩
    · unfold fRi_seen
      simp only [hcell, p2, rfC2, Option.bind_some, c1e, c0e, if_true, if_false]
    · unfold fMo_seen
      simp only [hcell, p2, rfM2, Option.bind_some, c1e, c0e, if_true, if_false]
