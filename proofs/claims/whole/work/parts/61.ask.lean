/-! places, overlaps, seams asked -/
theorem sCh_at {A : Nat → Int32} {x : Int} (hx : 0 ≤ x ∧ x < 6) : fCh_rightOf (iz x) A = some (A x.toNat) ∧ fCh_lowerOf (iz x) A = some (A x.toNat) := by
  have w1 : fRi_within (iz x) (0 : Int32) (5 : Int32) = some (bi (0 ≤ x ∧ x ≤ 5)) := by rw [iz_n, iz_n]; exact sRi_within (by omega) (by omega) (by omega)
  have n1 : ¬ bi (0 ≤ x ∧ x ≤ 5) = (0 : Int32) := by rw [iz_n, bi0]; omega
  have i1 : 0 ≤ (iz x).toInt ∧ (iz x).toInt < 6 := by rw [iz_t (by omega) (by omega)]; omega
  have i3 : (iz x).toNatClampNeg = x.toNat := iz_c (by omega) (by omega)
  constructor
  · unfold fCh_rightOf
    rw [w1]
    simp only [Option.bind_some, if_neg n1, if_pos i1, i3]
  · unfold fCh_lowerOf
    rw [w1]
    simp only [Option.bind_some, if_neg n1, if_pos i1, i3]
theorem c_place {al : Nat → Int32} {w n t a : Int32} {dots cells sx sy sp : Nat → Int32} (h : RS al w n t a dots cells sx sy sp) (o : OkA al) {u : T27} (hu : CI al u) {rf mr : Nat → Int32} (hR : RF rf mr) (jk jq : Int32) (g V0 E0 Q0 G0 H0 : Nat → Int32) :
    ∃ (ans : Int32) (v : T27) (rf1 mr1 : Nat → Int32) (g1 V1 E1 Q1 G1 H1 : Nat → Int32), fRi_place jk jq u.1 n t a cells sx sy sp u.2.1 u.2.2.1 u.2.2.2.1 u.2.2.2.2.1 u.2.2.2.2.2.1 u.2.2.2.2.2.2.1 u.2.2.2.2.2.2.2.1 u.2.2.2.2.2.2.2.2.1 u.2.2.2.2.2.2.2.2.2.1 u.2.2.2.2.2.2.2.2.2.2.1 u.2.2.2.2.2.2.2.2.2.2.2.1 u.2.2.2.2.2.2.2.2.2.2.2.2.1 u.2.2.2.2.2.2.2.2.2.2.2.2.2.1 u.2.2.2.2.2.2.2.2.2.2.2.2.2.2.1 u.2.2.2.2.2.2.2.2.2.2.2.2.2.2.2.1 u.2.2.2.2.2.2.2.2.2.2.2.2.2.2.2.2.1 u.2.2.2.2.2.2.2.2.2.2.2.2.2.2.2.2.2.1 u.2.2.2.2.2.2.2.2.2.2.2.2.2.2.2.2.2.2.1 u.2.2.2.2.2.2.2.2.2.2.2.2.2.2.2.2.2.2.2.1 u.2.2.2.2.2.2.2.2.2.2.2.2.2.2.2.2.2.2.2.2.1 u.2.2.2.2.2.2.2.2.2.2.2.2.2.2.2.2.2.2.2.2.2.1 u.2.2.2.2.2.2.2.2.2.2.2.2.2.2.2.2.2.2.2.2.2.2.1 u.2.2.2.2.2.2.2.2.2.2.2.2.2.2.2.2.2.2.2.2.2.2.2.1 u.2.2.2.2.2.2.2.2.2.2.2.2.2.2.2.2.2.2.2.2.2.2.2.2.1 u.2.2.2.2.2.2.2.2.2.2.2.2.2.2.2.2.2.2.2.2.2.2.2.2.2.1 u.2.2.2.2.2.2.2.2.2.2.2.2.2.2.2.2.2.2.2.2.2.2.2.2.2.2 rf = some (ans, v.1, v.2.1, v.2.2.1, v.2.2.2.1, v.2.2.2.2.1, v.2.2.2.2.2.1, v.2.2.2.2.2.2.1, v.2.2.2.2.2.2.2.1, v.2.2.2.2.2.2.2.2.1, v.2.2.2.2.2.2.2.2.2.1, v.2.2.2.2.2.2.2.2.2.2.1, v.2.2.2.2.2.2.2.2.2.2.2.1, v.2.2.2.2.2.2.2.2.2.2.2.2.1, v.2.2.2.2.2.2.2.2.2.2.2.2.2.1, v.2.2.2.2.2.2.2.2.2.2.2.2.2.2.1, v.2.2.2.2.2.2.2.2.2.2.2.2.2.2.2.1, v.2.2.2.2.2.2.2.2.2.2.2.2.2.2.2.2.1, v.2.2.2.2.2.2.2.2.2.2.2.2.2.2.2.2.2.1, v.2.2.2.2.2.2.2.2.2.2.2.2.2.2.2.2.2.2.1, v.2.2.2.2.2.2.2.2.2.2.2.2.2.2.2.2.2.2.2.1, v.2.2.2.2.2.2.2.2.2.2.2.2.2.2.2.2.2.2.2.2.1, v.2.2.2.2.2.2.2.2.2.2.2.2.2.2.2.2.2.2.2.2.2.1, v.2.2.2.2.2.2.2.2.2.2.2.2.2.2.2.2.2.2.2.2.2.2.1, v.2.2.2.2.2.2.2.2.2.2.2.2.2.2.2.2.2.2.2.2.2.2.2.1, v.2.2.2.2.2.2.2.2.2.2.2.2.2.2.2.2.2.2.2.2.2.2.2.2.1, v.2.2.2.2.2.2.2.2.2.2.2.2.2.2.2.2.2.2.2.2.2.2.2.2.2.1, v.2.2.2.2.2.2.2.2.2.2.2.2.2.2.2.2.2.2.2.2.2.2.2.2.2.2, rf1) ∧ fMo_place jk jq al mr g V0 E0 Q0 G0 H0 = some (ans, mr1, g1, V1, E1, Q1, G1, H1) ∧ CI al v ∧ RF rf1 mr1 := by
  have on := o.n
  obtain ⟨ik, lk, uk, rfl⟩ := iz_of jk
  obtain ⟨iq, lq, uq, rfl⟩ := iz_of jq
  have p := pic_b h o (k := ik) (by omega)
  have pe := wi0_1 (z := iq) (by omega)
  by_cases q : 0 ≤ ik ∧ ik < NN al
  · rw [bi10 q] at p
    obtain ⟨p1, p2⟩ := p
    by_cases qe : 0 ≤ iq ∧ iq ≤ 1
    · rw [bi10 qe] at pe
      obtain ⟨e1, e2⟩ := pe
      have cn := Cn_i h o
      obtain ⟨v, e, v1, v2⟩ := refresh_s h o hu
      obtain ⟨g1, V1, E1, Q1, G1, H1, k1, k2, kV, kG, kH⟩ := lays_s h o g V0 E0 Q0 G0 H0
      have i1 : 0 ≤ (iz ik).toInt ∧ (iz ik).toInt < 6 := by rw [iz_t (by omega) (by omega)]; omega
      have i3 : (iz ik).toNatClampNeg = ik.toNat := iz_c (by omega) (by omega)
      have hG : G1 ik.toNat = iz (fC al ik) := by rw [← kG]; exact fw_i G1 (by omega)
      have hH : H1 ik.toNat = iz (gC al ik) := by rw [← kH]; exact fw_i H1 (by omega)
      have ff := sCh_followerOf v.2.2.2.2.2.2.2.2.2.2.1 (x := ik) (by omega)
      rw [v2.2.2.1.1] at ff
      have fa := sCh_aheadOf v.2.2.2.2.2.2.2.2.2.2.2.1 (x := ik) (by omega)
      rw [v2.2.2.1.2.1] at fa
      have hfr := cn.fr ik
      have hgr := cn.gr ik
      have hq0 : (iz iq = (0 : Int32)) = (iq = 0) := by rw [iz_l0]; exact propext (iz_eq (by omega) (by omega) (by omega) (by omega))
      have hq1 : (iz iq = (1 : Int32)) = (iq = 1) := by rw [iz_n]; exact propext (iz_eq (by omega) (by omega) (by omega) (by omega))
      have hq2 : (iz iq = (2 : Int32)) = (iq = 2) := by rw [iz_n]; exact propext (iz_eq (by omega) (by omega) (by omega) (by omega))
      have hfm := m1e (z := fC al ik) (by omega)
      have hcc := v2.2.2.2.1
      obtain ⟨cu, cu1, cu2, cu3⟩ := sMo_isClosed o cn kG
      by_cases cl : Cl al
      · have d1 : (v.2.2.2.2.2.2.2.2.2.1 = 0) = False := eq_false (fun z => hcc.mp z cl)
        have d2 : (cu = 0) = False := eq_false (fun z => cu3.mp (z.trans iz_l0) cl)
        have cl1 := cl.1
        obtain ⟨r1, r2, r3, r4⟩ := cn.gi.round (by omega) (Cl_all on cn cl)
        obtain ⟨i, hi, hik⟩ := r3 ik q
        have hpl := v2.2.2.2.2.1 cl i hi
        rw [hik] at hpl
        have sat := sCh_at (A := v.2.2.2.2.2.2.2.2.2.2.2.2.2.2.1) (x := ik) (by omega)
        have sat2 := sCh_at (A := v.2.2.2.2.2.2.2.2.2.2.2.2.2.2.2.1) (x := ik) (by omega)
        have hL := sMo_placeL h o cn cl kV kG hi i 0 FU (by omega) (by show _ < 5000; omega)
        rw [hik, show it (fC al) 0 0 = 0 from rfl, show WS (fC al) (fo al (fC al)) 0 = 0 from rfl, show WS (fC al) (eo al (fC al)) 0 = 0 from rfl, show iz ((0 : Nat) : Int) = (0 : Int32) from iz_l0.symm, ← iz_l0] at hL
        have hS := (sMo_sumOf h o cn kV kG).2
        have hD := S6_r (f := eo al (fC al)) (l := -1) (u := 1) (fun x _ => eo_r h o cn x)
        have hdk := dk_r (d := S6 (eo al (fC al))) (k := i) (by omega) (by omega)
        have hfl : fMo_floorBy ((((2 : Int32) * iz (S6 (eo al (fC al)))) * iz i) + iz (NN al)) ((2 : Int32) * iz (NN al)) = some (iz (HI (S6 (eo al (fC al))) (NN al) i)) := by
          rw [iz_n, iz_mul, iz_mul, iz_add, iz_mul, Int.mul_assoc, sMo_floorBy (by omega) (by omega)]
          rfl
        have hmy := sMo_many al
        by_cases c0 : iq = 0
        · have d0 := hq0.trans (eq_true c0)
          refine ⟨iz (WS (fC al) (fo al (fC al)) i), v, rf, mr, g1, V1, E1, Q1, G1, H1, ?_, ?_, CI_of v1 v2, hR⟩
          · unfold fRi_place
            simp only [p1, e1, e, d0, d1, sat.1, hpl.1, Option.bind_some, c1e, c0e, if_true, if_false]
          · unfold fMo_place
            simp only [p2, e2, k1, d0, cu1, d2, hL, hS, hmy, hfl, Option.bind_some, c1e, c0e, if_true, if_false]
        · have d0 := hq0.trans (eq_false c0)
          refine ⟨iz (WS (fC al) (eo al (fC al)) i - HI (S6 (eo al (fC al))) (NN al) i) + (20 : Int32), v, rf, mr, g1, V1, E1, Q1, G1, H1, ?_, ?_, CI_of v1 v2, hR⟩
          · unfold fRi_place
            simp only [p1, e1, e, d0, d1, sat2.2, hpl.2, Option.bind_some, c1e, c0e, if_true, if_false]
          · unfold fMo_place
            simp only [p2, e2, k1, d0, cu1, d2, hL, hS, hmy, hfl, Option.bind_some, c1e, c0e, if_true, if_false]
            rw [iz_sub]
      · have d1 : (v.2.2.2.2.2.2.2.2.2.1 = 0) = True := eq_true (hcc.mpr cl)
        have d2 : (cu = 0) = True := eq_true ((cu3.mpr cl).trans iz_l0.symm)
        refine ⟨iz (-3), v, ref rf (-3), ref mr (-3), g1, V1, E1, Q1, G1, H1, ?_, ?_, CI_of v1 v2, RF_ref hR (by omega)⟩
        · unfold fRi_place
          simp only [p1, p2, e1, e2, e, k1, d1, cu1, d2, rfC3, Option.bind_some, c1e, c0e, if_true, if_false]
        · unfold fMo_place
          simp only [p1, p2, e1, e2, e, k1, d1, cu1, d2, rfM3, Option.bind_some, c1e, c0e, if_true, if_false]
    · rw [bi11 qe] at pe
      obtain ⟨e1, e2⟩ := pe
      refine ⟨iz (-2), u, ref rf (-2), ref mr (-2), g, V0, E0, Q0, G0, H0, ?_, ?_, hu, RF_ref hR (by omega)⟩
      · unfold fRi_place
        simp only [p1, p2, e1, e2, rfC2, Option.bind_some, c1e, c0e, if_true, if_false]
      · unfold fMo_place
        simp only [p1, p2, e1, e2, rfM2, Option.bind_some, c1e, c0e, if_true, if_false]
  · rw [bi11 q] at p
    obtain ⟨p1, p2⟩ := p
    refine ⟨iz (-2), u, ref rf (-2), ref mr (-2), g, V0, E0, Q0, G0, H0, ?_, ?_, hu, RF_ref hR (by omega)⟩
    · unfold fRi_place
      simp only [p1, p2, rfC2, Option.bind_some, c1e, c0e, if_true, if_false]
    · unfold fMo_place
      simp only [p1, p2, rfM2, Option.bind_some, c1e, c0e, if_true, if_false]
theorem c_overlap {al : Nat → Int32} {w n t a : Int32} {dots cells sx sy sp : Nat → Int32} (h : RS al w n t a dots cells sx sy sp) (o : OkA al) {u : T27} (hu : CI al u) {rf mr : Nat → Int32} (hR : RF rf mr) (jk jq : Int32) (g V0 E0 Q0 G0 H0 l0 s0 : Nat → Int32) :
    ∃ (ans : Int32) (v : T27) (rf1 mr1 : Nat → Int32) (g1 V1 E1 Q1 G1 H1 l1 s1 : Nat → Int32), fRi_overlap jk jq u.1 n t a cells sx sy sp u.2.1 u.2.2.1 u.2.2.2.1 u.2.2.2.2.1 u.2.2.2.2.2.1 u.2.2.2.2.2.2.1 u.2.2.2.2.2.2.2.1 u.2.2.2.2.2.2.2.2.1 u.2.2.2.2.2.2.2.2.2.1 u.2.2.2.2.2.2.2.2.2.2.1 u.2.2.2.2.2.2.2.2.2.2.2.1 u.2.2.2.2.2.2.2.2.2.2.2.2.1 u.2.2.2.2.2.2.2.2.2.2.2.2.2.1 u.2.2.2.2.2.2.2.2.2.2.2.2.2.2.1 u.2.2.2.2.2.2.2.2.2.2.2.2.2.2.2.1 u.2.2.2.2.2.2.2.2.2.2.2.2.2.2.2.2.1 u.2.2.2.2.2.2.2.2.2.2.2.2.2.2.2.2.2.1 u.2.2.2.2.2.2.2.2.2.2.2.2.2.2.2.2.2.2.1 u.2.2.2.2.2.2.2.2.2.2.2.2.2.2.2.2.2.2.2.1 u.2.2.2.2.2.2.2.2.2.2.2.2.2.2.2.2.2.2.2.2.1 u.2.2.2.2.2.2.2.2.2.2.2.2.2.2.2.2.2.2.2.2.2.1 u.2.2.2.2.2.2.2.2.2.2.2.2.2.2.2.2.2.2.2.2.2.2.1 u.2.2.2.2.2.2.2.2.2.2.2.2.2.2.2.2.2.2.2.2.2.2.2.1 u.2.2.2.2.2.2.2.2.2.2.2.2.2.2.2.2.2.2.2.2.2.2.2.2.1 u.2.2.2.2.2.2.2.2.2.2.2.2.2.2.2.2.2.2.2.2.2.2.2.2.2.1 u.2.2.2.2.2.2.2.2.2.2.2.2.2.2.2.2.2.2.2.2.2.2.2.2.2.2 rf = some (ans, v.1, v.2.1, v.2.2.1, v.2.2.2.1, v.2.2.2.2.1, v.2.2.2.2.2.1, v.2.2.2.2.2.2.1, v.2.2.2.2.2.2.2.1, v.2.2.2.2.2.2.2.2.1, v.2.2.2.2.2.2.2.2.2.1, v.2.2.2.2.2.2.2.2.2.2.1, v.2.2.2.2.2.2.2.2.2.2.2.1, v.2.2.2.2.2.2.2.2.2.2.2.2.1, v.2.2.2.2.2.2.2.2.2.2.2.2.2.1, v.2.2.2.2.2.2.2.2.2.2.2.2.2.2.1, v.2.2.2.2.2.2.2.2.2.2.2.2.2.2.2.1, v.2.2.2.2.2.2.2.2.2.2.2.2.2.2.2.2.1, v.2.2.2.2.2.2.2.2.2.2.2.2.2.2.2.2.2.1, v.2.2.2.2.2.2.2.2.2.2.2.2.2.2.2.2.2.2.1, v.2.2.2.2.2.2.2.2.2.2.2.2.2.2.2.2.2.2.2.1, v.2.2.2.2.2.2.2.2.2.2.2.2.2.2.2.2.2.2.2.2.1, v.2.2.2.2.2.2.2.2.2.2.2.2.2.2.2.2.2.2.2.2.2.1, v.2.2.2.2.2.2.2.2.2.2.2.2.2.2.2.2.2.2.2.2.2.2.1, v.2.2.2.2.2.2.2.2.2.2.2.2.2.2.2.2.2.2.2.2.2.2.2.1, v.2.2.2.2.2.2.2.2.2.2.2.2.2.2.2.2.2.2.2.2.2.2.2.2.1, v.2.2.2.2.2.2.2.2.2.2.2.2.2.2.2.2.2.2.2.2.2.2.2.2.2.1, v.2.2.2.2.2.2.2.2.2.2.2.2.2.2.2.2.2.2.2.2.2.2.2.2.2.2, rf1) ∧ fMo_overlap jk jq al mr g V0 E0 Q0 G0 H0 l0 s0 = some (ans, mr1, g1, V1, E1, Q1, G1, H1, l1, s1) ∧ CI al v ∧ RF rf1 mr1 := by
  have on := o.n
  obtain ⟨ik, lk, uk, rfl⟩ := iz_of jk
  obtain ⟨iq, lq, uq, rfl⟩ := iz_of jq
  have p := pic_b h o (k := ik) (by omega)
  have pe := wi0_3 (z := iq) (by omega)
  by_cases q : 0 ≤ ik ∧ ik < NN al
  · rw [bi10 q] at p
    obtain ⟨p1, p2⟩ := p
    by_cases qe : 0 ≤ iq ∧ iq ≤ 3
    · rw [bi10 qe] at pe
      obtain ⟨e1, e2⟩ := pe
      have cn := Cn_i h o
      obtain ⟨v, e, v1, v2⟩ := refresh_s h o hu
      obtain ⟨g1, V1, E1, Q1, G1, H1, k1, k2, kV, kG, kH⟩ := lays_s h o g V0 E0 Q0 G0 H0
      have i1 : 0 ≤ (iz ik).toInt ∧ (iz ik).toInt < 6 := by rw [iz_t (by omega) (by omega)]; omega
      have i3 : (iz ik).toNatClampNeg = ik.toNat := iz_c (by omega) (by omega)
      have hG : G1 ik.toNat = iz (fC al ik) := by rw [← kG]; exact fw_i G1 (by omega)
      have hH : H1 ik.toNat = iz (gC al ik) := by rw [← kH]; exact fw_i H1 (by omega)
      have ff := sCh_followerOf v.2.2.2.2.2.2.2.2.2.2.1 (x := ik) (by omega)
      rw [v2.2.2.1.1] at ff
      have fa := sCh_aheadOf v.2.2.2.2.2.2.2.2.2.2.2.1 (x := ik) (by omega)
      rw [v2.2.2.1.2.1] at fa
      have hfr := cn.fr ik
      have hgr := cn.gr ik
      have hq0 : (iz iq = (0 : Int32)) = (iq = 0) := by rw [iz_l0]; exact propext (iz_eq (by omega) (by omega) (by omega) (by omega))
      have hq1 : (iz iq = (1 : Int32)) = (iq = 1) := by rw [iz_n]; exact propext (iz_eq (by omega) (by omega) (by omega) (by omega))
      have hq2 : (iz iq = (2 : Int32)) = (iq = 2) := by rw [iz_n]; exact propext (iz_eq (by omega) (by omega) (by omega) (by omega))
      have hfm := m1e (z := fC al ik) (by omega)
      by_cases cf : fC al ik = -1
      · have d1 := hfm.trans (eq_true cf)
        refine ⟨iz (-3), v, ref rf (-3), ref mr (-3), g1, V1, E1, Q1, G1, H1, l0, s0, ?_, ?_, CI_of v1 v2, RF_ref hR (by omega)⟩
        · unfold fRi_overlap
          simp only [p1, p2, e1, e2, e, k1, ff, hG, d1, if_pos i1, i3, rfC3, Option.bind_some, c1e, c0e, if_true, if_false]
        · unfold fMo_overlap
          simp only [p1, p2, e1, e2, e, k1, ff, hG, d1, if_pos i1, i3, rfM3, Option.bind_some, c1e, c0e, if_true, if_false]
      · have d1 := hfm.trans (eq_false cf)
        have hp : 0 ≤ fC al ik := by omega
        obtain ⟨a1, a2, a3, a4⟩ := (v2.2.2.2.2.2.1 ik (by omega)).1 hp
        obtain ⟨df1, df2⟩ := sMo_differences h o cn kV kG hp
        have hce := sMo_cells h o cn kV kG hp
        obtain ⟨l1, s1, hss⟩ := sMo_seamSum h o cn kV kG hp l0 s0
        have b1 := (sSe_of (A := v.2.2.2.2.2.2.2.2.2.2.2.2.2.2.2.2.1) (C := v.2.2.2.2.2.2.2.2.2.2.2.2.2.2.2.2.1) (x := ik) (by omega)).2.1
        have b2 := (sSe_of (A := v.2.2.2.2.2.2.2.2.2.2.2.2.2.2.2.2.2.1) (C := v.2.2.2.2.2.2.2.2.2.2.2.2.2.2.2.2.1) (x := ik) (by omega)).2.2.1
        have b3 := (sSe_of (A := v.2.2.2.2.2.2.2.2.2.2.2.2.2.2.2.2.2.1) (C := v.2.2.2.2.2.2.2.2.2.2.2.2.2.2.2.2.2.2.1) (x := ik) (by omega)).1
        have b4 := (sSe_of (A := v.2.2.2.2.2.2.2.2.2.2.2.2.2.2.2.2.2.2.2.1) (C := v.2.2.2.2.2.2.2.2.2.2.2.2.2.2.2.2.1) (x := ik) (by omega)).2.2.2
        by_cases c0 : iq = 0
        · have d0 := hq0.trans (eq_true c0)
          refine ⟨iz (NC al ik), v, rf, mr, g1, V1, E1, Q1, G1, H1, l0, s0, ?_, ?_, CI_of v1 v2, hR⟩
          · unfold fRi_overlap
            simp only [p1, e1, e, ff, d0, d1, b1, a1, Option.bind_some, c1e, c0e, if_true, if_false]
          · unfold fMo_overlap
            simp only [p2, e2, k1, hG, d0, d1, if_pos i1, i3, hce, Option.bind_some, c1e, c0e, if_true, if_false]
        · have d0 := hq0.trans (eq_false c0)
          by_cases c1 : iq = 1
          · have d2 := hq1.trans (eq_true c1)
            refine ⟨iz (OV al ik (DD al ik)), v, rf, mr, g1, V1, E1, Q1, G1, H1, l0, s0, ?_, ?_, CI_of v1 v2, hR⟩
            · unfold fRi_overlap
              simp only [p1, e1, e, ff, d0, d1, d2, b2, a2, Option.bind_some, c1e, c0e, if_true, if_false]
            · unfold fMo_overlap
              simp only [p2, e2, k1, hG, d0, d1, d2, if_pos i1, i3, df1, Option.bind_some, c1e, c0e, if_true, if_false]
          · have d2 := hq1.trans (eq_false c1)
            by_cases c2 : iq = 2
            · have d3 := hq2.trans (eq_true c2)
              refine ⟨iz (SX al ik), v, rf, mr, g1, V1, E1, Q1, G1, H1, l1, s1, ?_, ?_, CI_of v1 v2, hR⟩
              · unfold fRi_overlap
                simp only [p1, e1, e, ff, d0, d1, d2, d3, b4, a4, Option.bind_some, c1e, c0e, if_true, if_false]
              · unfold fMo_overlap
                simp only [p2, e2, k1, hG, d0, d1, d2, d3, if_pos i1, i3, hss, Option.bind_some, c1e, c0e, if_true, if_false]
            · have d3 := hq2.trans (eq_false c2)
              refine ⟨iz (OV al ik (DF al ik)) + (2000 : Int32), v, rf, mr, g1, V1, E1, Q1, G1, H1, l0, s0, ?_, ?_, CI_of v1 v2, hR⟩
              · unfold fRi_overlap
                simp only [p1, e1, e, ff, d0, d1, d2, d3, b3, a3, Option.bind_some, c1e, c0e, if_true, if_false]
              · unfold fMo_overlap
                simp only [p2, e2, k1, hG, d0, d1, d2, d3, if_pos i1, i3, df2, Option.bind_some, c1e, c0e, if_true, if_false]
    · rw [bi11 qe] at pe
      obtain ⟨e1, e2⟩ := pe
      refine ⟨iz (-2), u, ref rf (-2), ref mr (-2), g, V0, E0, Q0, G0, H0, l0, s0, ?_, ?_, hu, RF_ref hR (by omega)⟩
      · unfold fRi_overlap
        simp only [p1, p2, e1, e2, rfC2, Option.bind_some, c1e, c0e, if_true, if_false]
      · unfold fMo_overlap
        simp only [p1, p2, e1, e2, rfM2, Option.bind_some, c1e, c0e, if_true, if_false]
  · rw [bi11 q] at p
    obtain ⟨p1, p2⟩ := p
    refine ⟨iz (-2), u, ref rf (-2), ref mr (-2), g, V0, E0, Q0, G0, H0, l0, s0, ?_, ?_, hu, RF_ref hR (by omega)⟩
    · unfold fRi_overlap
      simp only [p1, p2, rfC2, Option.bind_some, c1e, c0e, if_true, if_false]
    · unfold fMo_overlap
      simp only [p1, p2, rfM2, Option.bind_some, c1e, c0e, if_true, if_false]
theorem sSe_columnAt {K : Nat → Int32} {x r : Int} (hx : 0 ≤ x ∧ x < 6) (hr : -100 ≤ r ∧ r ≤ 100) : fSe_columnAt (iz x) (iz r) K = some (if 0 ≤ r ∧ r ≤ 3 then K (x * 4 + r).toNat else iz (-1)) := by
  have w1 := (wi0_5 (z := x) (by omega)).1
  rw [bi10 (by omega)] at w1
  have w2 := (wi0_3 (z := r) (by omega)).1
  have e1 : iz x * (4 : Int32) + iz r = iz (x * 4 + r) := by rw [iz_n, iz_mul, iz_add]
  unfold fSe_columnAt
  simp only [w1, w2, Option.bind_some, c1e, if_false, e1]
  by_cases q : 0 ≤ r ∧ r ≤ 3
  · have i1 : 0 ≤ (iz (x * 4 + r)).toInt ∧ (iz (x * 4 + r)).toInt < 24 := by rw [iz_t (by omega) (by omega)]; omega
    have i3 : (iz (x * 4 + r)).toNatClampNeg = (x * 4 + r).toNat := iz_c (by omega) (by omega)
    rw [if_pos q, bi10 q]
    simp only [c1e, if_false, if_pos i1, i3]
  · rw [if_neg q, bi11 q]
    simp only [c0e, if_true]
    rw [iz_n, iz_neg]
theorem c_seam {al : Nat → Int32} {w n t a : Int32} {dots cells sx sy sp : Nat → Int32} (h : RS al w n t a dots cells sx sy sp) (o : OkA al) {u : T27} (hu : CI al u) {rf mr : Nat → Int32} (hR : RF rf mr) (jk jq : Int32) (g V0 E0 Q0 G0 H0 l0 s0 : Nat → Int32) :
    ∃ (ans : Int32) (v : T27) (rf1 mr1 : Nat → Int32) (g1 V1 E1 Q1 G1 H1 l1 s1 : Nat → Int32), fRi_seam jk jq u.1 n t a cells sx sy sp u.2.1 u.2.2.1 u.2.2.2.1 u.2.2.2.2.1 u.2.2.2.2.2.1 u.2.2.2.2.2.2.1 u.2.2.2.2.2.2.2.1 u.2.2.2.2.2.2.2.2.1 u.2.2.2.2.2.2.2.2.2.1 u.2.2.2.2.2.2.2.2.2.2.1 u.2.2.2.2.2.2.2.2.2.2.2.1 u.2.2.2.2.2.2.2.2.2.2.2.2.1 u.2.2.2.2.2.2.2.2.2.2.2.2.2.1 u.2.2.2.2.2.2.2.2.2.2.2.2.2.2.1 u.2.2.2.2.2.2.2.2.2.2.2.2.2.2.2.1 u.2.2.2.2.2.2.2.2.2.2.2.2.2.2.2.2.1 u.2.2.2.2.2.2.2.2.2.2.2.2.2.2.2.2.2.1 u.2.2.2.2.2.2.2.2.2.2.2.2.2.2.2.2.2.2.1 u.2.2.2.2.2.2.2.2.2.2.2.2.2.2.2.2.2.2.2.1 u.2.2.2.2.2.2.2.2.2.2.2.2.2.2.2.2.2.2.2.2.1 u.2.2.2.2.2.2.2.2.2.2.2.2.2.2.2.2.2.2.2.2.2.1 u.2.2.2.2.2.2.2.2.2.2.2.2.2.2.2.2.2.2.2.2.2.2.1 u.2.2.2.2.2.2.2.2.2.2.2.2.2.2.2.2.2.2.2.2.2.2.2.1 u.2.2.2.2.2.2.2.2.2.2.2.2.2.2.2.2.2.2.2.2.2.2.2.2.1 u.2.2.2.2.2.2.2.2.2.2.2.2.2.2.2.2.2.2.2.2.2.2.2.2.2.1 u.2.2.2.2.2.2.2.2.2.2.2.2.2.2.2.2.2.2.2.2.2.2.2.2.2.2 rf = some (ans, v.1, v.2.1, v.2.2.1, v.2.2.2.1, v.2.2.2.2.1, v.2.2.2.2.2.1, v.2.2.2.2.2.2.1, v.2.2.2.2.2.2.2.1, v.2.2.2.2.2.2.2.2.1, v.2.2.2.2.2.2.2.2.2.1, v.2.2.2.2.2.2.2.2.2.2.1, v.2.2.2.2.2.2.2.2.2.2.2.1, v.2.2.2.2.2.2.2.2.2.2.2.2.1, v.2.2.2.2.2.2.2.2.2.2.2.2.2.1, v.2.2.2.2.2.2.2.2.2.2.2.2.2.2.1, v.2.2.2.2.2.2.2.2.2.2.2.2.2.2.2.1, v.2.2.2.2.2.2.2.2.2.2.2.2.2.2.2.2.1, v.2.2.2.2.2.2.2.2.2.2.2.2.2.2.2.2.2.1, v.2.2.2.2.2.2.2.2.2.2.2.2.2.2.2.2.2.2.1, v.2.2.2.2.2.2.2.2.2.2.2.2.2.2.2.2.2.2.2.1, v.2.2.2.2.2.2.2.2.2.2.2.2.2.2.2.2.2.2.2.2.1, v.2.2.2.2.2.2.2.2.2.2.2.2.2.2.2.2.2.2.2.2.2.1, v.2.2.2.2.2.2.2.2.2.2.2.2.2.2.2.2.2.2.2.2.2.2.1, v.2.2.2.2.2.2.2.2.2.2.2.2.2.2.2.2.2.2.2.2.2.2.2.1, v.2.2.2.2.2.2.2.2.2.2.2.2.2.2.2.2.2.2.2.2.2.2.2.2.1, v.2.2.2.2.2.2.2.2.2.2.2.2.2.2.2.2.2.2.2.2.2.2.2.2.2.1, v.2.2.2.2.2.2.2.2.2.2.2.2.2.2.2.2.2.2.2.2.2.2.2.2.2.2, rf1) ∧ fMo_seam jk jq al mr g V0 E0 Q0 G0 H0 l0 s0 = some (ans, mr1, g1, V1, E1, Q1, G1, H1, l1, s1) ∧ CI al v ∧ RF rf1 mr1 := by
  have on := o.n
  obtain ⟨ik, lk, uk, rfl⟩ := iz_of jk
  obtain ⟨iq, lq, uq, rfl⟩ := iz_of jq
  have p := pic_b h o (k := ik) (by omega)
  have pe := wi0_3 (z := iq) (by omega)
  by_cases q : 0 ≤ ik ∧ ik < NN al
  · rw [bi10 q] at p
    obtain ⟨p1, p2⟩ := p
    by_cases qe : 0 ≤ iq ∧ iq ≤ 3
    · rw [bi10 qe] at pe
      obtain ⟨e1, e2⟩ := pe
      have cn := Cn_i h o
      obtain ⟨v, e, v1, v2⟩ := refresh_s h o hu
      obtain ⟨g1, V1, E1, Q1, G1, H1, k1, k2, kV, kG, kH⟩ := lays_s h o g V0 E0 Q0 G0 H0
      have i1 : 0 ≤ (iz ik).toInt ∧ (iz ik).toInt < 6 := by rw [iz_t (by omega) (by omega)]; omega
      have i3 : (iz ik).toNatClampNeg = ik.toNat := iz_c (by omega) (by omega)
      have hG : G1 ik.toNat = iz (fC al ik) := by rw [← kG]; exact fw_i G1 (by omega)
      have hH : H1 ik.toNat = iz (gC al ik) := by rw [← kH]; exact fw_i H1 (by omega)
      have ff := sCh_followerOf v.2.2.2.2.2.2.2.2.2.2.1 (x := ik) (by omega)
      rw [v2.2.2.1.1] at ff
      have fa := sCh_aheadOf v.2.2.2.2.2.2.2.2.2.2.2.1 (x := ik) (by omega)
      rw [v2.2.2.1.2.1] at fa
      have hfr := cn.fr ik
      have hgr := cn.gr ik
      have hq0 : (iz iq = (0 : Int32)) = (iq = 0) := by rw [iz_l0]; exact propext (iz_eq (by omega) (by omega) (by omega) (by omega))
      have hq1 : (iz iq = (1 : Int32)) = (iq = 1) := by rw [iz_n]; exact propext (iz_eq (by omega) (by omega) (by omega) (by omega))
      have hq2 : (iz iq = (2 : Int32)) = (iq = 2) := by rw [iz_n]; exact propext (iz_eq (by omega) (by omega) (by omega) (by omega))
      have hfm := m1e (z := fC al ik) (by omega)
      by_cases cf : fC al ik = -1
      · have d1 := hfm.trans (eq_true cf)
        refine ⟨iz (-3), v, ref rf (-3), ref mr (-3), g1, V1, E1, Q1, G1, H1, l0, s0, ?_, ?_, CI_of v1 v2, RF_ref hR (by omega)⟩
        · unfold fRi_seam
          simp only [p1, p2, e1, e2, e, k1, ff, hG, d1, if_pos i1, i3, rfC3, Option.bind_some, c1e, c0e, if_true, if_false]
        · unfold fMo_seam
          simp only [p1, p2, e1, e2, e, k1, ff, hG, d1, if_pos i1, i3, rfM3, Option.bind_some, c1e, c0e, if_true, if_false]
      · have d1 := hfm.trans (eq_false cf)
        have hp : 0 ≤ fC al ik := by omega
        have hco := (v2.2.2.2.2.2.1 ik (by omega)).2 iq qe
        rw [if_pos hp] at hco
        obtain ⟨l1, s1, hls, hsv⟩ := sMo_laysSeam h o cn kV kG hp l0 s0
        have hat := sSe_columnAt (K := v.2.2.2.2.2.2.2.2.2.2.2.2.2.2.2.2.2.2.2.2.1) (x := ik) (r := iq) (by omega) (by omega)
        rw [if_pos qe, hco] at hat
        have j1 : 0 ≤ (iz iq).toInt ∧ (iz iq).toInt < 4 := by rw [iz_t (by omega) (by omega)]; omega
        have j3 : (iz iq).toNatClampNeg = iq.toNat := iz_c (by omega) (by omega)
        have hsq := hsv iq.toNat (by omega)
        rw [show ((iq.toNat : Nat) : Int) = iq by omega] at hsq
        refine ⟨iz (SC al ik iq), v, rf, mr, g1, V1, E1, Q1, G1, H1, l1, s1, ?_, ?_, CI_of v1 v2, hR⟩
        · unfold fRi_seam
          simp only [p1, e1, e, ff, d1, hat, Option.bind_some, c1e, c0e, if_true, if_false]
        · unfold fMo_seam
          simp only [p2, e2, k1, hG, d1, if_pos i1, i3, hls, if_pos j1, j3, hsq, Option.bind_some, c1e, c0e, if_true, if_false]
    · rw [bi11 qe] at pe
      obtain ⟨e1, e2⟩ := pe
      refine ⟨iz (-2), u, ref rf (-2), ref mr (-2), g, V0, E0, Q0, G0, H0, l0, s0, ?_, ?_, hu, RF_ref hR (by omega)⟩
      · unfold fRi_seam
        simp only [p1, p2, e1, e2, rfC2, Option.bind_some, c1e, c0e, if_true, if_false]
      · unfold fMo_seam
        simp only [p1, p2, e1, e2, rfM2, Option.bind_some, c1e, c0e, if_true, if_false]
  · rw [bi11 q] at p
    obtain ⟨p1, p2⟩ := p
    refine ⟨iz (-2), u, ref rf (-2), ref mr (-2), g, V0, E0, Q0, G0, H0, l0, s0, ?_, ?_, hu, RF_ref hR (by omega)⟩
    · unfold fRi_seam
      simp only [p1, p2, rfC2, Option.bind_some, c1e, c0e, if_true, if_false]
    · unfold fMo_seam
      simp only [p1, p2, rfM2, Option.bind_some, c1e, c0e, if_true, if_false]
