/-! shows, level, rest, seen -/
/-- the columns that a picture shows in a row: from FR on, up to the one ahead of TO -/
noncomputable def FR (al : Nat → Int32) (k r : Int) : Int := if gC al k = -1 then 0 else if SC al (gC al k) (r + eo al (fC al) (gC al k)) = -1 then 0 else SC al (gC al k) (r + eo al (fC al) (gC al k)) - fo al (fC al) (gC al k)
noncomputable def TO (al : Nat → Int32) (k r : Int) : Int := if fC al k = -1 then 8 else if SC al k r = -1 then 8 else SC al k r
theorem bits_s {T : Int} (hT : 0 ≤ T ∧ T ≤ 8) : ∀ (d : Nat) (c : Int) (m m' : Nat) (acc : Int32), 0 ≤ c ∧ c ≤ 8 → T - c ≤ d → d < m → d < m' → ∃ z, fRi_shows_L53 (iz (T - 1)) m acc (iz c) = some z ∧ fMo_shows_L133 (iz T) m' acc (iz c) = some z := by
  intro d
  induction d with
  | zero =>
    intro c m m' acc hc hd hm hm'
    obtain ⟨m, rfl⟩ : ∃ q, m = q + 1 := ⟨m - 1, by omega⟩
    obtain ⟨m', rfl⟩ : ∃ q, m' = q + 1 := ⟨m' - 1, by omega⟩
    have n1 : iz (T - 1) < iz c := (iz_lt (by omega) (by omega) (by omega) (by omega)).mpr (by omega)
    have n2 : iz T ≤ iz c := (iz_le (by omega) (by omega) (by omega) (by omega)).mpr (by omega)
    refine ⟨acc, ?_, ?_⟩
    · unfold fRi_shows_L53
      by_cases q : (8 : Int32) ≤ iz c
      · rw [if_pos q]
      · rw [if_neg q, if_pos n1]
    · unfold fMo_shows_L133
      rw [if_pos n2]
  | succ d ih =>
    intro c m m' acc hc hd hm hm'
    obtain ⟨m, rfl⟩ : ∃ q, m = q + 1 := ⟨m - 1, by omega⟩
    obtain ⟨m', rfl⟩ : ∃ q, m' = q + 1 := ⟨m' - 1, by omega⟩
    by_cases q : T ≤ c
    · have n1 : iz (T - 1) < iz c := (iz_lt (by omega) (by omega) (by omega) (by omega)).mpr (by omega)
      have n2 : iz T ≤ iz c := (iz_le (by omega) (by omega) (by omega) (by omega)).mpr (by omega)
      refine ⟨acc, ?_, ?_⟩
      · unfold fRi_shows_L53
        by_cases q : (8 : Int32) ≤ iz c
        · rw [if_pos q]
        · rw [if_neg q, if_pos n1]
      · unfold fMo_shows_L133
        rw [if_pos n2]
    · have n0 : ¬ (8 : Int32) ≤ iz c := by rw [iz_n, iz_le (by omega) (by omega) (by omega) (by omega)]; omega
      have n1 : ¬ iz (T - 1) < iz c := by rw [iz_lt (by omega) (by omega) (by omega) (by omega)]; omega
      have n2 : ¬ iz T ≤ iz c := by rw [iz_le (by omega) (by omega) (by omega) (by omega)]; omega
      have e1 : iz c + (1 : Int32) = iz (c + 1) := iz_add c 1
      obtain ⟨z, k1, k2⟩ := ih (c + 1) m m' (acc ||| ((1 : Int32) <<< (iz c &&& 31))) (by omega) (by omega) (by omega) (by omega)
      refine ⟨z, ?_, ?_⟩
      · unfold fRi_shows_L53
        rw [if_neg n0, if_neg n1, e1]
        exact k1
      · unfold fMo_shows_L133
        rw [if_neg n2, e1]
        exact k2
theorem c_shows {al : Nat → Int32} {w n t a : Int32} {dots cells sx sy sp : Nat → Int32} (h : RS al w n t a dots cells sx sy sp) (o : OkA al) {u : T27} (hu : CI al u) {rf mr : Nat → Int32} (hR : RF rf mr) (jk jq : Int32) (g V0 E0 Q0 G0 H0 l0 s0 : Nat → Int32) :
    ∃ (ans : Int32) (v : T27) (rf1 mr1 : Nat → Int32) (g1 V1 E1 Q1 G1 H1 l1 s1 : Nat → Int32), fRi_shows jk jq u.1 n t a cells sx sy sp u.2.1 u.2.2.1 u.2.2.2.1 u.2.2.2.2.1 u.2.2.2.2.2.1 u.2.2.2.2.2.2.1 u.2.2.2.2.2.2.2.1 u.2.2.2.2.2.2.2.2.1 u.2.2.2.2.2.2.2.2.2.1 u.2.2.2.2.2.2.2.2.2.2.1 u.2.2.2.2.2.2.2.2.2.2.2.1 u.2.2.2.2.2.2.2.2.2.2.2.2.1 u.2.2.2.2.2.2.2.2.2.2.2.2.2.1 u.2.2.2.2.2.2.2.2.2.2.2.2.2.2.1 u.2.2.2.2.2.2.2.2.2.2.2.2.2.2.2.1 u.2.2.2.2.2.2.2.2.2.2.2.2.2.2.2.2.1 u.2.2.2.2.2.2.2.2.2.2.2.2.2.2.2.2.2.1 u.2.2.2.2.2.2.2.2.2.2.2.2.2.2.2.2.2.2.1 u.2.2.2.2.2.2.2.2.2.2.2.2.2.2.2.2.2.2.2.1 u.2.2.2.2.2.2.2.2.2.2.2.2.2.2.2.2.2.2.2.2.1 u.2.2.2.2.2.2.2.2.2.2.2.2.2.2.2.2.2.2.2.2.2.1 u.2.2.2.2.2.2.2.2.2.2.2.2.2.2.2.2.2.2.2.2.2.2.1 u.2.2.2.2.2.2.2.2.2.2.2.2.2.2.2.2.2.2.2.2.2.2.2.1 u.2.2.2.2.2.2.2.2.2.2.2.2.2.2.2.2.2.2.2.2.2.2.2.2.1 u.2.2.2.2.2.2.2.2.2.2.2.2.2.2.2.2.2.2.2.2.2.2.2.2.2.1 u.2.2.2.2.2.2.2.2.2.2.2.2.2.2.2.2.2.2.2.2.2.2.2.2.2.2 rf = some (ans, v.1, v.2.1, v.2.2.1, v.2.2.2.1, v.2.2.2.2.1, v.2.2.2.2.2.1, v.2.2.2.2.2.2.1, v.2.2.2.2.2.2.2.1, v.2.2.2.2.2.2.2.2.1, v.2.2.2.2.2.2.2.2.2.1, v.2.2.2.2.2.2.2.2.2.2.1, v.2.2.2.2.2.2.2.2.2.2.2.1, v.2.2.2.2.2.2.2.2.2.2.2.2.1, v.2.2.2.2.2.2.2.2.2.2.2.2.2.1, v.2.2.2.2.2.2.2.2.2.2.2.2.2.2.1, v.2.2.2.2.2.2.2.2.2.2.2.2.2.2.2.1, v.2.2.2.2.2.2.2.2.2.2.2.2.2.2.2.2.1, v.2.2.2.2.2.2.2.2.2.2.2.2.2.2.2.2.2.1, v.2.2.2.2.2.2.2.2.2.2.2.2.2.2.2.2.2.2.1, v.2.2.2.2.2.2.2.2.2.2.2.2.2.2.2.2.2.2.2.1, v.2.2.2.2.2.2.2.2.2.2.2.2.2.2.2.2.2.2.2.2.1, v.2.2.2.2.2.2.2.2.2.2.2.2.2.2.2.2.2.2.2.2.2.1, v.2.2.2.2.2.2.2.2.2.2.2.2.2.2.2.2.2.2.2.2.2.2.1, v.2.2.2.2.2.2.2.2.2.2.2.2.2.2.2.2.2.2.2.2.2.2.2.1, v.2.2.2.2.2.2.2.2.2.2.2.2.2.2.2.2.2.2.2.2.2.2.2.2.1, v.2.2.2.2.2.2.2.2.2.2.2.2.2.2.2.2.2.2.2.2.2.2.2.2.2.1, v.2.2.2.2.2.2.2.2.2.2.2.2.2.2.2.2.2.2.2.2.2.2.2.2.2.2, rf1) ∧ fMo_shows jk jq al mr g V0 E0 Q0 G0 H0 l0 s0 = some (ans, mr1, g1, V1, E1, Q1, G1, H1, l1, s1) ∧ CI al v ∧ RF rf1 mr1 := by
  have on := o.n
  obtain ⟨ik, lk, uk, rfl⟩ := iz_of jk
  obtain ⟨iq, lq, uq, rfl⟩ := iz_of jq
  have p := pic_b h o (k := ik) (by omega)
  have pe := wi0_3 (z := iq) (by omega)
  by_cases q : 0 ≤ ik ∧ ik < NN al
  · rw [bi10 q] at p
    obtain ⟨p1, p2⟩ := p
    by_cases qe : 0 ≤ iq ∧ iq ≤ 3
    · rw [bi10 qe] at pe
      obtain ⟨e1, e2⟩ := pe
      have cn := Cn_i h o
      obtain ⟨v, e, v1, v2⟩ := refresh_s h o hu
      obtain ⟨g1, V1, E1, Q1, G1, H1, k1, k2, kV, kG, kH⟩ := lays_s h o g V0 E0 Q0 G0 H0
      have i1 : 0 ≤ (iz ik).toInt ∧ (iz ik).toInt < 6 := by rw [iz_t (by omega) (by omega)]; omega
      have i3 : (iz ik).toNatClampNeg = ik.toNat := iz_c (by omega) (by omega)
      have hG : G1 ik.toNat = iz (fC al ik) := by rw [← kG]; exact fw_i G1 (by omega)
      have hH : H1 ik.toNat = iz (gC al ik) := by rw [← kH]; exact fw_i H1 (by omega)
      have ff := sCh_followerOf v.2.2.2.2.2.2.2.2.2.2.1 (x := ik) (by omega)
      rw [v2.2.2.1.1] at ff
      have fa := sCh_aheadOf v.2.2.2.2.2.2.2.2.2.2.2.1 (x := ik) (by omega)
      rw [v2.2.2.1.2.1] at fa
      have hfr := cn.fr ik
      have hgr := cn.gr ik
      have hq0 : (iz iq = (0 : Int32)) = (iq = 0) := by rw [iz_l0]; exact propext (iz_eq (by omega) (by omega) (by omega) (by omega))
      have hq1 : (iz iq = (1 : Int32)) = (iq = 1) := by rw [iz_n]; exact propext (iz_eq (by omega) (by omega) (by omega) (by omega))
      have hq2 : (iz iq = (2 : Int32)) = (iq = 2) := by rw [iz_n]; exact propext (iz_eq (by omega) (by omega) (by omega) (by omega))
      have hfm := m1e (z := fC al ik) (by omega)
      have j1 : 0 ≤ (iz iq).toInt ∧ (iz iq).toInt < 4 := by rw [iz_t (by omega) (by omega)]; omega
      have j3 : (iz iq).toNatClampNeg = iq.toNat := iz_c (by omega) (by omega)
      have hga := m1e (z := gC al ik) (by omega)
      have m1 : (-1 : Int32) = iz (-1) := by rw [iz_n, iz_neg]
      have FRr : 0 ≤ FR al ik iq ∧ FR al ik iq ≤ 8 := by
        unfold FR
        by_cases c1 : gC al ik = -1
        · rw [if_pos c1]; omega
        · rw [if_neg c1]
          have hp : 0 ≤ fC al (gC al ik) := by
            have := (cn.gi.2.2.1 (gC al ik) ik (by omega) (by omega)).mpr rfl
            omega
          have hs := SC_r h o cn hp (iq + eo al (fC al) (gC al ik))
          have hef := Cn.ef h o cn hp
          by_cases c2 : SC al (gC al ik) (iq + eo al (fC al) (gC al ik)) = -1
          · rw [if_pos c2]; omega
          · rw [if_neg c2]
            have h3 := hs.2.2.2 (by
              by_cases q3 : 0 ≤ iq + eo al (fC al) (gC al ik) ∧ iq + eo al (fC al) (gC al ik) ≤ 3 ∧ 0 ≤ iq + eo al (fC al) (gC al ik) - eo al (fC al) (gC al ik) ∧ iq + eo al (fC al) (gC al ik) - eo al (fC al) (gC al ik) ≤ 3
              · exact q3
              · exact absurd (hs.1.mpr q3) c2)
            omega
      have TOr : 0 ≤ TO al ik iq ∧ TO al ik iq ≤ 8 := by
        unfold TO
        by_cases c1 : fC al ik = -1
        · rw [if_pos c1]; omega
        · rw [if_neg c1]
          have hs := SC_r h o cn (x := ik) (by omega) iq
          by_cases c2 : SC al ik iq = -1
          · rw [if_pos c2]; omega
          · rw [if_neg c2]; omega
      have hlast : fRi_lastShown (iz ik) (iz iq) v.2.2.2.2.2.2.2.2.2.2.2.2.2.2.2.2.2.2.2.2.1 = some (iz (TO al ik iq - 1)) := by
        have hat := sSe_columnAt (K := v.2.2.2.2.2.2.2.2.2.2.2.2.2.2.2.2.2.2.2.2.1) (x := ik) (r := iq) (by omega) (by omega)
        have hco := (v2.2.2.2.2.2.1 ik (by omega)).2 iq qe
        rw [if_pos qe, hco] at hat
        by_cases c1 : fC al ik = -1
        · rw [if_neg (show ¬ 0 ≤ fC al ik by omega)] at hat
          unfold fRi_lastShown TO
          rw [hat]
          simp only [Option.bind_some]
          rw [if_pos c1, m1, if_pos rfl, show (7 : Int32) = iz 7 from iz_n 7]
          exact congrArg some (iz_inj (by omega))
        · rw [if_pos (show 0 ≤ fC al ik by omega)] at hat
          have hs := SC_r h o cn (x := ik) (by omega) iq
          have nm := m1e (z := SC al ik iq) (by omega)
          by_cases c2 : SC al ik iq = -1
          · rw [c2] at hat
            unfold fRi_lastShown TO
            rw [hat]
            simp only [Option.bind_some]
            rw [if_neg c1, if_pos c2, m1, if_pos rfl, show (7 : Int32) = iz 7 from iz_n 7]
            exact congrArg some (iz_inj (by omega))
          · unfold fRi_lastShown TO
            rw [hat]
            simp only [Option.bind_some]
            rw [if_neg c1, if_neg c2, if_neg (fun z => c2 (nm.mp z)), iz_n, iz_sub]
      have hfirst : fRi_firstShown (iz ik) (iz iq) v.2.2.2.2.2.2.2.2.2.2.2.1 v.2.2.2.2.2.2.2.2.2.2.2.2.1 v.2.2.2.2.2.2.2.2.2.2.2.2.2.1 v.2.2.2.2.2.2.2.2.2.2.2.2.2.2.2.2.2.2.2.2.1 = some (iz (FR al ik iq)) := by
        unfold fRi_firstShown FR
        rw [fa]
        simp only [Option.bind_some]
        by_cases c1 : gC al ik = -1
        · rw [if_pos c1, c1, m1, if_pos rfl, iz_n]
        · rw [if_neg c1, if_neg (fun z => c1 (hga.mp z))]
          have hp : 0 ≤ fC al (gC al ik) := by
            have := (cn.gi.2.2.1 (gC al ik) ik (by omega) (by omega)).mpr rfl
            omega
          have hs := SC_r h o cn hp (iq + eo al (fC al) (gC al ik))
          have hef := Cn.ef h o cn hp
          obtain ⟨sh1, sh2⟩ := sCh_shift (al := al) (F := v.2.2.2.2.2.2.2.2.2.2.1) (LE := v.2.2.2.2.2.2.2.2.2.2.2.2.1) (LF := v.2.2.2.2.2.2.2.2.2.2.2.2.2.1) ⟨v2.2.2.1.1, v2.2.2.1.2.2.1⟩ (x := gC al ik) (by omega) hp
          rw [sh1]
          simp only [Option.bind_some]
          rw [iz_add, sSe_columnAt (by omega) (by omega)]
          simp only [Option.bind_some]
          have hco := fun z => (v2.2.2.2.2.2.1 (gC al ik) (by omega)).2 (iq + eo al (fC al) (gC al ik)) z
          have nm := m1e (z := SC al (gC al ik) (iq + eo al (fC al) (gC al ik))) (by omega)
          by_cases c3 : 0 ≤ iq + eo al (fC al) (gC al ik) ∧ iq + eo al (fC al) (gC al ik) ≤ 3
          · rw [if_pos c3, hco c3, if_pos hp]
            by_cases c2 : SC al (gC al ik) (iq + eo al (fC al) (gC al ik)) = -1
            · rw [if_pos c2, c2, m1, if_pos rfl, iz_n]
            · rw [if_neg c2, if_neg (fun z => c2 (nm.mp z)), sh2]
              simp only [Option.bind_some]
              rw [iz_sub]
          · have c2 : SC al (gC al ik) (iq + eo al (fC al) (gC al ik)) = -1 := hs.1.mpr (by omega)
            rw [if_neg c3, if_pos c2, m1, if_pos rfl, iz_n]
      have hmax : (if iz (FR al ik iq) < (0 : Int32) then (0 : Int32) else iz (FR al ik iq)) = iz (FR al ik iq) := if_neg (by rw [iz_n, iz_lt (by omega) (by omega) (by omega) (by omega)]; omega)
      obtain ⟨z, b1, b2⟩ := bits_s TOr 8 (FR al ik iq) FU FU (0 : Int32) FRr (by omega) (by show _ < 5000; omega) (by show _ < 5000; omega)
      have mf : ∃ l1 s1, ((if iz (gC al ik) = (-1 : Int32) then some ((0 : Int32), l0, s0)
          else (fMo_eOf (iz (gC al ik)) E1 G1).bind fun u11 => (fMo_hasRow (iz (gC al ik)) (iz iq + u11) E1 G1).bind fun u12 => if u12 = 0 then some ((0 : Int32), l0, s0)
            else (fMo_laysSeam (iz (gC al ik)) al E1 Q1 G1 l0 s0).bind fun u14 => (fMo_eOf (iz (gC al ik)) E1 G1).bind fun u15 =>
              if 0 ≤ (iz iq + u15).toInt ∧ (iz iq + u15).toInt < 4 then (fMo_fOf (iz (gC al ik)) Q1 G1).bind fun u17 => some ((u14.2 (iz iq + u15).toNatClampNeg) - u17, u14.1, u14.2) else none : Option (Int32 × (Nat → Int32) × (Nat → Int32)))) = some (iz (FR al ik iq), l1, s1) := by
        unfold FR
        by_cases c1 : gC al ik = -1
        · refine ⟨l0, s0, ?_⟩
          rw [if_pos c1, c1, m1, if_pos rfl, iz_n]
        · rw [if_neg c1, if_neg (fun z => c1 (hga.mp z))]
          have hp : 0 ≤ fC al (gC al ik) := by
            have := (cn.gi.2.2.1 (gC al ik) ik (by omega) (by omega)).mpr rfl
            omega
          have hs := SC_r h o cn hp (iq + eo al (fC al) (gC al ik))
          have hef := Cn.ef h o cn hp
          obtain ⟨eo1, eo2, eo3⟩ := sMo_eOf h o cn kV kG hp
          have hro := sMo_hasRow h o cn kV kG (r := iq + eo al (fC al) (gC al ik)) hp (by omega)
          rw [eo1, eo2]
          simp only [Option.bind_some]
          rw [iz_add, hro]
          simp only [Option.bind_some]
          by_cases c3 : 0 ≤ iq + eo al (fC al) (gC al ik) ∧ iq + eo al (fC al) (gC al ik) ≤ 3 ∧ 0 ≤ iq + eo al (fC al) (gC al ik) - eo al (fC al) (gC al ik) ∧ iq + eo al (fC al) (gC al ik) - eo al (fC al) (gC al ik) ≤ 3
          · obtain ⟨l1, s1, hls, hsv⟩ := sMo_laysSeam h o cn kV kG hp l0 s0
            have j4 : 0 ≤ (iz (iq + eo al (fC al) (gC al ik))).toInt ∧ (iz (iq + eo al (fC al) (gC al ik))).toInt < 4 := by rw [iz_t (by omega) (by omega)]; omega
            have j5 : (iz (iq + eo al (fC al) (gC al ik))).toNatClampNeg = (iq + eo al (fC al) (gC al ik)).toNat := iz_c (by omega) (by omega)
            have hsq := hsv (iq + eo al (fC al) (gC al ik)).toNat (by omega)
            rw [show (((iq + eo al (fC al) (gC al ik)).toNat : Nat) : Int) = iq + eo al (fC al) (gC al ik) by omega] at hsq
            refine ⟨l1, s1, ?_⟩
            rw [bi10 c3, if_neg (by rw [iz_l0]; exact iz01), hls]
            simp only [Option.bind_some]
            rw [if_pos j4, j5, hsq, iz_sub, if_neg (fun z => hs.1.mp z c3)]
          · refine ⟨l0, s0, ?_⟩
            rw [bi11 c3, if_pos iz_l0.symm, if_pos (hs.1.mpr c3), iz_n]
      obtain ⟨l1, s1, mf⟩ := mf
      have mt : ∃ l2 s2, ((if iz (fC al ik) = (-1 : Int32) then some ((8 : Int32), l1, s1)
          else (fMo_hasRow (iz ik) (iz iq) E1 G1).bind fun u22 => if u22 = 0 then some ((8 : Int32), l1, s1)
            else (fMo_laysSeam (iz ik) al E1 Q1 G1 l1 s1).bind fun u24 => if 0 ≤ (iz iq).toInt ∧ (iz iq).toInt < 4 then some ((u24.2 (iz iq).toNatClampNeg), u24.1, u24.2) else none : Option (Int32 × (Nat → Int32) × (Nat → Int32)))) = some (iz (TO al ik iq), l2, s2) := by
        unfold TO
        by_cases c1 : fC al ik = -1
        · refine ⟨l1, s1, ?_⟩
          rw [if_pos c1, c1, m1, if_pos rfl, iz_n]
        · rw [if_neg c1, if_neg (fun z => c1 (hfm.mp z))]
          have hp : 0 ≤ fC al ik := by omega
          have hs := SC_r h o cn hp iq
          have hro := sMo_hasRow h o cn kV kG (r := iq) hp (by omega)
          rw [hro]
          simp only [Option.bind_some]
          by_cases c3 : 0 ≤ iq ∧ iq ≤ 3 ∧ 0 ≤ iq - eo al (fC al) ik ∧ iq - eo al (fC al) ik ≤ 3
          · obtain ⟨l2, s2, hls, hsv⟩ := sMo_laysSeam h o cn kV kG hp l1 s1
            have hsq := hsv iq.toNat (by omega)
            rw [show ((iq.toNat : Nat) : Int) = iq by omega] at hsq
            refine ⟨l2, s2, ?_⟩
            rw [bi10 c3, if_neg (by rw [iz_l0]; exact iz01), hls]
            simp only [Option.bind_some]
            rw [if_pos j1, j3, hsq, if_neg (fun z => hs.1.mp z c3)]
          · refine ⟨l1, s1, ?_⟩
            rw [bi11 c3, if_pos iz_l0.symm, if_pos (hs.1.mpr c3), iz_n]
      obtain ⟨l2, s2, mt⟩ := mt
      refine ⟨z, v, rf, mr, g1, V1, E1, Q1, G1, H1, l2, s2, ?_, ?_, CI_of v1 v2, hR⟩
      · unfold fRi_shows
        rw [p1]
        simp only [Option.bind_some, c1e, if_false]
        rw [e1]
        simp only [Option.bind_some, c1e, if_false]
        rw [e]
        simp only [Option.bind_some]
        rw [hlast, hfirst]
        simp only [Option.bind_some]
        rw [hmax, b1]
        rfl
      · unfold fMo_shows
        rw [p2]
        simp only [Option.bind_some, c1e, if_false]
        rw [e2]
        simp only [Option.bind_some, c1e, if_false]
        rw [k1]
        simp only [Option.bind_some]
        rw [if_pos i1, i3, hH]
        rw [mf]
        simp only [Option.bind_some]
        rw [if_pos i1, hG, mt]
        simp only [Option.bind_some]
        rw [b2]
        rfl
    · rw [bi11 qe] at pe
      obtain ⟨e1, e2⟩ := pe
      refine ⟨iz (-2), u, ref rf (-2), ref mr (-2), g, V0, E0, Q0, G0, H0, l0, s0, ?_, ?_, hu, RF_ref hR (by omega)⟩
      · unfold fRi_shows
        simp only [p1, p2, e1, e2, rfC2, Option.bind_some, c1e, c0e, if_true, if_false]
      · unfold fMo_shows
        simp only [p1, p2, e1, e2, rfM2, Option.bind_some, c1e, c0e, if_true, if_false]
  · rw [bi11 q] at p
    obtain ⟨p1, p2⟩ := p
    refine ⟨iz (-2), u, ref rf (-2), ref mr (-2), g, V0, E0, Q0, G0, H0, l0, s0, ?_, ?_, hu, RF_ref hR (by omega)⟩
    · unfold fRi_shows
      simp only [p1, p2, rfC2, Option.bind_some, c1e, c0e, if_true, if_false]
    · unfold fMo_shows
      simp only [p1, p2, rfM2, Option.bind_some, c1e, c0e, if_true, if_false]
