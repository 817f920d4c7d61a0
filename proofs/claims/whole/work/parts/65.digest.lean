/-! the digest -/
def DG (al : Nat → Int32) (k : Int) (h : Int64) : Nat → Int64
  | 0 => h
  | j + 1 => (31 : Int64) * DG al k h j + (iz (CE al k ((j : Int) / 8) ((j : Int) % 8))).toInt64
theorem dg_15 {al : Nat → Int32} {w n t a : Int32} {dots cells sx sy sp : Nat → Int32} (h : RS al w n t a dots cells sx sy sp) (o : OkA al) {k r : Int} (hk : 0 ≤ k ∧ k < NN al) (hr : 0 ≤ r ∧ r < 4) (z : Int64) : ∀ (d c m : Nat), c + d = 8 → d < m → fRi_digestPicture_L15 (iz k) (iz r) n cells m (DG al k z (8 * r.toNat + c)) (iz c) = some (DG al k z (8 * r.toNat + 8)) := by
  intro d
  induction d with
  | zero =>
    intro c m hc hm
    obtain ⟨m, rfl⟩ : ∃ q, m = q + 1 := ⟨m - 1, by omega⟩
    have n1 : (8 : Int32) ≤ iz c := by rw [iz_n, iz_le (by omega) (by omega) (by omega) (by omega)]; omega
    unfold fRi_digestPicture_L15
    rw [if_pos n1, show c = 8 by omega]
  | succ d ih =>
    intro c m hc hm
    obtain ⟨m, rfl⟩ : ∃ q, m = q + 1 := ⟨m - 1, by omega⟩
    have n1 : ¬ (8 : Int32) ≤ iz c := by rw [iz_n, iz_le (by omega) (by omega) (by omega) (by omega)]; omega
    have e1 : iz (c : Int) + (1 : Int32) = iz ((c + 1 : Nat) : Int) := by rw [iz_n, iz_add]; exact iz_inj (by omega)
    have hce := sSc_cellAt h (k := k) (r := r) (c := (c : Int)) o.n hk hr (by omega)
    have ih' := ih (c + 1) m (by omega) (by omega)
    have st : DG al k z (8 * r.toNat + (c + 1)) = (31 : Int64) * DG al k z (8 * r.toNat + c) + (iz (CE al k (((8 * r.toNat + c : Nat) : Int) / 8) (((8 * r.toNat + c : Nat) : Int) % 8))).toInt64 := rfl
    rw [show ((8 * r.toNat + c : Nat) : Int) / 8 = r by omega, show ((8 * r.toNat + c : Nat) : Int) % 8 = c by omega] at st
    rw [st] at ih'
    unfold fRi_digestPicture_L15
    rw [if_neg n1, hce]
    simp only [Option.bind_some]
    rw [e1]
    exact ih'
theorem dg_6 {al : Nat → Int32} {w n t a : Int32} {dots cells sx sy sp : Nat → Int32} (h : RS al w n t a dots cells sx sy sp) (o : OkA al) {k : Int} (hk : 0 ≤ k ∧ k < NN al) (z : Int64) : ∀ (d r m : Nat), r + d = 4 → d < m → fRi_digestPicture_L6 (iz k) n cells m (DG al k z (8 * r)) (iz r) = some (DG al k z 32) := by
  intro d
  induction d with
  | zero =>
    intro r m hr hm
    obtain ⟨m, rfl⟩ : ∃ q, m = q + 1 := ⟨m - 1, by omega⟩
    have n1 : (4 : Int32) ≤ iz r := by rw [iz_n, iz_le (by omega) (by omega) (by omega) (by omega)]; omega
    unfold fRi_digestPicture_L6
    rw [if_pos n1, show r = 4 by omega]
  | succ d ih =>
    intro r m hr hm
    obtain ⟨m, rfl⟩ : ∃ q, m = q + 1 := ⟨m - 1, by omega⟩
    have n1 : ¬ (4 : Int32) ≤ iz r := by rw [iz_n, iz_le (by omega) (by omega) (by omega) (by omega)]; omega
    have e1 : iz (r : Int) + (1 : Int32) = iz ((r + 1 : Nat) : Int) := by rw [iz_n, iz_add]; exact iz_inj (by omega)
    have h15 := dg_15 h o (k := k) (r := (r : Int)) hk (by omega) z 8 0 FU (by omega) (by show _ < 5000; omega)
    rw [show 8 * (r : Int).toNat + 0 = 8 * r by omega, show 8 * (r : Int).toNat + 8 = 8 * (r + 1) by omega, show iz ((0 : Nat) : Int) = (0 : Int32) from iz_l0.symm] at h15
    unfold fRi_digestPicture_L6
    rw [if_neg n1, h15]
    simp only [Option.bind_some]
    rw [e1]
    exact ih (r + 1) m (by omega) (by omega)
theorem dg_70 {al : Nat → Int32} {k : Int} (hk : 0 ≤ k ∧ k < 6) (z : Int64) : ∀ (d j m : Nat), j + d = 32 → d < m → fMo_digest_L70 (iz k) al m (DG al k z j) (iz j) = some (DG al k z 32) := by
  intro d
  induction d with
  | zero =>
    intro j m hj hm
    obtain ⟨m, rfl⟩ : ∃ q, m = q + 1 := ⟨m - 1, by omega⟩
    have n1 : (32 : Int32) ≤ iz j := by rw [iz_n, iz_le (by omega) (by omega) (by omega) (by omega)]; omega
    unfold fMo_digest_L70
    rw [if_pos n1, show j = 32 by omega]
  | succ d ih =>
    intro j m hj hm
    obtain ⟨m, rfl⟩ : ∃ q, m = q + 1 := ⟨m - 1, by omega⟩
    have n1 : ¬ (32 : Int32) ≤ iz j := by rw [iz_n, iz_le (by omega) (by omega) (by omega) (by omega)]; omega
    have n8 : ¬ (8 : Int32) = 0 := by decide
    have e1 : iz (j : Int) + (1 : Int32) = iz ((j + 1 : Nat) : Int) := by rw [iz_n, iz_add]; exact iz_inj (by omega)
    have e8 : iz (j : Int) / (8 : Int32) = iz ((j : Int) / 8) := by rw [show (8 : Int32) = iz 8 from iz_n 8, iz_div (by omega) (by omega)]
    have e9 : iz (j : Int) - iz ((j : Int) / 8) * (8 : Int32) = iz ((j : Int) % 8) := by rw [show (8 : Int32) = iz 8 from iz_n 8, iz_mul, iz_sub]; exact iz_inj (by omega)
    have hat := sMo_at (al := al) (k := k) (r := (j : Int) / 8) (c := (j : Int) % 8) hk (by omega) (by omega)
    have ih' := ih (j + 1) m (by omega) (by omega)
    rw [show DG al k z (j + 1) = (31 : Int64) * DG al k z j + (iz (CE al k ((j : Int) / 8) ((j : Int) % 8))).toInt64 from rfl] at ih'
    unfold fMo_digest_L70
    rw [if_neg n1, if_pos n8, if_pos n8, e8, e9, hat]
    simp only [Option.bind_some]
    rw [e1]
    exact ih'
theorem dg_pics {al : Nat → Int32} {w n t a : Int32} {dots cells sx sy sp : Nat → Int32} (h : RS al w n t a dots cells sx sy sp) (o : OkA al) (cn : Cn al) {g g1 F G : Nat → Int32} (hg : CF al g) (hg1 : CF al g1) (hF : fw F = fC al) (hG : fw G = fC al) : ∀ (d : Nat) (k : Int) (m m' : Nat) (z : Int64), k = NN al - d → 0 ≤ k → d < m → d < m' → ∃ y, fRi_digest_L61 n cells g F m z (iz k) = some y ∧ fMo_digest_L59 al g1 G m' z (iz k) = some y := by
  have on := o.n
  have en := h.iN
  intro d
  induction d with
  | zero =>
    intro k m m' z hk h0 hm hm'
    obtain ⟨m, rfl⟩ : ∃ q, m = q + 1 := ⟨m - 1, by omega⟩
    obtain ⟨m', rfl⟩ : ∃ q, m' = q + 1 := ⟨m' - 1, by omega⟩
    have n1 : iz (NN al) ≤ iz k := by rw [iz_le (by omega) (by omega) (by omega) (by omega)]; omega
    refine ⟨z, ?_, ?_⟩
    · unfold fRi_digest_L61
      rw [en, if_pos n1]
    · unfold fMo_digest_L59
      rw [sMo_many]
      simp only [Option.bind_some]
      rw [if_pos n1]
  | succ d ih =>
    intro k m m' z hk h0 hm hm'
    obtain ⟨m, rfl⟩ : ∃ q, m = q + 1 := ⟨m - 1, by omega⟩
    obtain ⟨m', rfl⟩ : ∃ q, m' = q + 1 := ⟨m' - 1, by omega⟩
    have n1 : ¬ iz (NN al) ≤ iz k := by rw [iz_le (by omega) (by omega) (by omega) (by omega)]; omega
    have e1 : iz k + (1 : Int32) = iz (k + 1) := iz_add k 1
    have i1 : 0 ≤ (iz k).toInt ∧ (iz k).toInt < 6 := by rw [iz_t (by omega) (by omega)]; omega
    have i3 : (iz k).toNatClampNeg = k.toNat := iz_c (by omega) (by omega)
    have w := (wi0_5 (z := k) (by omega)).1
    rw [bi10 (by omega)] at w
    have hc := hg k.toNat (by omega)
    have hc1 := hg1 k.toNat (by omega)
    have ff := sCh_followerOf F (x := k) (by omega)
    rw [hF] at ff
    have gg : G k.toNat = iz (fC al k) := by rw [← hG]; exact fw_i G (by omega)
    have h6 := dg_6 h o (k := k) (by omega) z 4 0 FU (by omega) (by show _ < 5000; omega)
    have h70 := dg_70 (al := al) (k := k) (by omega) z 32 0 FU (by omega) (by show _ < 5000; omega)
    rw [show DG al k z (8 * 0) = z from rfl, show iz ((0 : Nat) : Int) = (0 : Int32) from iz_l0.symm] at h6
    rw [show DG al k z 0 = z from rfl, show iz ((0 : Nat) : Int) = (0 : Int32) from iz_l0.symm] at h70
    obtain ⟨y, k1, k2⟩ := ih (k + 1) m m' ((31 : Int64) * ((31 : Int64) * DG al k z 32 + (CO al k.toNat).toInt64) + (iz (fC al k)).toInt64) (by omega) (by omega) (by omega) (by omega)
    refine ⟨y, ?_, ?_⟩
    · have hb : fLi_cornerBits (iz k) g = some (CO al k.toNat) := by
        unfold fLi_cornerBits
        simp only [w, if_pos i1, i3, hc, Option.bind_some, c1e, c0e, if_true, if_false]
      unfold fRi_digest_L61 fRi_digestPicture
      rw [en, if_neg n1, ← en, h6]
      simp only [Option.bind_some]
      rw [hb, ff]
      simp only [Option.bind_some]
      rw [e1]
      exact k1
    · unfold fMo_digest_L59
      rw [sMo_many]
      simp only [Option.bind_some]
      rw [if_neg n1, h70]
      simp only [Option.bind_some]
      rw [if_pos i1, if_pos i1, i3, hc1, gg, e1]
      exact k2
theorem dg_10 {al : Nat → Int32} {w n t a : Int32} {dots cells sx sy sp : Nat → Int32} (h : RS al w n t a dots cells sx sy sp) (o : OkA al) {rf mr : Nat → Int32} (hR : RF rf mr) (L s : Int) : ∀ (d : Nat) (k : Int) (m m' : Nat) (z : Int64), k = 9 - d → 0 ≤ k → d < m → d < m' → ∃ y, fRi_digest_L10 (iz L) w n t a (iz s) rf m z (iz k) = some y ∧ fMo_digest_L6 al (iz s) mr (iz L) m' z (iz k) = some y := by
  intro d
  induction d with
  | zero =>
    intro k m m' z hk h0 hm hm'
    obtain ⟨m, rfl⟩ : ∃ q, m = q + 1 := ⟨m - 1, by omega⟩
    obtain ⟨m', rfl⟩ : ∃ q, m' = q + 1 := ⟨m' - 1, by omega⟩
    have n1 : (8 : Int32) < iz k := by rw [iz_n, iz_lt (by omega) (by omega) (by omega) (by omega)]; omega
    have n2 : (9 : Int32) ≤ iz k := by rw [iz_n, iz_le (by omega) (by omega) (by omega) (by omega)]; omega
    refine ⟨z, ?_, ?_⟩
    · unfold fRi_digest_L10
      rw [if_pos n1]
    · unfold fMo_digest_L6
      rw [if_pos n2]
  | succ d ih =>
    intro k m m' z hk h0 hm hm'
    obtain ⟨m, rfl⟩ : ∃ q, m = q + 1 := ⟨m - 1, by omega⟩
    obtain ⟨m', rfl⟩ : ∃ q, m' = q + 1 := ⟨m' - 1, by omega⟩
    have n1 : ¬ (8 : Int32) < iz k := by rw [iz_n, iz_lt (by omega) (by omega) (by omega) (by omega)]; omega
    have n2 : ¬ (9 : Int32) ≤ iz k := by rw [iz_n, iz_le (by omega) (by omega) (by omega) (by omega)]; omega
    have e1 : iz k + (1 : Int32) = iz (k + 1) := iz_add k 1
    obtain ⟨t1, t2⟩ := told_s h o hR (L := L) (s := s) (q := k) (by omega)
    obtain ⟨y, k1, k2⟩ := ih (k + 1) m m' ((31 : Int64) * z + (TD al rf L s k).toInt64) (by omega) (by omega) (by omega) (by omega)
    refine ⟨y, ?_, ?_⟩
    · unfold fRi_digest_L10
      rw [if_neg n1, t1]
      simp only [Option.bind_some]
      rw [e1]
      exact k1
    · unfold fMo_digest_L6
      rw [if_neg n2, t2]
      simp only [Option.bind_some]
      rw [e1]
      exact k2
theorem dg_87 {al : Nat → Int32} {w n t a : Int32} {dots cells sx sy sp : Nat → Int32} (h : RS al w n t a dots cells sx sy sp) (o : OkA al) (cn : Cn al) {v : T27} (v2 : CA al v) {V E' Q' G H : Nat → Int32} (hV : LMb al V E' Q') (hG : fw G = fC al) (hH : fw H = gC al) : ∀ (d : Nat) (k : Int) (m m' : Nat) (z : Int64), k = 6 - d → 0 ≤ k → d < m → d < m' → ∃ y, fRi_digest_L87 n v.2.2.2.2.2.1 v.2.2.2.2.2.2.1 v.2.2.2.2.2.2.2.1 v.2.2.2.2.2.2.2.2.1 v.2.2.2.2.2.2.2.2.2.1 m z (iz k) = some y ∧ fMo_digest_L140 al E' Q' G H m' z (iz k) = some y := by
  intro d
  induction d with
  | zero =>
    intro k m m' z hk h0 hm hm'
    obtain ⟨m, rfl⟩ : ∃ q, m = q + 1 := ⟨m - 1, by omega⟩
    obtain ⟨m', rfl⟩ : ∃ q, m' = q + 1 := ⟨m' - 1, by omega⟩
    have n1 : (5 : Int32) < iz k := by rw [iz_n, iz_lt (by omega) (by omega) (by omega) (by omega)]; omega
    have n2 : (6 : Int32) ≤ iz k := by rw [iz_n, iz_le (by omega) (by omega) (by omega) (by omega)]; omega
    refine ⟨z, ?_, ?_⟩
    · unfold fRi_digest_L87
      rw [if_pos n1]
    · unfold fMo_digest_L140
      rw [if_pos n2]
  | succ d ih =>
    intro k m m' z hk h0 hm hm'
    obtain ⟨m, rfl⟩ : ∃ q, m = q + 1 := ⟨m - 1, by omega⟩
    obtain ⟨m', rfl⟩ : ∃ q, m' = q + 1 := ⟨m' - 1, by omega⟩
    have n1 : ¬ (5 : Int32) < iz k := by rw [iz_n, iz_lt (by omega) (by omega) (by omega) (by omega)]; omega
    have n2 : ¬ (6 : Int32) ≤ iz k := by rw [iz_n, iz_le (by omega) (by omega) (by omega) (by omega)]; omega
    have e1 : iz k + (1 : Int32) = iz (k + 1) := iz_add k 1
    have t1 := about_s h o v2 (q := k) (by omega)
    have t2 := sMo_allNow h o cn hV hG hH (q := k) (by omega)
    obtain ⟨y, k1, k2⟩ := ih (k + 1) m m' ((31 : Int64) * z + (iz (AL al k)).toInt64) (by omega) (by omega) (by omega) (by omega)
    refine ⟨y, ?_, ?_⟩
    · unfold fRi_digest_L87
      rw [if_neg n1, t1]
      simp only [Option.bind_some]
      rw [e1]
      exact k1
    · unfold fMo_digest_L140
      rw [if_neg n2, t2]
      simp only [Option.bind_some]
      rw [e1]
      exact k2
theorem c_digest {al : Nat → Int32} {w n t a : Int32} {dots cells sx sy sp : Nat → Int32} (h : RS al w n t a dots cells sx sy sp) (o : OkA al) {u : T27} (hu : CI al u) {rf mr : Nat → Int32} (hR : RF rf mr) (L s : Int) (ck co : Int32) (g V0 E0 Q0 G0 H0 : Nat → Int32) :
    ∃ (ans : Int64) (v : T27) (g1 V1 E1 Q1 G1 H1 : Nat → Int32), fRi_digest (iz L) ck co u.1 w n t a cells sx sy sp (iz s) u.2.1 u.2.2.1 u.2.2.2.1 u.2.2.2.2.1 u.2.2.2.2.2.1 u.2.2.2.2.2.2.1 u.2.2.2.2.2.2.2.1 u.2.2.2.2.2.2.2.2.1 u.2.2.2.2.2.2.2.2.2.1 u.2.2.2.2.2.2.2.2.2.2.1 u.2.2.2.2.2.2.2.2.2.2.2.1 u.2.2.2.2.2.2.2.2.2.2.2.2.1 u.2.2.2.2.2.2.2.2.2.2.2.2.2.1 u.2.2.2.2.2.2.2.2.2.2.2.2.2.2.1 u.2.2.2.2.2.2.2.2.2.2.2.2.2.2.2.1 u.2.2.2.2.2.2.2.2.2.2.2.2.2.2.2.2.1 u.2.2.2.2.2.2.2.2.2.2.2.2.2.2.2.2.2.1 u.2.2.2.2.2.2.2.2.2.2.2.2.2.2.2.2.2.2.1 u.2.2.2.2.2.2.2.2.2.2.2.2.2.2.2.2.2.2.2.1 u.2.2.2.2.2.2.2.2.2.2.2.2.2.2.2.2.2.2.2.2.1 u.2.2.2.2.2.2.2.2.2.2.2.2.2.2.2.2.2.2.2.2.2.1 u.2.2.2.2.2.2.2.2.2.2.2.2.2.2.2.2.2.2.2.2.2.2.1 u.2.2.2.2.2.2.2.2.2.2.2.2.2.2.2.2.2.2.2.2.2.2.2.1 u.2.2.2.2.2.2.2.2.2.2.2.2.2.2.2.2.2.2.2.2.2.2.2.2.1 u.2.2.2.2.2.2.2.2.2.2.2.2.2.2.2.2.2.2.2.2.2.2.2.2.2.1 u.2.2.2.2.2.2.2.2.2.2.2.2.2.2.2.2.2.2.2.2.2.2.2.2.2.2 rf = some (ans, v.1, v.2.1, v.2.2.1, v.2.2.2.1, v.2.2.2.2.1, v.2.2.2.2.2.1, v.2.2.2.2.2.2.1, v.2.2.2.2.2.2.2.1, v.2.2.2.2.2.2.2.2.1, v.2.2.2.2.2.2.2.2.2.1, v.2.2.2.2.2.2.2.2.2.2.1, v.2.2.2.2.2.2.2.2.2.2.2.1, v.2.2.2.2.2.2.2.2.2.2.2.2.1, v.2.2.2.2.2.2.2.2.2.2.2.2.2.1, v.2.2.2.2.2.2.2.2.2.2.2.2.2.2.1, v.2.2.2.2.2.2.2.2.2.2.2.2.2.2.2.1, v.2.2.2.2.2.2.2.2.2.2.2.2.2.2.2.2.1, v.2.2.2.2.2.2.2.2.2.2.2.2.2.2.2.2.2.1, v.2.2.2.2.2.2.2.2.2.2.2.2.2.2.2.2.2.2.1, v.2.2.2.2.2.2.2.2.2.2.2.2.2.2.2.2.2.2.2.1, v.2.2.2.2.2.2.2.2.2.2.2.2.2.2.2.2.2.2.2.2.1, v.2.2.2.2.2.2.2.2.2.2.2.2.2.2.2.2.2.2.2.2.2.1, v.2.2.2.2.2.2.2.2.2.2.2.2.2.2.2.2.2.2.2.2.2.2.1, v.2.2.2.2.2.2.2.2.2.2.2.2.2.2.2.2.2.2.2.2.2.2.2.1, v.2.2.2.2.2.2.2.2.2.2.2.2.2.2.2.2.2.2.2.2.2.2.2.2.1, v.2.2.2.2.2.2.2.2.2.2.2.2.2.2.2.2.2.2.2.2.2.2.2.2.2.1, v.2.2.2.2.2.2.2.2.2.2.2.2.2.2.2.2.2.2.2.2.2.2.2.2.2.2) ∧
      fMo_digest al (iz s) mr ck co g V0 E0 Q0 G0 H0 (iz L) = some (ans, g1, V1, E1, Q1, G1, H1) ∧ CI al v := by
  have on := o.n
  have cn := Cn_i h o
  obtain ⟨v, e, v1, v2⟩ := refresh_s h o hu
  obtain ⟨g1, V1, E1, Q1, G1, H1, k1, k2, kV, kG, kH⟩ := lays_s h o g V0 E0 Q0 G0 H0
  obtain ⟨y1, a1, a2⟩ := dg_10 h o hR L s 9 0 FU FU (2269 : Int64) (by omega) (by omega) (by show _ < 5000; omega) (by show _ < 5000; omega)
  obtain ⟨y2, b1, b2⟩ := dg_pics h o cn v2.1 k2 v2.2.2.1.1 kG (NN al).toNat 0 FU FU ((31 : Int64) * ((31 : Int64) * y1 + ck.toInt64) + co.toInt64) (by omega) (by omega) (by show _ < 5000; omega) (by show _ < 5000; omega)
  obtain ⟨y3, c1, c2⟩ := dg_87 h o cn v2 kV kG kH 6 0 FU FU y2 (by omega) (by omega) (by show _ < 5000; omega) (by show _ < 5000; omega)
  rw [← iz_l0] at a1 a2 b1 b2 c1 c2
  refine ⟨y3, v, g1, V1, E1, Q1, G1, H1, ?_, ?_, CI_of v1 v2⟩
  · unfold fRi_digest
    rw [e]
    simp only [Option.bind_some]
    rw [a1]
    simp only [Option.bind_some]
    rw [b1]
    simp only [Option.bind_some]
    rw [c1]
    rfl
  · unfold fMo_digest
    rw [a2]
    simp only [Option.bind_some]
    rw [k1]
    simp only [Option.bind_some]
    rw [b2]
    simp only [Option.bind_some]
    rw [c2]
    rfl
