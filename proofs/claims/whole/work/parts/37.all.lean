/-! what all links come to -/
theorem eo_hi {al : Nat → Int32} (c : Cn al) {x : Int} (h : NN al ≤ x) : eo al (fC al) x = 0 := by unfold eo; rw [if_pos (c.1.1 x (by omega)).1]
theorem fo_hi {al : Nat → Int32} (c : Cn al) {x : Int} (h : NN al ≤ x) : fo al (fC al) x = 0 := by unfold fo; rw [if_pos (c.1.1 x (by omega)).1]
theorem rt_hi {al : Nat → Int32} (c : Cn al) {x : Int} (h : NN al ≤ x) : rt al (fC al) x = 0 := by unfold rt; rw [if_pos (c.1.1 x (by omega)).1]
theorem eo_r {al : Nat → Int32} {w n t a : Int32} {dots cells sx sy sp : Nat → Int32} (hR : RS al w n t a dots cells sx sy sp) (o : OkA al) (c : Cn al) (x : Int) : -1 ≤ eo al (fC al) x ∧ eo al (fC al) x ≤ 1 := by
  by_cases q : 0 ≤ fC al x
  · have := Cn.ef hR o c q; omega
  · have := c.fr x
    unfold eo; rw [if_pos (by omega)]; omega
theorem fo_r {al : Nat → Int32} {w n t a : Int32} {dots cells sx sy sp : Nat → Int32} (hR : RS al w n t a dots cells sx sy sp) (o : OkA al) (c : Cn al) (x : Int) : 0 ≤ fo al (fC al) x ∧ fo al (fC al) x ≤ 5 := by
  by_cases q : 0 ≤ fC al x
  · have := Cn.ef hR o c q; omega
  · have := c.fr x
    unfold fo; rw [if_pos (by omega)]; omega
theorem sMo_sumF {al : Nat → Int32} {w n t a : Int32} {dots cells sx sy sp : Nat → Int32} (hR : RS al w n t a dots cells sx sy sp) (o : OkA al) (c : Cn al) {V E' Q' G : Nat → Int32} (hV : LMb al V E' Q') (hG : fw G = fC al) : ∀ (d k m : Nat), (k : Int) + d = NN al → d < m → fMo_sumOf_L4 (0 : Int32) al E' Q' G m (iz (SU (fo al (fC al)) k)) (iz k) = some (iz (SU (fo al (fC al)) (NN al).toNat)) := by
  have on := o.n
  intro d
  induction d with
  | zero =>
    intro k m hk hm
    obtain ⟨m, rfl⟩ : ∃ q, m = q + 1 := ⟨m - 1, by omega⟩
    have g6 : iz (NN al) ≤ iz k := by simp (disch := omega) only [iz_n, iz_neg, iz_add, iz_sub, iz_mul, iz_lt, iz_le, iz_eq, iz_t, iz_c]; omega
    unfold fMo_sumOf_L4
    rw [sMo_many]
    simp only [Option.bind_some]
    rw [if_pos g6, show k = (NN al).toNat by omega]
  | succ d ih =>
    intro k m hk hm
    obtain ⟨m, rfl⟩ : ∃ q, m = q + 1 := ⟨m - 1, by omega⟩
    have g6 : ¬ iz (NN al) ≤ iz k := by simp (disch := omega) only [iz_n, iz_neg, iz_add, iz_sub, iz_mul, iz_lt, iz_le, iz_eq, iz_t, iz_c]; omega
    have e1 : iz (k : Int) + (1 : Int32) = iz ((k + 1 : Nat) : Int) := by rw [iz_n, iz_add]; exact iz_inj (by omega)
    have i1 : 0 ≤ (iz (k : Int)).toInt ∧ (iz (k : Int)).toInt < 6 := by rw [iz_t (by omega) (by omega)]; omega
    have i3 : (iz (k : Int)).toNatClampNeg = (k : Int).toNat := iz_c (by omega) (by omega)
    have hg : G (k : Int).toNat = iz (fC al k) := by rw [← hG]; exact fw_i G (by omega)
    have hf := c.fr k
    have e4 : (iz (fC al k) = (-1 : Int32)) ↔ fC al k = -1 := by rw [iz_n, iz_neg]; exact iz_eq (by omega) (by omega) (by omega) (by omega)
    have st : SU (fo al (fC al)) (k + 1) = SU (fo al (fC al)) k + fo al (fC al) k := rfl
    have ih' := ih (k + 1) m (by omega) (by omega)
    rw [st] at ih'
    unfold fMo_sumOf_L4
    rw [sMo_many]
    simp only [Option.bind_some]
    rw [if_neg g6, if_pos i1, i3, hg, e1]
    by_cases q : fC al k = -1
    · have e0 : fo al (fC al) k = 0 := by unfold fo; rw [if_pos q]
      rw [if_pos (e4.mpr q), iz_n, iz_add]
      rw [e0] at ih'
      exact ih'
    · have hp : 0 ≤ fC al k := by omega
      rw [if_neg (fun z => q (e4.mp z)), if_pos trivial, (sMo_eOf hR o c hV hG hp).2.1]
      simp only [Option.bind_some, iz_add]
      exact ih'
theorem sMo_sumE {al : Nat → Int32} {w n t a : Int32} {dots cells sx sy sp : Nat → Int32} (hR : RS al w n t a dots cells sx sy sp) (o : OkA al) (c : Cn al) {V E' Q' G : Nat → Int32} (hV : LMb al V E' Q') (hG : fw G = fC al) : ∀ (d k m : Nat), (k : Int) + d = NN al → d < m → fMo_sumOf_L4 (1 : Int32) al E' Q' G m (iz (SU (eo al (fC al)) k)) (iz k) = some (iz (SU (eo al (fC al)) (NN al).toNat)) := by
  have on := o.n
  intro d
  induction d with
  | zero =>
    intro k m hk hm
    obtain ⟨m, rfl⟩ : ∃ q, m = q + 1 := ⟨m - 1, by omega⟩
    have g6 : iz (NN al) ≤ iz k := by simp (disch := omega) only [iz_n, iz_neg, iz_add, iz_sub, iz_mul, iz_lt, iz_le, iz_eq, iz_t, iz_c]; omega
    unfold fMo_sumOf_L4
    rw [sMo_many]
    simp only [Option.bind_some]
    rw [if_pos g6, show k = (NN al).toNat by omega]
  | succ d ih =>
    intro k m hk hm
    obtain ⟨m, rfl⟩ : ∃ q, m = q + 1 := ⟨m - 1, by omega⟩
    have g6 : ¬ iz (NN al) ≤ iz k := by simp (disch := omega) only [iz_n, iz_neg, iz_add, iz_sub, iz_mul, iz_lt, iz_le, iz_eq, iz_t, iz_c]; omega
    have e1 : iz (k : Int) + (1 : Int32) = iz ((k + 1 : Nat) : Int) := by rw [iz_n, iz_add]; exact iz_inj (by omega)
    have i1 : 0 ≤ (iz (k : Int)).toInt ∧ (iz (k : Int)).toInt < 6 := by rw [iz_t (by omega) (by omega)]; omega
    have i3 : (iz (k : Int)).toNatClampNeg = (k : Int).toNat := iz_c (by omega) (by omega)
    have hg : G (k : Int).toNat = iz (fC al k) := by rw [← hG]; exact fw_i G (by omega)
    have hf := c.fr k
    have e4 : (iz (fC al k) = (-1 : Int32)) ↔ fC al k = -1 := by rw [iz_n, iz_neg]; exact iz_eq (by omega) (by omega) (by omega) (by omega)
    have st : SU (eo al (fC al)) (k + 1) = SU (eo al (fC al)) k + eo al (fC al) k := rfl
    have ih' := ih (k + 1) m (by omega) (by omega)
    rw [st] at ih'
    unfold fMo_sumOf_L4
    rw [sMo_many]
    simp only [Option.bind_some]
    rw [if_neg g6, if_pos i1, i3, hg, e1]
    by_cases q : fC al k = -1
    · have e0 : eo al (fC al) k = 0 := by unfold eo; rw [if_pos q]
      rw [if_pos (e4.mpr q), iz_l0, iz_add]
      rw [e0] at ih'
      exact ih'
    · have hp : 0 ≤ fC al k := by omega
      rw [if_neg (fun z => q (e4.mp z)), if_neg (show ¬ (1 : Int32) = 0 by decide), (sMo_eOf hR o c hV hG hp).1]
      simp only [Option.bind_some, iz_add]
      exact ih'
theorem sMo_sumOf {al : Nat → Int32} {w n t a : Int32} {dots cells sx sy sp : Nat → Int32} (hR : RS al w n t a dots cells sx sy sp) (o : OkA al) (c : Cn al) {V E' Q' G : Nat → Int32} (hV : LMb al V E' Q') (hG : fw G = fC al) :
    fMo_sumOf (0 : Int32) al E' Q' G = some (iz (S6 (fo al (fC al)))) ∧ fMo_sumOf (1 : Int32) al E' Q' G = some (iz (S6 (eo al (fC al)))) := by
  have on := o.n
  have h1 := sMo_sumF hR o c hV hG (NN al).toNat 0 FU (by omega) (by show _ < 5000; omega)
  have h2 := sMo_sumE hR o c hV hG (NN al).toNat 0 FU (by omega) (by show _ < 5000; omega)
  rw [SU_S6 on (fun x hx => fo_hi c hx), show SU (fo al (fC al)) 0 = 0 from rfl, show ((0 : Nat) : Int) = 0 from rfl, ← iz_l0] at h1
  rw [SU_S6 on (fun x hx => eo_hi c hx), show SU (eo al (fC al)) 0 = 0 from rfl, show ((0 : Nat) : Int) = 0 from rfl, ← iz_l0] at h2
  unfold fMo_sumOf
  rw [h1, h2]
  exact ⟨rfl, rfl⟩
theorem sMo_isRight {al : Nat → Int32} {w n t a : Int32} {dots cells sx sy sp : Nat → Int32} (hR : RS al w n t a dots cells sx sy sp) (o : OkA al) (c : Cn al) {V E' Q' G : Nat → Int32} (hV : LMb al V E' Q') (hG : fw G = fC al) {x : Int} (hp : 0 ≤ fC al x) :
    ∃ u, fMo_isRight (iz x) al E' Q' G = some u ∧ (u = iz 0 ↔ ¬ RTr al x (fC al x) (LK al x (fC al x)).2.1 (LK al x (fC al x)).2.2) := by
  have on := o.n
  have hN := c.fN hp
  have hf := c.fr x
  obtain ⟨k1, k2, k3⟩ := sMo_eOf hR o c hV hG hp
  obtain ⟨p1, p2, p3, p4, p5, p6⟩ := Cn.ef hR o c hp
  have xa := o.sh hN
  have xb := o.sh (k := fC al x) (by omega)
  have i1 : 0 ≤ (iz x).toInt ∧ (iz x).toInt < 6 := by rw [iz_t (by omega) (by omega)]; omega
  have i3 : (iz x).toNatClampNeg = x.toNat := iz_c (by omega) (by omega)
  have s0 := sMo_shotOf (al := al) (k := x) (w := 0) (by omega) (by omega)
  have s1 := sMo_shotOf (al := al) (k := x) (w := 1) (by omega) (by omega)
  have s2 := sMo_shotOf (al := al) (k := x) (w := 2) (by omega) (by omega)
  have t0 := sMo_shotOf (al := al) (k := fC al x) (w := 0) (by omega) (by omega)
  have t1 := sMo_shotOf (al := al) (k := fC al x) (w := 1) (by omega) (by omega)
  have t2 := sMo_shotOf (al := al) (k := fC al x) (w := 2) (by omega) (by omega)
  have l0 : (0 : Int32) = iz 0 := iz_n 0
  have l1 : (1 : Int32) = iz 1 := iz_n 1
  have l2 : (2 : Int32) = iz 2 := iz_n 2
  have g2 : ¬ iz (SH al x 2) = iz 0 := by rw [iz_eq (by omega) (by omega) (by omega) (by omega)]; omega
  rw [← p1, ← p2]
  generalize eo al (fC al) x = e at *
  generalize fo al (fC al) x = f at *
  generalize fC al x = b at *
  have e1 : (iz (SH al x 2) = iz (SH al b 2)) ↔ SH al b 2 = SH al x 2 := by rw [iz_eq (by omega) (by omega) (by omega) (by omega)]; exact eq_comm
  have e2 : (iz (SH al x 1 + e) = iz (SH al b 1)) ↔ SH al b 1 = SH al x 1 + e := by rw [iz_eq (by omega) (by omega) (by omega) (by omega)]; exact eq_comm
  have hm := Int.emod_nonneg (SH al x 0 + f) (show SH al x 2 ≠ 0 by omega)
  have hm2 := Int.emod_lt_of_pos (SH al x 0 + f) (show 0 < SH al x 2 by omega)
  have e3 : (iz ((SH al x 0 + f) % SH al x 2) = iz (SH al b 0)) ↔ SH al b 0 = (SH al x 0 + f) % SH al x 2 := by rw [iz_eq (by omega) (by omega) (by omega) (by omega)]; exact eq_comm
  have e4 : iz (SH al x 0 + f) - iz (SH al x 0 + f) / iz (SH al x 2) * iz (SH al x 2) = iz ((SH al x 0 + f) % SH al x 2) := by
    rw [iz_div (by omega) (by omega), iz_mul, iz_sub]
    refine iz_inj ?_
    have := Int.mul_ediv_add_emod (SH al x 0 + f) (SH al x 2)
    rw [Int.mul_comm] at this
    omega
  unfold fMo_isRight RTr
  rw [if_pos i1, i3, k3, l2, s2, t2]
  simp only [Option.bind_some]
  by_cases c1 : SH al b 2 = SH al x 2
  · rw [if_pos (e1.mpr c1), l0, s0, t0, k2]
    simp only [Option.bind_some]
    rw [if_pos g2, iz_add, e4]
    by_cases c3 : SH al b 0 = (SH al x 0 + f) % SH al x 2
    · rw [if_pos (e3.mpr c3), l1, s1, t1, k1]
      simp only [Option.bind_some]
      rw [iz_add]
      by_cases c2 : SH al b 1 = SH al x 1 + e
      · rw [if_pos (e2.mpr c2)]
        exact ⟨_, rfl, ⟨fun q => absurd q iz01, fun q => absurd ⟨c1, c2, c3⟩ q⟩⟩
      · rw [if_neg (fun q => c2 (e2.mp q))]
        exact ⟨_, rfl, ⟨fun _ q => c2 q.2.1, fun _ => rfl⟩⟩
    · rw [if_neg (fun q => c3 (e3.mp q))]
      exact ⟨_, rfl, ⟨fun _ q => c3 q.2.2, fun _ => rfl⟩⟩
  · rw [if_neg (fun q => c1 (e1.mp q))]
    exact ⟨_, rfl, ⟨fun _ q => c1 q.1, fun _ => rfl⟩⟩
