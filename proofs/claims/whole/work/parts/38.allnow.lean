/-! what all asks -/
def fs (g : Int → Int) (x : Int) : Int := if g x = -1 then 1 else 0
theorem fs_co (g : Int → Int) : ∀ k : Nat, SU (fs g) k + SU (co g) k = k := by
  intro k
  induction k with
  | zero => rfl
  | succ k ih =>
    have h1 : SU (fs g) (k + 1) = SU (fs g) k + fs g k := rfl
    have h2 : SU (co g) (k + 1) = SU (co g) k + co g k := rfl
    have h3 : fs g k + co g k = 1 := by unfold fs co; split <;> omega
    omega
theorem gco_hi {al : Nat → Int32} (c : Cn al) {x : Int} (h : NN al ≤ x) : co (gC al) x = 0 := by
  unfold co; rw [if_pos (c.1.1 x (by omega)).2]
theorem fs_N {al : Nat → Int32} (on : 0 ≤ NN al ∧ NN al ≤ 6) (c : Cn al) : SU (fs (gC al)) (NN al).toNat = NN al - tk al := by
  have h1 := fs_co (gC al) (NN al).toNat
  rw [SU_S6 on (fun x hx => gco_hi c hx), c.2.2] at h1
  have : tk al = S6 (co (fC al)) := rfl
  omega
theorem sMo_allL {al : Nat → Int32} {w n t a : Int32} {dots cells sx sy sp : Nat → Int32} (hR : RS al w n t a dots cells sx sy sp) (o : OkA al) (c : Cn al) {V E' Q' G H : Nat → Int32} (hV : LMb al V E' Q') (hG : fw G = fC al) (hH : fw H = gC al) : ∀ (d k m : Nat), (k : Int) + d = NN al → d < m →
    fMo_allNow_L7 al E' Q' G H m (iz (SU (rt al (fC al)) k)) (iz (SU (fs (gC al)) k)) (iz k) = some (iz (SU (rt al (fC al)) (NN al).toNat), iz (SU (fs (gC al)) (NN al).toNat)) := by
  have on := o.n
  intro d
  induction d with
  | zero =>
    intro k m hk hm
    obtain ⟨m, rfl⟩ : ∃ q, m = q + 1 := ⟨m - 1, by omega⟩
    have g6 : iz (NN al) ≤ iz k := by simp (disch := omega) only [iz_n, iz_neg, iz_add, iz_sub, iz_mul, iz_lt, iz_le, iz_eq, iz_t, iz_c]; omega
    unfold fMo_allNow_L7
    rw [sMo_many]
    simp only [Option.bind_some]
    rw [if_pos g6, show k = (NN al).toNat by omega]
  | succ d ih =>
    intro k m hk hm
    obtain ⟨m, rfl⟩ : ∃ q, m = q + 1 := ⟨m - 1, by omega⟩
    have g6 : ¬ iz (NN al) ≤ iz k := by simp (disch := omega) only [iz_n, iz_neg, iz_add, iz_sub, iz_mul, iz_lt, iz_le, iz_eq, iz_t, iz_c]; omega
    have e1 : iz (k : Int) + (1 : Int32) = iz ((k + 1 : Nat) : Int) := by rw [iz_n, iz_add]; exact iz_inj (by omega)
    have i1 : 0 ≤ (iz (k : Int)).toInt ∧ (iz (k : Int)).toInt < 6 := by rw [iz_t (by omega) (by omega)]; omega
    have i3 : (iz (k : Int)).toNatClampNeg = (k : Int).toNat := iz_c (by omega) (by omega)
    have hg : G (k : Int).toNat = iz (fC al k) := by rw [← hG]; exact fw_i G (by omega)
    have hh : H (k : Int).toNat = iz (gC al k) := by rw [← hH]; exact fw_i H (by omega)
    have hf := c.fr k
    have hgr := c.gr k
    have e4 : (iz (fC al k) = (-1 : Int32)) ↔ fC al k = -1 := by rw [iz_n, iz_neg]; exact iz_eq (by omega) (by omega) (by omega) (by omega)
    have e5 : (iz (gC al k) = (-1 : Int32)) ↔ gC al k = -1 := by rw [iz_n, iz_neg]; exact iz_eq (by omega) (by omega) (by omega) (by omega)
    have st1 : SU (rt al (fC al)) (k + 1) = SU (rt al (fC al)) k + rt al (fC al) k := rfl
    have st2 : SU (fs (gC al)) (k + 1) = SU (fs (gC al)) k + fs (gC al) k := rfl
    have ih' := ih (k + 1) m (by omega) (by omega)
    rw [st1, st2] at ih'
    have hr : (if G (k : Int).toNat = (-1 : Int32) then some (0 : Int32) else (fMo_isRight (iz k) al E' Q' G).bind fun u7 => if u7 = 0 then some (0 : Int32) else some (1 : Int32)) = some (iz (rt al (fC al) k)) := by
      rw [hg]
      by_cases q : fC al k = -1
      · rw [if_pos (e4.mpr q)]
        unfold rt
        rw [if_pos q, iz_l0]
      · obtain ⟨u, u1, u2⟩ := sMo_isRight hR o c hV hG (x := k) (by omega)
        rw [if_neg (fun z => q (e4.mp z)), u1]
        simp only [Option.bind_some]
        unfold rt
        rw [if_neg q]
        by_cases q2 : u = 0
        · rw [if_pos q2, if_neg (u2.mp (by rw [q2]; exact iz_l0)), iz_l0]
        · have : RTr al k (fC al k) (LK al k (fC al k)).2.1 (LK al k (fC al k)).2.2 := by
            by_cases q3 : RTr al k (fC al k) (LK al k (fC al k)).2.1 (LK al k (fC al k)).2.2
            · exact q3
            · exact absurd ((u2.mpr q3).trans iz_l0.symm) q2
          rw [if_neg q2, if_pos this, iz_n]
    unfold fMo_allNow_L7
    rw [sMo_many]
    simp only [Option.bind_some]
    rw [if_neg g6, if_pos i1, i3, hr, e1]
    simp only [Option.bind_some, if_pos i1, hh]
    rw [iz_add]
    by_cases q : gC al k = -1
    · rw [if_pos (e5.mpr q), iz_n, iz_add]
      have : fs (gC al) k = 1 := by unfold fs; rw [if_pos q]
      rw [this] at ih'
      exact ih'
    · rw [if_neg (fun z => q (e5.mp z)), iz_l0, iz_add]
      have : fs (gC al) k = 0 := by unfold fs; rw [if_neg q]
      rw [this] at ih'
      exact ih'
/-- what all answers -/
noncomputable def AL (al : Nat → Int32) (q : Int) : Int :=
  if q = 0 then tk al else if q = 1 then @ite Int (Cl al) (Classical.propDecidable _) 1 0 else if q = 2 then S6 (fo al (fC al)) else if q = 3 then S6 (eo al (fC al)) + 6 else if q = 4 then S6 (rt al (fC al)) else NN al - tk al
theorem sMo_allNow {al : Nat → Int32} {w n t a : Int32} {dots cells sx sy sp : Nat → Int32} (hR : RS al w n t a dots cells sx sy sp) (o : OkA al) (c : Cn al) {V E' Q' G H : Nat → Int32} (hV : LMb al V E' Q') (hG : fw G = fC al) (hH : fw H = gC al) {q : Int} (hq : 0 ≤ q ∧ q ≤ 5) : fMo_allNow (iz q) al E' Q' G H = some (iz (AL al q)) := by
  have on := o.n
  have h1 := sMo_allL hR o c hV hG hH (NN al).toNat 0 FU (by omega) (by show _ < 5000; omega)
  rw [SU_S6 on (fun x hx => rt_hi c hx), fs_N on c, show SU (rt al (fC al)) 0 = 0 from rfl, show SU (fs (gC al)) 0 = 0 from rfl, show ((0 : Nat) : Int) = 0 from rfl, ← iz_l0] at h1
  obtain ⟨s1, s2⟩ := sMo_sumOf hR o c hV hG
  obtain ⟨u, u1, u2, u3⟩ := sMo_isClosed o c hG
  have n0 : (iz q = (0 : Int32)) ↔ q = 0 := by rw [iz_l0]; exact iz_eq (by omega) (by omega) (by omega) (by omega)
  have n1 : (iz q = (1 : Int32)) ↔ q = 1 := by rw [iz_n]; exact iz_eq (by omega) (by omega) (by omega) (by omega)
  have n2 : (iz q = (2 : Int32)) ↔ q = 2 := by rw [iz_n]; exact iz_eq (by omega) (by omega) (by omega) (by omega)
  have n3 : (iz q = (3 : Int32)) ↔ q = 3 := by rw [iz_n]; exact iz_eq (by omega) (by omega) (by omega) (by omega)
  have n4 : (iz q = (4 : Int32)) ↔ q = 4 := by rw [iz_n]; exact iz_eq (by omega) (by omega) (by omega) (by omega)
  unfold fMo_allNow AL
  rw [h1, sMo_taken o c hG, s1, s2, u1]
  simp only [Option.bind_some]
  by_cases q0 : q = 0
  · rw [if_pos (n0.mpr q0), if_pos q0]
  · rw [if_neg (fun z => q0 (n0.mp z)), if_neg q0]
    by_cases q1 : q = 1
    · rw [if_pos (n1.mpr q1), if_pos q1]
      by_cases cl : Cl al
      · have : ¬ u = 0 := fun z => (u3.mp (z.trans iz_l0)) cl
        rw [if_neg this, if_pos cl, iz_n]
      · have : u = 0 := (u3.mpr cl).trans iz_l0.symm
        rw [if_pos this, if_neg cl, iz_l0]
    · rw [if_neg (fun z => q1 (n1.mp z)), if_neg q1]
      by_cases q2 : q = 2
      · rw [if_pos (n2.mpr q2), if_pos q2]
      · rw [if_neg (fun z => q2 (n2.mp z)), if_neg q2]
        by_cases q3 : q = 3
        · rw [if_pos (n3.mpr q3), if_pos q3, iz_n, iz_add]
        · rw [if_neg (fun z => q3 (n3.mp z)), if_neg q3]
          by_cases q4 : q = 4
          · rw [if_pos (n4.mpr q4), if_pos q4]
          · rw [if_neg (fun z => q4 (n4.mp z)), if_neg q4]
