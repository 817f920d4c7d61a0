/-! shares and what is left over once round -/
noncomputable def QQ (al : Nat → Int32) (x : Int) : Int := 5040 / NC al x
noncomputable def UU (al : Nat → Int32) (x : Int) : Int := OV al x (DF al x)
theorem QQ_r {al : Nat → Int32} {w n t a : Int32} {dots cells sx sy sp : Nat → Int32} (hR : RS al w n t a dots cells sx sy sp) (o : OkA al) (cn : Cn al) {x : Int} (hp : 0 ≤ fC al x) : 180 ≤ QQ al x ∧ QQ al x ≤ 560 := by
  have h := NC_r hR o cn hp
  unfold QQ
  rcases h with h | h | h | h | h | h | h | h | h <;> rw [h] <;> decide
theorem UU_r {al : Nat → Int32} {w n t a : Int32} {dots cells sx sy sp : Nat → Int32} (hR : RS al w n t a dots cells sx sy sp) (o : OkA al) (cn : Cn al) {x : Int} (hp : 0 ≤ fC al x) : -1764 ≤ UU al x ∧ UU al x ≤ 1764 := by
  obtain ⟨p1, p2, p3, p4, p5, p6⟩ := Cn.ef hR o cn hp
  have key := SU_r (f := fun r => ifr (eo al (fC al) x) r (CS (DF al x r) (fo al (fC al) x) (8 - fo al (fC al) x).toNat)) (l := -441) (u := 441) (fun r => by
    show -441 ≤ ifr (eo al (fC al) x) r (CS (DF al x r) (fo al (fC al) x) (8 - fo al (fC al) x).toNat) ∧ ifr (eo al (fC al) x) r (CS (DF al x r) (fo al (fC al) x) (8 - fo al (fC al) x).toNat) ≤ 441
    unfold ifr
    by_cases z : 0 ≤ r ∧ r ≤ 3 ∧ 0 ≤ r - eo al (fC al) x ∧ r - eo al (fC al) x ≤ 3
    · rw [if_pos z]
      have := CS_r (h := DF al x r) (f := fo al (fC al) x) (l := -63) (u := 63) (8 - fo al (fC al) x).toNat (fun j hj => DF_r hR o cn hp (by omega) (by omega) (by omega))
      omega
    · rw [if_neg z]; omega) 4
  unfold UU OV
  omega
theorem sLe_share {al : Nat → Int32} {w n t a : Int32} {dots cells sx sy sp : Nat → Int32} (hR : RS al w n t a dots cells sx sy sp) (o : OkA al) (cn : Cn al) {x : Int} (hp : 0 ≤ fC al x) : fLe_share (iz (NC al x)) = some (lz (QQ al x)) := by
  have h := NC_r hR o cn hp
  have hq := QQ_r hR o cn hp
  have n1 : ¬ iz (NC al x) ≤ 0 := by rw [show (0 : Int32) = iz 0 from iz_n 0, iz_le (by omega) (by omega) (by omega) (by omega)]; omega
  have n2 : ¬ iz (NC al x) = 0 := by rw [show (0 : Int32) = iz 0 from iz_n 0, iz_eq (by omega) (by omega) (by omega) (by omega)]; omega
  unfold fLe_share
  rw [if_neg n1, if_pos n2, show (5040 : Int32) = iz 5040 from iz_n 5040, iz_div (by omega) (by omega), show (5040 : Int) / NC al x = QQ al x from rfl, iz_64 (by omega) (by omega)]
theorem sLe_share_any (p : Int32) : ∃ v, fLe_share p = some v := by
  unfold fLe_share
  by_cases c : p ≤ 0
  · rw [if_pos c]; exact ⟨_, rfl⟩
  · have n : ¬ p = 0 := fun z => c (by rw [z]; exact Int32.le_refl 0)
    rw [if_neg c, if_pos n]; exact ⟨_, rfl⟩
theorem sMo_share {al : Nat → Int32} {w n t a : Int32} {dots cells sx sy sp : Nat → Int32} (hR : RS al w n t a dots cells sx sy sp) (o : OkA al) (cn : Cn al) {V E' Q' G : Nat → Int32} (hV : LMb al V E' Q') (hG : fw G = fC al) {x : Int} (hp : 0 ≤ fC al x) : fMo_share (iz x) E' Q' G = some (lz (QQ al x)) := by
  have h := NC_r hR o cn hp
  have hq := QQ_r hR o cn hp
  have n2 : ¬ iz (NC al x) = 0 := by rw [show (0 : Int32) = iz 0 from iz_n 0, iz_eq (by omega) (by omega) (by omega) (by omega)]; omega
  unfold fMo_share
  rw [sMo_cells hR o cn hV hG hp]
  simp only [Option.bind_some, if_pos n2]
  rw [show (5040 : Int32) = iz 5040 from iz_n 5040, iz_div (by omega) (by omega), show (5040 : Int) / NC al x = QQ al x from rfl, iz_64 (by omega) (by omega)]
noncomputable def QS (al : Nat → Int32) (x : Int) : Int := if fC al x = -1 then 0 else QQ al x
noncomputable def US (al : Nat → Int32) (x : Int) : Int := if fC al x = -1 then 0 else UU al x * QQ al x
theorem uq_r {u q : Int} (hu : -1764 ≤ u ∧ u ≤ 1764) (hq : 180 ≤ q ∧ q ≤ 560) : -987840 ≤ u * q ∧ u * q ≤ 987840 := by
  have h1 : 0 ≤ (1764 - u) * q := Int.mul_nonneg (by omega) (by omega)
  have h2 : 0 ≤ (u + 1764) * q := Int.mul_nonneg (by omega) (by omega)
  rw [Int.sub_mul] at h1
  rw [Int.add_mul] at h2
  omega
theorem QS_r {al : Nat → Int32} {w n t a : Int32} {dots cells sx sy sp : Nat → Int32} (hR : RS al w n t a dots cells sx sy sp) (o : OkA al) (cn : Cn al) (x : Int) : 0 ≤ QS al x ∧ QS al x ≤ 560 := by
  unfold QS
  by_cases z : fC al x = -1
  · rw [if_pos z]; omega
  · have := cn.fr x
    have := QQ_r hR o cn (x := x) (by omega)
    rw [if_neg z]; omega
theorem US_r {al : Nat → Int32} {w n t a : Int32} {dots cells sx sy sp : Nat → Int32} (hR : RS al w n t a dots cells sx sy sp) (o : OkA al) (cn : Cn al) (x : Int) : -987840 ≤ US al x ∧ US al x ≤ 987840 := by
  unfold US
  by_cases z : fC al x = -1
  · rw [if_pos z]; omega
  · have := cn.fr x
    have h1 := QQ_r hR o cn (x := x) (by omega)
    have h2 := UU_r hR o cn (x := x) (by omega)
    rw [if_neg z]; exact uq_r h2 h1
noncomputable def WW' (al : Nat → Int32) : Int := S6 (QS al)
noncomputable def DD' (al : Nat → Int32) : Int := S6 (US al)
theorem QS_hi {al : Nat → Int32} (c : Cn al) {x : Int} (h : NN al ≤ x) : QS al x = 0 := by unfold QS; rw [if_pos (c.1.1 x (by omega)).1]
theorem US_hi {al : Nat → Int32} (c : Cn al) {x : Int} (h : NN al ≤ x) : US al x = 0 := by unfold US; rw [if_pos (c.1.1 x (by omega)).1]
theorem sMo_sharesL {al : Nat → Int32} {w n t a : Int32} {dots cells sx sy sp : Nat → Int32} (hR : RS al w n t a dots cells sx sy sp) (o : OkA al) (cn : Cn al) (cl : Cl al) {V E' Q' G : Nat → Int32} (hV : LMb al V E' Q') (hG : fw G = fC al) :
    ∀ (d k m : Nat), (k : Int) + d = NN al → d < m → fMo_shares_L4 al E' Q' G m (lz (SU (QS al) k)) (iz k) = some (lz (SU (QS al) (NN al).toNat)) := by
  have on := o.n
  intro d
  induction d with
  | zero =>
    intro k m hk hm
    obtain ⟨m, rfl⟩ : ∃ q, m = q + 1 := ⟨m - 1, by omega⟩
    have g6 : iz (NN al) ≤ iz k := by simp (disch := omega) only [iz_n, iz_neg, iz_add, iz_sub, iz_mul, iz_lt, iz_le, iz_eq, iz_t, iz_c]; omega
    unfold fMo_shares_L4
    rw [sMo_many]
    simp only [Option.bind_some]
    rw [if_pos g6, show k = (NN al).toNat by omega]
  | succ d ih =>
    intro k m hk hm
    obtain ⟨m, rfl⟩ : ∃ q, m = q + 1 := ⟨m - 1, by omega⟩
    have g6 : ¬ iz (NN al) ≤ iz k := by simp (disch := omega) only [iz_n, iz_neg, iz_add, iz_sub, iz_mul, iz_lt, iz_le, iz_eq, iz_t, iz_c]; omega
    have e1 : iz (k : Int) + (1 : Int32) = iz ((k + 1 : Nat) : Int) := by rw [iz_n, iz_add]; exact iz_inj (by omega)
    have hf := cn.fr k
    have hn := Cl_all on cn cl k (by omega)
    have ih' := ih (k + 1) m (by omega) (by omega)
    rw [show SU (QS al) (k + 1) = SU (QS al) k + QS al k from rfl, show QS al k = QQ al k from if_neg hn] at ih'
    unfold fMo_shares_L4
    rw [sMo_many]
    simp only [Option.bind_some]
    rw [if_neg g6, sMo_share hR o cn hV hG (x := (k : Int)) (by omega)]
    simp only [Option.bind_some]
    rw [e1, lz_add]
    exact ih'
theorem sMo_shares {al : Nat → Int32} {w n t a : Int32} {dots cells sx sy sp : Nat → Int32} (hR : RS al w n t a dots cells sx sy sp) (o : OkA al) (cn : Cn al) (cl : Cl al) {V E' Q' G : Nat → Int32} (hV : LMb al V E' Q') (hG : fw G = fC al) : fMo_shares al E' Q' G = some (lz (WW' al)) := by
  have on := o.n
  have h := sMo_sharesL hR o cn cl hV hG (NN al).toNat 0 FU (by omega) (by show _ < 5000; omega)
  rw [SU_S6 on (fun x hx => QS_hi cn hx), show SU (QS al) 0 = 0 from rfl, show iz ((0 : Nat) : Int) = (0 : Int32) from iz_l0.symm, ← lz0] at h
  unfold fMo_shares
  rw [h]
  rfl
theorem sMo_leftL {al : Nat → Int32} {w n t a : Int32} {dots cells sx sy sp : Nat → Int32} (hR : RS al w n t a dots cells sx sy sp) (o : OkA al) (cn : Cn al) (cl : Cl al) {V E' Q' G : Nat → Int32} (hV : LMb al V E' Q') (hG : fw G = fC al) :
    ∀ (d k m : Nat), (k : Int) + d = NN al → d < m → fMo_leftOver_L4 al E' Q' G m (lz (SU (US al) k)) (iz k) = some (lz (SU (US al) (NN al).toNat)) := by
  have on := o.n
  intro d
  induction d with
  | zero =>
    intro k m hk hm
    obtain ⟨m, rfl⟩ : ∃ q, m = q + 1 := ⟨m - 1, by omega⟩
    have g6 : iz (NN al) ≤ iz k := by simp (disch := omega) only [iz_n, iz_neg, iz_add, iz_sub, iz_mul, iz_lt, iz_le, iz_eq, iz_t, iz_c]; omega
    unfold fMo_leftOver_L4
    rw [sMo_many]
    simp only [Option.bind_some]
    rw [if_pos g6, show k = (NN al).toNat by omega]
  | succ d ih =>
    intro k m hk hm
    obtain ⟨m, rfl⟩ : ∃ q, m = q + 1 := ⟨m - 1, by omega⟩
    have g6 : ¬ iz (NN al) ≤ iz k := by simp (disch := omega) only [iz_n, iz_neg, iz_add, iz_sub, iz_mul, iz_lt, iz_le, iz_eq, iz_t, iz_c]; omega
    have e1 : iz (k : Int) + (1 : Int32) = iz ((k + 1 : Nat) : Int) := by rw [iz_n, iz_add]; exact iz_inj (by omega)
    have hf := cn.fr k
    have hn := Cl_all on cn cl k (by omega)
    have hu := UU_r hR o cn (x := (k : Int)) (by omega)
    have ih' := ih (k + 1) m (by omega) (by omega)
    rw [show SU (US al) (k + 1) = SU (US al) k + US al k from rfl, show US al k = UU al k * QQ al k from if_neg hn] at ih'
    unfold fMo_leftOver_L4
    rw [sMo_many]
    simp only [Option.bind_some]
    rw [if_neg g6, (sMo_differences hR o cn hV hG (x := (k : Int)) (by omega)).2, sMo_share hR o cn hV hG (x := (k : Int)) (by omega)]
    simp only [Option.bind_some]
    rw [e1, show OV al (k : Int) (DF al k) = UU al k from rfl, iz_64 (by omega) (by omega), lz_mul, lz_add]
    exact ih'
theorem sMo_leftOver {al : Nat → Int32} {w n t a : Int32} {dots cells sx sy sp : Nat → Int32} (hR : RS al w n t a dots cells sx sy sp) (o : OkA al) (cn : Cn al) (cl : Cl al) {V E' Q' G : Nat → Int32} (hV : LMb al V E' Q') (hG : fw G = fC al) : fMo_leftOver al E' Q' G = some (lz (DD' al)) := by
  have on := o.n
  have h := sMo_leftL hR o cn cl hV hG (NN al).toNat 0 FU (by omega) (by show _ < 5000; omega)
  rw [SU_S6 on (fun x hx => US_hi cn hx), show SU (US al) 0 = 0 from rfl, show iz ((0 : Nat) : Int) = (0 : Int32) from iz_l0.symm, ← lz0] at h
  unfold fMo_leftOver
  rw [h]
  rfl
theorem sSe_of {A C : Nat → Int32} {x : Int} (hx : 0 ≤ x ∧ x < 6) : fSe_surplusOf (iz x) C = some (C x.toNat) ∧ fSe_cellsOf (iz x) A = some (A x.toNat) ∧ fSe_apartOf (iz x) A = some (A x.toNat) ∧ fSe_seamCostOf (iz x) A = some (A x.toNat) := by
  have w1 : fRi_within (iz x) (0 : Int32) (5 : Int32) = some (bi (0 ≤ x ∧ x ≤ 5)) := by rw [iz_n, iz_n]; exact sRi_within (by omega) (by omega) (by omega)
  have n1 : ¬ bi (0 ≤ x ∧ x ≤ 5) = (0 : Int32) := by rw [iz_n, bi0]; omega
  have i1 : 0 ≤ (iz x).toInt ∧ (iz x).toInt < 6 := by rw [iz_t (by omega) (by omega)]; omega
  have i3 : (iz x).toNatClampNeg = x.toNat := iz_c (by omega) (by omega)
  refine ⟨?_, ?_, ?_, ?_⟩
  · unfold fSe_surplusOf
    rw [w1]
    simp only [Option.bind_some, if_neg n1, if_pos i1, i3]
  · unfold fSe_cellsOf
    rw [w1]
    simp only [Option.bind_some, if_neg n1, if_pos i1, i3]
  · unfold fSe_apartOf
    rw [w1]
    simp only [Option.bind_some, if_neg n1, if_pos i1, i3]
  · unfold fSe_seamCostOf
    rw [w1]
    simp only [Option.bind_some, if_neg n1, if_pos i1, i3]
theorem round_8 {al : Nat → Int32} {w n t a : Int32} {dots cells sx sy sp : Nat → Int32} (hR : RS al w n t a dots cells sx sy sp) (o : OkA al) (cn : Cn al) {F A B C S K : Nat → Int32} (hF : fw F = fC al) (hS : SEI al A B C S K) :
    ∀ (d k m : Nat), k + d = 6 → d < m → fLe_agreeRound_L8 F A C m (lz (SU (US al) k)) (lz (SU (QS al) k)) (iz k) = some (lz (DD' al), lz (WW' al)) := by
  have on := o.n
  intro d
  induction d with
  | zero =>
    intro k m hk hm
    obtain ⟨m, rfl⟩ : ∃ q, m = q + 1 := ⟨m - 1, by omega⟩
    have g6 : (6 : Int32) ≤ iz k := by rw [iz_n, iz_le (by omega) (by omega) (by omega) (by omega)]; omega
    unfold fLe_agreeRound_L8
    rw [if_pos g6, show k = 6 by omega, SU_6, SU_6]
    rfl
  | succ d ih =>
    intro k m hk hm
    obtain ⟨m, rfl⟩ : ∃ q, m = q + 1 := ⟨m - 1, by omega⟩
    have g6 : ¬ (6 : Int32) ≤ iz k := by rw [iz_n, iz_le (by omega) (by omega) (by omega) (by omega)]; omega
    have e1 : iz (k : Int) + (1 : Int32) = iz ((k + 1 : Nat) : Int) := by rw [iz_n, iz_add]; exact iz_inj (by omega)
    have hf := cn.fr k
    have f1 := sCh_followerOf F (x := (k : Int)) (by omega)
    rw [hF] at f1
    have m1 : (-1 : Int32) = iz (-1) := by rw [iz_n, iz_neg]
    have nm : (iz (fC al k) = iz (-1)) ↔ fC al k = -1 := iz_eq (by omega) (by omega) (by omega) (by omega)
    have ih' := ih (k + 1) m (by omega) (by omega)
    rw [show SU (US al) (k + 1) = SU (US al) k + US al k from rfl, show SU (QS al) (k + 1) = SU (QS al) k + QS al k from rfl] at ih'
    unfold fLe_agreeRound_L8
    rw [if_neg g6, f1, e1]
    simp only [Option.bind_some]
    by_cases z : fC al k = -1
    · rw [show US al k = 0 from if_pos z, show QS al k = 0 from if_pos z, Int.add_zero, Int.add_zero] at ih'
      rw [m1, if_pos (nm.mpr z)]
      exact ih'
    · rw [show US al k = UU al k * QQ al k from if_neg z, show QS al k = QQ al k from if_neg z] at ih'
      have hu := UU_r hR o cn (x := (k : Int)) (by omega)
      obtain ⟨s1, s2, s3, s4⟩ := sSe_of (A := A) (C := C) (x := (k : Int)) (by omega)
      obtain ⟨v1, v2, v3, v4⟩ := (hS k (by omega)).1 (by omega)
      have hsh := sLe_share hR o cn (x := (k : Int)) (by omega)
      rw [m1, if_neg (fun y => z (nm.mp y)), s1, s2, v1, v3]
      simp only [Option.bind_some, hsh]
      rw [show OV al (k : Int) (DF al k) = UU al k from rfl, iz_64 (by omega) (by omega), lz_mul, lz_add, lz_add]
      exact ih'
theorem W_r {al : Nat → Int32} {w n t a : Int32} {dots cells sx sy sp : Nat → Int32} (hR : RS al w n t a dots cells sx sy sp) (o : OkA al) (cn : Cn al) (cl : Cl al) : 180 ≤ WW' al ∧ WW' al ≤ 3360 ∧ -5927040 ≤ DD' al ∧ DD' al ≤ 5927040 := by
  have on := o.n
  have h1 := S6_r (f := QS al) (l := 0) (u := 560) (fun x _ => QS_r hR o cn x)
  have h2 := S6_r (f := US al) (l := -987840) (u := 987840) (fun x _ => US_r hR o cn x)
  have c2 := cl.1
  have q0 : QS al 0 = QQ al 0 := if_neg (Cl_all on cn cl 0 (by omega))
  have hf := cn.fr 0
  have hn := Cl_all on cn cl 0 (by omega)
  have q1 := QQ_r hR o cn (x := 0) (by omega)
  have r1 := QS_r hR o cn 1
  have r2 := QS_r hR o cn 2
  have r3 := QS_r hR o cn 3
  have r4 := QS_r hR o cn 4
  have r5 := QS_r hR o cn 5
  have e : WW' al = QS al 0 + QS al 1 + QS al 2 + QS al 3 + QS al 4 + QS al 5 := rfl
  have e2 : DD' al = S6 (US al) := rfl
  refine ⟨by omega, by rw [show WW' al = S6 (QS al) from rfl]; omega, by omega, by omega⟩
