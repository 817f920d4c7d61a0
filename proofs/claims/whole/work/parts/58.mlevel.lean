/-! levels, the model's -/
theorem l33 {al : Nat → Int32} {w n t a : Int32} {dots cells sx sy sp : Nat → Int32} (hR : RS al w n t a dots cells sx sy sp) (o : OkA al) (cn : Cn al) (cl : Cl al) {V E' Q' G : Nat → Int32} (hV : LMb al V E' Q') (hG : fw G = fC al) {i0 : Nat} (h0 : (i0 : Int) < NN al) :
    ∀ (d i m : Nat), i + d = i0 → d < m → fMo_laysLevel_L33 (iz (it (fC al) i0 0)) (lz (WW' al)) (lz (DD' al)) al E' Q' G m (iz (it (fC al) i 0)) (lz (WT (fC al) (lsT al (WW' al) (DD' al)) 0 i)) = some (lz (WT (fC al) (lsT al (WW' al) (DD' al)) 0 i0)) := by
  have on := o.n
  obtain ⟨r1, r2, r3, r4⟩ := cn.gi.round (by have := cl.1; omega) (Cl_all on cn cl)
  have hx0 := r1 i0
  intro d
  induction d with
  | zero =>
    intro i m hi hm
    obtain ⟨m, rfl⟩ : ∃ q, m = q + 1 := ⟨m - 1, by omega⟩
    obtain rfl : i = i0 := by omega
    unfold fMo_laysLevel_L33
    rw [if_pos rfl]
  | succ d ih =>
    intro i m hi hm
    obtain ⟨m, rfl⟩ : ∃ q, m = q + 1 := ⟨m - 1, by omega⟩
    have hx := r1 i
    have hx1 := r1 (i + 1)
    have st : it (fC al) (i + 1) 0 = fC al (it (fC al) i 0) := rfl
    have hp : 0 ≤ fC al (it (fC al) i 0) := by rw [← st]; omega
    have ne : ¬ iz (it (fC al) i 0) = iz (it (fC al) i0 0) := by rw [iz_eq (by omega) (by omega) (by omega) (by omega)]; exact r2 i i0 (by omega) h0
    have i1 : 0 ≤ (iz (it (fC al) i 0)).toInt ∧ (iz (it (fC al) i 0)).toInt < 6 := by rw [iz_t (by omega) (by omega)]; omega
    have i3 : (iz (it (fC al) i 0)).toNatClampNeg = (it (fC al) i 0).toNat := iz_c (by omega) (by omega)
    obtain ⟨k1, k2, k3⟩ := sMo_eOf hR o cn hV hG hp
    have hu := UU_r hR o cn hp
    have s1 : WT (fC al) (lsT al (WW' al) (DD' al)) 0 (i + 1) = WT (fC al) (lsT al (WW' al) (DD' al)) 0 i + lsT al (WW' al) (DD' al) (it (fC al) i 0) := rfl
    have s2 : lsT al (WW' al) (DD' al) (it (fC al) i 0) = (UU al (it (fC al) i 0) * WW' al - DD' al) * QQ al (it (fC al) i 0) := if_neg (by omega)
    have ih' := ih (i + 1) m (by omega) (by omega)
    rw [s1, s2, st] at ih'
    have dif := (sMo_differences hR o cn hV hG hp).2
    have shr := sMo_share hR o cn hV hG hp
    unfold fMo_laysLevel_L33
    rw [if_neg ne, dif, shr]
    simp only [Option.bind_some, if_pos i1, i3, k3]
    rw [show OV al (it (fC al) i 0) (DF al (it (fC al) i 0)) = UU al (it (fC al) i 0) from rfl, iz_64 (by omega) (by omega), lz_mul, lz_sub, lz_mul, lz_add]
    exact ih'
theorem l99 {al : Nat → Int32} {w n t a : Int32} {dots cells sx sy sp : Nat → Int32} (hR : RS al w n t a dots cells sx sy sp) (o : OkA al) (cn : Cn al) {V E' Q' G H : Nat → Int32} (hV : LMb al V E' Q') (hG : fw G = fC al) (hH : fw H = gC al) :
    ∀ (k m : Nat) (x acc : Int), (x = -1 ∨ 0 ≤ fC al x) → it (gC al) k x = -1 → k < m → fMo_laysLevel_L99 al E' Q' G H m (iz x) (lz acc) = some (lz (acc + BB (gC al) (lsT al 1 0) k x)) := by
  have on := o.n
  have m1 : (-1 : Int32) = iz (-1) := by rw [iz_n, iz_neg]
  have key : ∀ (m : Nat) (acc : Int), fMo_laysLevel_L99 al E' Q' G H (m + 1) (iz (-1)) (lz acc) = some (lz acc) := fun m acc => by
    unfold fMo_laysLevel_L99
    rw [m1, if_pos rfl]
  intro k
  induction k with
  | zero =>
    intro m x acc hx hi hm
    obtain ⟨m, rfl⟩ : ∃ q, m = q + 1 := ⟨m - 1, by omega⟩
    have : x = -1 := hi
    rw [this, key]
    exact congrArg some (lz_inj (by show acc = acc + 0; omega))
  | succ k ih =>
    intro m x acc hx hi hm
    obtain ⟨m, rfl⟩ : ∃ q, m = q + 1 := ⟨m - 1, by omega⟩
    by_cases z : x = -1
    · rw [z, key, BB_m1]
      exact congrArg some (lz_inj (by omega))
    · have hp : 0 ≤ fC al x := by omega
      have hN := cn.fN hp
      have hgr := cn.gr x
      have nm : ¬ iz x = iz (-1) := by rw [iz_eq (by omega) (by omega) (by omega) (by omega)]; exact z
      have i1 : 0 ≤ (iz x).toInt ∧ (iz x).toInt < 6 := by rw [iz_t (by omega) (by omega)]; omega
      have i3 : (iz x).toNatClampNeg = x.toNat := iz_c (by omega) (by omega)
      have hh : H x.toNat = iz (gC al x) := by rw [← hH]; exact fw_i H (by omega)
      have hu := UU_r hR o cn hp
      have s2 : lsT al 1 0 x = UU al x * QQ al x := by
        have : lsT al 1 0 x = (UU al x * 1 - 0) * QQ al x := if_neg (by omega)
        rw [this, Int.mul_one, Int.sub_zero]
      have e : BB (gC al) (lsT al 1 0) (k + 1) x = lsT al 1 0 x + BB (gC al) (lsT al 1 0) k (gC al x) := if_neg z
      have hnx : gC al x = -1 ∨ 0 ≤ fC al (gC al x) := by
        by_cases q : gC al x = -1
        · exact .inl q
        · right
          have := (cn.gi.2.2.1 (gC al x) x (by omega) (by omega)).mpr rfl
          omega
      rw [it_in] at hi
      have ih' := ih m (gC al x) (acc + UU al x * QQ al x) hnx hi (by omega)
      have dif := (sMo_differences hR o cn hV hG hp).2
      have shr := sMo_share hR o cn hV hG hp
      rw [e, s2, ← Int.add_assoc]
      unfold fMo_laysLevel_L99
      rw [m1, if_neg nm, dif, shr]
      simp only [Option.bind_some, if_pos i1, i3, hh]
      rw [show OV al x (DF al x) = UU al x from rfl, iz_64 (by omega) (by omega), lz_mul, lz_add]
      exact ih'
theorem sMo_laysLevel {al : Nat → Int32} {w n t a : Int32} {dots cells sx sy sp : Nat → Int32} (hR : RS al w n t a dots cells sx sy sp) (o : OkA al) (cn : Cn al) {V E' Q' G H : Nat → Int32} (hV : LMb al V E' Q') (hG : fw G = fC al) (hH : fw H = gC al) {x : Int} (hx : 0 ≤ x ∧ x < NN al) (ra rb : Int64) :
    fMo_laysLevel (iz x) al E' Q' G H ra rb = some (LA al x, LB al x) := by
  have on := o.n
  obtain ⟨u, u1, u2, u3⟩ := sMo_isClosed o cn hG
  have hraw := RAW_r hR o cn hx
  have hpar := PAR_r hR o cn
  have i1 : 0 ≤ (iz x).toInt ∧ (iz x).toInt < 6 := by rw [iz_t (by omega) (by omega)]; omega
  have i3 : (iz x).toNatClampNeg = x.toNat := iz_c (by omega) (by omega)
  unfold fMo_laysLevel
  rw [u1]
  simp only [Option.bind_some]
  have low := sMo_lowest (a := RAW al x) (b := PAR al) (by omega) (by omega)
  by_cases cl : Cl al
  · have nz : ¬ u = 0 := fun q => (u3.mp (q.trans iz_l0)) cl
    obtain ⟨r1, r2, r3, r4⟩ := cn.gi.round (by have := cl.1; omega) (Cl_all on cn cl)
    obtain ⟨i, h1, h2⟩ := r3 x hx
    have h33 := l33 hR o cn cl hV hG h1 i 0 FU (by omega) (by show _ < 5000; omega)
    rw [← RAW_cl on cn cl h1, h2, show it (fC al) 0 0 = 0 from rfl, show WT (fC al) (lsT al (WW' al) (DD' al)) 0 0 = 0 from rfl, ← iz_l0, ← lz0] at h33
    have hp : PAR al = 5040 * WW' al := if_pos cl
    rw [if_neg nz, sMo_shares hR o cn cl hV hG, sMo_leftOver hR o cn cl hV hG]
    simp only [Option.bind_some, h33]
    rw [lz_n, lz_mul, ← hp, low]
    rfl
  · have z : u = 0 := (u3.mpr cl).trans iz_l0.symm
    have hh : H x.toNat = iz (gC al x) := by rw [← hH]; exact fw_i H (by omega)
    obtain ⟨zz, hz, hfz⟩ := nCl on cn (by omega) cl
    have hb := cn.gi.back (by omega) hz hfz hx
    have hg1 : gC al (-1) = -1 := (cn.1.1 (-1) (by omega)).2
    have hb7 := (it_neg hg1 (NN al).toNat (7 - (NN al).toNat)).2 x hb
    rw [show 7 - (NN al).toNat + (NN al).toNat = 6 + 1 by omega, it_in] at hb7
    have hnx : gC al x = -1 ∨ 0 ≤ fC al (gC al x) := by
      by_cases q : gC al x = -1
      · exact .inl q
      · right
        have hgr := cn.gr x
        have := (cn.gi.2.2.1 (gC al x) x (by omega) (by omega)).mpr rfl
        omega
    have h99 := l99 hR o cn hV hG hH 6 FU (gC al x) 0 hnx hb7 (by show _ < 5000; omega)
    have hr : RAW al x = BB (gC al) (lsT al 1 0) 6 (gC al x) := if_neg cl
    rw [Int.zero_add, ← hr, ← lz0] at h99
    have hp : PAR al = 5040 := if_neg cl
    rw [if_pos z, if_pos i1, i3, hh, h99]
    simp only [Option.bind_some]
    rw [lz_n, show (OfNat.ofNat 5040 : Int) = PAR al from hp.symm, low]
    rfl
