theorem sMo_placeL {al : Nat → Int32} {w n t a : Int32} {dots cells sx sy sp : Nat → Int32} (hR : RS al w n t a dots cells sx sy sp) (o : OkA al) (c : Cn al) (cl : Cl al) {V E' Q' G : Nat → Int32} (hV : LMb al V E' Q') (hG : fw G = fC al) {i0 : Nat} (h0 : (i0 : Int) < NN al) :
    ∀ (d i m : Nat), i + d = i0 → d < m → fMo_place_L54 (iz (it (fC al) i0 0)) E' Q' G m (iz (WS (fC al) (fo al (fC al)) i)) (iz (WS (fC al) (eo al (fC al)) i)) (iz i) (iz (it (fC al) i 0)) =
      some (iz (WS (fC al) (fo al (fC al)) i0), iz (WS (fC al) (eo al (fC al)) i0), iz i0) := by
  have on := o.n
  obtain ⟨r1, r2, r3, r4⟩ := c.gi.round (by have := cl.1; omega) (Cl_all on c cl)
  have hx0 := r1 i0
  intro d
  induction d with
  | zero =>
    intro i m hi hm
    obtain ⟨m, rfl⟩ : ∃ q, m = q + 1 := ⟨m - 1, by omega⟩
    obtain rfl : i = i0 := by omega
    unfold fMo_place_L54
    rw [if_pos rfl]
  | succ d ih =>
    intro i m hi hm
    obtain ⟨m, rfl⟩ : ∃ q, m = q + 1 := ⟨m - 1, by omega⟩
    have hx := r1 i
    have hx1 := r1 (i + 1)
    have st : it (fC al) (i + 1) 0 = fC al (it (fC al) i 0) := rfl
    have hp : 0 ≤ fC al (it (fC al) i 0) := by rw [← st]; omega
    have ne : ¬ iz (it (fC al) i 0) = iz (it (fC al) i0 0) := by rw [iz_eq (by omega) (by omega) (by omega) (by omega)]; exact r2 i i0 (by omega) h0
    have e1 : iz (i : Int) + (1 : Int32) = iz ((i + 1 : Nat) : Int) := by rw [iz_n, iz_add]; exact iz_inj (by omega)
    have i1 : 0 ≤ (iz (it (fC al) i 0)).toInt ∧ (iz (it (fC al) i 0)).toInt < 6 := by rw [iz_t (by omega) (by omega)]; omega
    have i3 : (iz (it (fC al) i 0)).toNatClampNeg = (it (fC al) i 0).toNat := iz_c (by omega) (by omega)
    obtain ⟨k1, k2, k3⟩ := sMo_eOf hR o c hV hG hp
    have s1 : WS (fC al) (fo al (fC al)) (i + 1) = WS (fC al) (fo al (fC al)) i + fo al (fC al) (it (fC al) i 0) := rfl
    have s2 : WS (fC al) (eo al (fC al)) (i + 1) = WS (fC al) (eo al (fC al)) i + eo al (fC al) (it (fC al) i 0) := rfl
    have ih' := ih (i + 1) m (by omega) (by omega)
    rw [s1, s2, st] at ih'
    unfold fMo_place_L54
    rw [if_neg ne, k2, k1]
    simp only [Option.bind_some, if_pos i1, i3, k3, iz_add, e1]
    exact ih'
