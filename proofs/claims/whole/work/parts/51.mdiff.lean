/-! sums over an overlap, the model's -/
def inr (e r : Int) : Prop := 0 ≤ r ∧ r ≤ 3 ∧ 0 ≤ r - e ∧ r - e ≤ 3
def ifr (e r v : Int) : Int := if 0 ≤ r ∧ r ≤ 3 ∧ 0 ≤ r - e ∧ r - e ≤ 3 then v else 0
def CS (h : Int → Int) (f : Int) : Nat → Int
  | 0 => 0
  | k + 1 => CS h f k + h (f + k)
theorem CS_c {h h' : Int → Int} {f : Int} : ∀ k : Nat, (∀ j : Nat, j < k → h (f + j) = h' (f + j)) → CS h f k = CS h' f k := by
  intro k
  induction k with
  | zero => intro _; rfl
  | succ k ih =>
    intro hh
    show CS h f k + h (f + k) = CS h' f k + h' (f + k)
    rw [ih (fun j hj => hh j (by omega)), hh k (by omega)]
theorem CS_r {h : Int → Int} {f l u : Int} : ∀ k : Nat, (∀ j : Nat, j < k → l ≤ h (f + j) ∧ h (f + j) ≤ u) → l * k ≤ CS h f k ∧ CS h f k ≤ u * k := by
  intro k
  induction k with
  | zero => intro _; show l * 0 ≤ 0 ∧ 0 ≤ u * 0; omega
  | succ k ih =>
    intro hh
    have h1 := ih (fun j hj => hh j (by omega))
    have h2 := hh k (by omega)
    show l * ((k + 1 : Nat) : Int) ≤ CS h f k + h (f + k) ∧ CS h f k + h (f + k) ≤ u * ((k + 1 : Nat) : Int)
    rw [show ((k + 1 : Nat) : Int) = (k : Int) + 1 by omega, Int.mul_add, Int.mul_add, Int.mul_one, Int.mul_one]
    omega
/-- all of h over the overlap of x -/
noncomputable def OV (al : Nat → Int32) (x : Int) (h : Int → Int → Int) : Int := SU (fun r => ifr (eo al (fC al) x) r (CS (h r) (fo al (fC al) x) (8 - fo al (fC al) x).toNat)) 4
noncomputable def HH (al : Nat → Int32) (q x r c : Int) : Int := if q = 0 then DD al x r c else DF al x r c
theorem d18 {al : Nat → Int32} {w n t a : Int32} {dots cells sx sy sp : Nat → Int32} (hR : RS al w n t a dots cells sx sy sp) (o : OkA al) (cn : Cn al) {V E' Q' G : Nat → Int32} (hV : LMb al V E' Q') (hG : fw G = fC al) {x r q : Int} (hp : 0 ≤ fC al x) (hq : q = 0 ∨ q = 1) (hr : 0 ≤ r ∧ r ≤ 3 ∧ 0 ≤ r - eo al (fC al) x ∧ r - eo al (fC al) x ≤ 3) (A : Int) :
    ∀ (d k m : Nat), (k : Int) + d = 8 - fo al (fC al) x → d < m →
    fMo_differences_L18 (iz x) (iz q) (iz r) al E' Q' G m (iz (A + CS (HH al q x r) (fo al (fC al) x) k)) (iz (fo al (fC al) x + k)) = some (iz (A + CS (HH al q x r) (fo al (fC al) x) (8 - fo al (fC al) x).toNat)) := by
  obtain ⟨p1, p2, p3, p4, p5, p6⟩ := Cn.ef hR o cn hp
  intro d
  induction d with
  | zero =>
    intro k m hk hm
    obtain ⟨m, rfl⟩ : ∃ q, m = q + 1 := ⟨m - 1, by omega⟩
    have n2 : (8 : Int32) ≤ iz (fo al (fC al) x + k) := by rw [iz_n, iz_le (by omega) (by omega) (by omega) (by omega)]; omega
    unfold fMo_differences_L18
    rw [if_pos n2, show (8 - fo al (fC al) x).toNat = k by omega]
  | succ d ih =>
    intro k m hk hm
    obtain ⟨m, rfl⟩ : ∃ q, m = q + 1 := ⟨m - 1, by omega⟩
    have n2 : ¬ (8 : Int32) ≤ iz (fo al (fC al) x + k) := by rw [iz_n, iz_le (by omega) (by omega) (by omega) (by omega)]; omega
    have e1 : iz (fo al (fC al) x + k) + (1 : Int32) = iz (fo al (fC al) x + ((k + 1 : Nat) : Int)) := by rw [iz_n, iz_add]; exact iz_inj (by omega)
    have hrow := sMo_hasRow hR o cn hV hG (r := r) hp (by omega)
    rw [bi10 hr] at hrow
    have n3 : ¬ iz 1 = (0 : Int32) := by rw [iz_l0]; exact iz01
    obtain ⟨d1, d2⟩ := sMo_adif hR o cn hV hG (r := r) (c := fo al (fC al) x + k) hp (by omega) (by omega) (by omega)
    have ih' := ih (k + 1) m (by omega) (by omega)
    have st : CS (HH al q x r) (fo al (fC al) x) (k + 1) = CS (HH al q x r) (fo al (fC al) x) k + HH al q x r (fo al (fC al) x + k) := rfl
    rw [st, ← Int.add_assoc] at ih'
    unfold fMo_differences_L18
    rw [if_neg n2, hrow]
    simp only [Option.bind_some, if_neg n3, d1, d2, iz_add, e1]
    rcases hq with rfl | rfl
    · have hh : HH al 0 x r (fo al (fC al) x + k) = DD al x r (fo al (fC al) x + k) := if_pos rfl
      rw [hh] at ih'
      rw [if_pos iz_l0.symm]
      exact ih'
    · have hh : HH al 1 x r (fo al (fC al) x + k) = DF al x r (fo al (fC al) x + k) := if_neg (by omega)
      rw [hh] at ih'
      rw [if_neg n3]
      exact ih'
theorem d18_no {al : Nat → Int32} {w n t a : Int32} {dots cells sx sy sp : Nat → Int32} (hR : RS al w n t a dots cells sx sy sp) (o : OkA al) (cn : Cn al) {V E' Q' G : Nat → Int32} (hV : LMb al V E' Q') (hG : fw G = fC al) {x r : Int} (hp : 0 ≤ fC al x) (q : Int32) (h3 : 0 ≤ r ∧ r ≤ 3) (hr : ¬ (0 ≤ r ∧ r ≤ 3 ∧ 0 ≤ r - eo al (fC al) x ∧ r - eo al (fC al) x ≤ 3)) (A : Int32) :
    fMo_differences_L18 (iz x) q (iz r) al E' Q' G FU A (iz (fo al (fC al) x)) = some A := by
  obtain ⟨p1, p2, p3, p4, p5, p6⟩ := Cn.ef hR o cn hp
  have n2 : ¬ (8 : Int32) ≤ iz (fo al (fC al) x) := by rw [iz_n, iz_le (by omega) (by omega) (by omega) (by omega)]; omega
  have hrow := sMo_hasRow hR o cn hV hG (r := r) hp (by omega)
  rw [bi11 hr] at hrow
  rw [show FU = 4999 + 1 from rfl]
  unfold fMo_differences_L18
  rw [if_neg n2, hrow]
  simp only [Option.bind_some, if_pos iz_l0.symm]
theorem d5 {al : Nat → Int32} {w n t a : Int32} {dots cells sx sy sp : Nat → Int32} (hR : RS al w n t a dots cells sx sy sp) (o : OkA al) (cn : Cn al) {V E' Q' G : Nat → Int32} (hV : LMb al V E' Q') (hG : fw G = fC al) {x q : Int} (hp : 0 ≤ fC al x) (hq : q = 0 ∨ q = 1) :
    ∀ (d k m : Nat), k + d = 4 → d < m →
    fMo_differences_L5 (iz x) (iz q) al E' Q' G m (iz (SU (fun r => ifr (eo al (fC al) x) r (CS (HH al q x r) (fo al (fC al) x) (8 - fo al (fC al) x).toNat)) k)) (iz k) = some (iz (OV al x (HH al q x))) := by
  obtain ⟨p1, p2, p3, p4, p5, p6⟩ := Cn.ef hR o cn hp
  obtain ⟨k1, k2, k3⟩ := sMo_eOf hR o cn hV hG hp
  intro d
  induction d with
  | zero =>
    intro k m hk hm
    obtain ⟨m, rfl⟩ : ∃ q, m = q + 1 := ⟨m - 1, by omega⟩
    have n2 : (4 : Int32) ≤ iz k := by rw [iz_n, iz_le (by omega) (by omega) (by omega) (by omega)]; omega
    unfold fMo_differences_L5
    rw [if_pos n2, show k = 4 by omega]
    rfl
  | succ d ih =>
    intro k m hk hm
    obtain ⟨m, rfl⟩ : ∃ q, m = q + 1 := ⟨m - 1, by omega⟩
    have n2 : ¬ (4 : Int32) ≤ iz k := by rw [iz_n, iz_le (by omega) (by omega) (by omega) (by omega)]; omega
    have e1 : iz (k : Int) + (1 : Int32) = iz ((k + 1 : Nat) : Int) := by rw [iz_n, iz_add]; exact iz_inj (by omega)
    have ih' := ih (k + 1) m (by omega) (by omega)
    unfold fMo_differences_L5
    rw [if_neg n2, k2]
    simp only [Option.bind_some, e1]
    by_cases z : 0 ≤ (k : Int) ∧ (k : Int) ≤ 3 ∧ 0 ≤ (k : Int) - eo al (fC al) x ∧ (k : Int) - eo al (fC al) x ≤ 3
    · have hk := d18 hR o cn hV hG hp hq z (SU (fun r => ifr (eo al (fC al) x) r (CS (HH al q x r) (fo al (fC al) x) (8 - fo al (fC al) x).toNat)) k) (8 - fo al (fC al) x).toNat 0 FU (by omega) (by show _ < 5000; omega)
      rw [show CS (HH al q x (k : Int)) (fo al (fC al) x) 0 = 0 from rfl, Int.add_zero, show fo al (fC al) x + ((0 : Nat) : Int) = fo al (fC al) x by omega] at hk
      rw [hk]
      simp only [Option.bind_some]
      rw [show SU (fun r => ifr (eo al (fC al) x) r (CS (HH al q x r) (fo al (fC al) x) (8 - fo al (fC al) x).toNat)) (k + 1) = SU (fun r => ifr (eo al (fC al) x) r (CS (HH al q x r) (fo al (fC al) x) (8 - fo al (fC al) x).toNat)) k + ifr (eo al (fC al) x) k (CS (HH al q x k) (fo al (fC al) x) (8 - fo al (fC al) x).toNat) from rfl, show ifr (eo al (fC al) x) k (CS (HH al q x k) (fo al (fC al) x) (8 - fo al (fC al) x).toNat) = CS (HH al q x k) (fo al (fC al) x) (8 - fo al (fC al) x).toNat from if_pos z] at ih'
      exact ih'
    · rw [d18_no hR o cn hV hG hp (iz q) (by omega) z]
      simp only [Option.bind_some]
      rw [show SU (fun r => ifr (eo al (fC al) x) r (CS (HH al q x r) (fo al (fC al) x) (8 - fo al (fC al) x).toNat)) (k + 1) = SU (fun r => ifr (eo al (fC al) x) r (CS (HH al q x r) (fo al (fC al) x) (8 - fo al (fC al) x).toNat)) k + ifr (eo al (fC al) x) k (CS (HH al q x k) (fo al (fC al) x) (8 - fo al (fC al) x).toNat) from rfl, show ifr (eo al (fC al) x) k (CS (HH al q x k) (fo al (fC al) x) (8 - fo al (fC al) x).toNat) = 0 from if_neg z, Int.add_zero] at ih'
      exact ih'
theorem OV_c {al : Nat → Int32} {x : Int} {h h' : Int → Int → Int} (hh : ∀ r c, (0 ≤ r ∧ r ≤ 3 ∧ 0 ≤ r - eo al (fC al) x ∧ r - eo al (fC al) x ≤ 3) → fo al (fC al) x ≤ c ∧ c ≤ 7 → h r c = h' r c) : OV al x h = OV al x h' := by
  unfold OV
  have : (fun r => ifr (eo al (fC al) x) r (CS (h r) (fo al (fC al) x) (8 - fo al (fC al) x).toNat)) = (fun r => ifr (eo al (fC al) x) r (CS (h' r) (fo al (fC al) x) (8 - fo al (fC al) x).toNat)) := by
    funext r
    unfold ifr
    by_cases z : 0 ≤ r ∧ r ≤ 3 ∧ 0 ≤ r - eo al (fC al) x ∧ r - eo al (fC al) x ≤ 3
    · rw [if_pos z, if_pos z]
      exact CS_c _ (fun j hj => hh r _ z (by omega))
    · rw [if_neg z, if_neg z]
  rw [this]
theorem sMo_differences {al : Nat → Int32} {w n t a : Int32} {dots cells sx sy sp : Nat → Int32} (hR : RS al w n t a dots cells sx sy sp) (o : OkA al) (cn : Cn al) {V E' Q' G : Nat → Int32} (hV : LMb al V E' Q') (hG : fw G = fC al) {x : Int} (hp : 0 ≤ fC al x) :
    fMo_differences (iz x) (0 : Int32) al E' Q' G = some (iz (OV al x (DD al x))) ∧ fMo_differences (iz x) (1 : Int32) al E' Q' G = some (iz (OV al x (DF al x))) := by
  have a1 := d5 hR o cn hV hG hp (q := 0) (.inl rfl) 4 0 FU (by omega) (by show _ < 5000; omega)
  have a2 := d5 hR o cn hV hG hp (q := 1) (.inr rfl) 4 0 FU (by omega) (by show _ < 5000; omega)
  rw [OV_c (h := HH al 0 x) (h' := DD al x) (fun r c _ _ => if_pos rfl)] at a1
  rw [OV_c (h := HH al 1 x) (h' := DF al x) (fun r c _ _ => if_neg (by omega))] at a2
  have z0 : iz (SU (fun r => ifr (eo al (fC al) x) r (CS (HH al 0 x r) (fo al (fC al) x) (8 - fo al (fC al) x).toNat)) 0) = (0 : Int32) := iz_l0.symm
  have z1 : iz (SU (fun r => ifr (eo al (fC al) x) r (CS (HH al 1 x r) (fo al (fC al) x) (8 - fo al (fC al) x).toNat)) 0) = (0 : Int32) := iz_l0.symm
  rw [z0, show iz ((0 : Nat) : Int) = (0 : Int32) from iz_l0.symm, ← iz_l0] at a1
  rw [z1, show iz ((0 : Nat) : Int) = (0 : Int32) from iz_l0.symm, ← iz_n] at a2
  constructor
  · unfold fMo_differences
    rw [a1]; rfl
  · unfold fMo_differences
    rw [a2]; rfl
/-- how many cells -/
noncomputable def NC (al : Nat → Int32) (x : Int) : Int := (4 - (if 0 ≤ eo al (fC al) x then eo al (fC al) x else -eo al (fC al) x)) * (8 - fo al (fC al) x)
theorem NC_r {al : Nat → Int32} {w n t a : Int32} {dots cells sx sy sp : Nat → Int32} (hR : RS al w n t a dots cells sx sy sp) (o : OkA al) (cn : Cn al) {x : Int} (hp : 0 ≤ fC al x) : NC al x = 9 ∨ NC al x = 12 ∨ NC al x = 15 ∨ NC al x = 18 ∨ NC al x = 21 ∨ NC al x = 16 ∨ NC al x = 20 ∨ NC al x = 24 ∨ NC al x = 28 := by
  obtain ⟨p1, p2, p3, p4, p5, p6⟩ := Cn.ef hR o cn hp
  unfold NC
  generalize eo al (fC al) x = e at *
  generalize fo al (fC al) x = f at *
  have he : e = -1 ∨ e = 0 ∨ e = 1 := by omega
  have hf : f = 1 ∨ f = 2 ∨ f = 3 ∨ f = 4 ∨ f = 5 := by omega
  rcases he with rfl | rfl | rfl <;> rcases hf with rfl | rfl | rfl | rfl | rfl <;> decide
theorem sMo_cells {al : Nat → Int32} {w n t a : Int32} {dots cells sx sy sp : Nat → Int32} (hR : RS al w n t a dots cells sx sy sp) (o : OkA al) (cn : Cn al) {V E' Q' G : Nat → Int32} (hV : LMb al V E' Q') (hG : fw G = fC al) {x : Int} (hp : 0 ≤ fC al x) : fMo_cells (iz x) E' Q' G = some (iz (NC al x)) := by
  obtain ⟨p1, p2, p3, p4, p5, p6⟩ := Cn.ef hR o cn hp
  obtain ⟨k1, k2, k3⟩ := sMo_eOf hR o cn hV hG hp
  unfold fMo_cells
  rw [k1]
  simp only [Option.bind_some, sMo_abs (a := eo al (fC al) x) (by omega), k2]
  rw [iz_n, iz_n, iz_sub, iz_sub, iz_mul]
  rfl
/-- what the seam costs -/
noncomputable def SX (al : Nat → Int32) (x : Int) : Int := SU (fun r => ifr (eo al (fC al) x) r (DD al x r (SC al x r))) 4
theorem s9 {al : Nat → Int32} {w n t a : Int32} {dots cells sx sy sp : Nat → Int32} (hR : RS al w n t a dots cells sx sy sp) (o : OkA al) (cn : Cn al) {V E' Q' G : Nat → Int32} (hV : LMb al V E' Q') (hG : fw G = fC al) {x : Int} (hp : 0 ≤ fC al x) {seam : Nat → Int32} (hs : ∀ j : Nat, j < 4 → seam j = iz (SC al x j)) :
    ∀ (d k m : Nat), k + d = 4 → d < m → fMo_seamSum_L9 (iz x) al E' Q' G seam m (iz (SU (fun r => ifr (eo al (fC al) x) r (DD al x r (SC al x r))) k)) (iz k) = some (iz (SX al x)) := by
  obtain ⟨p1, p2, p3, p4, p5, p6⟩ := Cn.ef hR o cn hp
  have m1 : (-1 : Int32) = iz (-1) := by rw [iz_n, iz_neg]
  intro d
  induction d with
  | zero =>
    intro k m hk hm
    obtain ⟨m, rfl⟩ : ∃ q, m = q + 1 := ⟨m - 1, by omega⟩
    have n2 : (4 : Int32) ≤ iz k := by rw [iz_n, iz_le (by omega) (by omega) (by omega) (by omega)]; omega
    unfold fMo_seamSum_L9
    rw [if_pos n2, show k = 4 by omega]
    rfl
  | succ d ih =>
    intro k m hk hm
    obtain ⟨m, rfl⟩ : ∃ q, m = q + 1 := ⟨m - 1, by omega⟩
    have n2 : ¬ (4 : Int32) ≤ iz k := by rw [iz_n, iz_le (by omega) (by omega) (by omega) (by omega)]; omega
    have e1 : iz (k : Int) + (1 : Int32) = iz ((k + 1 : Nat) : Int) := by rw [iz_n, iz_add]; exact iz_inj (by omega)
    have i1 : 0 ≤ (iz (k : Int)).toInt ∧ (iz (k : Int)).toInt < 4 := by rw [iz_t (by omega) (by omega)]; omega
    have i3 : (iz (k : Int)).toNatClampNeg = k := by rw [iz_c (by omega) (by omega)]; omega
    have ih' := ih (k + 1) m (by omega) (by omega)
    have hk4 := hs k (by omega)
    obtain ⟨c1, c2, c3, c4⟩ := SC_r hR o cn hp (k : Int)
    have st : SU (fun r => ifr (eo al (fC al) x) r (DD al x r (SC al x r))) (k + 1) = SU (fun r => ifr (eo al (fC al) x) r (DD al x r (SC al x r))) k + ifr (eo al (fC al) x) k (DD al x k (SC al x k)) := rfl
    rw [st] at ih'
    unfold fMo_seamSum_L9
    rw [if_neg n2, if_pos i1, i3, hk4, e1]
    by_cases z : 0 ≤ (k : Int) ∧ (k : Int) ≤ 3 ∧ 0 ≤ (k : Int) - eo al (fC al) x ∧ (k : Int) - eo al (fC al) x ≤ 3
    · have nm : ¬ iz (SC al x k) = iz (-1) := by
        rw [iz_eq (by omega) (by omega) (by omega) (by omega)]
        exact fun y => c1.mp y z
      obtain ⟨d1, d2⟩ := sMo_adif hR o cn hV hG (r := (k : Int)) (c := SC al x k) hp (by omega) (by omega) ⟨c4 z, c3⟩
      rw [show ifr (eo al (fC al) x) k (DD al x k (SC al x k)) = DD al x k (SC al x k) from if_pos z] at ih'
      rw [m1, if_neg nm, if_pos i1, d1]
      simp only [Option.bind_some, d2, iz_add]
      exact ih'
    · rw [show ifr (eo al (fC al) x) k (DD al x k (SC al x k)) = 0 from if_neg z] at ih'
      rw [m1, if_pos (iz_inj (c1.mpr z)), iz_l0, iz_add]
      exact ih'
theorem sMo_seamSum {al : Nat → Int32} {w n t a : Int32} {dots cells sx sy sp : Nat → Int32} (hR : RS al w n t a dots cells sx sy sp) (o : OkA al) (cn : Cn al) {V E' Q' G : Nat → Int32} (hV : LMb al V E' Q') (hG : fw G = fC al) {x : Int} (hp : 0 ≤ fC al x) (least seam : Nat → Int32) :
    ∃ l1 s1, fMo_seamSum (iz x) al E' Q' G least seam = some (iz (SX al x), l1, s1) := by
  obtain ⟨l1, s1, a1, a2⟩ := sMo_laysSeam hR o cn hV hG hp least seam
  have := s9 hR o cn hV hG hp a2 4 0 FU (by omega) (by show _ < 5000; omega)
  rw [show iz (SU (fun r => ifr (eo al (fC al) x) r (DD al x r (SC al x r))) 0) = (0 : Int32) from iz_l0.symm, show iz ((0 : Nat) : Int) = (0 : Int32) from iz_l0.symm] at this
  refine ⟨l1, s1, ?_⟩
  unfold fMo_seamSum
  rw [a1]
  simp only [Option.bind_some, this]
theorem SX_SS {al : Nat → Int32} {w n t a : Int32} {dots cells sx sy sp : Nat → Int32} (hR : RS al w n t a dots cells sx sy sp) (o : OkA al) (cn : Cn al) {x : Int} (hp : 0 ≤ fC al x) : SS (DD al x) (fo al (fC al) x) (tp (eo al (fC al) x)) (bt (eo al (fC al) x)) (bt (eo al (fC al) x) - tp (eo al (fC al) x) + 1).toNat = SX al x := by
  obtain ⟨p1, p2, p3, p4, p5, p6⟩ := Cn.ef hR o cn hp
  have hS : ∀ r, (0 ≤ r ∧ r ≤ 3 ∧ 0 ≤ r - eo al (fC al) x ∧ r - eo al (fC al) x ≤ 3) → SC al x r = SM (DD al x) (fo al (fC al) x) (tp (eo al (fC al) x)) (bt (eo al (fC al) x)) (r - tp (eo al (fC al) x)).toNat := fun r z => by
    unfold SC; rw [if_pos z]
  have h4 : ∀ g : Int → Int, SU g 4 = 0 + g 0 + g 1 + g 2 + g 3 := fun g => rfl
  unfold SX
  rw [h4]
  unfold ifr
  generalize eo al (fC al) x = e at *
  generalize fo al (fC al) x = f at *
  have he : e = -1 ∨ e = 0 ∨ e = 1 := by omega
  rcases he with rfl | rfl | rfl
  · rw [if_pos (by omega), if_pos (by omega), if_pos (by omega), if_neg (by omega), hS 0 (by omega), hS 1 (by omega), hS 2 (by omega), Int.add_zero]
    rfl
  · rw [if_pos (by omega), if_pos (by omega), if_pos (by omega), if_pos (by omega), hS 0 (by omega), hS 1 (by omega), hS 2 (by omega), hS 3 (by omega)]
    rfl
  · rw [if_neg (by omega), if_pos (by omega), if_pos (by omega), if_pos (by omega), hS 1 (by omega), hS 2 (by omega), hS 3 (by omega), Int.add_zero]
    rfl
