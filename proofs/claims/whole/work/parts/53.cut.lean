/-! the program's seams -/
/-- links as kept at the pictures -/
def EF (al F LE LF : Nat → Int32) : Prop := fw F = fC al ∧ (∀ x, 0 ≤ x ∧ x < 6 → 0 ≤ fC al x → LE x.toNat = iz (eo al (fC al) x) ∧ LF x.toNat = iz (fo al (fC al) x))
theorem sCh_shift {al F LE LF : Nat → Int32} (h : EF al F LE LF) {x : Int} (hx : 0 ≤ x ∧ x < 6) (hp : 0 ≤ fC al x) : fCh_shiftE (iz x) LE = some (iz (eo al (fC al) x)) ∧ fCh_shiftF (iz x) LF = some (iz (fo al (fC al) x)) := by
  obtain ⟨h1, h2⟩ := h.2 x hx hp
  have w1 : fRi_within (iz x) (0 : Int32) (5 : Int32) = some (bi (0 ≤ x ∧ x ≤ 5)) := by rw [iz_n, iz_n]; exact sRi_within (by omega) (by omega) (by omega)
  have n1 : ¬ bi (0 ≤ x ∧ x ≤ 5) = (0 : Int32) := by rw [iz_n, bi0]; omega
  have i1 : 0 ≤ (iz x).toInt ∧ (iz x).toInt < 6 := by rw [iz_t (by omega) (by omega)]; omega
  have i3 : (iz x).toNatClampNeg = x.toNat := iz_c (by omega) (by omega)
  unfold fCh_shiftE fCh_shiftF
  rw [w1]
  constructor
  · simp only [Option.bind_some, if_neg n1, if_pos i1, i3, h1]
  · simp only [Option.bind_some, if_neg n1, if_pos i1, i3, h2]
theorem sSe_compare {al : Nat → Int32} {w n t a : Int32} {dots cells sx sy sp : Nat → Int32} (hR : RS al w n t a dots cells sx sy sp) (o : OkA al) (cn : Cn al) {F LE LF : Nat → Int32} (hE : EF al F LE LF) {x : Int} (hp : 0 ≤ fC al x) (A B C D : Nat → Int32) :
    ∃ A' B' C' D', fSe_compare (iz x) n cells F LE LF A B C D = some (A', B', C', D') ∧
      A' x.toNat = iz (NC al x) ∧ B' x.toNat = iz (OV al x (DD al x)) ∧ C' x.toNat = iz (OV al x (DF al x)) ∧
      (∀ j, j ≠ x.toNat → A' j = A j ∧ B' j = B j ∧ C' j = C j) ∧ (∀ r y, (0 ≤ r ∧ r ≤ 3 ∧ 0 ≤ r - eo al (fC al) x ∧ r - eo al (fC al) x ≤ 3) → fo al (fC al) x ≤ y ∧ y ≤ 7 → D' (r * 8 + y).toNat = iz (DD al x r y)) := by
  have on := o.n
  have hN := cn.fN hp
  obtain ⟨s1, s2⟩ := sCh_shift hE (x := x) (by omega) hp
  have f1 := sCh_followerOf F (x := x) (by omega)
  rw [hE.1] at f1
  have i1 : 0 ≤ (iz x).toInt ∧ (iz x).toInt < 6 := by rw [iz_t (by omega) (by omega)]; omega
  have i3 : (iz x).toNatClampNeg = x.toNat := iz_c (by omega) (by omega)
  obtain ⟨A', B', C', D', k1, k2, k3, k4, k5, k6, k7⟩ := L45_all hR o cn hp 4 0 FU (by omega) (by show _ < 5000; omega) (upd A x.toNat (0 : Int32)) (upd B x.toNat (0 : Int32)) (upd C x.toNat (0 : Int32)) D
    (by rw [upd_s, iz_l0]; rfl) (by rw [upd_s, iz_l0]; rfl) (by rw [upd_s, iz_l0]; rfl)
  rw [show iz ((0 : Nat) : Int) = (0 : Int32) from iz_l0.symm] at k1
  rw [OV_1 hR o cn hp] at k2
  refine ⟨A', B', C', D', ?_, k2, k3, k4, ?_, fun r y h1 h2 => k6 r y (by omega) (by omega) h2⟩
  · unfold fSe_compare
    rw [f1, s1, s2]
    simp only [Option.bind_some, if_pos i1, i3, k1]
  · intro j hj
    obtain ⟨b1, b2, b3⟩ := k5 j hj
    rw [b1, b2, b3, upd_n _ _ hj, upd_n _ _ hj, upd_n _ _ hj]
    exact ⟨rfl, rfl, rfl⟩
theorem sSe_cutOne {al : Nat → Int32} {w n t a : Int32} {dots cells sx sy sp : Nat → Int32} (hR : RS al w n t a dots cells sx sy sp) (o : OkA al) (cn : Cn al) {F LE LF : Nat → Int32} (hE : EF al F LE LF) {x : Int} (hp : 0 ≤ fC al x) (A B C S K D T : Nat → Int32) (hK : ∀ r : Int, 0 ≤ r ∧ r ≤ 3 → K (x * 4 + r).toNat = iz (-1)) :
    ∃ A' B' C' S' K' D' T', fSe_cutOne (iz x) n cells F LE LF A B C S K D T = some (A', B', C', S', K', D', T') ∧
      A' x.toNat = iz (NC al x) ∧ B' x.toNat = iz (OV al x (DD al x)) ∧ C' x.toNat = iz (OV al x (DF al x)) ∧ S' x.toNat = iz (SX al x) ∧ (∀ r, 0 ≤ r ∧ r ≤ 3 → K' (x * 4 + r).toNat = iz (SC al x r)) ∧
      (∀ j, j ≠ x.toNat → A' j = A j ∧ B' j = B j ∧ C' j = C j ∧ S' j = S j) ∧ (∀ j : Nat, (∀ r : Int, 0 ≤ r ∧ r ≤ 3 → j ≠ (x * 4 + r).toNat) → K' j = K j) := by
  have on := o.n
  have hN := cn.fN hp
  obtain ⟨p1, p2, p3, p4, p5, p6⟩ := Cn.ef hR o cn hp
  obtain ⟨t1, t2, t3, t4⟩ := tb_r (e := eo al (fC al) x) (by omega)
  obtain ⟨s1, s2⟩ := sCh_shift hE (x := x) (by omega) hp
  obtain ⟨A', B', C', D', k1, k2, k3, k4, k5, k6⟩ := sSe_compare hR o cn hE hp A B C D
  have hD := DD_r hR o cn hp
  have i1 : 0 ≤ (iz x).toInt ∧ (iz x).toInt < 6 := by rw [iz_t (by omega) (by omega)]; omega
  have i3 : (iz x).toNatClampNeg = x.toNat := iz_c (by omega) (by omega)
  have e1 : (if (0 : Int32) < iz (eo al (fC al) x) then iz (eo al (fC al) x) else (0 : Int32)) = iz (tp (eo al (fC al) x)) := by
    unfold tp
    have nz : ((0 : Int32) < iz (eo al (fC al) x)) ↔ 0 < eo al (fC al) x := by rw [iz_l0]; exact iz_lt (by omega) (by omega) (by omega) (by omega)
    by_cases z : 0 < eo al (fC al) x
    · rw [if_pos (nz.mpr z), if_pos z]
    · rw [if_neg (fun y => z (nz.mp y)), if_neg z, iz_l0]
  have e2 : (if ((3 : Int32) + iz (eo al (fC al) x)) < (3 : Int32) then ((3 : Int32) + iz (eo al (fC al) x)) else (3 : Int32)) = iz (bt (eo al (fC al) x)) := by
    unfold bt
    have nz : (iz (3 + eo al (fC al) x) < iz 3) ↔ eo al (fC al) x < 0 := by rw [iz_lt (by omega) (by omega) (by omega) (by omega)]; omega
    rw [show (3 : Int32) = iz 3 from iz_n 3, iz_add]
    by_cases z : eo al (fC al) x < 0
    · rw [if_pos (nz.mpr z), if_pos z]
    · rw [if_neg (fun y => z (nz.mp y)), if_neg z]
  obtain ⟨T', m1, m2⟩ := rows_43 (dd := DD al x) (f := fo al (fC al) x) (top := tp (eo al (fC al) x)) (bo := bt (eo al (fC al) x)) (gap := D') (by omega) (by omega) (by omega) hD (fun r y hr hy => k6 r y ((t4 r).mp hr) hy) (bt (eo al (fC al) x) - tp (eo al (fC al) x) + 1).toNat (bt (eo al (fC al) x)) FU (by omega) (by omega) (by show _ < 5000; omega) T (fun r' y h1 h2 => by omega)
  obtain ⟨S', K', f1, f2, f3, f4, f5⟩ := foll_17 (dd := DD al x) (f := fo al (fC al) x) (top := tp (eo al (fC al) x)) (bo := bt (eo al (fC al) x)) (a := x) (gap := D') (cost := T') (by omega) (by omega) (by omega) (by omega) hD (fun r y hr hy => k6 r y ((t4 r).mp hr) hy) m2 (bt (eo al (fC al) x) - tp (eo al (fC al) x) + 1).toNat 0 FU (by omega) (by show _ < 5000; omega) (fo al (fC al) x) 7 (fun _ => ⟨rfl, rfl⟩) (fun q hq => by omega) (upd S x.toNat (0 : Int32)) K (by rw [upd_s, iz_l0]; rfl)
  rw [show tp (eo al (fC al) x) + ((0 : Nat) : Int) = tp (eo al (fC al) x) by omega, ← iz_n] at f1
  rw [SX_SS hR o cn hp] at f2
  refine ⟨A', B', C', S', K', D', T', ?_, k2, k3, k4, f2, ?_, ?_, ?_⟩
  · unfold fSe_cutOne fSe_follow
    rw [s1, s2]
    simp only [Option.bind_some, e1, e2, k1, m1, if_pos i1, i3, f1]
  · intro r hr
    unfold SC
    by_cases z : 0 ≤ r ∧ r ≤ 3 ∧ 0 ≤ r - eo al (fC al) x ∧ r - eo al (fC al) x ≤ 3
    · have z' := (t4 r).mpr z
      have := f3 (r - tp (eo al (fC al) x)).toNat (by omega) (by omega)
      rw [show x * 4 + (tp (eo al (fC al) x) + ((r - tp (eo al (fC al) x)).toNat : Int)) = x * 4 + r by omega] at this
      rw [if_pos z, this]
    · have z' : ¬ (tp (eo al (fC al) x) ≤ r ∧ r ≤ bt (eo al (fC al) x)) := fun y => z ((t4 r).mp y)
      rw [if_neg z, f5 _ (fun q h1 h2 e => by omega), hK r hr]
  · intro j hj
    obtain ⟨b1, b2, b3⟩ := k5 j hj
    rw [b1, b2, b3, f4 j hj, upd_n _ _ hj]
    exact ⟨rfl, rfl, rfl, rfl⟩
  · intro j hj
    exact f5 j (fun q h1 h2 => hj _ (by omega))
/-- the seams as kept -/
def SEI (al A B C S K : Nat → Int32) : Prop := ∀ x, 0 ≤ x ∧ x < 6 → (0 ≤ fC al x → A x.toNat = iz (NC al x) ∧ B x.toNat = iz (OV al x (DD al x)) ∧ C x.toNat = iz (OV al x (DF al x)) ∧ S x.toNat = iz (SX al x)) ∧ (∀ r, 0 ≤ r ∧ r ≤ 3 → K (x * 4 + r).toNat = iz (if 0 ≤ fC al x then SC al x r else -1))
theorem cut_L2 : ∀ (d k m : Nat), k + d = 24 → d < m → ∀ K : Nat → Int32, ∃ K', fSe_cut_L2 m (iz k) K = some K' ∧ (∀ j, k ≤ j → j < 24 → K' j = iz (-1)) ∧ (∀ j, j < k → K' j = K j) := by
  intro d
  induction d with
  | zero =>
    intro k m hk hm K
    obtain ⟨m, rfl⟩ : ∃ q, m = q + 1 := ⟨m - 1, by omega⟩
    have n2 : (24 : Int32) ≤ iz k := by rw [iz_n, iz_le (by omega) (by omega) (by omega) (by omega)]; omega
    refine ⟨K, ?_, fun j h1 h2 => by omega, fun _ _ => rfl⟩
    unfold fSe_cut_L2
    rw [if_pos n2]
  | succ d ih =>
    intro k m hk hm K
    obtain ⟨m, rfl⟩ : ∃ q, m = q + 1 := ⟨m - 1, by omega⟩
    have n2 : ¬ (24 : Int32) ≤ iz k := by rw [iz_n, iz_le (by omega) (by omega) (by omega) (by omega)]; omega
    have e1 : iz (k : Int) + (1 : Int32) = iz ((k + 1 : Nat) : Int) := by rw [iz_n, iz_add]; exact iz_inj (by omega)
    have i1 : 0 ≤ (iz (k : Int)).toInt ∧ (iz (k : Int)).toInt < 24 := by rw [iz_t (by omega) (by omega)]; omega
    have i3 : (iz (k : Int)).toNatClampNeg = k := by rw [iz_c (by omega) (by omega)]; omega
    have m1 : (-1 : Int32) = iz (-1) := by rw [iz_n, iz_neg]
    obtain ⟨K', k1, k2, k3⟩ := ih (k + 1) m (by omega) (by omega) (upd K k (iz (-1)))
    refine ⟨K', ?_, ?_, ?_⟩
    · unfold fSe_cut_L2
      rw [if_neg n2, if_pos i1, i3, e1, m1]
      exact k1
    · intro j h1 h2
      by_cases e : j = k
      · rw [k3 j (by omega), e, upd_s]
      · exact k2 j (by omega) h2
    · intro j hj
      rw [k3 j (by omega), upd_n _ _ (by omega)]
theorem cut_L23 {al : Nat → Int32} {w n t a : Int32} {dots cells sx sy sp : Nat → Int32} (hR : RS al w n t a dots cells sx sy sp) (o : OkA al) (cn : Cn al) {F LE LF : Nat → Int32} (hE : EF al F LE LF) :
    ∀ (d : Nat) (x : Int) (m : Nat), x = 6 - d → 0 ≤ x → d < m → ∀ A B C S K D T : Nat → Int32, (∀ y r : Int, x ≤ y ∧ y < 6 → 0 ≤ r ∧ r ≤ 3 → K (y * 4 + r).toNat = iz (-1)) →
    (∀ y, 0 ≤ y ∧ y < x → (0 ≤ fC al y → A y.toNat = iz (NC al y) ∧ B y.toNat = iz (OV al y (DD al y)) ∧ C y.toNat = iz (OV al y (DF al y)) ∧ S y.toNat = iz (SX al y)) ∧ (∀ r, 0 ≤ r ∧ r ≤ 3 → K (y * 4 + r).toNat = iz (if 0 ≤ fC al y then SC al y r else -1))) →
    ∃ A' B' C' S' K' D' T', fSe_cut_L23 n cells F LE LF m (iz x) A B C S K D T = some (A', B', C', S', K', D', T') ∧ SEI al A' B' C' S' K' := by
  intro d
  induction d with
  | zero =>
    intro x m hx h0 hm A B C S K D T h1 h2
    obtain ⟨m, rfl⟩ : ∃ q, m = q + 1 := ⟨m - 1, by omega⟩
    have n2 : (6 : Int32) ≤ iz x := by rw [iz_n, iz_le (by omega) (by omega) (by omega) (by omega)]; omega
    refine ⟨A, B, C, S, K, D, T, ?_, fun y hy => h2 y (by omega)⟩
    unfold fSe_cut_L23
    rw [if_pos n2]
  | succ d ih =>
    intro x m hx h0 hm A B C S K D T h1 h2
    obtain ⟨m, rfl⟩ : ∃ q, m = q + 1 := ⟨m - 1, by omega⟩
    have n2 : ¬ (6 : Int32) ≤ iz x := by rw [iz_n, iz_le (by omega) (by omega) (by omega) (by omega)]; omega
    have e1 : iz x + (1 : Int32) = iz (x + 1) := iz_add x 1
    have m1 : (-1 : Int32) = iz (-1) := by rw [iz_n, iz_neg]
    have f1 := sCh_followerOf F (x := x) (by omega)
    rw [hE.1] at f1
    have hf := cn.fr x
    have on := o.n
    have nm : (iz (fC al x) = iz (-1)) ↔ fC al x = -1 := iz_eq (by omega) (by omega) (by omega) (by omega)
    by_cases z : fC al x = -1
    · obtain ⟨A', B', C', S', K', D', T', k1, k2⟩ := ih (x + 1) m (by omega) (by omega) (by omega) A B C S K D T (fun y r hy hr => h1 y r (by omega) hr) (fun y hy => by
        by_cases e : y = x
        · rw [e]
          exact ⟨fun q => by omega, fun r hr => by rw [if_neg (by omega)]; exact h1 x r (by omega) hr⟩
        · exact h2 y (by omega))
      refine ⟨A', B', C', S', K', D', T', ?_, k2⟩
      unfold fSe_cut_L23
      rw [if_neg n2, f1]
      simp only [Option.bind_some]
      rw [m1, if_pos (nm.mpr z), e1]
      exact k1
    · have hp : 0 ≤ fC al x := by omega
      obtain ⟨A1, B1, C1, S1, K1, D1, T1, c1, c2, c3, c4, c5, c6, c7, c8⟩ := sSe_cutOne hR o cn hE hp A B C S K D T (fun r hr => h1 x r (by omega) hr)
      obtain ⟨A', B', C', S', K', D', T', k1, k2⟩ := ih (x + 1) m (by omega) (by omega) (by omega) A1 B1 C1 S1 K1 D1 T1 (fun y r hy hr => by
        rw [c8 _ (fun r' hr' e => by omega)]; exact h1 y r (by omega) hr) (fun y hy => by
        by_cases e : y = x
        · rw [e]
          exact ⟨fun _ => ⟨c2, c3, c4, c5⟩, fun r hr => by rw [if_pos hp]; exact c6 r hr⟩
        · have h3 := h2 y (by omega)
          obtain ⟨b1, b2, b3, b4⟩ := c7 y.toNat (by omega)
          rw [b1, b2, b3, b4]
          exact ⟨h3.1, fun r hr => by rw [c8 _ (fun r' hr' e' => by omega)]; exact h3.2 r hr⟩)
      refine ⟨A', B', C', S', K', D', T', ?_, k2⟩
      unfold fSe_cut_L23
      rw [if_neg n2, f1]
      simp only [Option.bind_some]
      rw [m1, if_neg (fun y => z (nm.mp y)), c1]
      simp only [Option.bind_some]
      rw [e1]
      exact k1
theorem sSe_cut {al : Nat → Int32} {w n t a : Int32} {dots cells sx sy sp : Nat → Int32} (hR : RS al w n t a dots cells sx sy sp) (o : OkA al) (cn : Cn al) {F LE LF : Nat → Int32} (hE : EF al F LE LF) (A B C S K D T : Nat → Int32) :
    ∃ A' B' C' S' K' D' T', fSe_cut n cells F LE LF A B C S K D T = some (A', B', C', S', K', D', T') ∧ SEI al A' B' C' S' K' := by
  obtain ⟨K1, k1, k2, k3⟩ := cut_L2 24 0 FU (by omega) (by show _ < 5000; omega) K
  obtain ⟨A', B', C', S', K', D', T', l1, l2⟩ := cut_L23 hR o cn hE 6 0 FU (by omega) (by omega) (by show _ < 5000; omega) A B C S K1 D T (fun y r hy hr => k2 _ (by omega) (by omega)) (fun y hy => by omega)
  rw [show iz ((0 : Nat) : Int) = (0 : Int32) from iz_l0.symm] at k1
  rw [← iz_l0] at l1
  refine ⟨A', B', C', S', K', D', T', ?_, l2⟩
  unfold fSe_cut
  rw [k1]
  simp only [Option.bind_some, l1]
