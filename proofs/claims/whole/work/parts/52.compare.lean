/-! the program lays a picture on its follower -/
theorem L54_skip {a b e f r : Int} {n : Int32} {cells : Nat → Int32} {N : Int} (hn : n = iz N) (hN : 0 ≤ N ∧ N ≤ 6) (hb : 0 ≤ b ∧ b < 6) (he : -1 ≤ e ∧ e ≤ 1) (hf : 1 ≤ f ∧ f ≤ 5) (hr : 0 ≤ r ∧ r ≤ 3) (A B C D : Nat → Int32) :
    ∀ (d : Nat) (c : Int) (m : Nat), 0 ≤ c → c + d ≤ 8 → (∀ y : Int, c ≤ y ∧ y < c + d → ¬ (0 ≤ r - e ∧ r - e ≤ 3 ∧ f ≤ y)) → fSe_compare_L54 (iz a) (iz b) (iz e) (iz f) (iz r) n cells (m + d) (iz c) A B C D = fSe_compare_L54 (iz a) (iz b) (iz e) (iz f) (iz r) n cells m (iz (c + d)) A B C D := by
  intro d
  induction d with
  | zero => intro c m _ _ _; rw [show c + ((0 : Nat) : Int) = c by omega]; rfl
  | succ d ih =>
    intro c m h0 h1 h2
    have n2 : ¬ (8 : Int32) ≤ iz c := by rw [iz_n, iz_le (by omega) (by omega) (by omega) (by omega)]; omega
    have e1 : iz c + (1 : Int32) = iz (c + 1) := iz_add c 1
    have h3 := h2 c (by omega)
    have hc : fSc_hasCell (iz b) (iz r - iz e) (iz c - iz f) n = some (iz 0) := by
      rw [iz_sub, iz_sub, hn, sSc_hasCell (by omega) (by omega) (by omega) (by omega), bi11 (by omega)]
    have ih' := ih (c + 1) m (by omega) (by omega) (fun y hy => h2 y (by omega))
    rw [show c + ((d + 1 : Nat) : Int) = c + 1 + d by omega, ← ih', show m + (d + 1) = (m + d) + 1 by omega]
    generalize hq : fSe_compare_L54 (iz a) (iz b) (iz e) (iz f) (iz r) n cells (m + d) (iz (c + 1)) A B C D = X
    unfold fSe_compare_L54
    rw [if_neg n2, hc]
    simp only [Option.bind_some, if_pos iz_l0.symm, e1]
    exact hq
theorem L54_end {a b e f r : Int} {n : Int32} {cells : Nat → Int32} (A B C D : Nat → Int32) (m : Nat) : fSe_compare_L54 (iz a) (iz b) (iz e) (iz f) (iz r) n cells (m + 1) (iz 8) A B C D = some (A, B, C, D) := by
  have n2 : (8 : Int32) ≤ iz 8 := by rw [iz_n, iz_le (by omega) (by omega) (by omega) (by omega)]; omega
  unfold fSe_compare_L54
  rw [if_pos n2]
/-- a row that has cells of the overlap -/
theorem L54_row {al : Nat → Int32} {w n t a : Int32} {dots cells sx sy sp : Nat → Int32} (hR : RS al w n t a dots cells sx sy sp) (o : OkA al) (cn : Cn al) {x r : Int} (hp : 0 ≤ fC al x) (hr : 0 ≤ r ∧ r ≤ 3 ∧ 0 ≤ r - eo al (fC al) x ∧ r - eo al (fC al) x ≤ 3) (c0 a0 u0 : Int) :
    ∀ (d k m : Nat), (k : Int) + d = 8 - fo al (fC al) x → d < m → ∀ A B C D : Nat → Int32,
    A x.toNat = iz (c0 + CS (fun _ => 1) (fo al (fC al) x) k) → B x.toNat = iz (a0 + CS (DD al x r) (fo al (fC al) x) k) → C x.toNat = iz (u0 + CS (DF al x r) (fo al (fC al) x) k) →
    ∃ A' B' C' D', fSe_compare_L54 (iz x) (iz (fC al x)) (iz (eo al (fC al) x)) (iz (fo al (fC al) x)) (iz r) n cells m (iz (fo al (fC al) x + k)) A B C D = some (A', B', C', D') ∧
      A' x.toNat = iz (c0 + CS (fun _ => 1) (fo al (fC al) x) (8 - fo al (fC al) x).toNat) ∧ B' x.toNat = iz (a0 + CS (DD al x r) (fo al (fC al) x) (8 - fo al (fC al) x).toNat) ∧ C' x.toNat = iz (u0 + CS (DF al x r) (fo al (fC al) x) (8 - fo al (fC al) x).toNat) ∧
      (∀ j, j ≠ x.toNat → A' j = A j ∧ B' j = B j ∧ C' j = C j) ∧ (∀ y, fo al (fC al) x + k ≤ y ∧ y ≤ 7 → D' (r * 8 + y).toNat = iz (DD al x r y)) ∧ (∀ j : Nat, (∀ y, fo al (fC al) x + k ≤ y ∧ y ≤ 7 → j ≠ (r * 8 + y).toNat) → D' j = D j) := by
  have on := o.n
  have hN := cn.fN hp
  have hf := cn.fr x
  obtain ⟨p1, p2, p3, p4, p5, p6⟩ := Cn.ef hR o cn hp
  have i3 : 0 ≤ (iz x).toInt ∧ (iz x).toInt < 6 := by rw [iz_t (by omega) (by omega)]; omega
  have i4 : (iz x).toNatClampNeg = x.toNat := iz_c (by omega) (by omega)
  intro d
  induction d with
  | zero =>
    intro k m hk hm A B C D hA hB hC
    obtain ⟨m, rfl⟩ : ∃ q, m = q + 1 := ⟨m - 1, by omega⟩
    refine ⟨A, B, C, D, ?_, ?_, ?_, ?_, fun _ _ => ⟨rfl, rfl, rfl⟩, fun y hy => by omega, fun _ _ => rfl⟩
    · rw [show fo al (fC al) x + (k : Int) = 8 by omega]; exact L54_end A B C D m
    · rw [hA, show (8 - fo al (fC al) x).toNat = k by omega]
    · rw [hB, show (8 - fo al (fC al) x).toNat = k by omega]
    · rw [hC, show (8 - fo al (fC al) x).toNat = k by omega]
  | succ d ih =>
    intro k m hk hm A B C D hA hB hC
    obtain ⟨m, rfl⟩ : ∃ q, m = q + 1 := ⟨m - 1, by omega⟩
    have n2 : ¬ (8 : Int32) ≤ iz (fo al (fC al) x + k) := by rw [iz_n, iz_le (by omega) (by omega) (by omega) (by omega)]; omega
    have e1 : iz (fo al (fC al) x + k) + (1 : Int32) = iz (fo al (fC al) x + ((k + 1 : Nat) : Int)) := by rw [iz_n, iz_add]; exact iz_inj (by omega)
    have hc : fSc_hasCell (iz (fC al x)) (iz (r - eo al (fC al) x)) (iz (fo al (fC al) x + k - fo al (fC al) x)) n = some (iz 1) := by
      rw [hR.iN, sSc_hasCell (by omega) (by omega) (by omega) (by omega), bi10 (by omega)]
    have n3 : ¬ iz 1 = (0 : Int32) := by rw [iz_l0]; exact iz01
    have v1 := sSc_cellAt hR (k := x) (r := r) (c := fo al (fC al) x + k) on hN (by omega) (by omega)
    have v2 := sSc_cellAt hR (k := fC al x) (r := r - eo al (fC al) x) (c := fo al (fC al) x + k - fo al (fC al) x) on (by omega) (by omega) (by omega)
    have hdf := DF_r hR o cn hp (r := r) (c := fo al (fC al) x + k) (by omega) (by omega) (by omega)
    have e2 : iz r * (8 : Int32) + iz (fo al (fC al) x + k) = iz (r * 8 + (fo al (fC al) x + k)) := by rw [iz_n, iz_mul, iz_add]
    have i1 : 0 ≤ (iz (r * 8 + (fo al (fC al) x + k))).toInt ∧ (iz (r * 8 + (fo al (fC al) x + k))).toInt < 32 := by rw [iz_t (by omega) (by omega)]; omega
    have i2 : (iz (r * 8 + (fo al (fC al) x + k))).toNatClampNeg = (r * 8 + (fo al (fC al) x + k)).toNat := iz_c (by omega) (by omega)
    have e5 : iz (CE al x r (fo al (fC al) x + k)) - iz (CE al (fC al x) (r - eo al (fC al) x) (fo al (fC al) x + k - fo al (fC al) x)) = iz (DF al x r (fo al (fC al) x + k)) := by rw [iz_sub]; rfl
    have e6 : (if 0 ≤ iz (DF al x r (fo al (fC al) x + k)) then iz (DF al x r (fo al (fC al) x + k)) else 0 - iz (DF al x r (fo al (fC al) x + k))) = iz (DD al x r (fo al (fC al) x + k)) := by
      unfold DD
      rw [if_pos (show 0 ≤ r ∧ r ≤ 3 ∧ 0 ≤ r - eo al (fC al) x ∧ r - eo al (fC al) x ≤ 3 ∧ fo al (fC al) x ≤ fo al (fC al) x + (k : Int) ∧ fo al (fC al) x + (k : Int) ≤ 7 by omega)]
      have nz : (0 ≤ iz (DF al x r (fo al (fC al) x + k))) ↔ 0 ≤ DF al x r (fo al (fC al) x + k) := by rw [iz_l0]; exact iz_le (by omega) (by omega) (by omega) (by omega)
      by_cases z : 0 ≤ DF al x r (fo al (fC al) x + k)
      · rw [if_pos (nz.mpr z), if_pos z]
      · rw [if_neg (fun y => z (nz.mp y)), if_neg z, iz_l0, iz_sub]; exact iz_inj (by omega)
    obtain ⟨A', B', C', D', k1, k2, k3, k4, k5, k6, k7⟩ := ih (k + 1) m (by omega) (by omega) (upd A x.toNat (iz (c0 + CS (fun _ => 1) (fo al (fC al) x) k + 1))) (upd B x.toNat (iz (a0 + CS (DD al x r) (fo al (fC al) x) k + DD al x r (fo al (fC al) x + k)))) (upd C x.toNat (iz (u0 + CS (DF al x r) (fo al (fC al) x) k + DF al x r (fo al (fC al) x + k)))) (upd D (r * 8 + (fo al (fC al) x + k)).toNat (iz (DD al x r (fo al (fC al) x + k))))
      (by rw [upd_s, Int.add_assoc]; rfl) (by rw [upd_s, Int.add_assoc]; rfl) (by rw [upd_s, Int.add_assoc]; rfl)
    refine ⟨A', B', C', D', ?_, k2, k3, k4, ?_, ?_, ?_⟩
    · unfold fSe_compare_L54
      rw [if_neg n2, iz_sub, iz_sub, hc]
      simp only [Option.bind_some, if_neg n3, v1, v2, e2, if_pos i1, if_pos i3, i2, i4, e5, e6, hA, hB, hC, e1]
      rw [iz_n, iz_add, iz_add, iz_add]
      exact k1
    · intro j hj
      obtain ⟨b1, b2, b3⟩ := k5 j hj
      rw [b1, b2, b3, upd_n _ _ hj, upd_n _ _ hj, upd_n _ _ hj]
      exact ⟨rfl, rfl, rfl⟩
    · intro y hy
      by_cases e : y = fo al (fC al) x + k
      · rw [e, k7 _ (fun z hz q => by omega), upd_s]
      · exact k6 y (by omega)
    · intro j hj
      rw [k7 j (fun y hy => hj y (by omega)), upd_n _ _ (hj _ (by omega))]
/-- a row, whether it has such cells or not -/
theorem L54_all {al : Nat → Int32} {w n t a : Int32} {dots cells sx sy sp : Nat → Int32} (hR : RS al w n t a dots cells sx sy sp) (o : OkA al) (cn : Cn al) {x r : Int} (hp : 0 ≤ fC al x) (hr : 0 ≤ r ∧ r ≤ 3) (c0 a0 u0 : Int) (A B C D : Nat → Int32) (hA : A x.toNat = iz c0) (hB : B x.toNat = iz a0) (hC : C x.toNat = iz u0) :
    ∃ A' B' C' D', fSe_compare_L54 (iz x) (iz (fC al x)) (iz (eo al (fC al) x)) (iz (fo al (fC al) x)) (iz r) n cells FU (0 : Int32) A B C D = some (A', B', C', D') ∧
      A' x.toNat = iz (c0 + ifr (eo al (fC al) x) r (CS (fun _ => 1) (fo al (fC al) x) (8 - fo al (fC al) x).toNat)) ∧ B' x.toNat = iz (a0 + ifr (eo al (fC al) x) r (CS (DD al x r) (fo al (fC al) x) (8 - fo al (fC al) x).toNat)) ∧ C' x.toNat = iz (u0 + ifr (eo al (fC al) x) r (CS (DF al x r) (fo al (fC al) x) (8 - fo al (fC al) x).toNat)) ∧
      (∀ j, j ≠ x.toNat → A' j = A j ∧ B' j = B j ∧ C' j = C j) ∧ ((0 ≤ r - eo al (fC al) x ∧ r - eo al (fC al) x ≤ 3) → ∀ y, fo al (fC al) x ≤ y ∧ y ≤ 7 → D' (r * 8 + y).toNat = iz (DD al x r y)) ∧ (∀ j : Nat, (∀ y, fo al (fC al) x ≤ y ∧ y ≤ 7 → j ≠ (r * 8 + y).toNat) → D' j = D j) := by
  have on := o.n
  have hN := cn.fN hp
  have hf := cn.fr x
  obtain ⟨p1, p2, p3, p4, p5, p6⟩ := Cn.ef hR o cn hp
  rw [iz_l0]
  by_cases z : 0 ≤ r ∧ r ≤ 3 ∧ 0 ≤ r - eo al (fC al) x ∧ r - eo al (fC al) x ≤ 3
  · have hs := L54_skip (a := x) (b := fC al x) (e := eo al (fC al) x) (f := fo al (fC al) x) (r := r) (cells := cells) hR.iN on (by omega) (by omega) (by omega) (by omega) A B C D (fo al (fC al) x).toNat 0 (5000 - (fo al (fC al) x).toNat) (by omega) (by omega) (fun y hy => by omega)
    rw [show 5000 - (fo al (fC al) x).toNat + (fo al (fC al) x).toNat = FU by show _ = 5000; omega] at hs
    obtain ⟨A', B', C', D', k1, k2, k3, k4, k5, k6, k7⟩ := L54_row hR o cn hp z c0 a0 u0 (8 - fo al (fC al) x).toNat 0 (5000 - (fo al (fC al) x).toNat) (by omega) (by omega) A B C D (by rw [hA]; exact iz_inj (Int.add_zero _).symm) (by rw [hB]; exact iz_inj (Int.add_zero _).symm) (by rw [hC]; exact iz_inj (Int.add_zero _).symm)
    rw [show fo al (fC al) x + ((0 : Nat) : Int) = fo al (fC al) x by omega] at k1 k6 k7
    refine ⟨A', B', C', D', ?_, ?_, ?_, ?_, k5, fun _ => k6, k7⟩
    · rw [hs, show (0 : Int) + ((fo al (fC al) x).toNat : Int) = fo al (fC al) x by omega]; exact k1
    · rw [k2]; unfold ifr; rw [if_pos z]
    · rw [k3]; unfold ifr; rw [if_pos z]
    · rw [k4]; unfold ifr; rw [if_pos z]
  · have hs := L54_skip (a := x) (b := fC al x) (e := eo al (fC al) x) (f := fo al (fC al) x) (r := r) (cells := cells) hR.iN on (by omega) (by omega) (by omega) (by omega) A B C D 8 0 4992 (by omega) (by omega) (fun y hy => by omega)
    rw [show 4992 + 8 = FU from rfl] at hs
    refine ⟨A, B, C, D, ?_, ?_, ?_, ?_, fun _ _ => ⟨rfl, rfl, rfl⟩, fun y => by omega, fun _ _ => rfl⟩
    · rw [hs]; exact L54_end A B C D 4991
    · rw [hA]; unfold ifr; rw [if_neg z, Int.add_zero]
    · rw [hB]; unfold ifr; rw [if_neg z, Int.add_zero]
    · rw [hC]; unfold ifr; rw [if_neg z, Int.add_zero]
theorem L45_all {al : Nat → Int32} {w n t a : Int32} {dots cells sx sy sp : Nat → Int32} (hR : RS al w n t a dots cells sx sy sp) (o : OkA al) (cn : Cn al) {x : Int} (hp : 0 ≤ fC al x) :
    ∀ (d k m : Nat), k + d = 4 → d < m → ∀ A B C D : Nat → Int32,
    A x.toNat = iz (SU (fun r => ifr (eo al (fC al) x) r (CS (fun _ => 1) (fo al (fC al) x) (8 - fo al (fC al) x).toNat)) k) → B x.toNat = iz (SU (fun r => ifr (eo al (fC al) x) r (CS (DD al x r) (fo al (fC al) x) (8 - fo al (fC al) x).toNat)) k) → C x.toNat = iz (SU (fun r => ifr (eo al (fC al) x) r (CS (DF al x r) (fo al (fC al) x) (8 - fo al (fC al) x).toNat)) k) →
    ∃ A' B' C' D', fSe_compare_L45 (iz x) (iz (fC al x)) (iz (eo al (fC al) x)) (iz (fo al (fC al) x)) n cells m (iz k) A B C D = some (A', B', C', D') ∧
      A' x.toNat = iz (OV al x (fun _ _ => 1)) ∧ B' x.toNat = iz (OV al x (DD al x)) ∧ C' x.toNat = iz (OV al x (DF al x)) ∧
      (∀ j, j ≠ x.toNat → A' j = A j ∧ B' j = B j ∧ C' j = C j) ∧ (∀ r y, (k : Int) ≤ r ∧ r ≤ 3 → (0 ≤ r - eo al (fC al) x ∧ r - eo al (fC al) x ≤ 3) → fo al (fC al) x ≤ y ∧ y ≤ 7 → D' (r * 8 + y).toNat = iz (DD al x r y)) ∧ (∀ j : Nat, j < 8 * k → D' j = D j) := by
  obtain ⟨p1, p2, p3, p4, p5, p6⟩ := Cn.ef hR o cn hp
  intro d
  induction d with
  | zero =>
    intro k m hk hm A B C D hA hB hC
    obtain ⟨m, rfl⟩ : ∃ q, m = q + 1 := ⟨m - 1, by omega⟩
    have n2 : (4 : Int32) ≤ iz k := by rw [iz_n, iz_le (by omega) (by omega) (by omega) (by omega)]; omega
    obtain rfl : k = 4 := by omega
    refine ⟨A, B, C, D, ?_, hA, hB, hC, fun _ _ => ⟨rfl, rfl, rfl⟩, fun r y _ _ _ => by omega, fun _ _ => rfl⟩
    unfold fSe_compare_L45
    rw [if_pos n2]
  | succ d ih =>
    intro k m hk hm A B C D hA hB hC
    obtain ⟨m, rfl⟩ : ∃ q, m = q + 1 := ⟨m - 1, by omega⟩
    have n2 : ¬ (4 : Int32) ≤ iz k := by rw [iz_n, iz_le (by omega) (by omega) (by omega) (by omega)]; omega
    have e1 : iz (k : Int) + (1 : Int32) = iz ((k + 1 : Nat) : Int) := by rw [iz_n, iz_add]; exact iz_inj (by omega)
    obtain ⟨A1, B1, C1, D1, a1, a2, a3, a4, a5, a6, a7⟩ := L54_all hR o cn hp (r := (k : Int)) (by omega) _ _ _ A B C D hA hB hC
    obtain ⟨A', B', C', D', k1, k2, k3, k4, k5, k6, k7⟩ := ih (k + 1) m (by omega) (by omega) A1 B1 C1 D1 a2 a3 a4
    refine ⟨A', B', C', D', ?_, k2, k3, k4, ?_, ?_, ?_⟩
    · unfold fSe_compare_L45
      rw [if_neg n2, a1]
      simp only [Option.bind_some, e1]
      exact k1
    · intro j hj
      obtain ⟨b1, b2, b3⟩ := k5 j hj
      obtain ⟨b4, b5, b6⟩ := a5 j hj
      exact ⟨b1.trans b4, b2.trans b5, b3.trans b6⟩
    · intro r y h1 h2 h3
      by_cases e : r = k
      · rw [k7 _ (by omega), e]; rw [e] at h2; exact a6 h2 y h3
      · exact k6 r y (by omega) h2 h3
    · intro j hj
      rw [k7 j (by omega), a7 j (fun y hy => by omega)]
theorem OV_1 {al : Nat → Int32} {w n t a : Int32} {dots cells sx sy sp : Nat → Int32} (hR : RS al w n t a dots cells sx sy sp) (o : OkA al) (cn : Cn al) {x : Int} (hp : 0 ≤ fC al x) : OV al x (fun _ _ => 1) = NC al x := by
  obtain ⟨p1, p2, p3, p4, p5, p6⟩ := Cn.ef hR o cn hp
  have h4 : ∀ g : Int → Int, SU g 4 = 0 + g 0 + g 1 + g 2 + g 3 := fun g => rfl
  unfold OV NC
  rw [h4]
  unfold ifr
  generalize eo al (fC al) x = e at *
  generalize fo al (fC al) x = f at *
  have he : e = -1 ∨ e = 0 ∨ e = 1 := by omega
  have hf : f = 1 ∨ f = 2 ∨ f = 3 ∨ f = 4 ∨ f = 5 := by omega
  rcases he with rfl | rfl | rfl <;> rcases hf with rfl | rfl | rfl | rfl | rfl <;> decide
