/-! what the taken links come to -/
def S6 (f : Int → Int) : Int := f 0 + f 1 + f 2 + f 3 + f 4 + f 5
theorem S6_up {f g : Int → Int} {a : Int} (ha : 0 ≤ a ∧ a < 6) (h : ∀ x, x ≠ a → g x = f x) : S6 g = S6 f + (g a - f a) := by
  have : a = 0 ∨ a = 1 ∨ a = 2 ∨ a = 3 ∨ a = 4 ∨ a = 5 := by omega
  unfold S6
  rcases this with rfl | rfl | rfl | rfl | rfl | rfl
  · rw [h 1 (by omega), h 2 (by omega), h 3 (by omega), h 4 (by omega), h 5 (by omega)]; omega
  · rw [h 0 (by omega), h 2 (by omega), h 3 (by omega), h 4 (by omega), h 5 (by omega)]; omega
  · rw [h 0 (by omega), h 1 (by omega), h 3 (by omega), h 4 (by omega), h 5 (by omega)]; omega
  · rw [h 0 (by omega), h 1 (by omega), h 2 (by omega), h 4 (by omega), h 5 (by omega)]; omega
  · rw [h 0 (by omega), h 1 (by omega), h 2 (by omega), h 3 (by omega), h 5 (by omega)]; omega
  · rw [h 0 (by omega), h 1 (by omega), h 2 (by omega), h 3 (by omega), h 4 (by omega)]; omega
theorem S6_c {f g : Int → Int} (h : ∀ x, 0 ≤ x ∧ x < 6 → f x = g x) : S6 f = S6 g := by
  unfold S6
  rw [h 0 (by omega), h 1 (by omega), h 2 (by omega), h 3 (by omega), h 4 (by omega), h 5 (by omega)]
theorem S6_r {f : Int → Int} {l u : Int} (h : ∀ x, 0 ≤ x ∧ x < 6 → l ≤ f x ∧ f x ≤ u) : 6 * l ≤ S6 f ∧ S6 f ≤ 6 * u := by
  have h0 := h 0 (by omega)
  have h1 := h 1 (by omega)
  have h2 := h 2 (by omega)
  have h3 := h 3 (by omega)
  have h4 := h 4 (by omega)
  have h5 := h 5 (by omega)
  unfold S6
  omega
/-- a link that is right -/
def RTr (al : Nat → Int32) (a b e f : Int) : Prop := SH al b 2 = SH al a 2 ∧ SH al b 1 = SH al a 1 + e ∧ SH al b 0 = (SH al a 0 + f) % SH al a 2
noncomputable def rt (al : Nat → Int32) (f : Int → Int) (x : Int) : Int := if f x = -1 then 0 else (@ite Int (RTr al x (f x) (LK al x (f x)).2.1 (LK al x (f x)).2.2) (Classical.propDecidable _) 1 0)
noncomputable def eo (al : Nat → Int32) (f : Int → Int) (x : Int) : Int := if f x = -1 then 0 else (LK al x (f x)).2.1
noncomputable def fo (al : Nat → Int32) (f : Int → Int) (x : Int) : Int := if f x = -1 then 0 else (LK al x (f x)).2.2
def co (f : Int → Int) (x : Int) : Int := if f x = -1 then 0 else 1
theorem sSc_isRight {al : Nat → Int32} {w n t a : Int32} {dots cells sx sy sp : Nat → Int32} (h : RS al w n t a dots cells sx sy sp) (o : OkA al) {x b e f : Int} (ha : 0 ≤ x ∧ x < NN al) (hb : 0 ≤ b ∧ b < NN al) (he : -1 ≤ e ∧ e ≤ 1) (hf : 1 ≤ f ∧ f ≤ 5) :
    ∃ u, fSc_isRight (iz x) (iz b) (iz e) (iz f) n sx sy sp = some u ∧ (u = iz 0 ∨ u = iz 1) ∧ (u = iz 0 ↔ ¬ RTr al x b e f) := by
  have on := o.n
  have en := h.iN
  have xa := o.sh ha
  have xb := o.sh hb
  have i1 : 0 ≤ (iz x).toInt ∧ (iz x).toInt < 6 := by rw [iz_t (by omega) (by omega)]; omega
  have i2 : 0 ≤ (iz b).toInt ∧ (iz b).toInt < 6 := by rw [iz_t (by omega) (by omega)]; omega
  have i3 : (iz x).toNatClampNeg = x.toNat := iz_c (by omega) (by omega)
  have i4 : (iz b).toNatClampNeg = b.toNat := iz_c (by omega) (by omega)
  have p0 := h.ip (k := x) (by omega)
  have p1 := h.ip (k := b) (by omega)
  have y0 := h.iy (k := x) (by omega)
  have y1 := h.iy (k := b) (by omega)
  have x0 := h.ix (k := x) (by omega)
  have x1 := h.ix (k := b) (by omega)
  have n1 : ¬ bi (0 ≤ x ∧ x < NN al ∧ x < 6) = (0 : Int32) := by rw [iz_n, bi0]; omega
  have n2 : ¬ bi (0 ≤ b ∧ b < NN al ∧ b < 6) = (0 : Int32) := by rw [iz_n, bi0]; omega
  have g1 : ¬ iz (SH al x 2) ≤ (0 : Int32) := by simp (disch := omega) only [iz_n, iz_neg, iz_add, iz_sub, iz_mul, iz_lt, iz_le, iz_eq, iz_t, iz_c]; omega
  have g2 : ¬ iz (SH al x 2) = (0 : Int32) := by simp (disch := omega) only [iz_n, iz_neg, iz_add, iz_sub, iz_mul, iz_lt, iz_le, iz_eq, iz_t, iz_c]; omega
  have e1 : (iz (SH al b 2) = iz (SH al x 2)) ↔ SH al b 2 = SH al x 2 := iz_eq (by omega) (by omega) (by omega) (by omega)
  have e2 : (iz (SH al b 1) = iz (SH al x 1 + e)) ↔ SH al b 1 = SH al x 1 + e := iz_eq (by omega) (by omega) (by omega) (by omega)
  have hm := Int.emod_nonneg (SH al x 0 + f) (show SH al x 2 ≠ 0 by omega)
  have hm2 := Int.emod_lt_of_pos (SH al x 0 + f) (show 0 < SH al x 2 by omega)
  have e3 : (iz (SH al b 0) = iz ((SH al x 0 + f) % SH al x 2)) ↔ SH al b 0 = (SH al x 0 + f) % SH al x 2 := iz_eq (by omega) (by omega) (by omega) (by omega)
  have e4 : iz (SH al x 0 + f) - iz (SH al x 0 + f) / iz (SH al x 2) * iz (SH al x 2) = iz ((SH al x 0 + f) % SH al x 2) := by
    rw [iz_div (by omega) (by omega), iz_mul, iz_sub]
    refine iz_inj ?_
    have := Int.mul_ediv_add_emod (SH al x 0 + f) (SH al x 2)
    rw [Int.mul_comm] at this
    omega
  unfold fSc_isRight
  rw [en, sSc_hasPicture (by omega) (by omega), sSc_hasPicture (by omega) (by omega)]
  simp only [Option.bind_some, if_neg n1, if_neg n2, if_pos i1, if_pos i2, i3, i4, p0, p1, if_neg g1, y0, y1, x0, x1, if_pos g2, e4, iz_add]
  unfold RTr
  by_cases c1 : SH al b 2 = SH al x 2
  · rw [if_pos (e1.mpr c1)]
    by_cases c2 : SH al b 1 = SH al x 1 + e
    · rw [if_pos (e2.mpr c2)]
      by_cases c3 : SH al b 0 = (SH al x 0 + f) % SH al x 2
      · rw [if_pos (e3.mpr c3)]
        exact ⟨_, rfl, .inr rfl, ⟨fun q => absurd q iz01, fun q => absurd ⟨c1, c2, c3⟩ q⟩⟩
      · rw [if_neg (fun q => c3 (e3.mp q))]
        exact ⟨_, rfl, .inl rfl, ⟨fun _ q => c3 q.2.2, fun _ => rfl⟩⟩
    · rw [if_neg (fun q => c2 (e2.mp q))]
      exact ⟨_, rfl, .inl rfl, ⟨fun _ q => c2 q.2.1, fun _ => rfl⟩⟩
  · rw [if_neg (fun q => c1 (e1.mp q))]
    exact ⟨_, rfl, .inl rfl, ⟨fun _ q => c1 q.1, fun _ => rfl⟩⟩
def JI (al : Nat → Int32) (tk tu dr ri : Int32) (F A LE LF G H : Nat → Int32) : Prop :=
  (∀ j, j < 6 → F j = G j ∧ A j = H j) ∧ GI (NN al) (fw F) (fw A) ∧
  (∀ x, 0 ≤ x ∧ x < 6 → 0 ≤ fw F x → 0 < LV al x (fw F x) ∧ LE x.toNat = iz (eo al (fw F) x) ∧ LF x.toNat = iz (fo al (fw F) x)) ∧
  tk = iz (S6 (co (fw F))) ∧ S6 (co (fw A)) = S6 (co (fw F)) ∧ tu = iz (S6 (fo al (fw F))) ∧ dr = iz (S6 (eo al (fw F))) ∧ ri = iz (S6 (rt al (fw F)))
theorem sLi_votesOf {al M E Q : Nat → Int32} (hL : LTb al M E Q) {a b : Int} (ha : 0 ≤ a ∧ a < 6) (hb : 0 ≤ b ∧ b < 6) : fLi_votesOf (iz a) (iz b) M = some (iz (LV al a b)) := by
  have h1 := (hL a b ha hb).1
  have e1 : (a * 6 + b).toNat = (6 * a + b).toNat := by congr 1; omega
  unfold fLi_votesOf
  rw [sLi_areTwo (by omega) (by omega)]
  simp (disch := omega) only [iz_n, iz_neg, iz_add, iz_sub, iz_mul, iz_lt, iz_le, iz_eq, iz_t, iz_c, Option.bind_some, bi0, bi1, bi01, bi10, bi11, if_pos, if_neg, if_true, if_false, ite_not, ite_bi]
  rw [e1, h1]
theorem sLi_shift {al M E Q : Nat → Int32} (hL : LTb al M E Q) {a b : Int} (ha : 0 ≤ a ∧ a < 6) (hb : 0 ≤ b ∧ b < 6) (hv : 0 < LV al a b) : fLi_shiftE (iz a) (iz b) E = some (iz (LK al a b).2.1) ∧ fLi_shiftF (iz a) (iz b) Q = some (iz (LK al a b).2.2) := by
  have h1 := (hL a b ha hb).2 hv
  have e1 : (a * 6 + b).toNat = (6 * a + b).toNat := by congr 1; omega
  unfold fLi_shiftE fLi_shiftF
  rw [sLi_areTwo (by omega) (by omega)]
  constructor
  · simp (disch := omega) only [iz_n, iz_neg, iz_add, iz_sub, iz_mul, iz_lt, iz_le, iz_eq, iz_t, iz_c, Option.bind_some, bi0, bi1, bi01, bi10, bi11, if_pos, if_neg, if_true, if_false, ite_not, ite_bi]
    rw [e1, h1.1]
  · simp (disch := omega) only [iz_n, iz_neg, iz_add, iz_sub, iz_mul, iz_lt, iz_le, iz_eq, iz_t, iz_c, Option.bind_some, bi0, bi1, bi01, bi10, bi11, if_pos, if_neg, if_true, if_false, ite_not, ite_bi]
    rw [e1, h1.2]
theorem LV_pos {al : Nat → Int32} {a b : Int} (h : 0 < LV al a b) : a < NN al ∧ b < NN al ∧ a ≠ b ∧ LV al a b = (LK al a b).1 := by
  unfold LV at h ⊢
  by_cases c : a < NN al ∧ b < NN al ∧ a ≠ b
  · rw [if_pos c]; exact ⟨c.1, c.2.1, c.2.2, rfl⟩
  · rw [if_neg c] at h; omega
theorem take_s {al : Nat → Int32} {w n t a : Int32} {dots cells sx sy sp : Nat → Int32} (h : RS al w n t a dots cells sx sy sp) (o : OkA al) {M E Q : Nat → Int32} (hL : LTb al M E Q) {tk tu dr ri : Int32} {F A LE LF G H : Nat → Int32} (hJ : JI al tk tu dr ri F A LE LF G H) {x b : Int} (hx : 0 ≤ x ∧ x < 6) (hb : 0 ≤ b ∧ b < 6) (hv : 0 < LV al x b)
    (c1 : fw F x = -1) (c2 : fw A b = -1) (hw : (∀ m, it (fw F) m b ≠ x) ∨ ∃ m : Nat, (m : Int) + 1 = NN al ∧ it (fw F) m b = x ∧ ∀ j, j < m → it (fw F) j b ≠ x) :
    ∃ tk' tu' dr' ri' LE' LF', fCh_take (iz x) (iz b) n sx sy sp E Q tk tu dr ri F A LE LF = some (tk', tu', dr', ri', upd F x.toNat (iz b), upd A b.toNat (iz x), LE', LF') ∧
      JI al tk' tu' dr' ri' (upd F x.toNat (iz b)) (upd A b.toNat (iz x)) LE' LF' (upd G x.toNat (iz b)) (upd H b.toNat (iz x)) := by
  have on := o.n
  obtain ⟨v1, v2, v3, v4⟩ := LV_pos hv
  have hr := LK_r h o (a' := x) (b := b) (by omega) (by omega)
  have hr2 : 1 ≤ (LK al x b).2.2 ∧ (LK al x b).2.2 ≤ 5 := hr.2.2.2.2 (by omega)
  obtain ⟨s1, s2⟩ := sLi_shift hL hx hb hv
  obtain ⟨j1, j2, j3, j4, j5, j6, j7, j8⟩ := hJ
  have i1 : 0 ≤ (iz x).toInt ∧ (iz x).toInt < 6 := by rw [iz_t (by omega) (by omega)]; omega
  have i2 : 0 ≤ (iz b).toInt ∧ (iz b).toInt < 6 := by rw [iz_t (by omega) (by omega)]; omega
  have i3 : (iz x).toNatClampNeg = x.toNat := iz_c (by omega) (by omega)
  have i4 : (iz b).toNatClampNeg = b.toNat := iz_c (by omega) (by omega)
  obtain ⟨u, u1, u2, u3⟩ := sSc_isRight h o (x := x) (b := b) (e := (LK al x b).2.1) (f := (LK al x b).2.2) (by omega) (by omega) ⟨hr.2.2.1, hr.2.2.2.1⟩ hr2
  have f1 : fw (upd F x.toNat (iz b)) = fun y => if y = x then b else fw F y := fw_up F hx (by omega)
  have f2 : fw (upd A b.toNat (iz x)) = fun y => if y = b then x else fw A y := fw_up A hb (by omega)
  have fx : (fun y => if y = x then b else fw F y) x = b := if_pos rfl
  have fy : ∀ y, y ≠ x → (fun y => if y = x then b else fw F y) y = fw F y := fun y hy => if_neg hy
  have ax : (fun y => if y = b then x else fw A y) b = x := if_pos rfl
  have ay : ∀ y, y ≠ b → (fun y => if y = b then x else fw A y) y = fw A y := fun y hy => if_neg hy
  have k1 : S6 (co (fun y => if y = x then b else fw F y)) = S6 (co (fw F)) + 1 := by
    rw [S6_up (f := co (fw F)) (a := x) hx (fun y hy => by unfold co; rw [fy y hy])]
    unfold co; rw [fx, c1, if_neg (by omega), if_pos rfl]; omega
  have k2 : S6 (co (fun y => if y = b then x else fw A y)) = S6 (co (fw A)) + 1 := by
    rw [S6_up (f := co (fw A)) (a := b) hb (fun y hy => by unfold co; rw [ay y hy])]
    unfold co; rw [ax, c2, if_neg (by omega), if_pos rfl]; omega
  have k3 : S6 (fo al (fun y => if y = x then b else fw F y)) = S6 (fo al (fw F)) + (LK al x b).2.2 := by
    rw [S6_up (f := fo al (fw F)) (a := x) hx (fun y hy => by unfold fo; rw [fy y hy])]
    unfold fo; rw [fx, c1, if_neg (by omega), if_pos rfl]; omega
  have k4 : S6 (eo al (fun y => if y = x then b else fw F y)) = S6 (eo al (fw F)) + (LK al x b).2.1 := by
    rw [S6_up (f := eo al (fw F)) (a := x) hx (fun y hy => by unfold eo; rw [fy y hy])]
    unfold eo; rw [fx, c1, if_neg (by omega), if_pos rfl]; omega
  have k5 : S6 (rt al (fun y => if y = x then b else fw F y)) = S6 (rt al (fw F)) + (@ite Int (RTr al x b (LK al x b).2.1 (LK al x b).2.2) (Classical.propDecidable _) 1 0) := by
    rw [S6_up (f := rt al (fw F)) (a := x) hx (fun y hy => by unfold rt; rw [fy y hy])]
    unfold rt; rw [fx, c1, if_neg (by omega), if_pos rfl]; omega
  have inner : ∀ ri' : Int32, ri' = iz (S6 (rt al (fun y => if y = x then b else fw F y))) → JI al (tk + (1 : Int32)) (tu + iz (LK al x b).2.2) (dr + iz (LK al x b).2.1) ri' (upd F x.toNat (iz b)) (upd A b.toNat (iz x)) (upd LE x.toNat (iz (LK al x b).2.1)) (upd LF x.toNat (iz (LK al x b).2.2)) (upd G x.toNat (iz b)) (upd H b.toNat (iz x)) := by
    intro ri' hri
    unfold JI
    rw [f1, f2, k1, k2, k3, k4]
    refine ⟨?_, j2.take on.1 (by omega) (by omega) c1 c2 hw, ?_, ?_, by omega, ?_, ?_, hri⟩
    · intro j hj
      constructor
      · by_cases q : j = x.toNat
        · rw [q, upd_s, upd_s]
        · rw [upd_n _ _ q, upd_n _ _ q]; exact (j1 j hj).1
      · by_cases q : j = b.toNat
        · rw [q, upd_s, upd_s]
        · rw [upd_n _ _ q, upd_n _ _ q]; exact (j1 j hj).2
    · intro y hy hp
      by_cases q : y = x
      · subst q
        rw [fx]
        refine ⟨hv, ?_, ?_⟩
        · rw [upd_s]; unfold eo; rw [fx, if_neg (by omega)]
        · rw [upd_s]; unfold fo; rw [fx, if_neg (by omega)]
      · rw [fy y q] at hp ⊢
        rw [upd_n _ _ (by omega), upd_n _ _ (by omega)]
        have := j3 y hy hp
        refine ⟨this.1, ?_, ?_⟩
        · rw [this.2.1]; unfold eo; rw [fy y q]
        · rw [this.2.2]; unfold fo; rw [fy y q]
    · rw [j4, iz_n, iz_add]
    · rw [j6, iz_add]
    · rw [j7, iz_add]
  have n1 : ¬ bi (0 ≤ x ∧ x ≤ 5) = (0 : Int32) := by rw [iz_n, bi0]; omega
  have n2 : ¬ bi (0 ≤ b ∧ b ≤ 5) = (0 : Int32) := by rw [iz_n, bi0]; omega
  have w1 : fRi_within (iz x) (0 : Int32) (5 : Int32) = some (bi (0 ≤ x ∧ x ≤ 5)) := by rw [iz_n, iz_n]; exact sRi_within (by omega) (by omega) (by omega)
  have w2 : fRi_within (iz b) (0 : Int32) (5 : Int32) = some (bi (0 ≤ b ∧ b ≤ 5)) := by rw [iz_n, iz_n]; exact sRi_within (by omega) (by omega) (by omega)
  unfold fCh_take
  rw [w1, w2]
  simp only [Option.bind_some, if_neg n1, if_neg n2, if_pos i1, if_pos i2, i3, i4, s1, s2, upd_s, u1]
  by_cases c : u = (0 : Int32)
  · rw [if_pos c]
    refine ⟨_, _, _, _, _, _, rfl, inner ri ?_⟩
    have : ¬ RTr al x b (LK al x b).2.1 (LK al x b).2.2 := u3.mp (by rw [c]; exact iz_l0)
    rw [k5, if_neg this, j8]; exact iz_inj (by omega)
  · rw [if_neg c]
    refine ⟨_, _, _, _, _, _, rfl, inner (ri + (1 : Int32)) ?_⟩
    have : RTr al x b (LK al x b).2.1 (LK al x b).2.2 := by
      by_cases q : RTr al x b (LK al x b).2.1 (LK al x b).2.2
      · exact q
      · exact absurd ((u3.mpr q).trans iz_l0.symm) c
    rw [k5, if_pos this, j8, iz_n, iz_add]
