/-! an order is carried out -/
theorem co_x {i : Nat} (hi : i ≤ 39) (l w n t a : Int32) (dots cells sx sy sp nu : Nat → Int32) : fOr_carryOutOne l (iz ((4 * i : Nat) : Int)) w n t a dots cells sx sy sp nu =
      if l = (97 : Int32) then
       (fSc_setNumber (1 : Int32) (nu (4 * i)) t a).bind fun u9 =>
       some (u9.1, w, n, u9.2.1, u9.2.2, dots, cells, sx, sy, sp)
      else
       if l = (99 : Int32) then
        (fSc_putDot (nu (4 * i)) (nu (4 * i + 1)) (nu (4 * i + 2)) w dots).bind fun u11 =>
        some (u11.1, w, n, t, a, u11.2, cells, sx, sy, sp)
       else
        if l = (112 : Int32) then
          (fSc_putCell (nu (4 * i)) (nu (4 * i + 1)) (nu (4 * i + 2)) (nu (4 * i + 3)) n cells).bind fun u14 =>
          some (u14.1, w, n, t, a, dots, u14.2, sx, sy, sp)
        else
         if l = (115 : Int32) then
          (fSc_takeShot (nu (4 * i)) (nu (4 * i + 1)) (nu (4 * i + 2)) w n dots cells sx sy sp).bind fun u16 =>
          some (u16.1, w, u16.2.1, t, a, dots, u16.2.2.1, u16.2.2.2.1, u16.2.2.2.2.1, u16.2.2.2.2.2)
         else
          if l = (116 : Int32) then
           (fSc_setNumber (0 : Int32) (nu (4 * i)) t a).bind fun u18 =>
           some (u18.1, w, n, u18.2.1, u18.2.2, dots, cells, sx, sy, sp)
          else
           if l = (119 : Int32) then
            (fSc_drawWorld (nu (4 * i)) (nu (4 * i + 1)) w dots).bind fun u20 =>
            some (u20.1, u20.2.1, n, t, a, u20.2.2, cells, sx, sy, sp)
           else
            if l = (120 : Int32) then
             (fSc_dropPicture (nu (4 * i)) n cells sx sy sp).bind fun u22 =>
             some (u22.1, w, u22.2.1, t, a, dots, u22.2.2.1, u22.2.2.2.1, u22.2.2.2.2.1, u22.2.2.2.2.2)
            else
             some ((-2 : Int32), w, n, t, a, dots, cells, sx, sy, sp) := by
  have e1 : iz ((4 * i : Nat) : Int) + (1 : Int32) = iz ((4 * i + 1 : Nat) : Int) := by rw [iz_n, iz_add]; exact iz_inj (by omega)
  have e2 : iz ((4 * i : Nat) : Int) + (2 : Int32) = iz ((4 * i + 2 : Nat) : Int) := by rw [iz_n, iz_add]; exact iz_inj (by omega)
  have e3 : iz ((4 * i : Nat) : Int) + (3 : Int32) = iz ((4 * i + 3 : Nat) : Int) := by rw [iz_n, iz_add]; exact iz_inj (by omega)
  have r : ∀ j : Nat, j < 160 → 0 ≤ (iz (j : Int)).toInt ∧ (iz (j : Int)).toInt < 160 := fun j hj => by rw [iz_t (by omega) (by omega)]; omega
  have q : ∀ j : Nat, j < 160 → (iz (j : Int)).toNatClampNeg = j := fun j hj => by rw [iz_c (by omega) (by omega)]; omega
  have w1 : fRi_within (iz ((4 * i : Nat) : Int)) (0 : Int32) (156 : Int32) = some (iz 1) := by rw [show (0 : Int32) = iz 0 from iz_n 0, show (156 : Int32) = iz 156 from iz_n 156, sRi_within (by omega) (by omega) (by omega), bi10 (by omega)]
  unfold fOr_carryOutOne
  rw [w1]
  simp only [Option.bind_some, c1e, if_false, e1, e2, e3]
  rw [if_pos (r _ (by omega)), if_pos (r _ (by omega)), if_pos (r _ (by omega)), if_pos (r _ (by omega)), q _ (by omega), q _ (by omega), q _ (by omega), q _ (by omega)]
theorem ca_x (l : Int32) (al M : Nat → Int32) : fMo_can l al M =
    if l = (97 : Int32) then
     (fMo_isSetting (1 : Int32) (M 0)).bind fun u6 => if u6 = 0 then some (-2 : Int32) else some (0 : Int32)
    else
     if l = (99 : Int32) then
      (fMo_isDot (M 0) (M 1) al).bind fun u9 => if u9 = 0 then some (-2 : Int32) else
        (fMo_in ((M 2).toInt64) (0 : Int64) (63 : Int64)).bind fun u12 => if u12 = 0 then some (-2 : Int32) else some (0 : Int32)
     else
      if l = (112 : Int32) then
       (fMo_isPicture (M 0) al).bind fun u15 => if u15 = 0 then some (-2 : Int32) else
         (fMo_isCell (M 1) (M 2)).bind fun u18 => if u18 = 0 then some (-2 : Int32) else
           (fMo_in ((M 3).toInt64) (0 : Int64) (63 : Int64)).bind fun u21 => if u21 = 0 then some (-2 : Int32) else some (0 : Int32)
      else
       if l = (115 : Int32) then
         (fMo_canShoot (M 0) (M 1) (M 2) al).bind fun u25 => some u25
       else
        if l = (116 : Int32) then
         (fMo_isSetting (0 : Int32) (M 0)).bind fun u27 => if u27 = 0 then some (-2 : Int32) else some (0 : Int32)
        else
         if l = (119 : Int32) then
          (fMo_isWorld (M 0) (M 1)).bind fun u30 => if u30 = 0 then some (-2 : Int32) else some (0 : Int32)
         else
          (fMo_isPicture (M 0) al).bind fun u32 => if u32 = 0 then some (-2 : Int32) else some (0 : Int32) := by
  have c0 : (0 : Int32).toNatClampNeg = 0 := by decide
  have c1 : (1 : Int32).toNatClampNeg = 1 := by decide
  have c2 : (2 : Int32).toNatClampNeg = 2 := by decide
  have c3 : (3 : Int32).toNatClampNeg = 3 := by decide
  unfold fMo_can
  rw [c0, c1, c2, c3, if_pos (by decide), Option.bind_some, if_pos (by decide), Option.bind_some, if_pos (by decide : 0 ≤ (2 : Int32).toInt ∧ (2 : Int32).toInt < 4), if_pos (by decide : 0 ≤ (2 : Int32).toInt ∧ (2 : Int32).toInt < 4), if_pos (by decide : 0 ≤ (3 : Int32).toInt ∧ (3 : Int32).toInt < 4), if_pos (by decide : 0 ≤ (2 : Int32).toInt ∧ (2 : Int32).toInt < 4)]
theorem do_x (l : Int32) (al M : Nat → Int32) : fMo_does l al M =
    ((if l = (119 : Int32) then
      (fMo_worldNow (M 0) (M 1) al).bind fun u12 => some (u12.1, u12.2)
     else
      if l = (115 : Int32) then
        (fMo_shotNow (M 0) (M 1) (M 2) al).bind fun u11 => some (u11.1, u11.2)
      else
       if l = (120 : Int32) then
        (fMo_dropNow (M 0) al).bind fun u9 => some (u9.1, u9.2)
       else
        some ((0 : Int32), al) : Option (Int32 × (Nat → Int32)))).bind fun u6 =>
    if l = (112 : Int32) then
       if 0 ≤ ((((196 : Int32) + ((35 : Int32) * (M 0))) + ((8 : Int32) * (M 1))) + (M 2)).toInt ∧ ((((196 : Int32) + ((35 : Int32) * (M 0))) + ((8 : Int32) * (M 1))) + (M 2)).toInt < 406 then
        some (upd u6.2 ((((196 : Int32) + ((35 : Int32) * (M 0))) + ((8 : Int32) * (M 1))) + (M 2)).toNatClampNeg (M 3))
       else none
    else
     if l = (99 : Int32) then
       if 0 ≤ (((4 : Int32) + ((32 : Int32) * (M 0))) + (M 1)).toInt ∧ (((4 : Int32) + ((32 : Int32) * (M 0))) + (M 1)).toInt < 406 then
        some (upd u6.2 (((4 : Int32) + ((32 : Int32) * (M 0))) + (M 1)).toNatClampNeg (M 2))
       else none
     else
      if l = (116 : Int32) then
       if l = (116 : Int32) then some (upd u6.2 1 (M 0)) else some (upd u6.2 2 (M 0))
      else
       if l = (97 : Int32) then
        if l = (116 : Int32) then some (upd u6.2 1 (M 0)) else some (upd u6.2 2 (M 0))
       else
        some u6.2 := by
  have c0 : (0 : Int32).toNatClampNeg = 0 := by decide
  have c1 : (1 : Int32).toNatClampNeg = 1 := by decide
  have c2 : (2 : Int32).toNatClampNeg = 2 := by decide
  have c3 : (3 : Int32).toNatClampNeg = 3 := by decide
  have g0 : (0 ≤ (0 : Int32).toInt ∧ (0 : Int32).toInt < 4) = True := eq_true (by decide)
  have g1 : (0 ≤ (1 : Int32).toInt ∧ (1 : Int32).toInt < 4) = True := eq_true (by decide)
  have g2 : (0 ≤ (2 : Int32).toInt ∧ (2 : Int32).toInt < 4) = True := eq_true (by decide)
  have g3 : (0 ≤ (3 : Int32).toInt ∧ (3 : Int32).toInt < 4) = True := eq_true (by decide)
  have g4 : (0 ≤ (1 : Int32).toInt ∧ (1 : Int32).toInt < 406) = True := eq_true (by decide)
  have g5 : (0 ≤ (2 : Int32).toInt ∧ (2 : Int32).toInt < 406) = True := eq_true (by decide)
  unfold fMo_does
  simp only [c0, c1, c2, c3, g0, g1, g2, g3, g4, g5, if_true, Option.bind_some]
def EX (al : Nat → Int32) (w n t a : Int32) (dots cells sx sy sp nu M : Nat → Int32) (l : Int32) (i : Nat) : Prop :=
  (∃ q : Int, (-4 ≤ q ∧ q ≤ -2) ∧ fOr_carryOutOne l (iz ((4 * i : Nat) : Int)) w n t a dots cells sx sy sp nu = some (iz q, w, n, t, a, dots, cells, sx, sy, sp) ∧ fMo_can l al M = some (iz q)) ∨
  (∃ (z : Int) (w' n' t' a' : Int32) (dots' cells' sx' sy' sp' al' : Nat → Int32), (0 ≤ z ∧ z ≤ 2147483647) ∧ fOr_carryOutOne l (iz ((4 * i : Nat) : Int)) w n t a dots cells sx sy sp nu = some (iz z, w', n', t', a', dots', cells', sx', sy', sp') ∧ fMo_can l al M = some 0 ∧ fMo_does l al M = some al' ∧ RS al' w' n' t' a' dots' cells' sx' sy' sp' ∧ OkA al')
theorem m2e : iz (-2) = (-2 : Int32) := by rw [iz_n, iz_neg]
theorem ex_119 {al : Nat → Int32} {w n t a : Int32} {dots cells sx sy sp : Nat → Int32} (h : RS al w n t a dots cells sx sy sp) (o : OkA al) {nu M : Nat → Int32} {i : Nat} (hi : i ≤ 39) (h0 : M 0 = nu (4 * i)) (h1 : M 1 = nu (4 * i + 1)) : EX al w n t a dots cells sx sy sp nu M (119 : Int32) i := by
  have on := o.n
  have ow := o.w
  have en := h.iN
  have ew := h.iw
  obtain ⟨v0, l0, u0, f0⟩ := iz_of (M 0)
  rw [f0] at h0
  obtain ⟨v1, l1, u1, f1⟩ := iz_of (M 1)
  rw [f1] at h1
  by_cases hp : 0 ≤ v0 ∧ v0 ≤ 999999 ∧ 12 ≤ v1 ∧ v1 ≤ 32
  · obtain ⟨dots', al', f1', f2', r', o'⟩ := op_draw h o (s := v0) (p := v1) (by omega) (by omega)
    refine .inr ⟨WW al, iz v1, n, t, a, dots', cells, sx, sy, sp, al', by omega, ?_, ?_, ?_, r', o'⟩
    · rw [co_x hi, if_neg (by decide : ¬ (119 : Int32) = 97), if_neg (by decide : ¬ (119 : Int32) = 99), if_neg (by decide : ¬ (119 : Int32) = 112), if_neg (by decide : ¬ (119 : Int32) = 115), if_neg (by decide : ¬ (119 : Int32) = 116), if_pos (rfl : (119 : Int32) = 119), ← h0, ← h1, f1']
      rfl
    · rw [ca_x, if_neg (by decide : ¬ (119 : Int32) = 97), if_neg (by decide : ¬ (119 : Int32) = 99), if_neg (by decide : ¬ (119 : Int32) = 112), if_neg (by decide : ¬ (119 : Int32) = 115), if_neg (by decide : ¬ (119 : Int32) = 116), if_pos (rfl : (119 : Int32) = 119), f0, f1, sMo_isWorld (by omega) (by omega), bi10 hp]
      rfl
    · rw [do_x, if_pos (rfl : (119 : Int32) = 119), f0, f1, f2']
      simp only [Option.bind_some]
      rw [if_neg (by decide : ¬ (119 : Int32) = 112), if_neg (by decide : ¬ (119 : Int32) = 99), if_neg (by decide : ¬ (119 : Int32) = 116), if_neg (by decide : ¬ (119 : Int32) = 97)]
  · refine .inl ⟨-2, by omega, ?_, ?_⟩
    · rw [co_x hi, if_neg (by decide : ¬ (119 : Int32) = 97), if_neg (by decide : ¬ (119 : Int32) = 99), if_neg (by decide : ¬ (119 : Int32) = 112), if_neg (by decide : ¬ (119 : Int32) = 115), if_neg (by decide : ¬ (119 : Int32) = 116), if_pos (rfl : (119 : Int32) = 119), ← h0, ← h1, op_draw_not w dots (by omega) (by omega) hp]
      rfl
    · rw [ca_x, if_neg (by decide : ¬ (119 : Int32) = 97), if_neg (by decide : ¬ (119 : Int32) = 99), if_neg (by decide : ¬ (119 : Int32) = 112), if_neg (by decide : ¬ (119 : Int32) = 115), if_neg (by decide : ¬ (119 : Int32) = 116), if_pos (rfl : (119 : Int32) = 119), f0, f1, sMo_isWorld (by omega) (by omega), bi11 hp, m2e]
      rfl
theorem ex_115 {al : Nat → Int32} {w n t a : Int32} {dots cells sx sy sp : Nat → Int32} (h : RS al w n t a dots cells sx sy sp) (o : OkA al) {nu M : Nat → Int32} {i : Nat} (hi : i ≤ 39) (h0 : M 0 = nu (4 * i)) (h1 : M 1 = nu (4 * i + 1)) (h2 : M 2 = nu (4 * i + 2)) : EX al w n t a dots cells sx sy sp nu M (115 : Int32) i := by
  have on := o.n
  have ow := o.w
  have en := h.iN
  have ew := h.iw
  obtain ⟨v0, l0, u0, f0⟩ := iz_of (M 0)
  rw [f0] at h0
  obtain ⟨v1, l1, u1, f1⟩ := iz_of (M 1)
  rw [f1] at h1
  obtain ⟨v2, l2, u2, f2⟩ := iz_of (M 2)
  rw [f2] at h2
  by_cases hq : 0 ≤ v0 ∧ v0 < WW al ∧ 0 ≤ v1 ∧ v1 ≤ 2 ∧ -20 ≤ v2 ∧ v2 ≤ 20
  · by_cases h6 : NN al = 6
    · have f1' := op_shot_full dots cells sx sy sp (x := v0) (y := v1) (d := v2) (w := WW al) (by omega) hq
      rw [← ew, ← h6, ← en] at f1'
      refine .inl ⟨-4, by omega, ?_, ?_⟩
      · rw [co_x hi, if_neg (by decide : ¬ (115 : Int32) = 97), if_neg (by decide : ¬ (115 : Int32) = 99), if_neg (by decide : ¬ (115 : Int32) = 112), if_pos (rfl : (115 : Int32) = 115), ← h0, ← h1, ← h2, f1']
        rfl
      · rw [ca_x, if_neg (by decide : ¬ (115 : Int32) = 97), if_neg (by decide : ¬ (115 : Int32) = 99), if_neg (by decide : ¬ (115 : Int32) = 112), if_pos (rfl : (115 : Int32) = 115), f0, f1, f2, sMo_canShoot o (by omega) (by omega) (by omega), if_pos hq, if_pos h6]
        rfl
    · obtain ⟨n', c', sx', sy', sp', al', f1', f2', r', o'⟩ := op_shot h o (x := v0) (y := v1) (d := v2) (by omega) (by omega) (by omega) (by omega)
      refine .inr ⟨NN al, w, n', t, a, dots, c', sx', sy', sp', al', by omega, ?_, ?_, ?_, r', o'⟩
      · rw [co_x hi, if_neg (by decide : ¬ (115 : Int32) = 97), if_neg (by decide : ¬ (115 : Int32) = 99), if_neg (by decide : ¬ (115 : Int32) = 112), if_pos (rfl : (115 : Int32) = 115), ← h0, ← h1, ← h2, f1']
        rfl
      · rw [ca_x, if_neg (by decide : ¬ (115 : Int32) = 97), if_neg (by decide : ¬ (115 : Int32) = 99), if_neg (by decide : ¬ (115 : Int32) = 112), if_pos (rfl : (115 : Int32) = 115), f0, f1, f2, sMo_canShoot o (by omega) (by omega) (by omega), if_pos hq, if_neg h6, ← iz_l0]
        rfl
      · rw [do_x, if_neg (by decide : ¬ (115 : Int32) = 119), if_pos (rfl : (115 : Int32) = 115), f0, f1, f2, f2']
        simp only [Option.bind_some]
        rw [if_neg (by decide : ¬ (115 : Int32) = 112), if_neg (by decide : ¬ (115 : Int32) = 99), if_neg (by decide : ¬ (115 : Int32) = 116), if_neg (by decide : ¬ (115 : Int32) = 97)]
  · have f1' := op_shot_bad dots cells sx sy sp (x := v0) (y := v1) (d := v2) (w := WW al) (n := NN al) (by omega) (by omega) (by omega) (by omega) hq
    rw [← ew, ← en] at f1'
    refine .inl ⟨-2, by omega, ?_, ?_⟩
    · rw [co_x hi, if_neg (by decide : ¬ (115 : Int32) = 97), if_neg (by decide : ¬ (115 : Int32) = 99), if_neg (by decide : ¬ (115 : Int32) = 112), if_pos (rfl : (115 : Int32) = 115), ← h0, ← h1, ← h2, f1']
      rfl
    · rw [ca_x, if_neg (by decide : ¬ (115 : Int32) = 97), if_neg (by decide : ¬ (115 : Int32) = 99), if_neg (by decide : ¬ (115 : Int32) = 112), if_pos (rfl : (115 : Int32) = 115), f0, f1, f2, sMo_canShoot o (by omega) (by omega) (by omega), if_neg hq]
      rfl
theorem ex_120 {al : Nat → Int32} {w n t a : Int32} {dots cells sx sy sp : Nat → Int32} (h : RS al w n t a dots cells sx sy sp) (o : OkA al) {nu M : Nat → Int32} {i : Nat} (hi : i ≤ 39) (h0 : M 0 = nu (4 * i)) : EX al w n t a dots cells sx sy sp nu M (120 : Int32) i := by
  have on := o.n
  have ow := o.w
  have en := h.iN
  have ew := h.iw
  obtain ⟨v0, l0, u0, f0⟩ := iz_of (M 0)
  rw [f0] at h0
  by_cases hp : 0 ≤ v0 ∧ v0 < NN al
  · obtain ⟨n', c', sx', sy', sp', al', f1', f2', r', o'⟩ := op_drop h o (k := v0) (by omega)
    refine .inr ⟨NN al - 1, w, n', t, a, dots, c', sx', sy', sp', al', by omega, ?_, ?_, ?_, r', o'⟩
    · rw [co_x hi, if_neg (by decide : ¬ (120 : Int32) = 97), if_neg (by decide : ¬ (120 : Int32) = 99), if_neg (by decide : ¬ (120 : Int32) = 112), if_neg (by decide : ¬ (120 : Int32) = 115), if_neg (by decide : ¬ (120 : Int32) = 116), if_neg (by decide : ¬ (120 : Int32) = 119), if_pos (rfl : (120 : Int32) = 120), ← h0, f1']
      rfl
    · rw [ca_x, if_neg (by decide : ¬ (120 : Int32) = 97), if_neg (by decide : ¬ (120 : Int32) = 99), if_neg (by decide : ¬ (120 : Int32) = 112), if_neg (by decide : ¬ (120 : Int32) = 115), if_neg (by decide : ¬ (120 : Int32) = 116), if_neg (by decide : ¬ (120 : Int32) = 119), f0, sMo_isPicture o (by omega), bi10 hp]
      rfl
    · rw [do_x, if_neg (by decide : ¬ (120 : Int32) = 119), if_neg (by decide : ¬ (120 : Int32) = 115), if_pos (rfl : (120 : Int32) = 120), f0, f2']
      simp only [Option.bind_some]
      rw [if_neg (by decide : ¬ (120 : Int32) = 112), if_neg (by decide : ¬ (120 : Int32) = 99), if_neg (by decide : ¬ (120 : Int32) = 116), if_neg (by decide : ¬ (120 : Int32) = 97)]
  · have f1' := op_drop_not cells sx sy sp (k := v0) (n := NN al) (by omega) (by omega) hp
    rw [← en] at f1'
    refine .inl ⟨-2, by omega, ?_, ?_⟩
    · rw [co_x hi, if_neg (by decide : ¬ (120 : Int32) = 97), if_neg (by decide : ¬ (120 : Int32) = 99), if_neg (by decide : ¬ (120 : Int32) = 112), if_neg (by decide : ¬ (120 : Int32) = 115), if_neg (by decide : ¬ (120 : Int32) = 116), if_neg (by decide : ¬ (120 : Int32) = 119), if_pos (rfl : (120 : Int32) = 120), ← h0, f1']
      rfl
    · rw [ca_x, if_neg (by decide : ¬ (120 : Int32) = 97), if_neg (by decide : ¬ (120 : Int32) = 99), if_neg (by decide : ¬ (120 : Int32) = 112), if_neg (by decide : ¬ (120 : Int32) = 115), if_neg (by decide : ¬ (120 : Int32) = 116), if_neg (by decide : ¬ (120 : Int32) = 119), f0, sMo_isPicture o (by omega), bi11 hp, m2e]
      rfl
theorem ex_112 {al : Nat → Int32} {w n t a : Int32} {dots cells sx sy sp : Nat → Int32} (h : RS al w n t a dots cells sx sy sp) (o : OkA al) {nu M : Nat → Int32} {i : Nat} (hi : i ≤ 39) (h0 : M 0 = nu (4 * i)) (h1 : M 1 = nu (4 * i + 1)) (h2 : M 2 = nu (4 * i + 2)) (h3 : M 3 = nu (4 * i + 3)) : EX al w n t a dots cells sx sy sp nu M (112 : Int32) i := by
  have on := o.n
  have ow := o.w
  have en := h.iN
  have ew := h.iw
  obtain ⟨v0, l0, u0, f0⟩ := iz_of (M 0)
  rw [f0] at h0
  obtain ⟨v1, l1, u1, f1⟩ := iz_of (M 1)
  rw [f1] at h1
  obtain ⟨v2, l2, u2, f2⟩ := iz_of (M 2)
  rw [f2] at h2
  obtain ⟨v3, l3, u3, f3⟩ := iz_of (M 3)
  rw [f3] at h3
  by_cases hp : 0 ≤ v0 ∧ v0 < NN al ∧ 0 ≤ v1 ∧ v1 < 4 ∧ 0 ≤ v2 ∧ v2 < 8 ∧ 0 ≤ v3 ∧ v3 ≤ 63
  · obtain ⟨f1', _⟩ := op_cell h o (k := v0) (r := v1) (c := v2) (v := v3) (by omega) (by omega) (by omega) (by omega)
    have hz := o.ce (k := v0) (r := v1) (c := v2) (by omega) (by omega) (by omega)
    have e1 : (((196 : Int32) + ((35 : Int32) * iz v0)) + ((8 : Int32) * iz v1)) + iz v2 = iz (196 + 35 * v0 + 8 * v1 + v2) := by rw [show (196 : Int32) = iz 196 from iz_n 196, show (35 : Int32) = iz 35 from iz_n 35, show (8 : Int32) = iz 8 from iz_n 8, iz_mul, iz_add, iz_mul, iz_add, iz_add]
    have i1 : 0 ≤ (iz (196 + 35 * v0 + 8 * v1 + v2)).toInt ∧ (iz (196 + 35 * v0 + 8 * v1 + v2)).toInt < 406 := by rw [iz_t (by omega) (by omega)]; omega
    have i3 : (iz (196 + 35 * v0 + 8 * v1 + v2)).toNatClampNeg = (196 + 35 * v0 + 8 * v1 + v2).toNat := iz_c (by omega) (by omega)
    refine .inr ⟨CE al v0 v1 v2, w, n, t, a, dots, upd cells (v0 * 32 + v1 * 8 + v2).toNat (iz v3), sx, sy, sp, upd al (196 + 35 * v0 + 8 * v1 + v2).toNat (iz v3), by omega, ?_, ?_, ?_, RS_cell h (by omega) (by omega) (by omega) _, OkA_cell o (by omega) (by omega) (by omega) (by omega)⟩
    · rw [co_x hi, if_neg (by decide : ¬ (112 : Int32) = 97), if_neg (by decide : ¬ (112 : Int32) = 99), if_pos (rfl : (112 : Int32) = 112), ← h0, ← h1, ← h2, ← h3, f1']
      rfl
    · rw [ca_x, if_neg (by decide : ¬ (112 : Int32) = 97), if_neg (by decide : ¬ (112 : Int32) = 99), if_pos (rfl : (112 : Int32) = 112), f0, f1, f2, f3, sMo_isPicture o (by omega), bi10 (by omega), sMo_isCell (by omega) (by omega), bi10 (by omega), iz_64 (by omega) (by omega), show (0 : Int64) = lz 0 from lz_n 0, show (63 : Int64) = lz 63 from lz_n 63, sMo_in (by omega) (by omega) (by omega), bi10 (by omega)]
      rfl
    · rw [do_x, if_neg (by decide : ¬ (112 : Int32) = 119), if_neg (by decide : ¬ (112 : Int32) = 115), if_neg (by decide : ¬ (112 : Int32) = 120)]
      simp only [Option.bind_some]
      rw [if_pos True.intro, f0, f1, f2, f3, e1, if_pos i1, i3]
  · have f1' := op_cell_not cells (k := v0) (r := v1) (c := v2) (v := v3) (n := NN al) (by omega) (by omega) (by omega) (by omega) (by omega) hp
    rw [← en] at f1'
    refine .inl ⟨-2, by omega, ?_, ?_⟩
    · rw [co_x hi, if_neg (by decide : ¬ (112 : Int32) = 97), if_neg (by decide : ¬ (112 : Int32) = 99), if_pos (rfl : (112 : Int32) = 112), ← h0, ← h1, ← h2, ← h3, f1']
      rfl
    · rw [ca_x, if_neg (by decide : ¬ (112 : Int32) = 97), if_neg (by decide : ¬ (112 : Int32) = 99), if_pos (rfl : (112 : Int32) = 112), f0, f1, f2, f3, sMo_isPicture o (by omega), m2e]
      by_cases g1 : 0 ≤ v0 ∧ v0 < NN al
      · rw [bi10 g1, sMo_isCell (by omega) (by omega)]
        simp only [Option.bind_some, c1e, if_false]
        by_cases g2 : 0 ≤ v1 ∧ v1 ≤ 3 ∧ 0 ≤ v2 ∧ v2 ≤ 7
        · rw [bi10 g2, iz_64 (by omega) (by omega), show (0 : Int64) = lz 0 from lz_n 0, show (63 : Int64) = lz 63 from lz_n 63, sMo_in (by omega) (by omega) (by omega), bi11 (by omega)]
          rfl
        · rw [bi11 g2]
          rfl
      · rw [bi11 g1]
        rfl
theorem ex_99 {al : Nat → Int32} {w n t a : Int32} {dots cells sx sy sp : Nat → Int32} (h : RS al w n t a dots cells sx sy sp) (o : OkA al) {nu M : Nat → Int32} {i : Nat} (hi : i ≤ 39) (h0 : M 0 = nu (4 * i)) (h1 : M 1 = nu (4 * i + 1)) (h2 : M 2 = nu (4 * i + 2)) : EX al w n t a dots cells sx sy sp nu M (99 : Int32) i := by
  have on := o.n
  have ow := o.w
  have en := h.iN
  have ew := h.iw
  obtain ⟨v0, l0, u0, f0⟩ := iz_of (M 0)
  rw [f0] at h0
  obtain ⟨v1, l1, u1, f1⟩ := iz_of (M 1)
  rw [f1] at h1
  obtain ⟨v2, l2, u2, f2⟩ := iz_of (M 2)
  rw [f2] at h2
  by_cases hp : 0 ≤ v0 ∧ v0 < 6 ∧ 0 ≤ v1 ∧ v1 < WW al ∧ 0 ≤ v2 ∧ v2 ≤ 63
  · obtain ⟨f1', _⟩ := op_dot h o (r := v0) (c := v1) (v := v2) (by omega) (by omega) (by omega)
    have hz := o.dd (r := v0) (c := v1) (by omega) (by omega)
    have e1 : ((4 : Int32) + ((32 : Int32) * iz v0)) + iz v1 = iz (4 + 32 * v0 + v1) := by rw [show (4 : Int32) = iz 4 from iz_n 4, show (32 : Int32) = iz 32 from iz_n 32, iz_mul, iz_add, iz_add]
    have i1 : 0 ≤ (iz (4 + 32 * v0 + v1)).toInt ∧ (iz (4 + 32 * v0 + v1)).toInt < 406 := by rw [iz_t (by omega) (by omega)]; omega
    have i3 : (iz (4 + 32 * v0 + v1)).toNatClampNeg = 4 + (v0 * 32 + v1).toNat := by rw [iz_c (by omega) (by omega)]; omega
    refine .inr ⟨DO al v0 v1, w, n, t, a, upd dots (v0 * 32 + v1).toNat (iz v2), cells, sx, sy, sp, upd al (4 + (v0 * 32 + v1).toNat) (iz v2), by omega, ?_, ?_, ?_, RS_dot h (by omega) _, OkA_dot o (by omega) (by rw [iz_t l2 u2]; omega)⟩
    · rw [co_x hi, if_neg (by decide : ¬ (99 : Int32) = 97), if_pos (rfl : (99 : Int32) = 99), ← h0, ← h1, ← h2, f1']
      rfl
    · rw [ca_x, if_neg (by decide : ¬ (99 : Int32) = 97), if_pos (rfl : (99 : Int32) = 99), f0, f1, f2, sMo_isDot o (by omega) (by omega), bi10 (by omega), iz_64 (by omega) (by omega), show (0 : Int64) = lz 0 from lz_n 0, show (63 : Int64) = lz 63 from lz_n 63, sMo_in (by omega) (by omega) (by omega), bi10 (by omega)]
      rfl
    · rw [do_x, if_neg (by decide : ¬ (99 : Int32) = 119), if_neg (by decide : ¬ (99 : Int32) = 115), if_neg (by decide : ¬ (99 : Int32) = 120)]
      simp only [Option.bind_some]
      rw [if_neg (by decide : ¬ (99 : Int32) = 112), if_pos True.intro, f0, f1, f2, e1, if_pos i1, i3]
  · have f1' := op_dot_not dots (r := v0) (c := v1) (v := v2) (w := WW al) (by omega) (by omega) (by omega) (by omega) hp
    rw [← ew] at f1'
    refine .inl ⟨-2, by omega, ?_, ?_⟩
    · rw [co_x hi, if_neg (by decide : ¬ (99 : Int32) = 97), if_pos (rfl : (99 : Int32) = 99), ← h0, ← h1, ← h2, f1']
      rfl
    · rw [ca_x, if_neg (by decide : ¬ (99 : Int32) = 97), if_pos (rfl : (99 : Int32) = 99), f0, f1, f2, sMo_isDot o (by omega) (by omega), m2e]
      by_cases g1 : 0 ≤ v0 ∧ v0 < 6 ∧ 0 ≤ v1 ∧ v1 < WW al
      · rw [bi10 g1, iz_64 (by omega) (by omega), show (0 : Int64) = lz 0 from lz_n 0, show (63 : Int64) = lz 63 from lz_n 63, sMo_in (by omega) (by omega) (by omega), bi11 (by omega)]
        rfl
      · rw [bi11 g1]
        rfl
theorem ex_116 {al : Nat → Int32} {w n t a : Int32} {dots cells sx sy sp : Nat → Int32} (h : RS al w n t a dots cells sx sy sp) (o : OkA al) {nu M : Nat → Int32} {i : Nat} (hi : i ≤ 39) (h0 : M 0 = nu (4 * i)) : EX al w n t a dots cells sx sy sp nu M (116 : Int32) i := by
  have on := o.n
  have ow := o.w
  have en := h.iN
  have ew := h.iw
  obtain ⟨v0, l0, u0, f0⟩ := iz_of (M 0)
  rw [f0] at h0
  by_cases hp : 1 ≤ v0 ∧ v0 ≤ 126
  · obtain ⟨z, t', a', al', f1', f2', hz, r', o', ea⟩ := op_set h o (q := 0) (v := v0) (by omega)
    rw [← iz_n] at f1'
    refine .inr ⟨z, w, n, t', a', dots, cells, sx, sy, sp, al', hz, ?_, ?_, ?_, r', o'⟩
    · rw [co_x hi, if_neg (by decide : ¬ (116 : Int32) = 97), if_neg (by decide : ¬ (116 : Int32) = 99), if_neg (by decide : ¬ (116 : Int32) = 112), if_neg (by decide : ¬ (116 : Int32) = 115), if_pos (rfl : (116 : Int32) = 116), ← h0, f1']
      rfl
    · rw [ca_x, if_neg (by decide : ¬ (116 : Int32) = 97), if_neg (by decide : ¬ (116 : Int32) = 99), if_neg (by decide : ¬ (116 : Int32) = 112), if_neg (by decide : ¬ (116 : Int32) = 115), if_pos (rfl : (116 : Int32) = 116), f0, show (0 : Int32) = iz 0 from iz_n 0, sMo_isSetting (by omega) (by omega), bi10 (by omega)]
      rfl
    · rw [do_x, if_neg (by decide : ¬ (116 : Int32) = 119), if_neg (by decide : ¬ (116 : Int32) = 115), if_neg (by decide : ¬ (116 : Int32) = 120)]
      simp only [Option.bind_some]
      rw [if_neg (by decide : ¬ (116 : Int32) = 112), if_neg (by decide : ¬ (116 : Int32) = 99), if_pos True.intro, if_pos True.intro, f0, ea]
      rfl
  · have f1' := op_set_not t a (q := 0) (v := v0) (by omega) (by omega) (by omega)
    rw [← iz_n] at f1'
    refine .inl ⟨-2, by omega, ?_, ?_⟩
    · rw [co_x hi, if_neg (by decide : ¬ (116 : Int32) = 97), if_neg (by decide : ¬ (116 : Int32) = 99), if_neg (by decide : ¬ (116 : Int32) = 112), if_neg (by decide : ¬ (116 : Int32) = 115), if_pos (rfl : (116 : Int32) = 116), ← h0, f1']
      rfl
    · rw [ca_x, if_neg (by decide : ¬ (116 : Int32) = 97), if_neg (by decide : ¬ (116 : Int32) = 99), if_neg (by decide : ¬ (116 : Int32) = 112), if_neg (by decide : ¬ (116 : Int32) = 115), if_pos (rfl : (116 : Int32) = 116), f0, show (0 : Int32) = iz 0 from iz_n 0, sMo_isSetting (by omega) (by omega), bi11 (by omega), m2e]
      rfl
theorem ex_97 {al : Nat → Int32} {w n t a : Int32} {dots cells sx sy sp : Nat → Int32} (h : RS al w n t a dots cells sx sy sp) (o : OkA al) {nu M : Nat → Int32} {i : Nat} (hi : i ≤ 39) (h0 : M 0 = nu (4 * i)) : EX al w n t a dots cells sx sy sp nu M (97 : Int32) i := by
  have on := o.n
  have ow := o.w
  have en := h.iN
  have ew := h.iw
  obtain ⟨v0, l0, u0, f0⟩ := iz_of (M 0)
  rw [f0] at h0
  by_cases hp : 0 ≤ v0 ∧ v0 ≤ 63
  · obtain ⟨z, t', a', al', f1', f2', hz, r', o', ea⟩ := op_set h o (q := 1) (v := v0) (by omega)
    rw [← iz_n] at f1'
    refine .inr ⟨z, w, n, t', a', dots, cells, sx, sy, sp, al', hz, ?_, ?_, ?_, r', o'⟩
    · rw [co_x hi, if_pos (rfl : (97 : Int32) = 97), ← h0, f1']
      rfl
    · rw [ca_x, if_pos (rfl : (97 : Int32) = 97), f0, show (1 : Int32) = iz 1 from iz_n 1, sMo_isSetting (by omega) (by omega), bi10 (by omega)]
      rfl
    · rw [do_x, if_neg (by decide : ¬ (97 : Int32) = 119), if_neg (by decide : ¬ (97 : Int32) = 115), if_neg (by decide : ¬ (97 : Int32) = 120)]
      simp only [Option.bind_some]
      rw [if_neg (by decide : ¬ (97 : Int32) = 112), if_neg (by decide : ¬ (97 : Int32) = 99), if_neg (by decide : ¬ (97 : Int32) = 116), if_pos True.intro, if_neg (by decide : ¬ (97 : Int32) = 116), f0, ea]
      rfl
  · have f1' := op_set_not t a (q := 1) (v := v0) (by omega) (by omega) (by omega)
    rw [← iz_n] at f1'
    refine .inl ⟨-2, by omega, ?_, ?_⟩
    · rw [co_x hi, if_pos (rfl : (97 : Int32) = 97), ← h0, f1']
      rfl
    · rw [ca_x, if_pos (rfl : (97 : Int32) = 97), f0, show (1 : Int32) = iz 1 from iz_n 1, sMo_isSetting (by omega) (by omega), bi11 (by omega), m2e]
      rfl
theorem ex_all {al : Nat → Int32} {w n t a : Int32} {dots cells sx sy sp : Nat → Int32} (h : RS al w n t a dots cells sx sy sp) (o : OkA al) {nu M : Nat → Int32} {i : Nat} (hi : i ≤ 39) {l : Int} (hl : NB l ≠ 0) (hM : ∀ j : Nat, (j : Int) < NB l → M j = nu (4 * i + j)) : EX al w n t a dots cells sx sy sp nu M (iz l) i := by
  rcases NB_let.mp hl with e | e | e | e | e | e | e <;> rw [e] at hM ⊢
  · rw [show iz 119 = (119 : Int32) from (iz_n 119).symm]; exact ex_119 h o hi (hM 0 (by decide)) (hM 1 (by decide))
  · rw [show iz 115 = (115 : Int32) from (iz_n 115).symm]; exact ex_115 h o hi (hM 0 (by decide)) (hM 1 (by decide)) (hM 2 (by decide))
  · rw [show iz 112 = (112 : Int32) from (iz_n 112).symm]; exact ex_112 h o hi (hM 0 (by decide)) (hM 1 (by decide)) (hM 2 (by decide)) (hM 3 (by decide))
  · rw [show iz 99 = (99 : Int32) from (iz_n 99).symm]; exact ex_99 h o hi (hM 0 (by decide)) (hM 1 (by decide)) (hM 2 (by decide))
  · rw [show iz 116 = (116 : Int32) from (iz_n 116).symm]; exact ex_116 h o hi (hM 0 (by decide))
  · rw [show iz 97 = (97 : Int32) from (iz_n 97).symm]; exact ex_97 h o hi (hM 0 (by decide))
  · rw [show iz 120 = (120 : Int32) from (iz_n 120).symm]; exact ex_120 h o hi (hM 0 (by decide))
