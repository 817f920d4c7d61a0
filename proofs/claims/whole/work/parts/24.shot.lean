/-! a shot -/
def RC (cells al : Nat → Int32) : Prop := ∀ k i : Nat, k < 6 → i < 32 → cells (32 * k + i) = al (196 + 35 * k + i)
def OC (al : Nat → Int32) : Prop := ∀ k i : Nat, k < 6 → i < 32 → 0 ≤ (al (196 + 35 * k + i)).toInt ∧ (al (196 + 35 * k + i)).toInt ≤ 63
theorem RC_upd {cells al : Nat → Int32} (h : RC cells al) {k r c : Int} (hk : 0 ≤ k ∧ k < 6) (hr : 0 ≤ r ∧ r < 4) (hc : 0 ≤ c ∧ c < 8) (x : Int32) : RC (upd cells (k * 32 + r * 8 + c).toNat x) (upd al (196 + 35 * k + 8 * r + c).toNat x) := by
  have hi3 : 0 ≤ 8 * r + c ∧ 8 * r + c ≤ 31 := by omega
  intro k' i hk' hi
  by_cases e : 32 * k' + i = (k * 32 + r * 8 + c).toNat
  · rw [show 196 + 35 * k' + i = (196 + 35 * k + 8 * r + c).toNat by omega, e, upd_s, upd_s]
  · rw [upd_n _ _ e, upd_n _ _ (by omega)]; exact h k' i hk' hi
theorem OC_upd {al : Nat → Int32} (h : OC al) (j : Nat) {x : Int32} (hx : 0 ≤ x.toInt ∧ x.toInt ≤ 63) : OC (upd al j x) := by
  intro k' i hk' hi
  by_cases e : 196 + 35 * k' + i = j
  · rw [e, upd_s]; exact hx
  · rw [upd_n _ _ e]; exact h k' i hk' hi
def hd (v : Int32) : Int32 := if 0 ≤ v then (if v ≤ (63 : Int32) then v else (63 : Int32)) else (0 : Int32)
theorem hd_r (v : Int32) : 0 ≤ (hd v).toInt ∧ (hd v).toInt ≤ 63 := by
  obtain ⟨z, h1, h2, rfl⟩ := iz_of v
  unfold hd
  simp (disch := omega) only [iz_n, iz_neg, iz_add, iz_sub, iz_mul, iz_lt, iz_le, iz_eq, iz_t, iz_c]
  split
  · split
    · rw [iz_t h1 h2]; omega
    · rw [iz_t (by omega) (by omega)]; omega
  · rw [iz_t (by omega) (by omega)]; omega
theorem hd_c (v : Int32) : (if (0 : Int32) < (if v < (63 : Int32) then v else (63 : Int32)) then (if v < (63 : Int32) then v else (63 : Int32)) else (0 : Int32)) = hd v := by
  obtain ⟨z, h1, h2, rfl⟩ := iz_of v
  unfold hd
  simp (disch := omega) only [iz_n, iz_neg, iz_add, iz_sub, iz_mul, iz_lt, iz_le, iz_eq, iz_t, iz_c]
  by_cases a1 : z < 63
  · by_cases a2 : 0 < z
    · simp (disch := omega) only [iz_n, iz_neg, iz_add, iz_sub, iz_mul, iz_lt, iz_le, iz_eq, iz_t, iz_c, if_pos, if_neg]
    · by_cases a3 : z = 0
      · subst a3; simp (disch := omega) only [iz_n, iz_neg, iz_add, iz_sub, iz_mul, iz_lt, iz_le, iz_eq, iz_t, iz_c, if_pos, if_neg]
      · simp (disch := omega) only [iz_n, iz_neg, iz_add, iz_sub, iz_mul, iz_lt, iz_le, iz_eq, iz_t, iz_c, if_pos, if_neg]
  · by_cases a3 : z = 63
    · subst a3; simp (disch := omega) only [iz_n, iz_neg, iz_add, iz_sub, iz_mul, iz_lt, iz_le, iz_eq, iz_t, iz_c, if_pos, if_neg]
    · simp (disch := omega) only [iz_n, iz_neg, iz_add, iz_sub, iz_mul, iz_lt, iz_le, iz_eq, iz_t, iz_c, if_pos, if_neg]
theorem sMo_held (v : Int32) : fMo_held v = some (hd v) := by
  unfold fMo_held hd
  repeat' split
  all_goals rfl
theorem wrap {x c W : Int} (hx : 0 ≤ x ∧ x < W) (hc : 0 ≤ c ∧ c < 8) (hW : 12 ≤ W) : x + c - (x + c) / W * W = if W ≤ x + c then x + c - W else x + c := by
  split
  · have : (x + c) / W = 1 := by
      rw [Int.ediv_eq_iff_of_pos (by omega)]; omega
    rw [this]; omega
  · have : (x + c) / W = 0 := Int.ediv_eq_zero_of_lt (by omega) (by omega)
    rw [this]; omega
theorem shot_c {al : Nat → Int32} {w n t a : Int32} {dots cells sx sy sp : Nat → Int32} (h : RS al w n t a dots cells sx sy sp) (o : OkA al) {k r x y : Int} (d : Int32) (hk : 0 ≤ k ∧ k < 6) (hr : 0 ≤ r ∧ r < 4) (hx : 0 ≤ x ∧ x < WW al) (hy : 0 ≤ y ∧ y ≤ 2) :
    ∀ (dd : Nat) (c : Int) (m : Nat), c = 8 - dd → 0 ≤ c → dd < m → ∀ cl a1, (∀ j, j < 196 → a1 j = al j) → RC cl a1 → OC a1 →
    ∃ cl' a', fSc_takeShot_L107 (iz x) (iz y) d (iz k) (iz r) w dots m (iz c) cl = some cl' ∧ fMo_shotNow_L18 (iz x) (iz y) d (iz k) (iz r) m (iz c) a1 = some a' ∧ (∀ j, j < 196 → a' j = al j) ∧ RC cl' a' ∧ OC a' ∧ (∀ j : Nat, (j : Int) < 196 + 35 * k ∨ 228 + 35 * k ≤ j → a' j = a1 j) := by
  have hw := o.w
  have ew := h.iw
  subst ew
  intro dd
  induction dd with
  | zero =>
    intro c m hc h0 hm cl a1 h1 h2 h3
    obtain ⟨m, rfl⟩ : ∃ q, m = q + 1 := ⟨m - 1, by omega⟩
    refine ⟨cl, a1, ?_, ?_, h1, h2, h3, fun _ _ => rfl⟩
    · unfold fSc_takeShot_L107; simp (disch := omega) only [iz_n, iz_neg, iz_add, iz_sub, iz_mul, iz_lt, iz_le, iz_eq, iz_t, iz_c, Option.bind_some, bi0, bi1, bi01, bi10, bi11, if_pos, if_neg, if_true, if_false, ite_not, ite_bi]
    · unfold fMo_shotNow_L18; simp (disch := omega) only [iz_n, iz_neg, iz_add, iz_sub, iz_mul, iz_lt, iz_le, iz_eq, iz_t, iz_c, Option.bind_some, bi0, bi1, bi01, bi10, bi11, if_pos, if_neg, if_true, if_false, ite_not, ite_bi]
  | succ dd ih =>
    intro c m hc h0 hm cl a1 h1 h2 h3
    obtain ⟨m, rfl⟩ : ∃ q, m = q + 1 := ⟨m - 1, by omega⟩
    have hX := wrap hx (c := c) (by omega) (by omega)
    obtain ⟨X, hXe, hXr⟩ : ∃ X, x + c - (x + c) / WW al * WW al = X ∧ 0 ≤ X ∧ X < WW al := ⟨_, rfl, by rw [hX]; split <;> omega, by rw [hX]; split <;> omega⟩
    have hXc : ((if iz (WW al) ≤ (iz x + iz c) then some ((iz x + iz c) - iz (WW al)) else some (iz x + iz c)) : Option Int32) = some (iz X) := by
      rw [← hXe, hX]
      simp (disch := omega) only [iz_n, iz_neg, iz_add, iz_sub, iz_mul, iz_lt, iz_le, iz_eq, iz_t, iz_c]
      split <;> rfl
    have hdot : fSc_dotAt (iz y + iz r) (iz X) (iz (WW al)) dots = some (iz (DO al (y + r) X)) := by
      rw [iz_add]
      exact sSc_dotAt h hw (by omega) (by omega)
    have hwa : a1 (0 : Int32).toNatClampNeg = iz (WW al) := by
      rw [show (0 : Int32).toNatClampNeg = 0 by decide, h1 0 (by omega)]; exact iz_self _
    have hX2 : (iz x + iz c) - (iz x + iz c) / iz (WW al) * iz (WW al) = iz X := by
      rw [iz_add, iz_div (by omega) (by omega), iz_mul, iz_sub, hXe]
    have hda : a1 (4 + 32 * (y + r) + X).toNat = iz (DO al (y + r) X) := by rw [h1 _ (by omega)]; exact amD al (y + r) X
    unfold fSc_takeShot_L107 fMo_shotNow_L18
    have g8 : ¬ (8 : Int32) ≤ iz c := by simp (disch := omega) only [iz_n, iz_neg, iz_add, iz_sub, iz_mul, iz_lt, iz_le, iz_eq, iz_t, iz_c]; omega
    rw [if_neg g8, if_neg g8]
    simp only [hXc, Option.bind_some, hdot, hwa, hX2, hd_c, sMo_held]
    simp (disch := omega) only [iz_n, iz_neg, iz_add, iz_sub, iz_mul, iz_lt, iz_le, iz_eq, iz_t, iz_c, if_pos, if_neg, hda, sMo_held, Option.bind_some]
    have ih' := ih (c + 1) m (by omega) (by omega) (by omega) (upd cl (k * 32 + r * 8 + c).toNat (hd (iz (DO al (y + r) X) + d))) (upd a1 (196 + 35 * k + 8 * r + c).toNat (hd (iz (DO al (y + r) X) + d)))
      (fun j hj => by rw [upd_n _ _ (by omega)]; exact h1 j hj) (RC_upd h2 hk hr (by omega) _) (OC_upd h3 _ (hd_r _))
    obtain ⟨cl', a', f1, f2, f3, f4, f5, f6⟩ := ih'
    refine ⟨cl', a', f1, f2, f3, f4, f5, ?_⟩
    intro j hj
    have hi3 : 0 ≤ 8 * r + c ∧ 8 * r + c ≤ 31 := by omega
    rw [f6 j hj, upd_n _ _ (by omega)]
theorem shot_r {al : Nat → Int32} {w n t a : Int32} {dots cells sx sy sp : Nat → Int32} (h : RS al w n t a dots cells sx sy sp) (o : OkA al) {k x y : Int} (d : Int32) (hk : 0 ≤ k ∧ k < 6) (hx : 0 ≤ x ∧ x < WW al) (hy : 0 ≤ y ∧ y ≤ 2) :
    ∀ (dd : Nat) (r : Int) (m : Nat), r = 4 - dd → 0 ≤ r → dd < m → ∀ cl a1, (∀ j, j < 196 → a1 j = al j) → RC cl a1 → OC a1 →
    ∃ cl' a', fSc_takeShot_L98 (iz x) (iz y) d (iz k) w dots m (iz r) cl = some cl' ∧ fMo_shotNow_L9 (iz x) (iz y) d (iz k) m (iz r) a1 = some a' ∧ (∀ j, j < 196 → a' j = al j) ∧ RC cl' a' ∧ OC a' ∧ (∀ j : Nat, (j : Int) < 196 + 35 * k ∨ 228 + 35 * k ≤ j → a' j = a1 j) := by
  intro dd
  induction dd with
  | zero =>
    intro c m hc h0 hm cl a1 h1 h2 h3
    obtain ⟨m, rfl⟩ : ∃ q, m = q + 1 := ⟨m - 1, by omega⟩
    refine ⟨cl, a1, ?_, ?_, h1, h2, h3, fun _ _ => rfl⟩
    · unfold fSc_takeShot_L98; simp (disch := omega) only [iz_n, iz_neg, iz_add, iz_sub, iz_mul, iz_lt, iz_le, iz_eq, iz_t, iz_c, Option.bind_some, bi0, bi1, bi01, bi10, bi11, if_pos, if_neg, if_true, if_false, ite_not, ite_bi]
    · unfold fMo_shotNow_L9; simp (disch := omega) only [iz_n, iz_neg, iz_add, iz_sub, iz_mul, iz_lt, iz_le, iz_eq, iz_t, iz_c, Option.bind_some, bi0, bi1, bi01, bi10, bi11, if_pos, if_neg, if_true, if_false, ite_not, ite_bi]
  | succ dd ih =>
    intro r m hc h0 hm cl a1 h1 h2 h3
    obtain ⟨m, rfl⟩ : ∃ q, m = q + 1 := ⟨m - 1, by omega⟩
    obtain ⟨c2, a2, e1, e2, e3, e4, e5, e6⟩ := shot_c h o d hk (r := r) (by omega) hx hy 8 0 FU (by omega) (by omega) (by decide) cl a1 h1 h2 h3
    obtain ⟨cl', a', f1, f2, f3, f4, f5, f6⟩ := ih (r + 1) m (by omega) (by omega) (by omega) c2 a2 e3 e4 e5
    unfold fSc_takeShot_L98 fMo_shotNow_L9
    have g8 : ¬ (4 : Int32) ≤ iz r := by simp (disch := omega) only [iz_n, iz_neg, iz_add, iz_sub, iz_mul, iz_lt, iz_le, iz_eq, iz_t, iz_c]; omega
    rw [if_neg g8, if_neg g8]
    rw [← show (0 : Int32) = iz 0 from iz_n 0] at e1 e2
    simp only [e1, e2, Option.bind_some]
    rw [show iz r + (1 : Int32) = iz (r + 1) from iz_add r 1]
    exact ⟨cl', a', f1, f2, f3, f4, f5, fun j hj => by rw [f6 j hj, e6 j hj]⟩
theorem op_shot {al : Nat → Int32} {w n t a : Int32} {dots cells sx sy sp : Nat → Int32} (h : RS al w n t a dots cells sx sy sp) (o : OkA al) {x y d : Int} (hx : 0 ≤ x ∧ x < WW al) (hy : 0 ≤ y ∧ y ≤ 2) (hd' : -20 ≤ d ∧ d ≤ 20) (hN : NN al < 6) :
    ∃ n' cells' sx' sy' sp' al', fSc_takeShot (iz x) (iz y) (iz d) w n dots cells sx sy sp = some (iz (NN al), n', cells', sx', sy', sp') ∧ fMo_shotNow (iz x) (iz y) (iz d) al = some (iz (NN al), al') ∧ RS al' w n' t a dots cells' sx' sy' sp' ∧ OkA al' := by
  have hn := o.n
  have hw := o.w
  have en := h.iN
  have ew := h.iw
  subst en ew
  obtain ⟨cl, a1, f1, f2, f3, f4, f5, f6⟩ := shot_r h o (iz d) (k := NN al) (by omega) hx hy 4 0 FU (by omega) (by omega) (by decide) cells al (fun _ _ => rfl) h.c o.c
  obtain ⟨a2, ea2⟩ : ∃ a2, a2 = upd (upd (upd (upd a1 (228 + 35 * (NN al).toNat) (iz x)) (229 + 35 * (NN al).toNat) (iz y)) (230 + 35 * (NN al).toNat) (iz (WW al))) 3 (iz (NN al + 1)) := ⟨_, rfl⟩
  have g : ∀ j, 4 ≤ j → j ≠ 228 + 35 * (NN al).toNat → j ≠ 229 + 35 * (NN al).toNat → j ≠ 230 + 35 * (NN al).toNat → a2 j = a1 j := by
    intro j h0 h1 h2 h3
    rw [ea2, upd_n _ _ (by omega), upd_n _ _ h3, upd_n _ _ h2, upd_n _ _ h1]
  have g0 : ∀ j, j < 3 → a2 j = al j := by
    intro j h0
    rw [ea2, upd_n _ _ (by omega), upd_n _ _ (by omega), upd_n _ _ (by omega), upd_n _ _ (by omega), f3 j (by omega)]
  have gx : a2 (228 + 35 * (NN al).toNat) = iz x := by
    rw [ea2, upd_n _ _ (by omega), upd_n _ _ (by omega), upd_n _ _ (by omega), upd_s]
  have gy : a2 (229 + 35 * (NN al).toNat) = iz y := by
    rw [ea2, upd_n _ _ (by omega), upd_n _ _ (by omega), upd_s]
  have gp : a2 (230 + 35 * (NN al).toNat) = iz (WW al) := by
    rw [ea2, upd_n _ _ (by omega), upd_s]
  have gn : a2 3 = iz (NN al + 1) := by rw [ea2, upd_s]
  refine ⟨iz (NN al + 1), cl, upd sx (NN al).toNat (iz x), upd sy (NN al).toNat (iz y), upd sp (NN al).toNat (iz (WW al)), a2, ?_, ?_, ?_, ?_⟩
  rotate_left
  · unfold fMo_shotNow
    rw [← show (0 : Int32) = iz 0 from iz_n 0] at f2
    simp only [sMo_many, f2, Option.bind_some]
    simp (disch := omega) only [iz_n, iz_neg, iz_add, iz_sub, iz_mul, iz_lt, iz_le, iz_eq, iz_t, iz_c, Option.bind_some, bi0, bi1, bi01, bi10, bi11, if_pos, if_neg, if_true, if_false, ite_not, ite_bi]
    rw [show (196 + 35 * NN al + 32).toNat = 228 + 35 * (NN al).toNat by omega, show (196 + 35 * NN al + 32 + 1).toNat = 229 + 35 * (NN al).toNat by omega, show (196 + 35 * NN al + 32 + 2).toNat = 230 + 35 * (NN al).toNat by omega, show Int.toNat 0 = 0 from rfl, show Int.toNat 3 = 3 from rfl,
      show upd (upd a1 (228 + 35 * (NN al).toNat) (iz x)) (229 + 35 * (NN al).toNat) (iz y) 0 = iz (WW al) by rw [upd_n _ _ (by omega), upd_n _ _ (by omega), f3 0 (by omega)]; exact iz_self _,
      show upd (upd (upd a1 (228 + 35 * (NN al).toNat) (iz x)) (229 + 35 * (NN al).toNat) (iz y)) (230 + 35 * (NN al).toNat) (iz (WW al)) 3 = iz (NN al) by rw [upd_n _ _ (by omega), upd_n _ _ (by omega), upd_n _ _ (by omega), f3 3 (by omega)]; exact iz_self _, iz_add, ← ea2]
  · refine ⟨?_, ?_, ?_, ?_, ?_, ?_, ?_, ?_, ?_⟩
    · rw [g0 0 (by omega)]; exact h.w
    · rw [gn]
    · rw [g0 1 (by omega)]; exact h.t
    · rw [g0 2 (by omega)]; exact h.a
    · intro j hj; rw [g _ (by omega) (by omega) (by omega) (by omega), f3 _ (by omega)]; exact h.d j hj
    · intro k i hk hi; rw [g _ (by omega) (by omega) (by omega) (by omega)]; exact f4 k i hk hi
    · intro k hk
      by_cases e : k = (NN al).toNat
      · subst e; rw [upd_s, gx]
      · rw [upd_n _ _ e, g _ (by omega) (by omega) (by omega) (by omega), f6 _ (by omega)]; exact h.x k hk
    · intro k hk
      by_cases e : k = (NN al).toNat
      · subst e; rw [upd_s, gy]
      · rw [upd_n _ _ e, g _ (by omega) (by omega) (by omega) (by omega), f6 _ (by omega)]; exact h.y k hk
    · intro k hk
      by_cases e : k = (NN al).toNat
      · subst e; rw [upd_s, gp]
      · rw [upd_n _ _ e, g _ (by omega) (by omega) (by omega) (by omega), f6 _ (by omega)]; exact h.p k hk
  · unfold OkA
    refine ⟨?_, ?_, ?_, ?_, ?_, ?_, ?_⟩
    · unfold WW; rw [g0 0 (by omega)]; exact o.w
    · unfold NN; rw [gn, iz_t (by omega) (by omega)]; omega
    · unfold TT; rw [g0 1 (by omega)]; exact o.t
    · unfold AA; rw [g0 2 (by omega)]; exact o.a
    · intro k i hk hi; rw [g _ (by omega) (by omega) (by omega) (by omega)]; exact f5 k i hk hi
    · intro k hk
      have hk' : (k : Int) < NN al + 1 := by
        have e : NN _ = NN al + 1 := (congrArg Int32.toInt gn).trans (iz_t (by omega) (by omega))
        rw [e] at hk; exact hk
      by_cases e : k = (NN al).toNat
      · subst e; rw [gx, gy, gp, iz_t (by omega) (by omega), iz_t (by omega) (by omega), iz_t (by omega) (by omega)]; omega
      · rw [g _ (by omega) (by omega) (by omega) (by omega), g _ (by omega) (by omega) (by omega) (by omega), g _ (by omega) (by omega) (by omega) (by omega), f6 _ (by omega), f6 _ (by omega), f6 _ (by omega)]; exact o.s k (by omega)
    · intro j hj; rw [g _ (by omega) (by omega) (by omega) (by omega), f3 _ (by omega)]; exact o.d j hj
  · unfold fSc_takeShot
    rw [← show (0 : Int32) = iz 0 from iz_n 0] at f1
    simp only [f1, Option.bind_some]
    simp (disch := omega) only [iz_n, iz_neg, iz_add, iz_sub, iz_mul, iz_lt, iz_le, iz_eq, iz_t, iz_c, sRi_within, Option.bind_some, bi0, bi1, bi01, bi10, bi11, if_pos, if_neg, if_true, if_false, ite_not, ite_bi]
theorem op_shot_bad {x y d w n : Int} (dots cells sx sy sp : Nat → Int32) (hx : -2147483648 ≤ x ∧ x ≤ 2147483647) (hy : -2147483648 ≤ y ∧ y ≤ 2147483647) (hd : -2147483648 ≤ d ∧ d ≤ 2147483647) (hw : 0 ≤ w ∧ w ≤ 32) (hb : ¬ (0 ≤ x ∧ x < w ∧ 0 ≤ y ∧ y ≤ 2 ∧ -20 ≤ d ∧ d ≤ 20)) : fSc_takeShot (iz x) (iz y) (iz d) (iz w) (iz n) dots cells sx sy sp = some (iz (-2), iz n, cells, sx, sy, sp) := by
  unfold fSc_takeShot
  by_cases h1 : 0 ≤ x ∧ x ≤ w - 1
  · by_cases h2 : 0 ≤ y ∧ y ≤ 2
    · simp (disch := omega) only [iz_n, iz_neg, iz_add, iz_sub, iz_mul, iz_lt, iz_le, iz_eq, iz_t, iz_c, sRi_within, Option.bind_some, bi0, bi1, bi01, bi10, bi11, if_pos, if_neg, if_true, if_false, ite_not, ite_bi]
    · simp (disch := omega) only [iz_n, iz_neg, iz_add, iz_sub, iz_mul, iz_lt, iz_le, iz_eq, iz_t, iz_c, sRi_within, Option.bind_some, bi0, bi1, bi01, bi10, bi11, if_pos, if_neg, if_true, if_false, ite_not, ite_bi]
  · simp (disch := omega) only [iz_n, iz_neg, iz_add, iz_sub, iz_mul, iz_lt, iz_le, iz_eq, iz_t, iz_c, sRi_within, Option.bind_some, bi0, bi1, bi01, bi10, bi11, if_pos, if_neg, if_true, if_false, ite_not, ite_bi]
theorem op_shot_full {x y d w : Int} (dots cells sx sy sp : Nat → Int32) (hw : 0 ≤ w ∧ w ≤ 32) (hb : 0 ≤ x ∧ x < w ∧ 0 ≤ y ∧ y ≤ 2 ∧ -20 ≤ d ∧ d ≤ 20) : fSc_takeShot (iz x) (iz y) (iz d) (iz w) (iz 6) dots cells sx sy sp = some (iz (-4), iz 6, cells, sx, sy, sp) := by
  unfold fSc_takeShot
  simp (disch := omega) only [iz_n, iz_neg, iz_add, iz_sub, iz_mul, iz_lt, iz_le, iz_eq, iz_t, iz_c, sRi_within, Option.bind_some, bi0, bi1, bi01, bi10, bi11, if_pos, if_neg, if_true, if_false, ite_not, ite_bi]
theorem sMo_canShoot {al : Nat → Int32} (o : OkA al) {x y d : Int} (hx : -2147483648 ≤ x ∧ x ≤ 2147483647) (hy : -2147483648 ≤ y ∧ y ≤ 2147483647) (hd : -2147483648 ≤ d ∧ d ≤ 2147483647) : fMo_canShoot (iz x) (iz y) (iz d) al = some (iz (if 0 ≤ x ∧ x < WW al ∧ 0 ≤ y ∧ y ≤ 2 ∧ -20 ≤ d ∧ d ≤ 20 then (if NN al = 6 then -4 else 0) else -2)) := by
  have hn := o.n
  have hw := o.w
  unfold fMo_canShoot
  by_cases h1 : 0 ≤ x ∧ x ≤ WW al - 1
  · by_cases h2 : 0 ≤ y ∧ y ≤ 2
    · by_cases h3 : -20 ≤ d ∧ d ≤ 20
      · by_cases h4 : NN al = 6
        · simp (disch := omega) only [iz_n, iz_neg, iz_add, iz_sub, iz_mul, iz_lt, iz_le, iz_eq, iz_t, iz_c, lz_n, lz_neg, lz_add, lz_sub, lz_mul, lz_t, iz_64, am0, sMo_in, sMo_many, Option.bind_some, bi0, bi1, bi01, bi10, bi11, if_pos, if_neg, if_true, if_false, ite_not, ite_bi]
        · simp (disch := omega) only [iz_n, iz_neg, iz_add, iz_sub, iz_mul, iz_lt, iz_le, iz_eq, iz_t, iz_c, lz_n, lz_neg, lz_add, lz_sub, lz_mul, lz_t, iz_64, am0, sMo_in, sMo_many, Option.bind_some, bi0, bi1, bi01, bi10, bi11, if_pos, if_neg, if_true, if_false, ite_not, ite_bi]
      · simp (disch := omega) only [iz_n, iz_neg, iz_add, iz_sub, iz_mul, iz_lt, iz_le, iz_eq, iz_t, iz_c, lz_n, lz_neg, lz_add, lz_sub, lz_mul, lz_t, iz_64, am0, sMo_in, sMo_many, Option.bind_some, bi0, bi1, bi01, bi10, bi11, if_pos, if_neg, if_true, if_false, ite_not, ite_bi]
    · simp (disch := omega) only [iz_n, iz_neg, iz_add, iz_sub, iz_mul, iz_lt, iz_le, iz_eq, iz_t, iz_c, lz_n, lz_neg, lz_add, lz_sub, lz_mul, lz_t, iz_64, am0, sMo_in, sMo_many, Option.bind_some, bi0, bi1, bi01, bi10, bi11, if_pos, if_neg, if_true, if_false, ite_not, ite_bi]
  · simp (disch := omega) only [iz_n, iz_neg, iz_add, iz_sub, iz_mul, iz_lt, iz_le, iz_eq, iz_t, iz_c, lz_n, lz_neg, lz_add, lz_sub, lz_mul, lz_t, iz_64, am0, sMo_in, sMo_many, Option.bind_some, bi0, bi1, bi01, bi10, bi11, if_pos, if_neg, if_true, if_false, ite_not, ite_bi]
