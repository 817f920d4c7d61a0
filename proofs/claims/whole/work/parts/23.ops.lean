/-! what changes the state -/
theorem iz_inj {a b : Int} (h : a = b) : iz a = iz b := congrArg iz h
theorem iz_div {a b : Int} (h1 : 0 ≤ a ∧ a ≤ 2147483647) (h2 : 1 ≤ b ∧ b ≤ 2147483647) : iz a / iz b = iz (a / b) := by
  have hq : 0 ≤ a / b := Int.ediv_nonneg h1.1 (by omega)
  have hl : a / b ≤ a := Int.ediv_le_self b h1.1
  rw [← Int32.toInt_inj, lg_idiv_nonneg (by rw [iz_t (by omega) (by omega)]; omega) (by rw [iz_t (by omega) (by omega)]; omega), iz_t (by omega) (by omega), iz_t (by omega) (by omega), iz_t (by omega) (by omega)]
theorem upd_s (f : Nat → Int32) (k : Nat) (x : Int32) : upd f k x k = x := if_pos rfl
theorem upd_n (f : Nat → Int32) {k j : Nat} (x : Int32) (h : j ≠ k) : upd f k x j = f j := if_neg h
theorem RS_cell {al : Nat → Int32} {w n t a : Int32} {dots cells sx sy sp : Nat → Int32} (h : RS al w n t a dots cells sx sy sp) {k r c : Int} (hk : 0 ≤ k ∧ k < 6) (hr : 0 ≤ r ∧ r < 4) (hc : 0 ≤ c ∧ c < 8) (x : Int32) : RS (upd al (196 + 35 * k + 8 * r + c).toNat x) w n t a dots (upd cells (k * 32 + r * 8 + c).toNat x) sx sy sp := by
  have hi3 : 0 ≤ 8 * r + c ∧ 8 * r + c ≤ 31 := by omega
  refine ⟨?_, ?_, ?_, ?_, ?_, ?_, ?_, ?_, ?_⟩
  · rw [upd_n _ _ (by omega)]; exact h.w
  · rw [upd_n _ _ (by omega)]; exact h.n
  · rw [upd_n _ _ (by omega)]; exact h.t
  · rw [upd_n _ _ (by omega)]; exact h.a
  · intro j hj; rw [upd_n _ _ (by omega)]; exact h.d j hj
  · intro k' i hk' hi
    by_cases e : 32 * k' + i = (k * 32 + r * 8 + c).toNat
    · rw [show 196 + 35 * k' + i = (196 + 35 * k + 8 * r + c).toNat by omega, e, upd_s, upd_s]
    · rw [upd_n _ _ e, upd_n _ _ (by omega)]; exact h.c k' i hk' hi
  · intro j hj; rw [upd_n _ _ (by omega)]; exact h.x j hj
  · intro j hj; rw [upd_n _ _ (by omega)]; exact h.y j hj
  · intro j hj; rw [upd_n _ _ (by omega)]; exact h.p j hj
theorem OkA_cell {al : Nat → Int32} (o : OkA al) {k r c v : Int} (hk : 0 ≤ k ∧ k < 6) (hr : 0 ≤ r ∧ r < 4) (hc : 0 ≤ c ∧ c < 8) (hv : 0 ≤ v ∧ v ≤ 63) : OkA (upd al (196 + 35 * k + 8 * r + c).toNat (iz v)) := by
  have hi3 : 0 ≤ 8 * r + c ∧ 8 * r + c ≤ 31 := by omega
  have e : ∀ j : Nat, j < 4 → upd al (196 + 35 * k + 8 * r + c).toNat (iz v) j = al j := fun j hj => upd_n _ _ (by omega)
  unfold OkA WW NN TT AA
  rw [e 0 (by omega), e 1 (by omega), e 2 (by omega), e 3 (by omega)]
  refine ⟨o.w, o.n, o.t, o.a, ?_, ?_, ?_⟩
  · intro k' i hk' hi
    by_cases e : 196 + 35 * k' + i = (196 + 35 * k + 8 * r + c).toNat
    · rw [e, upd_s, iz_t (by omega) (by omega)]; exact hv
    · rw [upd_n _ _ e]; exact o.c k' i hk' hi
  · intro k' hk'
    rw [upd_n _ _ (by omega), upd_n _ _ (by omega), upd_n _ _ (by omega)]
    exact o.s k' hk'
  · intro j hj; rw [upd_n _ _ (by omega)]; exact o.d j hj
theorem RS_dot {al : Nat → Int32} {w n t a : Int32} {dots cells sx sy sp : Nat → Int32} (h : RS al w n t a dots cells sx sy sp) {j : Nat} (hj : j < 192) (x : Int32) : RS (upd al (4 + j) x) w n t a (upd dots j x) cells sx sy sp := by
  refine ⟨?_, ?_, ?_, ?_, ?_, ?_, ?_, ?_, ?_⟩
  · rw [upd_n _ _ (by omega)]; exact h.w
  · rw [upd_n _ _ (by omega)]; exact h.n
  · rw [upd_n _ _ (by omega)]; exact h.t
  · rw [upd_n _ _ (by omega)]; exact h.a
  · intro i hi
    by_cases e : i = j
    · subst e; rw [upd_s, upd_s]
    · rw [upd_n _ _ e, upd_n _ _ (by omega)]; exact h.d i hi
  · intro k' i hk' hi; rw [upd_n _ _ (by omega)]; exact h.c k' i hk' hi
  · intro j hj; rw [upd_n _ _ (by omega)]; exact h.x j hj
  · intro j hj; rw [upd_n _ _ (by omega)]; exact h.y j hj
  · intro j hj; rw [upd_n _ _ (by omega)]; exact h.p j hj
/-- the states agree but for the world -/
def EqW (al al' : Nat → Int32) : Prop := ∀ j, (0 < j ∧ j < 4) ∨ 196 ≤ j → al' j = al j
theorem OkA_eqw {al al' : Nat → Int32} (o : OkA al) (e : EqW al al') (hw : (WW al' = 0 ∨ 12 ≤ WW al') ∧ WW al' ≤ 32) (hd : ∀ j : Nat, j < 192 → 0 ≤ (al' (4 + j)).toInt ∧ (al' (4 + j)).toInt ≤ 63) : OkA al' := by
  unfold OkA NN TT AA
  rw [e 1 (by omega), e 2 (by omega), e 3 (by omega)]
  refine ⟨hw, o.n, o.t, o.a, ?_, ?_, hd⟩
  · intro k' i hk' hi; rw [e _ (by omega)]; exact o.c k' i hk' hi
  · intro k' hk'; rw [e _ (by omega), e _ (by omega), e _ (by omega)]; exact o.s k' hk'
theorem OkA_dot {al : Nat → Int32} (o : OkA al) {j : Nat} (hj : j < 192) {x : Int32} (hx : 0 ≤ x.toInt ∧ x.toInt ≤ 63) : OkA (upd al (4 + j) x) := by
  have e0 : upd al (4 + j) x 0 = al 0 := upd_n _ _ (by omega)
  refine OkA_eqw o (fun i hi => upd_n _ _ (by omega)) ?_ ?_
  · unfold WW; rw [e0]; exact o.w
  · intro i hi
    by_cases e : i = j
    · subst e; rw [upd_s]; exact hx
    · rw [upd_n _ _ (by omega)]; exact o.d i hi
theorem op_cell {al : Nat → Int32} {w n t a : Int32} {dots cells sx sy sp : Nat → Int32} (h : RS al w n t a dots cells sx sy sp) (o : OkA al) {k r c v : Int} (hk : 0 ≤ k ∧ k < NN al) (hr : 0 ≤ r ∧ r < 4) (hc : 0 ≤ c ∧ c < 8) (hv : 0 ≤ v ∧ v ≤ 63) :
    fSc_putCell (iz k) (iz r) (iz c) (iz v) n cells = some (iz (CE al k r c), upd cells (k * 32 + r * 8 + c).toNat (iz v)) ∧
    fMo_cellNow (iz (196 + 35 * k + 8 * r + c)) (iz v) al = some (iz (CE al k r c), upd al (196 + 35 * k + 8 * r + c).toNat (iz v)) := by
  have hn := o.n
  have e := h.iN
  subst e
  constructor
  · unfold fSc_putCell
    simp (disch := omega) only [iz_n, iz_neg, iz_add, iz_sub, iz_mul, iz_lt, iz_le, iz_eq, iz_t, iz_c, sSc_hasCell, sRi_within, Option.bind_some, bi0, bi1, bi01, bi10, bi11, if_pos, if_neg, if_true, if_false, ite_not, ite_bi, h.ic]
  · unfold fMo_cellNow
    simp (disch := omega) only [iz_n, iz_neg, iz_add, iz_sub, iz_mul, iz_lt, iz_le, iz_eq, iz_t, iz_c, Option.bind_some, bi0, bi1, bi01, bi10, bi11, if_pos, if_neg, if_true, if_false, ite_not, ite_bi, amC]
theorem op_cell_not {k r c v n : Int} (cells : Nat → Int32) (hk : -2147483648 ≤ k ∧ k ≤ 2147483647) (hr : -2147483648 ≤ r ∧ r ≤ 2147483647) (hc : -2147483648 ≤ c ∧ c ≤ 2147483647) (hv : -2147483648 ≤ v ∧ v ≤ 2147483647) (hn : 0 ≤ n ∧ n ≤ 6) (hb : ¬ (0 ≤ k ∧ k < n ∧ 0 ≤ r ∧ r < 4 ∧ 0 ≤ c ∧ c < 8 ∧ 0 ≤ v ∧ v ≤ 63)) : fSc_putCell (iz k) (iz r) (iz c) (iz v) (iz n) cells = some (iz (-2), cells) := by
  unfold fSc_putCell
  by_cases h1 : 0 ≤ k ∧ k < n ∧ k < 6 ∧ 0 ≤ r ∧ r < 4 ∧ 0 ≤ c ∧ c < 8
  · simp (disch := omega) only [iz_n, iz_neg, iz_add, iz_sub, iz_mul, iz_lt, iz_le, iz_eq, iz_t, iz_c, sSc_hasCell, sRi_within, Option.bind_some, bi0, bi1, bi01, bi10, bi11, if_pos, if_neg, if_true, if_false, ite_not, ite_bi]
  · simp (disch := omega) only [iz_n, iz_neg, iz_add, iz_sub, iz_mul, iz_lt, iz_le, iz_eq, iz_t, iz_c, sSc_hasCell, sRi_within, Option.bind_some, bi0, bi1, bi01, bi10, bi11, if_pos, if_neg, if_true, if_false, ite_not, ite_bi]
theorem op_dot {al : Nat → Int32} {w n t a : Int32} {dots cells sx sy sp : Nat → Int32} (h : RS al w n t a dots cells sx sy sp) (o : OkA al) {r c v : Int} (hr : 0 ≤ r ∧ r < 6) (hc : 0 ≤ c ∧ c < WW al) (hv : 0 ≤ v ∧ v ≤ 63) :
    fSc_putDot (iz r) (iz c) (iz v) w dots = some (iz (DO al r c), upd dots (r * 32 + c).toNat (iz v)) ∧
    fMo_cellNow (iz (4 + 32 * r + c)) (iz v) al = some (iz (DO al r c), upd al (4 + (r * 32 + c).toNat) (iz v)) := by
  have hn := o.w
  have e := h.iw
  subst e
  constructor
  · unfold fSc_putDot
    simp (disch := omega) only [iz_n, iz_neg, iz_add, iz_sub, iz_mul, iz_lt, iz_le, iz_eq, iz_t, iz_c, sSc_hasDot, sRi_within, Option.bind_some, bi0, bi1, bi01, bi10, bi11, if_pos, if_neg, if_true, if_false, ite_not, ite_bi, h.id]
  · unfold fMo_cellNow
    simp (disch := omega) only [iz_n, iz_neg, iz_add, iz_sub, iz_mul, iz_lt, iz_le, iz_eq, iz_t, iz_c, Option.bind_some, bi0, bi1, bi01, bi10, bi11, if_pos, if_neg, if_true, if_false, ite_not, ite_bi, amD]
    rw [show (4 + 32 * r + c).toNat = 4 + (r * 32 + c).toNat by omega]
theorem op_dot_not {r c v w : Int} (dots : Nat → Int32) (hr : -2147483648 ≤ r ∧ r ≤ 2147483647) (hc : -2147483648 ≤ c ∧ c ≤ 2147483647) (hv : -2147483648 ≤ v ∧ v ≤ 2147483647) (hw : 0 ≤ w ∧ w ≤ 32) (hb : ¬ (0 ≤ r ∧ r < 6 ∧ 0 ≤ c ∧ c < w ∧ 0 ≤ v ∧ v ≤ 63)) : fSc_putDot (iz r) (iz c) (iz v) (iz w) dots = some (iz (-2), dots) := by
  unfold fSc_putDot
  by_cases h1 : 0 ≤ r ∧ r < 6 ∧ 0 ≤ c ∧ c < w ∧ c < 32
  · simp (disch := omega) only [iz_n, iz_neg, iz_add, iz_sub, iz_mul, iz_lt, iz_le, iz_eq, iz_t, iz_c, sSc_hasDot, sRi_within, Option.bind_some, bi0, bi1, bi01, bi10, bi11, if_pos, if_neg, if_true, if_false, ite_not, ite_bi]
  · simp (disch := omega) only [iz_n, iz_neg, iz_add, iz_sub, iz_mul, iz_lt, iz_le, iz_eq, iz_t, iz_c, sSc_hasDot, sRi_within, Option.bind_some, bi0, bi1, bi01, bi10, bi11, if_pos, if_neg, if_true, if_false, ite_not, ite_bi]
/-! drawing a world -/
theorem RD_upd {al dots : Nat → Int32} (h : ∀ j, j < 192 → dots j = al (4 + j)) {r c : Int} (hr : 0 ≤ r ∧ r < 6) (hc : 0 ≤ c ∧ c < 32) (x : Int32) : ∀ j, j < 192 → upd dots (r * 32 + c).toNat x j = upd al (4 + 32 * r + c).toNat x (4 + j) := by
  intro j hj
  by_cases e : j = (r * 32 + c).toNat
  · rw [show 4 + j = (4 + 32 * r + c).toNat by omega, e, upd_s, upd_s]
  · rw [upd_n _ _ e, upd_n _ _ (by omega)]; exact h j hj
theorem lz_div {a b : Int} (h1 : 0 ≤ a ∧ a ≤ 9223372036854775807) (h2 : 1 ≤ b ∧ b ≤ 9223372036854775807) : lz a / lz b = lz (a / b) := by
  have hq : 0 ≤ a / b := Int.ediv_nonneg h1.1 (by omega)
  have hl : a / b ≤ a := Int.ediv_le_self b h1.1
  rw [← Int64.toInt_inj, lg_ldiv_nonneg (by rw [lz_t (by omega) (by omega)]; omega) (by rw [lz_t (by omega) (by omega)]; omega), lz_t (by omega) (by omega), lz_t (by omega) (by omega), lz_t (by omega) (by omega)]
theorem lz_32 {a : Int} (h : -2147483648 ≤ a ∧ a ≤ 2147483647) : (lz a).toInt32 = iz a := by
  rw [← iz_64 h.1 h.2]; exact lg_l2i_i2l _
theorem draw_x {X : Int} (hX : 0 ≤ X ∧ X < 2147483648) : ∃ Y, 0 ≤ Y ∧ Y < 2147483648 ∧ (lz X * (1103515245 : Int64) + (12345 : Int64)) - (lz X * (1103515245 : Int64) + (12345 : Int64)) / (2147483648 : Int64) * (2147483648 : Int64) = lz Y ∧
    0 ≤ ((lz Y / (65536 : Int64)) - (lz Y / (65536 : Int64)) / (64 : Int64) * (64 : Int64)).toInt32.toInt ∧ ((lz Y / (65536 : Int64)) - (lz Y / (65536 : Int64)) / (64 : Int64) * (64 : Int64)).toInt32.toInt ≤ 63 := by
  refine ⟨X * 1103515245 + 12345 - (X * 1103515245 + 12345) / 2147483648 * 2147483648, by omega, by omega, ?_, ?_⟩
  · simp only [lz_n, lz_mul, lz_add]
    rw [lz_div (by omega) (by omega), lz_mul, lz_sub]
  · have hY : 0 ≤ X * 1103515245 + 12345 - (X * 1103515245 + 12345) / 2147483648 * 2147483648 ∧ X * 1103515245 + 12345 - (X * 1103515245 + 12345) / 2147483648 * 2147483648 < 2147483648 := by omega
    generalize X * 1103515245 + 12345 - (X * 1103515245 + 12345) / 2147483648 * 2147483648 = Y at hY
    simp only [lz_n]
    rw [lz_div (by omega) (by omega), lz_div (by omega) (by omega), lz_mul, lz_sub, lz_32 (by omega), iz_t (by omega) (by omega)]
    omega
theorem draw_r (c : Int) (hc : 0 ≤ c ∧ c < 32) : ∀ (d : Nat) (r : Int) (n : Nat), r = 6 - d → 0 ≤ r → d < n → ∀ (x : Int) (dots al : Nat → Int32), 0 ≤ x ∧ x < 2147483648 → (∀ j, j < 192 → dots j = al (4 + j)) → (∀ j : Nat, j < 192 → 0 ≤ (al (4 + j)).toInt ∧ (al (4 + j)).toInt ≤ 63) →
    ∃ x' dots' al', fSc_drawWorld_L57 (iz c) n (lz x) (iz r) dots = some (lz x', dots') ∧ fMo_worldNow_L23 (iz c) n (lz x) (iz r) al = some (lz x', al') ∧ (0 ≤ x' ∧ x' < 2147483648) ∧ (∀ j, j < 192 → dots' j = al' (4 + j)) ∧ (∀ j : Nat, j < 192 → 0 ≤ (al' (4 + j)).toInt ∧ (al' (4 + j)).toInt ≤ 63) ∧ (∀ j, j < 4 ∨ 196 ≤ j → al' j = al j) := by
  intro d
  induction d with
  | zero =>
    intro r n hr h0 hn x dots al hx h h'
    obtain ⟨m, rfl⟩ : ∃ m, n = m + 1 := ⟨n - 1, by omega⟩
    refine ⟨x, dots, al, ?_, ?_, hx, h, h', fun _ _ => rfl⟩
    · unfold fSc_drawWorld_L57; simp (disch := omega) only [iz_n, iz_neg, iz_add, iz_sub, iz_mul, iz_lt, iz_le, iz_eq, iz_t, iz_c, Option.bind_some, bi0, bi1, bi01, bi10, bi11, if_pos, if_neg, if_true, if_false, ite_not, ite_bi]
    · unfold fMo_worldNow_L23; simp (disch := omega) only [iz_n, iz_neg, iz_add, iz_sub, iz_mul, iz_lt, iz_le, iz_eq, iz_t, iz_c, Option.bind_some, bi0, bi1, bi01, bi10, bi11, if_pos, if_neg, if_true, if_false, ite_not, ite_bi]
  | succ d ih =>
    intro r n hr h0 hn x dots al hx h h'
    obtain ⟨m, rfl⟩ : ∃ m, n = m + 1 := ⟨n - 1, by omega⟩
    unfold fSc_drawWorld_L57 fMo_worldNow_L23
    have n1 : ¬ (2147483648 : Int64) = 0 := by decide
    have n2 : ¬ (65536 : Int64) = 0 := by decide
    have n3 : ¬ (64 : Int64) = 0 := by decide
    obtain ⟨Y, y1, y2, y3, y4, y5⟩ := draw_x hx
    simp (disch := omega) only [iz_n, iz_neg, iz_add, iz_sub, iz_mul, iz_lt, iz_le, iz_eq, iz_t, iz_c, y3, Option.bind_some, if_pos n1, if_pos n2, if_pos n3, if_pos, if_neg]
    obtain ⟨x', dots', al', e1, e2, e3, e4, e5, e6⟩ := ih (r + 1) m (by omega) (by omega) (by omega) Y _ _ ⟨y1, y2⟩ (RD_upd h (r := r) (c := c) (by omega) hc ((lz Y / (65536 : Int64)) - (lz Y / (65536 : Int64)) / (64 : Int64) * (64 : Int64)).toInt32)
      (fun j hj => by
        by_cases e : 4 + j = (4 + 32 * r + c).toNat
        · rw [e, upd_s]; exact ⟨y4, y5⟩
        · rw [upd_n _ _ e]; exact h' j hj)
    refine ⟨x', dots', al', e1, e2, e3, e4, e5, ?_⟩
    intro j hj
    rw [e6 j hj, upd_n _ _ (by omega)]
theorem draw_c (p : Int) (hp : p ≤ 32) : ∀ (d : Nat) (c : Int) (n : Nat), c = p - d → 0 ≤ c → d < n → ∀ (x : Int) (dots al : Nat → Int32), 0 ≤ x ∧ x < 2147483648 → (∀ j, j < 192 → dots j = al (4 + j)) → (∀ j : Nat, j < 192 → 0 ≤ (al (4 + j)).toInt ∧ (al (4 + j)).toInt ≤ 63) →
    ∃ dots' al', fSc_drawWorld_L41 (iz p) n (lz x) (iz c) dots = some dots' ∧ fMo_worldNow_L14 (iz p) n (lz x) (iz c) al = some al' ∧ (∀ j, j < 192 → dots' j = al' (4 + j)) ∧ (∀ j : Nat, j < 192 → 0 ≤ (al' (4 + j)).toInt ∧ (al' (4 + j)).toInt ≤ 63) ∧ (∀ j, j < 4 ∨ 196 ≤ j → al' j = al j) := by
  intro d
  induction d with
  | zero =>
    intro r n hr h0 hn x dots al hx h h'
    obtain ⟨m, rfl⟩ : ∃ m, n = m + 1 := ⟨n - 1, by omega⟩
    refine ⟨dots, al, ?_, ?_, h, h', fun _ _ => rfl⟩
    · unfold fSc_drawWorld_L41; simp (disch := omega) only [iz_n, iz_neg, iz_add, iz_sub, iz_mul, iz_lt, iz_le, iz_eq, iz_t, iz_c, Option.bind_some, bi0, bi1, bi01, bi10, bi11, if_pos, if_neg, if_true, if_false, ite_not, ite_bi]; split <;> rfl
    · unfold fMo_worldNow_L14; simp (disch := omega) only [iz_n, iz_neg, iz_add, iz_sub, iz_mul, iz_lt, iz_le, iz_eq, iz_t, iz_c, Option.bind_some, bi0, bi1, bi01, bi10, bi11, if_pos, if_neg, if_true, if_false, ite_not, ite_bi]
  | succ d ih =>
    intro r n hr h0 hn x dots al hx h h'
    obtain ⟨m, rfl⟩ : ∃ m, n = m + 1 := ⟨n - 1, by omega⟩
    unfold fSc_drawWorld_L41 fMo_worldNow_L14
    obtain ⟨x1, d1, a1, e1, e2, e3, e4, e5, e6⟩ := draw_r r (by omega) 6 0 FU (by omega) (by omega) (by decide) x dots al hx h h'
    simp (disch := omega) only [iz_n, iz_neg, iz_add, iz_sub, iz_mul, iz_lt, iz_le, iz_eq, iz_t, iz_c, e1, e2, Option.bind_some, if_pos, if_neg]
    obtain ⟨dots', al', f1, f2, f3, f4, f5⟩ := ih (r + 1) m (by omega) (by omega) (by omega) x1 _ _ e3 e4 e5
    refine ⟨dots', al', f1, f2, f3, f4, ?_⟩
    intro j hj
    rw [f5 j hj, e6 j hj]
theorem op_draw {al : Nat → Int32} {w n t a : Int32} {dots cells sx sy sp : Nat → Int32} (h : RS al w n t a dots cells sx sy sp) (o : OkA al) {s p : Int} (hs : 0 ≤ s ∧ s ≤ 999999) (hp : 12 ≤ p ∧ p ≤ 32) :
    ∃ dots' al', fSc_drawWorld (iz s) (iz p) w dots = some (iz (WW al), iz p, dots') ∧ fMo_worldNow (iz s) (iz p) al = some (iz (WW al), al') ∧ RS al' (iz p) n t a dots' cells sx sy sp ∧ OkA al' := by
  obtain ⟨dots', al', f1, f2, f3, f5, f4⟩ := draw_c p (by omega) p.toNat 0 FU (by omega) (by omega) (by show p.toNat < 5000; omega) s dots al (by omega) h.d o.d
  rw [← iz_64 (by omega) (by omega)] at f1 f2
  have e := h.iw
  subst e
  refine ⟨dots', upd al' 0 (iz p), ?_, ?_, ?_, ?_⟩
  · unfold fSc_drawWorld
    rw [← show (0 : Int32) = iz 0 from iz_n 0] at f1
    simp (disch := omega) only [f1, Option.bind_some]
    simp (disch := omega) only [iz_n, iz_neg, iz_add, iz_sub, iz_mul, iz_lt, iz_le, iz_eq, iz_t, iz_c, sRi_within, Option.bind_some, bi0, bi1, bi01, bi10, bi11, if_pos, if_neg, if_true, if_false, ite_not, ite_bi]
  · unfold fMo_worldNow
    rw [← show (0 : Int32) = iz 0 from iz_n 0] at f2
    simp (disch := omega) only [f2, Option.bind_some]
    simp (disch := omega) only [iz_n, iz_neg, iz_add, iz_sub, iz_mul, iz_lt, iz_le, iz_eq, iz_t, iz_c, Option.bind_some, bi0, bi1, bi01, bi10, bi11, if_pos, if_neg, if_true, if_false, ite_not, ite_bi, am0]
    rfl
  · refine ⟨?_, ?_, ?_, ?_, ?_, ?_, ?_, ?_, ?_⟩
    · rw [upd_s]
    · rw [upd_n _ _ (by omega), f4 _ (by omega)]; exact h.n
    · rw [upd_n _ _ (by omega), f4 _ (by omega)]; exact h.t
    · rw [upd_n _ _ (by omega), f4 _ (by omega)]; exact h.a
    · intro j hj; rw [upd_n _ _ (by omega)]; exact f3 j hj
    · intro k i hk hi; rw [upd_n _ _ (by omega), f4 _ (by omega)]; exact h.c k i hk hi
    · intro k hk; rw [upd_n _ _ (by omega), f4 _ (by omega)]; exact h.x k hk
    · intro k hk; rw [upd_n _ _ (by omega), f4 _ (by omega)]; exact h.y k hk
    · intro k hk; rw [upd_n _ _ (by omega), f4 _ (by omega)]; exact h.p k hk
  · refine OkA_eqw o (fun j hj => ?_) ?_ ?_
    · rw [upd_n _ _ (by omega), f4 _ (by omega)]
    · unfold WW; rw [upd_s, iz_t (by omega) (by omega)]; omega
    · intro j hj; rw [upd_n _ _ (by omega)]; exact f5 j hj
theorem op_draw_not {s p : Int} (w : Int32) (dots : Nat → Int32) (hs : -2147483648 ≤ s ∧ s ≤ 2147483647) (hp : -2147483648 ≤ p ∧ p ≤ 2147483647) (hb : ¬ (0 ≤ s ∧ s ≤ 999999 ∧ 12 ≤ p ∧ p ≤ 32)) : fSc_drawWorld (iz s) (iz p) w dots = some (iz (-2), w, dots) := by
  unfold fSc_drawWorld
  by_cases h1 : 0 ≤ s ∧ s ≤ 999999
  · simp (disch := omega) only [iz_n, iz_neg, iz_add, iz_sub, iz_mul, iz_lt, iz_le, iz_eq, iz_t, iz_c, sRi_within, Option.bind_some, bi0, bi1, bi01, bi10, bi11, if_pos, if_neg, if_true, if_false, ite_not, ite_bi]
  · simp (disch := omega) only [iz_n, iz_neg, iz_add, iz_sub, iz_mul, iz_lt, iz_le, iz_eq, iz_t, iz_c, sRi_within, Option.bind_some, bi0, bi1, bi01, bi10, bi11, if_pos, if_neg, if_true, if_false, ite_not, ite_bi]
/-! settings -/
theorem op_set {al : Nat → Int32} {w n t a : Int32} {dots cells sx sy sp : Nat → Int32} (h : RS al w n t a dots cells sx sy sp) (o : OkA al) {q v : Int} (hq : (q = 0 ∧ 1 ≤ v ∧ v ≤ 126) ∨ (q = 1 ∧ 0 ≤ v ∧ v ≤ 63)) :
    ∃ z t' a' al', fSc_setNumber (iz q) (iz v) t a = some (iz z, t', a') ∧ fMo_cellNow (iz (1 + q)) (iz v) al = some (iz z, al') ∧ (0 ≤ z ∧ z ≤ 2147483647) ∧ RS al' w n t' a' dots cells sx sy sp ∧ OkA al' ∧ al' = upd al (1 + q).toNat (iz v) := by
  have ht := o.t
  have ha := o.a
  have e1 := h.it
  have e2 := h.ia
  subst e1 e2
  rcases hq with ⟨rfl, hv⟩ | ⟨rfl, hv⟩
  · refine ⟨TT al, iz v, iz (AA al), upd al 1 (iz v), ?_, ?_, by omega, ?_, ?_, rfl⟩
    · unfold fSc_setNumber
      simp (disch := omega) only [iz_n, iz_neg, iz_add, iz_sub, iz_mul, iz_lt, iz_le, iz_eq, iz_t, iz_c, sRi_within, Option.bind_some, bi0, bi1, bi01, bi10, bi11, if_pos, if_neg, if_true, if_false, ite_not, ite_bi]
    · unfold fMo_cellNow
      simp (disch := omega) only [iz_n, iz_neg, iz_add, iz_sub, iz_mul, iz_lt, iz_le, iz_eq, iz_t, iz_c, Option.bind_some, bi0, bi1, bi01, bi10, bi11, if_pos, if_neg, if_true, if_false, ite_not, ite_bi]
      rw [show (1 + 0 : Int).toNat = 1 from rfl, show al 1 = iz (TT al) from iz_self _]
    · refine ⟨?_, ?_, ?_, ?_, ?_, ?_, ?_, ?_, ?_⟩
      · rw [upd_n _ _ (by omega)]; exact h.w
      · rw [upd_n _ _ (by omega)]; exact h.n
      · rw [upd_s]
      · rw [upd_n _ _ (by omega)]; exact h.a
      · intro j hj; rw [upd_n _ _ (by omega)]; exact h.d j hj
      · intro k i hk hi; rw [upd_n _ _ (by omega)]; exact h.c k i hk hi
      · intro k hk; rw [upd_n _ _ (by omega)]; exact h.x k hk
      · intro k hk; rw [upd_n _ _ (by omega)]; exact h.y k hk
      · intro k hk; rw [upd_n _ _ (by omega)]; exact h.p k hk
    · unfold OkA WW TT AA NN
      rw [upd_s, upd_n _ _ (by omega : 0 ≠ 1), upd_n _ _ (by omega : 2 ≠ 1), upd_n _ _ (by omega : 3 ≠ 1), iz_t (by omega) (by omega)]
      refine ⟨o.w, o.n, hv, o.a, ?_, ?_, ?_⟩
      · intro k i hk hi; rw [upd_n _ _ (by omega)]; exact o.c k i hk hi
      · intro k hk; rw [upd_n _ _ (by omega), upd_n _ _ (by omega), upd_n _ _ (by omega)]; exact o.s k hk
      · intro j hj; rw [upd_n _ _ (by omega)]; exact o.d j hj
  · refine ⟨AA al, iz (TT al), iz v, upd al 2 (iz v), ?_, ?_, by omega, ?_, ?_, rfl⟩
    · unfold fSc_setNumber
      simp (disch := omega) only [iz_n, iz_neg, iz_add, iz_sub, iz_mul, iz_lt, iz_le, iz_eq, iz_t, iz_c, sRi_within, Option.bind_some, bi0, bi1, bi01, bi10, bi11, if_pos, if_neg, if_true, if_false, ite_not, ite_bi]
    · unfold fMo_cellNow
      simp (disch := omega) only [iz_n, iz_neg, iz_add, iz_sub, iz_mul, iz_lt, iz_le, iz_eq, iz_t, iz_c, Option.bind_some, bi0, bi1, bi01, bi10, bi11, if_pos, if_neg, if_true, if_false, ite_not, ite_bi]
      rw [show (1 + 1 : Int).toNat = 2 from rfl, show al 2 = iz (AA al) from iz_self _]
    · refine ⟨?_, ?_, ?_, ?_, ?_, ?_, ?_, ?_, ?_⟩
      · rw [upd_n _ _ (by omega)]; exact h.w
      · rw [upd_n _ _ (by omega)]; exact h.n
      · rw [upd_n _ _ (by omega)]; exact h.t
      · rw [upd_s]
      · intro j hj; rw [upd_n _ _ (by omega)]; exact h.d j hj
      · intro k i hk hi; rw [upd_n _ _ (by omega)]; exact h.c k i hk hi
      · intro k hk; rw [upd_n _ _ (by omega)]; exact h.x k hk
      · intro k hk; rw [upd_n _ _ (by omega)]; exact h.y k hk
      · intro k hk; rw [upd_n _ _ (by omega)]; exact h.p k hk
    · unfold OkA WW TT AA NN
      rw [upd_s, upd_n _ _ (by omega : 0 ≠ 2), upd_n _ _ (by omega : 1 ≠ 2), upd_n _ _ (by omega : 3 ≠ 2), iz_t (by omega) (by omega)]
      refine ⟨o.w, o.n, o.t, hv, ?_, ?_, ?_⟩
      · intro k i hk hi; rw [upd_n _ _ (by omega)]; exact o.c k i hk hi
      · intro k hk; rw [upd_n _ _ (by omega), upd_n _ _ (by omega), upd_n _ _ (by omega)]; exact o.s k hk
      · intro j hj; rw [upd_n _ _ (by omega)]; exact o.d j hj
theorem op_set_not {q v : Int} (t a : Int32) (hq : -2147483648 ≤ q ∧ q ≤ 2147483647) (hv : -2147483648 ≤ v ∧ v ≤ 2147483647) (hb : ¬ ((q = 0 ∧ 1 ≤ v ∧ v ≤ 126) ∨ (q = 1 ∧ 0 ≤ v ∧ v ≤ 63))) : fSc_setNumber (iz q) (iz v) t a = some (iz (-2), t, a) := by
  unfold fSc_setNumber
  by_cases h1 : q = 0
  · simp (disch := omega) only [iz_n, iz_neg, iz_add, iz_sub, iz_mul, iz_lt, iz_le, iz_eq, iz_t, iz_c, sRi_within, Option.bind_some, bi0, bi1, bi01, bi10, bi11, if_pos, if_neg, if_true, if_false, ite_not, ite_bi]
  · by_cases h2 : q = 1
    · simp (disch := omega) only [iz_n, iz_neg, iz_add, iz_sub, iz_mul, iz_lt, iz_le, iz_eq, iz_t, iz_c, sRi_within, Option.bind_some, bi0, bi1, bi01, bi10, bi11, if_pos, if_neg, if_true, if_false, ite_not, ite_bi]
    · simp (disch := omega) only [iz_n, iz_neg, iz_add, iz_sub, iz_mul, iz_lt, iz_le, iz_eq, iz_t, iz_c, sRi_within, Option.bind_some, bi0, bi1, bi01, bi10, bi11, if_pos, if_neg, if_true, if_false, ite_not, ite_bi]
