/-! the calls that change the state -/
def nx (s : Int) : Int := if s = 5 then 5 else s + 1
def Kept (s : Int) (al pa pa' : Nat → Int32) : Prop :=
  (s = 5 → (∀ j i : Nat, j < 4 → i < 406 → pa' (406 * j + i) = pa (406 * (j + 1) + i)) ∧ ∀ i, i < 406 → pa' (406 * 4 + i) = al i) ∧
  (s < 5 → (∀ j i : Nat, (j : Int) < s → i < 406 → pa' (406 * j + i) = pa (406 * j + i)) ∧ ∀ i, i < 406 → pa' (406 * s.toNat + i) = al i)
def Post (al pa al1 pa1 : Nat → Int32) (s : Int) (st1 fr fr1 hc1 : Int32) (hs hs' hs1 : Nat → Option Nat) (hh hh' hh1 : Nat) : Prop :=
  (al1 = al ∧ pa1 = pa ∧ st1 = iz s ∧ fr1 = fr ∧ hc1 = iz s ∧ hs1 = hs ∧ hh1 = hh) ∨ (fr1 = iz 0 ∧ hc1 = iz (nx s) ∧ hs1 = hs' ∧ hh1 = hh' ∧ st1 = iz (nx s) ∧ Kept s al pa pa1)
theorem keep_t {s : Int} (hs : 0 ≤ s ∧ s ≤ 5) (al pa : Nat → Int32) : ∃ pa' : Nat → Int32, fMo_keep al pa (iz s) = some (pa', iz (nx s)) ∧ Kept s al pa pa' := keep_s hs al pa
theorem settle_ok {z s : Int} (hz : 0 ≤ z ∧ z ≤ 2147483647) {hs hs' : Nat → Option Nat} {hh hh' : Nat} (hk : fHi_keep (iz s) hs hh = some (iz (nx s), hs', hh')) (fr : Int32) (rf : Nat → Int32) :
    fRi_settle (iz z) fr (iz s) hs hh rf = some (iz z, iz 0, iz (nx s), hs', hh', rf) := by
  unfold fRi_settle
  simp (disch := omega) only [iz_n, iz_neg, iz_add, iz_sub, iz_mul, iz_lt, iz_le, iz_eq, iz_t, iz_c, hk, Option.bind_some, bi0, bi1, bi01, bi10, bi11, if_pos, if_neg, if_true, if_false, ite_not, ite_bi]
theorem settle_no {q : Int} (hq : -4 ≤ q ∧ q ≤ -2) (hc fr : Int32) (hs : Nat → Option Nat) (hh : Nat) (rf : Nat → Int32) :
    fRi_settle (iz q) fr hc hs hh rf = some (iz q, fr, hc, hs, hh, ref rf q) := by
  unfold fRi_settle
  simp (disch := omega) only [iz_n, iz_neg, iz_add, iz_sub, iz_mul, iz_lt, iz_le, iz_eq, iz_t, iz_c, sRi_refuse, Option.bind_some, bi0, bi1, bi01, bi10, bi11, if_pos, if_neg, if_true, if_false, ite_not, ite_bi]

theorem c_world {al : Nat → Int32} {w n t a : Int32} {dots cells sx sy sp : Nat → Int32} (h : RS al w n t a dots cells sx sy sp) (o : OkA al) (w2 n2 t2 a2 : Int32) (d2 c2 x2 y2 p2 : Nat → Int32) {s : Int} (hs5 : 0 ≤ s ∧ s ≤ 5) {hs hs' : Nat → Option Nat} {hh hh' : Nat} (hk : fHi_keep (iz s) hs hh = some (iz (nx s), hs', hh')) {rf mr : Nat → Int32} (hR : RF rf mr) (pa : Nat → Int32) (fr : Int32) (jp jq : Int32) :
    ∃ (ans fr1 : Int32) (w' : Int32) (dots' : Nat → Int32) (d1 c1 x1 y1 q1 : Nat → Int32) (hc1 : Int32) (hs1 : Nat → Option Nat) (hh1 : Nat) (rf1 al1 pa1 : Nat → Int32) (st1 : Int32) (mr1 : Nat → Int32),
    fRi_world jp jq fr w n t a dots cells sx sy sp w2 n2 t2 a2 d2 c2 x2 y2 p2 (iz s) hs hh rf = some (ans, fr1, w', dots', w, n, t, a, d1, c1, x1, y1, q1, hc1, hs1, hh1, rf1) ∧
    fMo_world jp jq al pa (iz s) mr = some (ans, al1, pa1, st1, mr1) ∧
    RS al1 w' n t a dots' cells sx sy sp ∧ OkA al1 ∧ RS al w n t a d1 c1 x1 y1 q1 ∧ RF rf1 mr1 ∧ Post al pa al1 pa1 s st1 fr fr1 hc1 hs hs' hs1 hh hh' hh1 := by
  obtain ⟨d1, c1, x1, y1, q1, eH, rH⟩ := hold_s h w2 n2 t2 a2 d2 c2 x2 y2 p2
  have on := o.n
  have ow := o.w
  obtain ⟨ip, lp, up, rfl⟩ := iz_of jp
  obtain ⟨iq, lq, uq, rfl⟩ := iz_of jq
  by_cases hp : 0 ≤ ip ∧ ip ≤ 999999 ∧ 12 ≤ iq ∧ iq ≤ 32
  · obtain ⟨dots', al', f1, f2, r', o'⟩ := op_draw h o (s := ip) (p := iq) (by omega) (by omega)
    obtain ⟨pa', k1, k2⟩ := keep_t hs5 al pa
    refine ⟨iz (WW al), iz 0, iz iq, dots', d1, c1, x1, y1, q1, iz (nx s), hs', hh', rf, al', pa', iz (nx s), mr, ?_, ?_, r', o', rH, hR, .inr ⟨rfl, rfl, rfl, rfl, rfl, k2⟩⟩
    · unfold fRi_world
      rw [eH]
      simp only [Option.bind_some, f1, settle_ok (z := WW al) (by omega) hk]
    · unfold fMo_world
      rw [sMo_isWorld (by omega) (by omega)]
      simp only [Option.bind_some, k1, f2]
      simp (disch := omega) only [iz_n, iz_neg, iz_add, iz_sub, iz_mul, iz_lt, iz_le, iz_eq, iz_t, iz_c, Option.bind_some, bi0, bi1, bi01, bi10, bi11, if_pos, if_neg, if_true, if_false, ite_not, ite_bi]
  · have f1 := op_draw_not w dots (s := ip) (p := iq) (by omega) (by omega) hp
    refine ⟨iz (-2), fr, w, dots, d1, c1, x1, y1, q1, iz s, hs, hh, ref rf (-2), al, pa, iz s, ref mr (-2), ?_, ?_, h, o, rH, RF_ref hR (by omega), .inl ⟨rfl, rfl, rfl, rfl, rfl, rfl, rfl⟩⟩
    · unfold fRi_world
      rw [eH]
      simp only [Option.bind_some, f1, settle_no (q := -2) (by omega)]
    · unfold fMo_world
      rw [sMo_isWorld (by omega) (by omega)]
      simp only [Option.bind_some]
      simp (disch := omega) only [iz_n, iz_neg, iz_add, iz_sub, iz_mul, iz_lt, iz_le, iz_eq, iz_t, iz_c, sMo_refuses, Option.bind_some, bi0, bi1, bi01, bi10, bi11, if_pos, if_neg, if_true, if_false, ite_not, ite_bi]
theorem c_dots {al : Nat → Int32} {w n t a : Int32} {dots cells sx sy sp : Nat → Int32} (h : RS al w n t a dots cells sx sy sp) (o : OkA al) (w2 n2 t2 a2 : Int32) (d2 c2 x2 y2 p2 : Nat → Int32) {s : Int} (hs5 : 0 ≤ s ∧ s ≤ 5) {hs hs' : Nat → Option Nat} {hh hh' : Nat} (hk : fHi_keep (iz s) hs hh = some (iz (nx s), hs', hh')) {rf mr : Nat → Int32} (hR : RF rf mr) (pa : Nat → Int32) (fr : Int32) (jp jq jv : Int32) :
    ∃ (ans fr1 : Int32) (_ : Int32) (dots' : Nat → Int32) (d1 c1 x1 y1 q1 : Nat → Int32) (hc1 : Int32) (hs1 : Nat → Option Nat) (hh1 : Nat) (rf1 al1 pa1 : Nat → Int32) (st1 : Int32) (mr1 : Nat → Int32),
    fRi_dots jp jq jv fr w n t a dots cells sx sy sp w2 n2 t2 a2 d2 c2 x2 y2 p2 (iz s) hs hh rf = some (ans, fr1, dots', w, n, t, a, d1, c1, x1, y1, q1, hc1, hs1, hh1, rf1) ∧
    fMo_dots jp jq jv al pa (iz s) mr = some (ans, al1, pa1, st1, mr1) ∧
    RS al1 w n t a dots' cells sx sy sp ∧ OkA al1 ∧ RS al w n t a d1 c1 x1 y1 q1 ∧ RF rf1 mr1 ∧ Post al pa al1 pa1 s st1 fr fr1 hc1 hs hs' hs1 hh hh' hh1 := by
  obtain ⟨d1, c1, x1, y1, q1, eH, rH⟩ := hold_s h w2 n2 t2 a2 d2 c2 x2 y2 p2
  have on := o.n
  have ow := o.w
  obtain ⟨ip, lp, up, rfl⟩ := iz_of jp
  obtain ⟨iq, lq, uq, rfl⟩ := iz_of jq
  obtain ⟨iv, lv, uv, rfl⟩ := iz_of jv
  by_cases hp : 0 ≤ ip ∧ ip < 6 ∧ 0 ≤ iq ∧ iq < WW al ∧ 0 ≤ iv ∧ iv ≤ 63
  · obtain ⟨f1, f2⟩ := op_dot h o (r := ip) (c := iq) (v := iv) (by omega) (by omega) (by omega)
    have hz := o.dd (r := ip) (c := iq) (by omega) (by omega)
    obtain ⟨pa', k1, k2⟩ := keep_t hs5 al pa
    refine ⟨iz (DO al ip iq), iz 0, 0, upd dots (ip * 32 + iq).toNat (iz iv), d1, c1, x1, y1, q1, iz (nx s), hs', hh', rf, upd al (4 + (ip * 32 + iq).toNat) (iz iv), pa', iz (nx s), mr, ?_, ?_, RS_dot h (by omega) _, OkA_dot o (by omega) (by rw [iz_t lv uv]; omega), rH, hR, .inr ⟨rfl, rfl, rfl, rfl, rfl, k2⟩⟩
    · unfold fRi_dots
      rw [eH]
      simp only [Option.bind_some, f1, settle_ok (z := DO al ip iq) (by omega) hk]
    · unfold fMo_dots
      rw [sMo_isDot o (by omega) (by omega)]
      simp only [Option.bind_some, k1]
      simp (disch := omega) only [iz_n, iz_neg, iz_add, iz_sub, iz_mul, iz_lt, iz_le, iz_eq, iz_t, iz_c, lz_n, lz_neg, lz_add, lz_sub, lz_mul, lz_t, iz_64, sMo_in, f2, Option.bind_some, bi0, bi1, bi01, bi10, bi11, if_pos, if_neg, if_true, if_false, ite_not, ite_bi]
  · have ew := h.iw
    have f1 := op_dot_not dots (r := ip) (c := iq) (v := iv) (w := WW al) (by omega) (by omega) (by omega) (by omega) hp
    rw [← ew] at f1
    refine ⟨iz (-2), fr, 0, dots, d1, c1, x1, y1, q1, iz s, hs, hh, ref rf (-2), al, pa, iz s, ref mr (-2), ?_, ?_, h, o, rH, RF_ref hR (by omega), .inl ⟨rfl, rfl, rfl, rfl, rfl, rfl, rfl⟩⟩
    · unfold fRi_dots
      rw [eH]
      simp only [Option.bind_some, f1, settle_no (q := -2) (by omega)]
    · unfold fMo_dots
      rw [sMo_isDot o (by omega) (by omega)]
      simp only [Option.bind_some]
      by_cases h1 : 0 ≤ ip ∧ ip < 6 ∧ 0 ≤ iq ∧ iq < WW al
      · simp (disch := omega) only [iz_n, iz_neg, iz_add, iz_sub, iz_mul, iz_lt, iz_le, iz_eq, iz_t, iz_c, lz_n, lz_neg, lz_add, lz_sub, lz_mul, lz_t, iz_64, sMo_in, sMo_refuses, Option.bind_some, bi0, bi1, bi01, bi10, bi11, if_pos, if_neg, if_true, if_false, ite_not, ite_bi]
      · simp (disch := omega) only [iz_n, iz_neg, iz_add, iz_sub, iz_mul, iz_lt, iz_le, iz_eq, iz_t, iz_c, sMo_refuses, Option.bind_some, bi0, bi1, bi01, bi10, bi11, if_pos, if_neg, if_true, if_false, ite_not, ite_bi]
theorem c_paint {al : Nat → Int32} {w n t a : Int32} {dots cells sx sy sp : Nat → Int32} (h : RS al w n t a dots cells sx sy sp) (o : OkA al) (w2 n2 t2 a2 : Int32) (d2 c2 x2 y2 p2 : Nat → Int32) {s : Int} (hs5 : 0 ≤ s ∧ s ≤ 5) {hs hs' : Nat → Option Nat} {hh hh' : Nat} (hk : fHi_keep (iz s) hs hh = some (iz (nx s), hs', hh')) {rf mr : Nat → Int32} (hR : RF rf mr) (pa : Nat → Int32) (fr : Int32) (jk jr jc jv : Int32) :
    ∃ (ans fr1 : Int32) (_ : Int32) (cells' : Nat → Int32) (d1 c1 x1 y1 q1 : Nat → Int32) (hc1 : Int32) (hs1 : Nat → Option Nat) (hh1 : Nat) (rf1 al1 pa1 : Nat → Int32) (st1 : Int32) (mr1 : Nat → Int32),
    fRi_paint jk jr jc jv fr w n t a dots cells sx sy sp w2 n2 t2 a2 d2 c2 x2 y2 p2 (iz s) hs hh rf = some (ans, fr1, cells', w, n, t, a, d1, c1, x1, y1, q1, hc1, hs1, hh1, rf1) ∧
    fMo_paint jk jr jc jv al pa (iz s) mr = some (ans, al1, pa1, st1, mr1) ∧
    RS al1 w n t a dots cells' sx sy sp ∧ OkA al1 ∧ RS al w n t a d1 c1 x1 y1 q1 ∧ RF rf1 mr1 ∧ Post al pa al1 pa1 s st1 fr fr1 hc1 hs hs' hs1 hh hh' hh1 := by
  obtain ⟨d1, c1, x1, y1, q1, eH, rH⟩ := hold_s h w2 n2 t2 a2 d2 c2 x2 y2 p2
  have on := o.n
  have ow := o.w
  obtain ⟨ik, lk, uk, rfl⟩ := iz_of jk
  obtain ⟨ir, lr, ur, rfl⟩ := iz_of jr
  obtain ⟨ic, lc, uc, rfl⟩ := iz_of jc
  obtain ⟨iv, lv, uv, rfl⟩ := iz_of jv
  by_cases hp : 0 ≤ ik ∧ ik < NN al ∧ 0 ≤ ir ∧ ir < 4 ∧ 0 ≤ ic ∧ ic < 8 ∧ 0 ≤ iv ∧ iv ≤ 63
  · obtain ⟨f1, f2⟩ := op_cell h o (k := ik) (r := ir) (c := ic) (v := iv) (by omega) (by omega) (by omega) (by omega)
    have hz := o.ce (k := ik) (r := ir) (c := ic) (by omega) (by omega) (by omega)
    obtain ⟨pa', k1, k2⟩ := keep_t hs5 al pa
    refine ⟨iz (CE al ik ir ic), iz 0, 0, upd cells (ik * 32 + ir * 8 + ic).toNat (iz iv), d1, c1, x1, y1, q1, iz (nx s), hs', hh', rf, upd al (196 + 35 * ik + 8 * ir + ic).toNat (iz iv), pa', iz (nx s), mr, ?_, ?_, RS_cell h (by omega) (by omega) (by omega) _, OkA_cell o (by omega) (by omega) (by omega) (by omega), rH, hR, .inr ⟨rfl, rfl, rfl, rfl, rfl, k2⟩⟩
    · unfold fRi_paint
      rw [eH]
      simp only [Option.bind_some, f1, settle_ok (z := CE al ik ir ic) (by omega) hk]
    · unfold fMo_paint
      rw [sMo_isPicture o (by omega), sMo_isCell (by omega) (by omega)]
      simp only [Option.bind_some, k1]
      simp (disch := omega) only [iz_n, iz_neg, iz_add, iz_sub, iz_mul, iz_lt, iz_le, iz_eq, iz_t, iz_c, lz_n, lz_neg, lz_add, lz_sub, lz_mul, lz_t, iz_64, sMo_in, f2, Option.bind_some, bi0, bi1, bi01, bi10, bi11, if_pos, if_neg, if_true, if_false, ite_not, ite_bi]
  · have en := h.iN
    have f1 := op_cell_not cells (k := ik) (r := ir) (c := ic) (v := iv) (n := NN al) (by omega) (by omega) (by omega) (by omega) (by omega) hp
    rw [← en] at f1
    refine ⟨iz (-2), fr, 0, cells, d1, c1, x1, y1, q1, iz s, hs, hh, ref rf (-2), al, pa, iz s, ref mr (-2), ?_, ?_, h, o, rH, RF_ref hR (by omega), .inl ⟨rfl, rfl, rfl, rfl, rfl, rfl, rfl⟩⟩
    · unfold fRi_paint
      rw [eH]
      simp only [Option.bind_some, f1, settle_no (q := -2) (by omega)]
    · unfold fMo_paint
      rw [sMo_isPicture o (by omega), sMo_isCell (by omega) (by omega)]
      simp only [Option.bind_some]
      by_cases h1 : 0 ≤ ik ∧ ik < NN al
      · by_cases h2 : 0 ≤ ir ∧ ir ≤ 3 ∧ 0 ≤ ic ∧ ic ≤ 7
        · simp (disch := omega) only [iz_n, iz_neg, iz_add, iz_sub, iz_mul, iz_lt, iz_le, iz_eq, iz_t, iz_c, lz_n, lz_neg, lz_add, lz_sub, lz_mul, lz_t, iz_64, sMo_in, sMo_refuses, Option.bind_some, bi0, bi1, bi01, bi10, bi11, if_pos, if_neg, if_true, if_false, ite_not, ite_bi]
        · simp (disch := omega) only [iz_n, iz_neg, iz_add, iz_sub, iz_mul, iz_lt, iz_le, iz_eq, iz_t, iz_c, sMo_refuses, Option.bind_some, bi0, bi1, bi01, bi10, bi11, if_pos, if_neg, if_true, if_false, ite_not, ite_bi]
      · simp (disch := omega) only [iz_n, iz_neg, iz_add, iz_sub, iz_mul, iz_lt, iz_le, iz_eq, iz_t, iz_c, sMo_refuses, Option.bind_some, bi0, bi1, bi01, bi10, bi11, if_pos, if_neg, if_true, if_false, ite_not, ite_bi]
theorem c_drops {al : Nat → Int32} {w n t a : Int32} {dots cells sx sy sp : Nat → Int32} (h : RS al w n t a dots cells sx sy sp) (o : OkA al) (w2 n2 t2 a2 : Int32) (d2 c2 x2 y2 p2 : Nat → Int32) {s : Int} (hs5 : 0 ≤ s ∧ s ≤ 5) {hs hs' : Nat → Option Nat} {hh hh' : Nat} (hk : fHi_keep (iz s) hs hh = some (iz (nx s), hs', hh')) {rf mr : Nat → Int32} (hR : RF rf mr) (pa : Nat → Int32) (fr : Int32) (jk : Int32) :
    ∃ (ans fr1 : Int32) (n' : Int32) (cells' sx' sy' sp' : Nat → Int32) (d1 c1 x1 y1 q1 : Nat → Int32) (hc1 : Int32) (hs1 : Nat → Option Nat) (hh1 : Nat) (rf1 al1 pa1 : Nat → Int32) (st1 : Int32) (mr1 : Nat → Int32),
    fRi_drops jk fr w n t a dots cells sx sy sp w2 n2 t2 a2 d2 c2 x2 y2 p2 (iz s) hs hh rf = some (ans, fr1, n', cells', sx', sy', sp', w, n, t, a, d1, c1, x1, y1, q1, hc1, hs1, hh1, rf1) ∧
    fMo_drops jk al pa (iz s) mr = some (ans, al1, pa1, st1, mr1) ∧
    RS al1 w n' t a dots cells' sx' sy' sp' ∧ OkA al1 ∧ RS al w n t a d1 c1 x1 y1 q1 ∧ RF rf1 mr1 ∧ Post al pa al1 pa1 s st1 fr fr1 hc1 hs hs' hs1 hh hh' hh1 := by
  obtain ⟨d1, c1, x1, y1, q1, eH, rH⟩ := hold_s h w2 n2 t2 a2 d2 c2 x2 y2 p2
  have on := o.n
  have ow := o.w
  obtain ⟨ik, lk, uk, rfl⟩ := iz_of jk
  by_cases hp : 0 ≤ ik ∧ ik < NN al
  · obtain ⟨n', c', sx', sy', sp', al', f1, f2, r', o'⟩ := op_drop h o (k := ik) (by omega)
    obtain ⟨pa', k1, k2⟩ := keep_t hs5 al pa
    refine ⟨iz (NN al - 1), iz 0, n', c', sx', sy', sp', d1, c1, x1, y1, q1, iz (nx s), hs', hh', rf, al', pa', iz (nx s), mr, ?_, ?_, r', o', rH, hR, .inr ⟨rfl, rfl, rfl, rfl, rfl, k2⟩⟩
    · unfold fRi_drops
      rw [eH]
      simp only [Option.bind_some, f1, settle_ok (z := NN al - 1) (by omega) hk]
    · unfold fMo_drops
      rw [sMo_isPicture o (by omega)]
      simp only [Option.bind_some, k1, f2]
      simp (disch := omega) only [iz_n, iz_neg, iz_add, iz_sub, iz_mul, iz_lt, iz_le, iz_eq, iz_t, iz_c, Option.bind_some, bi0, bi1, bi01, bi10, bi11, if_pos, if_neg, if_true, if_false, ite_not, ite_bi]
  · have en := h.iN
    have f1 := op_drop_not cells sx sy sp (k := ik) (n := NN al) (by omega) (by omega) hp
    rw [← en] at f1
    refine ⟨iz (-2), fr, n, cells, sx, sy, sp, d1, c1, x1, y1, q1, iz s, hs, hh, ref rf (-2), al, pa, iz s, ref mr (-2), ?_, ?_, h, o, rH, RF_ref hR (by omega), .inl ⟨rfl, rfl, rfl, rfl, rfl, rfl, rfl⟩⟩
    · unfold fRi_drops
      rw [eH]
      simp only [Option.bind_some, f1, settle_no (q := -2) (by omega)]
    · unfold fMo_drops
      rw [sMo_isPicture o (by omega)]
      simp only [Option.bind_some]
      simp (disch := omega) only [iz_n, iz_neg, iz_add, iz_sub, iz_mul, iz_lt, iz_le, iz_eq, iz_t, iz_c, sMo_refuses, Option.bind_some, bi0, bi1, bi01, bi10, bi11, if_pos, if_neg, if_true, if_false, ite_not, ite_bi]
theorem c_sets {al : Nat → Int32} {w n t a : Int32} {dots cells sx sy sp : Nat → Int32} (h : RS al w n t a dots cells sx sy sp) (o : OkA al) (w2 n2 t2 a2 : Int32) (d2 c2 x2 y2 p2 : Nat → Int32) {s : Int} (hs5 : 0 ≤ s ∧ s ≤ 5) {hs hs' : Nat → Option Nat} {hh hh' : Nat} (hk : fHi_keep (iz s) hs hh = some (iz (nx s), hs', hh')) {rf mr : Nat → Int32} (hR : RF rf mr) (pa : Nat → Int32) (fr : Int32) (jq jv : Int32) :
    ∃ (ans fr1 : Int32) (t' a' : Int32) (_ : Nat → Int32) (d1 c1 x1 y1 q1 : Nat → Int32) (hc1 : Int32) (hs1 : Nat → Option Nat) (hh1 : Nat) (rf1 al1 pa1 : Nat → Int32) (st1 : Int32) (mr1 : Nat → Int32),
    fRi_sets jq jv fr w n t a dots cells sx sy sp w2 n2 t2 a2 d2 c2 x2 y2 p2 (iz s) hs hh rf = some (ans, fr1, t', a', w, n, t, a, d1, c1, x1, y1, q1, hc1, hs1, hh1, rf1) ∧
    fMo_sets jq jv al pa (iz s) mr = some (ans, al1, pa1, st1, mr1) ∧
    RS al1 w n t' a' dots cells sx sy sp ∧ OkA al1 ∧ RS al w n t a d1 c1 x1 y1 q1 ∧ RF rf1 mr1 ∧ Post al pa al1 pa1 s st1 fr fr1 hc1 hs hs' hs1 hh hh' hh1 := by
  obtain ⟨d1, c1, x1, y1, q1, eH, rH⟩ := hold_s h w2 n2 t2 a2 d2 c2 x2 y2 p2
  have on := o.n
  have ow := o.w
  obtain ⟨iq, lq, uq, rfl⟩ := iz_of jq
  obtain ⟨iv, lv, uv, rfl⟩ := iz_of jv
  by_cases hp : (iq = 0 ∧ 1 ≤ iv ∧ iv ≤ 126) ∨ (iq = 1 ∧ 0 ≤ iv ∧ iv ≤ 63)
  · obtain ⟨z, t', a', al', f1, f2, hz, r', o', _⟩ := op_set h o (q := iq) (v := iv) hp
    obtain ⟨pa', k1, k2⟩ := keep_t hs5 al pa
    refine ⟨iz (z), iz 0, t', a', dots, d1, c1, x1, y1, q1, iz (nx s), hs', hh', rf, al', pa', iz (nx s), mr, ?_, ?_, r', o', rH, hR, .inr ⟨rfl, rfl, rfl, rfl, rfl, k2⟩⟩
    · unfold fRi_sets
      rw [eH]
      simp only [Option.bind_some, f1, settle_ok (z := z) hz hk]
    · unfold fMo_sets
      rw [sMo_isSetting (by omega) (by omega)]
      simp only [Option.bind_some, k1]
      simp (disch := omega) only [iz_n, iz_neg, iz_add, iz_sub, iz_mul, iz_lt, iz_le, iz_eq, iz_t, iz_c, f2, Option.bind_some, bi0, bi1, bi01, bi10, bi11, if_pos, if_neg, if_true, if_false, ite_not, ite_bi]
  · have f1 := op_set_not t a (q := iq) (v := iv) (by omega) (by omega) hp
    refine ⟨iz (-2), fr, t, a, dots, d1, c1, x1, y1, q1, iz s, hs, hh, ref rf (-2), al, pa, iz s, ref mr (-2), ?_, ?_, h, o, rH, RF_ref hR (by omega), .inl ⟨rfl, rfl, rfl, rfl, rfl, rfl, rfl⟩⟩
    · unfold fRi_sets
      rw [eH]
      simp only [Option.bind_some, f1, settle_no (q := -2) (by omega)]
    · unfold fMo_sets
      rw [sMo_isSetting (by omega) (by omega)]
      simp only [Option.bind_some]
      simp (disch := omega) only [iz_n, iz_neg, iz_add, iz_sub, iz_mul, iz_lt, iz_le, iz_eq, iz_t, iz_c, sMo_refuses, Option.bind_some, bi0, bi1, bi01, bi10, bi11, if_pos, if_neg, if_true, if_false, ite_not, ite_bi]
theorem c_shot {al : Nat → Int32} {w n t a : Int32} {dots cells sx sy sp : Nat → Int32} (h : RS al w n t a dots cells sx sy sp) (o : OkA al) (w2 n2 t2 a2 : Int32) (d2 c2 x2 y2 p2 : Nat → Int32) {s : Int} (hs5 : 0 ≤ s ∧ s ≤ 5) {hs hs' : Nat → Option Nat} {hh hh' : Nat} (hk : fHi_keep (iz s) hs hh = some (iz (nx s), hs', hh')) {rf mr : Nat → Int32} (hR : RF rf mr) (pa : Nat → Int32) (fr : Int32) (jx jy jd : Int32) :
    ∃ (ans fr1 : Int32) (n' : Int32) (cells' sx' sy' sp' : Nat → Int32) (d1 c1 x1 y1 q1 : Nat → Int32) (hc1 : Int32) (hs1 : Nat → Option Nat) (hh1 : Nat) (rf1 al1 pa1 : Nat → Int32) (st1 : Int32) (mr1 : Nat → Int32),
    fRi_shot jx jy jd fr w n t a dots cells sx sy sp w2 n2 t2 a2 d2 c2 x2 y2 p2 (iz s) hs hh rf = some (ans, fr1, n', cells', sx', sy', sp', w, n, t, a, d1, c1, x1, y1, q1, hc1, hs1, hh1, rf1) ∧
    fMo_shot jx jy jd al pa (iz s) mr = some (ans, al1, pa1, st1, mr1) ∧
    RS al1 w n' t a dots cells' sx' sy' sp' ∧ OkA al1 ∧ RS al w n t a d1 c1 x1 y1 q1 ∧ RF rf1 mr1 ∧ Post al pa al1 pa1 s st1 fr fr1 hc1 hs hs' hs1 hh hh' hh1 := by
  obtain ⟨d1, c1, x1, y1, q1, eH, rH⟩ := hold_s h w2 n2 t2 a2 d2 c2 x2 y2 p2
  have on := o.n
  have ow := o.w
  obtain ⟨ix, lx, ux, rfl⟩ := iz_of jx
  obtain ⟨iy, ly, uy, rfl⟩ := iz_of jy
  obtain ⟨id, ld, ud, rfl⟩ := iz_of jd
  by_cases hp : 0 ≤ ix ∧ ix < WW al ∧ 0 ≤ iy ∧ iy ≤ 2 ∧ -20 ≤ id ∧ id ≤ 20 ∧ NN al < 6
  · obtain ⟨n', c', sx', sy', sp', al', f1, f2, r', o'⟩ := op_shot h o (x := ix) (y := iy) (d := id) (by omega) (by omega) (by omega) (by omega)
    obtain ⟨pa', k1, k2⟩ := keep_t hs5 al pa
    refine ⟨iz (NN al), iz 0, n', c', sx', sy', sp', d1, c1, x1, y1, q1, iz (nx s), hs', hh', rf, al', pa', iz (nx s), mr, ?_, ?_, r', o', rH, hR, .inr ⟨rfl, rfl, rfl, rfl, rfl, k2⟩⟩
    · unfold fRi_shot
      rw [eH]
      simp only [Option.bind_some, f1, settle_ok (z := NN al) (by omega) hk]
    · unfold fMo_shot
      rw [sMo_canShoot o (by omega) (by omega) (by omega), if_pos (by omega), if_neg (by omega)]
      simp only [Option.bind_some, k1, f2]
      simp (disch := omega) only [iz_n, iz_neg, iz_add, iz_sub, iz_mul, iz_lt, iz_le, iz_eq, iz_t, iz_c, Option.bind_some, bi0, bi1, bi01, bi10, bi11, if_pos, if_neg, if_true, if_false, ite_not, ite_bi]
  · by_cases hq : 0 ≤ ix ∧ ix < WW al ∧ 0 ≤ iy ∧ iy ≤ 2 ∧ -20 ≤ id ∧ id ≤ 20
    · have h6 : NN al = 6 := by omega
      have en := h.iN
      have ew := h.iw
      have f1 := op_shot_full dots cells sx sy sp (x := ix) (y := iy) (d := id) (w := WW al) (by omega) hq
      rw [← ew, ← h6, ← en] at f1
      refine ⟨iz (-4), fr, n, cells, sx, sy, sp, d1, c1, x1, y1, q1, iz s, hs, hh, ref rf (-4), al, pa, iz s, ref mr (-4), ?_, ?_, h, o, rH, RF_ref hR (by omega), .inl ⟨rfl, rfl, rfl, rfl, rfl, rfl, rfl⟩⟩
      · unfold fRi_shot
        rw [eH]
        simp only [Option.bind_some, f1, settle_no (q := -4) (by omega)]
      · unfold fMo_shot
        rw [sMo_canShoot o (by omega) (by omega) (by omega), if_pos hq, if_pos h6]
        simp only [Option.bind_some]
        simp (disch := omega) only [iz_n, iz_neg, iz_add, iz_sub, iz_mul, iz_lt, iz_le, iz_eq, iz_t, iz_c, sMo_refuses, Option.bind_some, bi0, bi1, bi01, bi10, bi11, if_pos, if_neg, if_true, if_false, ite_not, ite_bi]
    · have en := h.iN
      have ew := h.iw
      have f1 := op_shot_bad dots cells sx sy sp (x := ix) (y := iy) (d := id) (w := WW al) (n := NN al) (by omega) (by omega) (by omega) (by omega) hq
      rw [← ew, ← en] at f1
      refine ⟨iz (-2), fr, n, cells, sx, sy, sp, d1, c1, x1, y1, q1, iz s, hs, hh, ref rf (-2), al, pa, iz s, ref mr (-2), ?_, ?_, h, o, rH, RF_ref hR (by omega), .inl ⟨rfl, rfl, rfl, rfl, rfl, rfl, rfl⟩⟩
      · unfold fRi_shot
        rw [eH]
        simp only [Option.bind_some, f1, settle_no (q := -2) (by omega)]
      · unfold fMo_shot
        rw [sMo_canShoot o (by omega) (by omega) (by omega), if_neg hq]
        simp only [Option.bind_some]
        simp (disch := omega) only [iz_n, iz_neg, iz_add, iz_sub, iz_mul, iz_lt, iz_le, iz_eq, iz_t, iz_c, sMo_refuses, Option.bind_some, bi0, bi1, bi01, bi10, bi11, if_pos, if_neg, if_true, if_false, ite_not, ite_bi]
theorem c_value {al : Nat → Int32} {w n t a : Int32} {dots cells sx sy sp : Nat → Int32} (h : RS al w n t a dots cells sx sy sp) (o : OkA al) {rf mr : Nat → Int32} (hR : RF rf mr) (jk jr jc : Int32) :
    ∃ (ans : Int32) (rf1 mr1 : Nat → Int32), fRi_value jk jr jc w n dots cells rf = some (ans, rf1) ∧ fMo_value jk jr jc al mr = some (ans, mr1) ∧ RF rf1 mr1 := by
  have on := o.n
  have ow := o.w
  have ew := h.iw
  have en := h.iN
  obtain ⟨ik, lk, uk, rfl⟩ := iz_of jk
  obtain ⟨ir, lr, ur, rfl⟩ := iz_of jr
  obtain ⟨ic, lc, uc, rfl⟩ := iz_of jc
  by_cases h1 : ik = -1
  · by_cases h2 : 0 ≤ ir ∧ ir < 6 ∧ 0 ≤ ic ∧ ic < WW al
    · refine ⟨iz (DO al ir ic), rf, mr, ?_, ?_, hR⟩
      · unfold fRi_value
        rw [sSc_dotAt h ow (by omega) (by omega), ew, sSc_hasDot (by omega) (by omega) (by omega)]
        simp (disch := omega) only [iz_n, iz_neg, iz_add, iz_sub, iz_mul, iz_lt, iz_le, iz_eq, iz_t, iz_c, Option.bind_some, bi0, bi1, bi01, bi10, bi11, if_pos, if_neg, if_true, if_false, ite_not, ite_bi]
      · unfold fMo_value
        rw [sMo_isDot o (by omega) (by omega)]
        simp (disch := omega) only [iz_n, iz_neg, iz_add, iz_sub, iz_mul, iz_lt, iz_le, iz_eq, iz_t, iz_c, amD, Option.bind_some, bi0, bi1, bi01, bi10, bi11, if_pos, if_neg, if_true, if_false, ite_not, ite_bi]
    · refine ⟨iz (-2), ref rf (-2), ref mr (-2), ?_, ?_, RF_ref hR (by omega)⟩
      · unfold fRi_value
        rw [ew, sSc_hasDot (by omega) (by omega) (by omega)]
        simp (disch := omega) only [iz_n, iz_neg, iz_add, iz_sub, iz_mul, iz_lt, iz_le, iz_eq, iz_t, iz_c, sRi_refuse, Option.bind_some, bi0, bi1, bi01, bi10, bi11, if_pos, if_neg, if_true, if_false, ite_not, ite_bi]
      · unfold fMo_value
        rw [sMo_isDot o (by omega) (by omega)]
        simp (disch := omega) only [iz_n, iz_neg, iz_add, iz_sub, iz_mul, iz_lt, iz_le, iz_eq, iz_t, iz_c, sMo_refuses, Option.bind_some, bi0, bi1, bi01, bi10, bi11, if_pos, if_neg, if_true, if_false, ite_not, ite_bi]
  · by_cases h2 : 0 ≤ ik ∧ ik < NN al ∧ 0 ≤ ir ∧ ir < 4 ∧ 0 ≤ ic ∧ ic < 8
    · refine ⟨iz (CE al ik ir ic), rf, mr, ?_, ?_, hR⟩
      · unfold fRi_value
        rw [sSc_cellAt h on (by omega) (by omega) (by omega), en, sSc_hasCell (by omega) (by omega) (by omega) (by omega)]
        simp (disch := omega) only [iz_n, iz_neg, iz_add, iz_sub, iz_mul, iz_lt, iz_le, iz_eq, iz_t, iz_c, Option.bind_some, bi0, bi1, bi01, bi10, bi11, if_pos, if_neg, if_true, if_false, ite_not, ite_bi]
      · unfold fMo_value
        rw [sMo_isPicture o (by omega), sMo_isCell (by omega) (by omega), sMo_at (by omega) (by omega) (by omega)]
        simp (disch := omega) only [iz_n, iz_neg, iz_add, iz_sub, iz_mul, iz_lt, iz_le, iz_eq, iz_t, iz_c, Option.bind_some, bi0, bi1, bi01, bi10, bi11, if_pos, if_neg, if_true, if_false, ite_not, ite_bi]
    · refine ⟨iz (-2), ref rf (-2), ref mr (-2), ?_, ?_, RF_ref hR (by omega)⟩
      · unfold fRi_value
        rw [en, sSc_hasCell (by omega) (by omega) (by omega) (by omega)]
        simp (disch := omega) only [iz_n, iz_neg, iz_add, iz_sub, iz_mul, iz_lt, iz_le, iz_eq, iz_t, iz_c, sRi_refuse, Option.bind_some, bi0, bi1, bi01, bi10, bi11, if_pos, if_neg, if_true, if_false, ite_not, ite_bi]
      · unfold fMo_value
        rw [sMo_isPicture o (by omega), sMo_isCell (by omega) (by omega)]
        by_cases h3 : 0 ≤ ik ∧ ik < NN al
        · simp (disch := omega) only [iz_n, iz_neg, iz_add, iz_sub, iz_mul, iz_lt, iz_le, iz_eq, iz_t, iz_c, sMo_refuses, Option.bind_some, bi0, bi1, bi01, bi10, bi11, if_pos, if_neg, if_true, if_false, ite_not, ite_bi]
        · simp (disch := omega) only [iz_n, iz_neg, iz_add, iz_sub, iz_mul, iz_lt, iz_le, iz_eq, iz_t, iz_c, sMo_refuses, Option.bind_some, bi0, bi1, bi01, bi10, bi11, if_pos, if_neg, if_true, if_false, ite_not, ite_bi]
