/-! leaves of both classes -/
theorem lc_lt {a b : Int} (h1 : -9223372036854775808 ≤ a ∧ a ≤ 9223372036854775807) (h2 : -9223372036854775808 ≤ b ∧ b ≤ 9223372036854775807) : (lg_cmp (lz a) (lz b) < iz 0) = (a < b) := by
  rw [← show (0 : Int32) = iz 0 from iz_n 0, lg_cmp_lt, Int64.lt_iff_toInt_lt, lz_t h1.1 h1.2, lz_t h2.1 h2.2]
theorem lc_gt {a b : Int} (h1 : -9223372036854775808 ≤ a ∧ a ≤ 9223372036854775807) (h2 : -9223372036854775808 ≤ b ∧ b ≤ 9223372036854775807) : (iz 0 < lg_cmp (lz a) (lz b)) = (b < a) := by
  rw [← show (0 : Int32) = iz 0 from iz_n 0, lg_cmp_gt, Int64.lt_iff_toInt_lt, lz_t h1.1 h1.2, lz_t h2.1 h2.2]
theorem lc_ge {a b : Int} (h1 : -9223372036854775808 ≤ a ∧ a ≤ 9223372036854775807) (h2 : -9223372036854775808 ≤ b ∧ b ≤ 9223372036854775807) : (iz 0 ≤ lg_cmp (lz a) (lz b)) = (b ≤ a) := by
  rw [← show (0 : Int32) = iz 0 from iz_n 0, lg_cmp_ge, Int64.le_iff_toInt_le, lz_t h1.1 h1.2, lz_t h2.1 h2.2]
theorem lc_le {a b : Int} (h1 : -9223372036854775808 ≤ a ∧ a ≤ 9223372036854775807) (h2 : -9223372036854775808 ≤ b ∧ b ≤ 9223372036854775807) : (lg_cmp (lz a) (lz b) ≤ iz 0) = (a ≤ b) := by
  rw [← show (0 : Int32) = iz 0 from iz_n 0, lg_cmp_le, Int64.le_iff_toInt_le, lz_t h1.1 h1.2, lz_t h2.1 h2.2]
theorem lc_eq {a b : Int} (h1 : -9223372036854775808 ≤ a ∧ a ≤ 9223372036854775807) (h2 : -9223372036854775808 ≤ b ∧ b ≤ 9223372036854775807) : (lg_cmp (lz a) (lz b) = iz 0) = (a = b) := by
  rw [← show (0 : Int32) = iz 0 from iz_n 0, lg_cmp_eq, ← Int64.toInt_inj, lz_t h1.1 h1.2, lz_t h2.1 h2.2]
theorem sMo_in {a b c : Int} (h1 : -9223372036854775808 ≤ a ∧ a ≤ 9223372036854775807) (h2 : -9223372036854775808 ≤ b ∧ b ≤ 9223372036854775807) (h3 : -9223372036854775808 ≤ c ∧ c ≤ 9223372036854775807) : fMo_in (lz a) (lz b) (lz c) = some (bi (b ≤ a ∧ a ≤ c)) := by
  unfold fMo_in bi
  simp (disch := omega) only [iz_n, lc_lt, lc_gt]
  repeat' split
  all_goals first | rfl | (exfalso; omega)
theorem sRi_within {a b c : Int} (ha : -2147483648 ≤ a ∧ a ≤ 2147483647) (hb : -2147483648 ≤ b ∧ b ≤ 2147483647) (hc : -2147483648 ≤ c ∧ c ≤ 2147483647) : fRi_within (iz a) (iz b) (iz c) = some (bi (b ≤ a ∧ a ≤ c)) := by
  unfold fRi_within bi
  simp (disch := omega) only [iz_n, iz_neg, iz_add, iz_sub, iz_mul, iz_lt, iz_le, iz_eq, iz_t, iz_c]
  repeat' split
  all_goals first | rfl | (exfalso; omega)
theorem sSc_hasPicture {k n : Int} (hk : -2147483648 ≤ k ∧ k ≤ 2147483647) (hn : -2147483648 ≤ n ∧ n ≤ 2147483647) : fSc_hasPicture (iz k) (iz n) = some (bi (0 ≤ k ∧ k < n ∧ k < 6)) := by
  unfold fSc_hasPicture bi
  simp (disch := omega) only [iz_n, iz_neg, iz_add, iz_sub, iz_mul, iz_lt, iz_le, iz_eq, iz_t, iz_c]
  repeat' split
  all_goals first | rfl | (exfalso; omega)
theorem sSc_hasCell {k r c n : Int} (hk : -2147483648 ≤ k ∧ k ≤ 2147483647) (hr : -2147483648 ≤ r ∧ r ≤ 2147483647) (hc : -2147483648 ≤ c ∧ c ≤ 2147483647) (hn : -2147483648 ≤ n ∧ n ≤ 2147483647) : fSc_hasCell (iz k) (iz r) (iz c) (iz n) = some (bi (0 ≤ k ∧ k < n ∧ k < 6 ∧ 0 ≤ r ∧ r < 4 ∧ 0 ≤ c ∧ c < 8)) := by
  unfold fSc_hasCell bi
  simp (disch := omega) only [iz_n, iz_neg, iz_add, iz_sub, iz_mul, iz_lt, iz_le, iz_eq, iz_t, iz_c]
  repeat' split
  all_goals first | rfl | (exfalso; omega)
theorem sSc_hasDot {r c w : Int} (hr : -2147483648 ≤ r ∧ r ≤ 2147483647) (hc : -2147483648 ≤ c ∧ c ≤ 2147483647) (hw : -2147483648 ≤ w ∧ w ≤ 2147483647) : fSc_hasDot (iz r) (iz c) (iz w) = some (bi (0 ≤ r ∧ r < 6 ∧ 0 ≤ c ∧ c < w ∧ c < 32)) := by
  unfold fSc_hasDot bi
  simp (disch := omega) only [iz_n, iz_neg, iz_add, iz_sub, iz_mul, iz_lt, iz_le, iz_eq, iz_t, iz_c]
  repeat' split
  all_goals first | rfl | (exfalso; omega)
theorem sRi_isInner {r c : Int} (hr : -2147483648 ≤ r ∧ r ≤ 2147483647) (hc : -2147483648 ≤ c ∧ c ≤ 2147483647) : fRi_isInner (iz r) (iz c) = some (bi (1 ≤ r ∧ r ≤ 2 ∧ 1 ≤ c ∧ c ≤ 6)) := by
  unfold fRi_isInner bi
  simp (disch := omega) only [iz_n, iz_neg, iz_add, iz_sub, iz_mul, iz_lt, iz_le, iz_eq, iz_t, iz_c]
  repeat' split
  all_goals first | rfl | (exfalso; omega)
theorem sLi_areTwo {a b : Int} (ha : -2147483648 ≤ a ∧ a ≤ 2147483647) (hb : -2147483648 ≤ b ∧ b ≤ 2147483647) : fLi_areTwo (iz a) (iz b) = some (bi (0 ≤ a ∧ a ≤ 5 ∧ 0 ≤ b ∧ b ≤ 5)) := by
  unfold fLi_areTwo
  simp (disch := omega) only [iz_n, iz_neg, iz_add, iz_sub, iz_mul, iz_lt, iz_le, iz_eq, iz_t, iz_c, sRi_within, Option.bind_some, bi0, bi1, bi01, bi10, bi11, if_pos, if_neg, if_true, if_false, ite_not, ite_bi]
  unfold bi
  repeat' split
  all_goals first | rfl | (exfalso; omega)
theorem sMo_abs {a : Int} (ha : -2147483648 ≤ a ∧ a ≤ 2147483647) : fMo_abs (iz a) = some (iz (if 0 ≤ a then a else -a)) := by
  unfold fMo_abs
  simp (disch := omega) only [iz_n, iz_neg, iz_add, iz_sub, iz_mul, iz_lt, iz_le, iz_eq, iz_t, iz_c]
  split <;> rfl
theorem sMo_isCell {r c : Int} (hr : -2147483648 ≤ r ∧ r ≤ 2147483647) (hc : -2147483648 ≤ c ∧ c ≤ 2147483647) : fMo_isCell (iz r) (iz c) = some (bi (0 ≤ r ∧ r ≤ 3 ∧ 0 ≤ c ∧ c ≤ 7)) := by
  unfold fMo_isCell
  simp (disch := omega) only [iz_n, iz_neg, iz_add, iz_sub, iz_mul, iz_lt, iz_le, iz_eq, iz_t, iz_c, lz_n, lz_neg, lz_add, lz_sub, lz_mul, lz_t, iz_64, sMo_in, Option.bind_some, bi0, bi1, bi01, bi10, bi11, if_pos, if_neg, if_true, if_false, ite_not, ite_bi]
  unfold bi
  repeat' split
  all_goals first | rfl | (exfalso; omega)
theorem sMo_isInner {r c : Int} (hr : -2147483648 ≤ r ∧ r ≤ 2147483647) (hc : -2147483648 ≤ c ∧ c ≤ 2147483647) : fMo_isInner (iz r) (iz c) = some (bi (1 ≤ r ∧ r ≤ 2 ∧ 1 ≤ c ∧ c ≤ 6)) := by
  unfold fMo_isInner
  simp (disch := omega) only [iz_n, iz_neg, iz_add, iz_sub, iz_mul, iz_lt, iz_le, iz_eq, iz_t, iz_c, lz_n, lz_neg, lz_add, lz_sub, lz_mul, lz_t, iz_64, sMo_in, Option.bind_some, bi0, bi1, bi01, bi10, bi11, if_pos, if_neg, if_true, if_false, ite_not, ite_bi]
  unfold bi
  repeat' split
  all_goals first | rfl | (exfalso; omega)
theorem sMo_isWorld {s p : Int} (hs : -2147483648 ≤ s ∧ s ≤ 2147483647) (hp : -2147483648 ≤ p ∧ p ≤ 2147483647) : fMo_isWorld (iz s) (iz p) = some (bi (0 ≤ s ∧ s ≤ 999999 ∧ 12 ≤ p ∧ p ≤ 32)) := by
  unfold fMo_isWorld
  simp (disch := omega) only [iz_n, iz_neg, iz_add, iz_sub, iz_mul, iz_lt, iz_le, iz_eq, iz_t, iz_c, lz_n, lz_neg, lz_add, lz_sub, lz_mul, lz_t, iz_64, sMo_in, Option.bind_some, bi0, bi1, bi01, bi10, bi11, if_pos, if_neg, if_true, if_false, ite_not, ite_bi]
  unfold bi
  repeat' split
  all_goals first | rfl | (exfalso; omega)
theorem sMo_isSetting {w v : Int} (hw : -2147483648 ≤ w ∧ w ≤ 2147483647) (hv : -2147483648 ≤ v ∧ v ≤ 2147483647) : fMo_isSetting (iz w) (iz v) = some (bi ((w = 0 ∧ 1 ≤ v ∧ v ≤ 126) ∨ (w = 1 ∧ 0 ≤ v ∧ v ≤ 63))) := by
  unfold fMo_isSetting
  simp (disch := omega) only [iz_n, iz_neg, iz_add, iz_sub, iz_mul, iz_lt, iz_le, iz_eq, iz_t, iz_c, lz_n, lz_neg, lz_add, lz_sub, lz_mul, lz_t, iz_64, sMo_in, Option.bind_some, bi0, bi1, bi01, bi10, bi11, if_pos, if_neg, if_true, if_false, ite_not, ite_bi]
  unfold bi
  repeat' split
  all_goals first | rfl | (exfalso; omega)
theorem sMo_isNear {c d : Int} (hc : -100 ≤ c ∧ c ≤ 100) (hd : -100 ≤ d ∧ d ≤ 100) : fMo_isNear (iz c) (iz d) = some (bi (c - d ≤ 1 ∧ d - c ≤ 1)) := by
  unfold fMo_isNear bi
  simp (disch := omega) only [iz_n, iz_neg, iz_add, iz_sub, iz_mul, iz_lt, iz_le, iz_eq, iz_t, iz_c]
  repeat' split
  all_goals first | rfl | (exfalso; omega)
/-! what the row of the model says -/
def WW (al : Nat → Int32) : Int := (al 0).toInt
def TT (al : Nat → Int32) : Int := (al 1).toInt
def AA (al : Nat → Int32) : Int := (al 2).toInt
def NN (al : Nat → Int32) : Int := (al 3).toInt
def CE (al : Nat → Int32) (k r c : Int) : Int := (al (196 + 35 * k + 8 * r + c).toNat).toInt
def DO (al : Nat → Int32) (r c : Int) : Int := (al (4 + 32 * r + c).toNat).toInt
def SH (al : Nat → Int32) (k w : Int) : Int := (al (196 + 35 * k + 32 + w).toNat).toInt
theorem am0 (al : Nat → Int32) : al (Int.toNat 0) = iz (WW al) := iz_self _
theorem am1 (al : Nat → Int32) : al (Int.toNat 1) = iz (TT al) := iz_self _
theorem am2 (al : Nat → Int32) : al (Int.toNat 2) = iz (AA al) := iz_self _
theorem am3 (al : Nat → Int32) : al (Int.toNat 3) = iz (NN al) := iz_self _
theorem amC (al : Nat → Int32) (k r c : Int) : al (196 + 35 * k + 8 * r + c).toNat = iz (CE al k r c) := iz_self _
theorem amD (al : Nat → Int32) (r c : Int) : al (4 + 32 * r + c).toNat = iz (DO al r c) := iz_self _
theorem amS (al : Nat → Int32) (k w : Int) : al (196 + 35 * k + 32 + w).toNat = iz (SH al k w) := iz_self _
def OkA (al : Nat → Int32) : Prop :=
  ((WW al = 0 ∨ 12 ≤ WW al) ∧ WW al ≤ 32) ∧ (0 ≤ NN al ∧ NN al ≤ 6) ∧ (1 ≤ TT al ∧ TT al ≤ 126) ∧ (0 ≤ AA al ∧ AA al ≤ 63) ∧
  (∀ k i : Nat, k < 6 → i < 32 → 0 ≤ (al (196 + 35 * k + i)).toInt ∧ (al (196 + 35 * k + i)).toInt ≤ 63) ∧
  (∀ k : Nat, (k : Int) < NN al → 0 ≤ (al (228 + 35 * k)).toInt ∧ (al (228 + 35 * k)).toInt ≤ 31 ∧ 0 ≤ (al (229 + 35 * k)).toInt ∧ (al (229 + 35 * k)).toInt ≤ 2 ∧ 12 ≤ (al (230 + 35 * k)).toInt ∧ (al (230 + 35 * k)).toInt ≤ 32) ∧
  (∀ j : Nat, j < 192 → 0 ≤ (al (4 + j)).toInt ∧ (al (4 + j)).toInt ≤ 63)
theorem OkA.w {al : Nat → Int32} (h : OkA al) : (WW al = 0 ∨ 12 ≤ WW al) ∧ WW al ≤ 32 := h.1
theorem OkA.n {al : Nat → Int32} (h : OkA al) : 0 ≤ NN al ∧ NN al ≤ 6 := h.2.1
theorem OkA.t {al : Nat → Int32} (h : OkA al) : 1 ≤ TT al ∧ TT al ≤ 126 := h.2.2.1
theorem OkA.a {al : Nat → Int32} (h : OkA al) : 0 ≤ AA al ∧ AA al ≤ 63 := h.2.2.2.1
theorem OkA.c {al : Nat → Int32} (h : OkA al) : ∀ k i : Nat, k < 6 → i < 32 → 0 ≤ (al (196 + 35 * k + i)).toInt ∧ (al (196 + 35 * k + i)).toInt ≤ 63 := h.2.2.2.2.1
theorem OkA.s {al : Nat → Int32} (h : OkA al) : ∀ k : Nat, (k : Int) < NN al → 0 ≤ (al (228 + 35 * k)).toInt ∧ (al (228 + 35 * k)).toInt ≤ 31 ∧ 0 ≤ (al (229 + 35 * k)).toInt ∧ (al (229 + 35 * k)).toInt ≤ 2 ∧ 12 ≤ (al (230 + 35 * k)).toInt ∧ (al (230 + 35 * k)).toInt ≤ 32 := h.2.2.2.2.2.1
theorem OkA.d {al : Nat → Int32} (h : OkA al) : ∀ j : Nat, j < 192 → 0 ≤ (al (4 + j)).toInt ∧ (al (4 + j)).toInt ≤ 63 := h.2.2.2.2.2.2
theorem OkA.dd {al : Nat → Int32} (h : OkA al) {r c : Int} (hr : 0 ≤ r ∧ r < 6) (hc : 0 ≤ c ∧ c < 32) : 0 ≤ DO al r c ∧ DO al r c ≤ 63 := by
  have := h.d (r * 32 + c).toNat (by omega)
  unfold DO
  rwa [show (4 + 32 * r + c).toNat = 4 + (r * 32 + c).toNat by omega]
def RS (al : Nat → Int32) (w n t a : Int32) (dots cells sx sy sp : Nat → Int32) : Prop :=
  w = al 0 ∧ n = al 3 ∧ t = al 1 ∧ a = al 2 ∧ (∀ j, j < 192 → dots j = al (4 + j)) ∧
  (∀ k i : Nat, k < 6 → i < 32 → cells (32 * k + i) = al (196 + 35 * k + i)) ∧
  (∀ k, k < 6 → sx k = al (228 + 35 * k)) ∧ (∀ k, k < 6 → sy k = al (229 + 35 * k)) ∧ (∀ k, k < 6 → sp k = al (230 + 35 * k))
theorem OkA.ce {al : Nat → Int32} (h : OkA al) {k r c : Int} (hk : 0 ≤ k ∧ k < 6) (hr : 0 ≤ r ∧ r < 4) (hc : 0 ≤ c ∧ c < 8) : 0 ≤ CE al k r c ∧ CE al k r c ≤ 63 := by
  have := h.c k.toNat (8 * r + c).toNat (by omega) (by omega)
  unfold CE
  rwa [show (196 + 35 * k + 8 * r + c).toNat = 196 + 35 * k.toNat + (8 * r + c).toNat by omega]
theorem OkA.sh {al : Nat → Int32} (h : OkA al) {k : Int} (hk : 0 ≤ k ∧ k < NN al) : 0 ≤ SH al k 0 ∧ SH al k 0 ≤ 31 ∧ 0 ≤ SH al k 1 ∧ SH al k 1 ≤ 2 ∧ 12 ≤ SH al k 2 ∧ SH al k 2 ≤ 32 := by
  have := h.s k.toNat (by omega)
  unfold SH
  rwa [show (196 + 35 * k + 32 + 0).toNat = 228 + 35 * k.toNat by omega, show (196 + 35 * k + 32 + 1).toNat = 229 + 35 * k.toNat by omega, show (196 + 35 * k + 32 + 2).toNat = 230 + 35 * k.toNat by omega]
theorem RS.w {al : Nat → Int32} {w n t a : Int32} {dots cells sx sy sp : Nat → Int32} (h : RS al w n t a dots cells sx sy sp) : w = al 0 := h.1
theorem RS.n {al : Nat → Int32} {w n t a : Int32} {dots cells sx sy sp : Nat → Int32} (h : RS al w n t a dots cells sx sy sp) : n = al 3 := h.2.1
theorem RS.t {al : Nat → Int32} {w n t a : Int32} {dots cells sx sy sp : Nat → Int32} (h : RS al w n t a dots cells sx sy sp) : t = al 1 := h.2.2.1
theorem RS.a {al : Nat → Int32} {w n t a : Int32} {dots cells sx sy sp : Nat → Int32} (h : RS al w n t a dots cells sx sy sp) : a = al 2 := h.2.2.2.1
theorem RS.d {al : Nat → Int32} {w n t a : Int32} {dots cells sx sy sp : Nat → Int32} (h : RS al w n t a dots cells sx sy sp) : ∀ j, j < 192 → dots j = al (4 + j) := h.2.2.2.2.1
theorem RS.c {al : Nat → Int32} {w n t a : Int32} {dots cells sx sy sp : Nat → Int32} (h : RS al w n t a dots cells sx sy sp) : ∀ k i : Nat, k < 6 → i < 32 → cells (32 * k + i) = al (196 + 35 * k + i) := h.2.2.2.2.2.1
theorem RS.x {al : Nat → Int32} {w n t a : Int32} {dots cells sx sy sp : Nat → Int32} (h : RS al w n t a dots cells sx sy sp) : ∀ k, k < 6 → sx k = al (228 + 35 * k) := h.2.2.2.2.2.2.1
theorem RS.y {al : Nat → Int32} {w n t a : Int32} {dots cells sx sy sp : Nat → Int32} (h : RS al w n t a dots cells sx sy sp) : ∀ k, k < 6 → sy k = al (229 + 35 * k) := h.2.2.2.2.2.2.2.1
theorem RS.p {al : Nat → Int32} {w n t a : Int32} {dots cells sx sy sp : Nat → Int32} (h : RS al w n t a dots cells sx sy sp) : ∀ k, k < 6 → sp k = al (230 + 35 * k) := h.2.2.2.2.2.2.2.2
theorem RS.iw {al : Nat → Int32} {w n t a : Int32} {dots cells sx sy sp : Nat → Int32} (h : RS al w n t a dots cells sx sy sp) : w = iz (WW al) := h.w.trans (iz_self _)
theorem RS.iN {al : Nat → Int32} {w n t a : Int32} {dots cells sx sy sp : Nat → Int32} (h : RS al w n t a dots cells sx sy sp) : n = iz (NN al) := h.n.trans (iz_self _)
theorem RS.it {al : Nat → Int32} {w n t a : Int32} {dots cells sx sy sp : Nat → Int32} (h : RS al w n t a dots cells sx sy sp) : t = iz (TT al) := h.t.trans (iz_self _)
theorem RS.ia {al : Nat → Int32} {w n t a : Int32} {dots cells sx sy sp : Nat → Int32} (h : RS al w n t a dots cells sx sy sp) : a = iz (AA al) := h.a.trans (iz_self _)
theorem RS.ic {al : Nat → Int32} {w n t a : Int32} {dots cells sx sy sp : Nat → Int32} (h : RS al w n t a dots cells sx sy sp) {k r c : Int} (hk : 0 ≤ k ∧ k < 6) (hr : 0 ≤ r ∧ r < 4) (hc : 0 ≤ c ∧ c < 8) : cells (k * 32 + r * 8 + c).toNat = iz (CE al k r c) := by
  have := h.c k.toNat (8 * r + c).toNat (by omega) (by omega)
  rw [show (k * 32 + r * 8 + c).toNat = 32 * k.toNat + (8 * r + c).toNat by omega, this, ← amC, show (196 + 35 * k + 8 * r + c).toNat = 196 + 35 * k.toNat + (8 * r + c).toNat by omega]
theorem RS.id {al : Nat → Int32} {w n t a : Int32} {dots cells sx sy sp : Nat → Int32} (h : RS al w n t a dots cells sx sy sp) {r c : Int} (hr : 0 ≤ r ∧ r < 6) (hc : 0 ≤ c ∧ c < 32) : dots (r * 32 + c).toNat = iz (DO al r c) := by
  rw [h.d _ (by omega), ← amD, show (4 + 32 * r + c).toNat = 4 + (r * 32 + c).toNat by omega]
theorem RS.ix {al : Nat → Int32} {w n t a : Int32} {dots cells sx sy sp : Nat → Int32} (h : RS al w n t a dots cells sx sy sp) {k : Int} (hk : 0 ≤ k ∧ k < 6) : sx k.toNat = iz (SH al k 0) := by
  rw [h.x _ (by omega), ← amS, show (196 + 35 * k + 32 + 0).toNat = 228 + 35 * k.toNat by omega]
theorem RS.iy {al : Nat → Int32} {w n t a : Int32} {dots cells sx sy sp : Nat → Int32} (h : RS al w n t a dots cells sx sy sp) {k : Int} (hk : 0 ≤ k ∧ k < 6) : sy k.toNat = iz (SH al k 1) := by
  rw [h.y _ (by omega), ← amS, show (196 + 35 * k + 32 + 1).toNat = 229 + 35 * k.toNat by omega]
theorem RS.ip {al : Nat → Int32} {w n t a : Int32} {dots cells sx sy sp : Nat → Int32} (h : RS al w n t a dots cells sx sy sp) {k : Int} (hk : 0 ≤ k ∧ k < 6) : sp k.toNat = iz (SH al k 2) := by
  rw [h.p _ (by omega), ← amS, show (196 + 35 * k + 32 + 2).toNat = 230 + 35 * k.toNat by omega]
theorem sMo_many (al : Nat → Int32) : fMo_many al = some (iz (NN al)) := by
  unfold fMo_many
  simp (disch := omega) only [iz_n, iz_neg, iz_add, iz_sub, iz_mul, iz_lt, iz_le, iz_eq, iz_t, iz_c, Option.bind_some, bi0, bi1, bi01, bi10, bi11, if_pos, if_neg, if_true, if_false, ite_not, ite_bi, am3]
theorem sMo_isPicture {al : Nat → Int32} (h : OkA al) {k : Int} (hk : -2147483648 ≤ k ∧ k ≤ 2147483647) : fMo_isPicture (iz k) al = some (bi (0 ≤ k ∧ k < NN al)) := by
  have hn := h.n
  unfold fMo_isPicture
  simp (disch := omega) only [iz_n, iz_neg, iz_add, iz_sub, iz_mul, iz_lt, iz_le, iz_eq, iz_t, iz_c, lz_n, lz_neg, lz_add, lz_sub, lz_mul, lz_t, iz_64, sMo_many, sMo_in, Option.bind_some, bi0, bi1, bi01, bi10, bi11, if_pos, if_neg, if_true, if_false, ite_not, ite_bi]
  congr 1
  exact bi_c (by omega)
theorem sMo_isDot {al : Nat → Int32} (h : OkA al) {r c : Int} (hr : -2147483648 ≤ r ∧ r ≤ 2147483647) (hc : -2147483648 ≤ c ∧ c ≤ 2147483647) : fMo_isDot (iz r) (iz c) al = some (bi (0 ≤ r ∧ r < 6 ∧ 0 ≤ c ∧ c < WW al)) := by
  have hn := h.w
  unfold fMo_isDot
  simp (disch := omega) only [iz_n, iz_neg, iz_add, iz_sub, iz_mul, iz_lt, iz_le, iz_eq, iz_t, iz_c, lz_n, lz_neg, lz_add, lz_sub, lz_mul, lz_t, iz_64, am0, sMo_in, Option.bind_some, bi0, bi1, bi01, bi10, bi11, if_pos, if_neg, if_true, if_false, ite_not, ite_bi]
  unfold bi
  repeat' split
  all_goals first | rfl | (exfalso; omega)
theorem sMo_areTwo {al : Nat → Int32} (h : OkA al) {a b : Int} (ha : -2147483648 ≤ a ∧ a ≤ 2147483647) (hb : -2147483648 ≤ b ∧ b ≤ 2147483647) : fMo_areTwo (iz a) (iz b) al = some (bi (0 ≤ a ∧ a < NN al ∧ 0 ≤ b ∧ b < NN al ∧ a ≠ b)) := by
  have hn := h.n
  unfold fMo_areTwo
  simp (disch := omega) only [iz_n, iz_neg, iz_add, iz_sub, iz_mul, iz_lt, iz_le, iz_eq, iz_t, iz_c, lz_n, lz_neg, lz_add, lz_sub, lz_mul, lz_t, iz_64, sMo_isPicture h, Option.bind_some, bi0, bi1, bi01, bi10, bi11, if_pos, if_neg, if_true, if_false, ite_not, ite_bi]
  unfold bi
  repeat' split
  all_goals first | rfl | (exfalso; omega)
theorem sRi_isPair {a b n : Int} (ha : -2147483648 ≤ a ∧ a ≤ 2147483647) (hb : -2147483648 ≤ b ∧ b ≤ 2147483647) (hn : 0 ≤ n ∧ n ≤ 6) : fRi_isPair (iz a) (iz b) (iz n) = some (bi (0 ≤ a ∧ a < n ∧ 0 ≤ b ∧ b < n ∧ a ≠ b)) := by
  unfold fRi_isPair
  simp (disch := omega) only [iz_n, iz_neg, iz_add, iz_sub, iz_mul, iz_lt, iz_le, iz_eq, iz_t, iz_c, lz_n, lz_neg, lz_add, lz_sub, lz_mul, lz_t, iz_64, sSc_hasPicture, Option.bind_some, bi0, bi1, bi01, bi10, bi11, if_pos, if_neg, if_true, if_false, ite_not, ite_bi]
  unfold bi
  repeat' split
  all_goals first | rfl | (exfalso; omega)
theorem sMo_at {al : Nat → Int32} {k r c : Int} (hk : 0 ≤ k ∧ k < 6) (hr : 0 ≤ r ∧ r < 4) (hc : 0 ≤ c ∧ c < 8) : fMo_at (iz k) (iz r) (iz c) al = some (iz (CE al k r c)) := by
  unfold fMo_at
  simp (disch := omega) only [iz_n, iz_neg, iz_add, iz_sub, iz_mul, iz_lt, iz_le, iz_eq, iz_t, iz_c, Option.bind_some, bi0, bi1, bi01, bi10, bi11, if_pos, if_neg, if_true, if_false, ite_not, ite_bi, amC]
theorem sMo_shotOf {al : Nat → Int32} {k w : Int} (hk : 0 ≤ k ∧ k < 6) (hr : 0 ≤ w ∧ w < 3) : fMo_shotOf (iz k) (iz w) al = some (iz (SH al k w)) := by
  unfold fMo_shotOf
  simp (disch := omega) only [iz_n, iz_neg, iz_add, iz_sub, iz_mul, iz_lt, iz_le, iz_eq, iz_t, iz_c, Option.bind_some, bi0, bi1, bi01, bi10, bi11, if_pos, if_neg, if_true, if_false, ite_not, ite_bi, amS]
theorem sSc_cellAt {al : Nat → Int32} {w n t a : Int32} {dots cells sx sy sp : Nat → Int32} (h : RS al w n t a dots cells sx sy sp) {k r c : Int} (hn : 0 ≤ NN al ∧ NN al ≤ 6) (hk : 0 ≤ k ∧ k < NN al) (hr : 0 ≤ r ∧ r < 4) (hc : 0 ≤ c ∧ c < 8) : fSc_cellAt (iz k) (iz r) (iz c) n cells = some (iz (CE al k r c)) := by
  have e := h.iN
  subst e
  unfold fSc_cellAt
  simp (disch := omega) only [iz_n, iz_neg, iz_add, iz_sub, iz_mul, iz_lt, iz_le, iz_eq, iz_t, iz_c, sSc_hasCell, Option.bind_some, bi0, bi1, bi01, bi10, bi11, if_pos, if_neg, if_true, if_false, ite_not, ite_bi, h.ic]
theorem sSc_dotAt {al : Nat → Int32} {w n t a : Int32} {dots cells sx sy sp : Nat → Int32} (h : RS al w n t a dots cells sx sy sp) {r c : Int} (hn : (WW al = 0 ∨ 12 ≤ WW al) ∧ WW al ≤ 32) (hr : 0 ≤ r ∧ r < 6) (hc : 0 ≤ c ∧ c < WW al) : fSc_dotAt (iz r) (iz c) w dots = some (iz (DO al r c)) := by
  have e := h.iw
  subst e
  unfold fSc_dotAt
  simp (disch := omega) only [iz_n, iz_neg, iz_add, iz_sub, iz_mul, iz_lt, iz_le, iz_eq, iz_t, iz_c, sSc_hasDot, Option.bind_some, bi0, bi1, bi01, bi10, bi11, if_pos, if_neg, if_true, if_false, ite_not, ite_bi, h.id]
/-! refusals -/
def ref (rf : Nat → Int32) (q : Int) : Nat → Int32 := upd rf (-2 - q).toNat (rf (-2 - q).toNat + iz 1)
def RF (a b : Nat → Int32) : Prop := ∀ j, j < 3 → a j = b j
theorem RF_ref {a b : Nat → Int32} (h : RF a b) {q : Int} (hq : -4 ≤ q ∧ q ≤ -2) : RF (ref a q) (ref b q) := by
  intro j hj
  unfold ref upd
  rw [h _ (by omega : (-2 - q).toNat < 3), h j hj]
theorem sRi_refuse {rf : Nat → Int32} {q : Int} (hq : -4 ≤ q ∧ q ≤ -2) : fRi_refuse (iz q) rf = some (iz q, ref rf q) := by
  unfold fRi_refuse
  simp (disch := omega) only [iz_n, iz_neg, iz_add, iz_sub, iz_mul, iz_lt, iz_le, iz_eq, iz_t, iz_c, Option.bind_some, bi0, bi1, bi01, bi10, bi11, if_pos, if_neg, if_true, if_false, ite_not, ite_bi]
  rfl
theorem sMo_refuses {rf : Nat → Int32} {q : Int} (hq : -4 ≤ q ∧ q ≤ -2) : fMo_refuses (iz q) rf = some (iz q, ref rf q) := by
  unfold fMo_refuses
  simp (disch := omega) only [iz_n, iz_neg, iz_add, iz_sub, iz_mul, iz_lt, iz_le, iz_eq, iz_t, iz_c, Option.bind_some, bi0, bi1, bi01, bi10, bi11, if_pos, if_neg, if_true, if_false, ite_not, ite_bi]
  rfl
