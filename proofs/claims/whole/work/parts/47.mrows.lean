/-! rows and differences of a taken link -/
theorem sMo_hasRow {al : Nat → Int32} {w n t a : Int32} {dots cells sx sy sp : Nat → Int32} (hR : RS al w n t a dots cells sx sy sp) (o : OkA al) (c : Cn al) {V E' Q' G : Nat → Int32} (hV : LMb al V E' Q') (hG : fw G = fC al) {x r : Int} (hp : 0 ≤ fC al x) (hr : -100 ≤ r ∧ r ≤ 100) : fMo_hasRow (iz x) (iz r) E' G = some (bi (0 ≤ r ∧ r ≤ 3 ∧ 0 ≤ r - eo al (fC al) x ∧ r - eo al (fC al) x ≤ 3)) := by
  obtain ⟨k1, k2, k3⟩ := sMo_eOf hR o c hV hG hp
  obtain ⟨p1, p2, p3, p4, p5, p6⟩ := Cn.ef hR o c hp
  unfold fMo_hasRow
  rw [k1]
  simp (disch := omega) only [iz_n, iz_neg, iz_add, iz_sub, iz_mul, iz_lt, iz_le, iz_eq, iz_t, iz_c, lz_n, lz_neg, lz_add, lz_sub, lz_mul, lz_t, iz_64, sMo_in, Option.bind_some, bi0, bi1, bi01, bi10, bi11, if_pos, if_neg, if_true, if_false, ite_not, ite_bi]
  by_cases q : 0 ≤ r ∧ r ≤ 3
  · simp (disch := omega) only [iz_n, iz_neg, iz_add, iz_sub, iz_mul, iz_lt, iz_le, iz_eq, iz_t, iz_c, lz_n, lz_neg, lz_add, lz_sub, lz_mul, lz_t, iz_64, sMo_in, Option.bind_some, bi0, bi1, bi01, bi10, bi11, if_pos, if_neg, if_true, if_false, ite_not, ite_bi]
    congr 1
    exact bi_c (by omega)
  · simp (disch := omega) only [iz_n, iz_neg, iz_add, iz_sub, iz_mul, iz_lt, iz_le, iz_eq, iz_t, iz_c, lz_n, lz_neg, lz_add, lz_sub, lz_mul, lz_t, iz_64, sMo_in, Option.bind_some, bi0, bi1, bi01, bi10, bi11, if_pos, if_neg, if_true, if_false, ite_not, ite_bi]
/-- how far a cell differs from the one that it lies on -/
noncomputable def DF (al : Nat → Int32) (x r c : Int) : Int := CE al x r c - CE al (fC al x) (r - eo al (fC al) x) (c - fo al (fC al) x)
theorem DF_r {al : Nat → Int32} {w n t a : Int32} {dots cells sx sy sp : Nat → Int32} (hR : RS al w n t a dots cells sx sy sp) (o : OkA al) (cn : Cn al) {x r c : Int} (hp : 0 ≤ fC al x) (hr : 0 ≤ r ∧ r ≤ 3) (hr2 : 0 ≤ r - eo al (fC al) x ∧ r - eo al (fC al) x ≤ 3) (hc : fo al (fC al) x ≤ c ∧ c ≤ 7) : -63 ≤ DF al x r c ∧ DF al x r c ≤ 63 := by
  have on := o.n
  have hN := cn.fN hp
  have hf := cn.fr x
  obtain ⟨p1, p2, p3, p4, p5, p6⟩ := Cn.ef hR o cn hp
  have a1 := o.ce (k := x) (r := r) (c := c) (by omega) (by omega) (by omega)
  have a2 := o.ce (k := fC al x) (r := r - eo al (fC al) x) (c := c - fo al (fC al) x) (by omega) (by omega) (by omega)
  unfold DF
  omega
theorem sMo_differs {al : Nat → Int32} {w n t a : Int32} {dots cells sx sy sp : Nat → Int32} (hR : RS al w n t a dots cells sx sy sp) (o : OkA al) (cn : Cn al) {V E' Q' G : Nat → Int32} (hV : LMb al V E' Q') (hG : fw G = fC al) {x r c : Int} (hp : 0 ≤ fC al x) (hr : 0 ≤ r ∧ r ≤ 3) (hr2 : 0 ≤ r - eo al (fC al) x ∧ r - eo al (fC al) x ≤ 3) (hc : fo al (fC al) x ≤ c ∧ c ≤ 7) : fMo_differs (iz x) (iz r) (iz c) al E' Q' G = some (iz (DF al x r c)) := by
  have on := o.n
  have hN := cn.fN hp
  have hf := cn.fr x
  obtain ⟨k1, k2, k3⟩ := sMo_eOf hR o cn hV hG hp
  obtain ⟨p1, p2, p3, p4, p5, p6⟩ := Cn.ef hR o cn hp
  have i1 : 0 ≤ (iz x).toInt ∧ (iz x).toInt < 6 := by rw [iz_t (by omega) (by omega)]; omega
  have i3 : (iz x).toNatClampNeg = x.toNat := iz_c (by omega) (by omega)
  unfold fMo_differs
  rw [sMo_at (by omega) (by omega) (by omega)]
  simp only [Option.bind_some, if_pos i1, i3, k1, k2, k3, iz_sub]
  rw [sMo_at (by omega) (by omega) (by omega)]
  simp only [Option.bind_some, iz_sub]
  rfl
