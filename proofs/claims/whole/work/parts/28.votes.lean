/-! votes -/
def HC (g : Nat → Int32) (k r c : Int) : Prop := 1 ≤ r ∧ r ≤ 2 ∧ 1 ≤ c ∧ c ≤ 6 ∧ (g k.toNat >>> (iz (6 * (r - 1) + c - 1) &&& iz 31)) &&& iz 1 = iz 1
theorem sLi_isCorner {g : Nat → Int32} {k r c : Int} (hk : 0 ≤ k ∧ k < 6) (hr : -100 ≤ r ∧ r ≤ 100) (hc : -100 ≤ c ∧ c ≤ 100) : ∃ u, fLi_isCorner (iz k) (iz r) (iz c) g = some u ∧ (u = iz 0 ↔ ¬ HC g k r c) := by
  unfold fLi_isCorner HC
  rw [sRi_isInner (by omega) (by omega)]
  by_cases h1 : 1 ≤ r ∧ r ≤ 2 ∧ 1 ≤ c ∧ c ≤ 6
  · have hb := bit_z (g k.toNat) (z := 6 * (r - 1) + c - 1) (by omega)
    unfold fLi_cornerBit
    simp (disch := omega) only [iz_n, iz_neg, iz_add, iz_sub, iz_mul, iz_lt, iz_le, iz_eq, iz_t, iz_c, Option.bind_some, bi0, bi1, bi01, bi10, bi11, if_pos, if_neg, if_true, if_false, ite_not, ite_bi, hb]
    exact ⟨_, rfl, by rw [bi0]; exact not_congr ⟨fun p => ⟨h1.1, h1.2.1, h1.2.2.1, h1.2.2.2, p⟩, fun q => q.2.2.2.2⟩⟩
  · simp (disch := omega) only [iz_n, iz_neg, iz_add, iz_sub, iz_mul, iz_lt, iz_le, iz_eq, iz_t, iz_c, Option.bind_some, bi0, bi1, bi01, bi10, bi11, if_pos, if_neg, if_true, if_false, ite_not, ite_bi]
    exact ⟨_, rfl, ⟨fun _ q => h1 ⟨q.1, q.2.1, q.2.2.1, q.2.2.2.1⟩, fun _ => rfl⟩⟩
theorem sMo_hasCorner {g : Nat → Int32} {k r c : Int} (hk : 0 ≤ k ∧ k < 6) (hr : -100 ≤ r ∧ r ≤ 100) (hc : -100 ≤ c ∧ c ≤ 100) : ∃ u, fMo_hasCorner (iz k) (iz r) (iz c) g = some u ∧ (u = iz 0 ↔ ¬ HC g k r c) := by
  unfold fMo_hasCorner HC
  rw [sMo_isInner (by omega) (by omega)]
  by_cases h1 : 1 ≤ r ∧ r ≤ 2 ∧ 1 ≤ c ∧ c ≤ 6
  · simp (disch := omega) only [iz_n, iz_neg, iz_add, iz_sub, iz_mul, iz_lt, iz_le, iz_eq, iz_t, iz_c, Option.bind_some, bi0, bi1, bi01, bi10, bi11, if_pos, if_neg, if_true, if_false, ite_not, ite_bi]
    exact ⟨_, rfl, by rw [bi0]; exact not_congr ⟨fun p => ⟨h1.1, h1.2.1, h1.2.2.1, h1.2.2.2, p⟩, fun q => q.2.2.2.2⟩⟩
  · simp (disch := omega) only [iz_n, iz_neg, iz_add, iz_sub, iz_mul, iz_lt, iz_le, iz_eq, iz_t, iz_c, Option.bind_some, bi0, bi1, bi01, bi10, bi11, if_pos, if_neg, if_true, if_false, ite_not, ite_bi]
    exact ⟨_, rfl, ⟨fun _ q => h1 ⟨q.1, q.2.1, q.2.2.1, q.2.2.2.1⟩, fun _ => rfl⟩⟩
theorem HC_c {g g' : Nat → Int32} {k r c : Int} (e : g k.toNat = g' k.toNat) : HC g k r c ↔ HC g' k r c := by unfold HC; rw [e]
theorem iz_l0 : (0 : Int32) = iz 0 := iz_n 0
theorem cabs2 {z : Int} (h : -1000000 ≤ z ∧ z ≤ 1000000) : (if iz 0 ≤ iz z then iz z else iz (0 - z)) = iz (ab z) := by
  rw [← iz_sub]; exact cabs' h
theorem vot_c {al : Nat → Int32} {w n t a : Int32} {dots cells sx sy sp : Nat → Int32} (h : RS al w n t a dots cells sx sy sp) (o : OkA al) {a' b r e f : Int} (ha : 0 ≤ a' ∧ a' < NN al) (hb : 0 ≤ b ∧ b < NN al) (hr : 1 ≤ r ∧ r ≤ 2) (he : -1 ≤ e ∧ e ≤ 1) (hf : 1 ≤ f ∧ f ≤ 5) {g g' : Nat → Int32} (ea : g a'.toNat = g' a'.toNat) (eb : g b.toNat = g' b.toNat) :
    ∀ (d : Nat) (c : Int) (m : Nat), c = 7 - d → 1 ≤ c → d < m → ∀ z : Int, 0 ≤ z ∧ z + d ≤ 100 → ∃ z', fLi_countVotes_L15 (iz a') (iz b) (iz e) (iz f) (iz r) n a cells g m (iz z) (iz c) = some (iz z') ∧ fMo_votesNow_L15 (iz a') (iz b) (iz e) (iz f) (iz r) al g' m (iz z) (iz c) = some (iz z') ∧ z ≤ z' ∧ z' ≤ z + d := by
  have on := o.n
  have oa := o.a
  have et := h.ia
  intro d
  induction d with
  | zero =>
    intro c m hc h0 hm z hz
    obtain ⟨m, rfl⟩ : ∃ q, m = q + 1 := ⟨m - 1, by omega⟩
    refine ⟨z, ?_, ?_, by omega, by omega⟩
    · unfold fLi_countVotes_L15; simp (disch := omega) only [iz_n, iz_neg, iz_add, iz_sub, iz_mul, iz_lt, iz_le, iz_eq, iz_t, iz_c, Option.bind_some, bi0, bi1, bi01, bi10, bi11, if_pos, if_neg, if_true, if_false, ite_not, ite_bi]
    · unfold fMo_votesNow_L15; simp (disch := omega) only [iz_n, iz_neg, iz_add, iz_sub, iz_mul, iz_lt, iz_le, iz_eq, iz_t, iz_c, Option.bind_some, bi0, bi1, bi01, bi10, bi11, if_pos, if_neg, if_true, if_false, ite_not, ite_bi]
  | succ d ih =>
    intro c m hc h0 hm z hz
    obtain ⟨m, rfl⟩ : ∃ q, m = q + 1 := ⟨m - 1, by omega⟩
    have g6 : ¬ (6 : Int32) < iz c := by simp (disch := omega) only [iz_n, iz_neg, iz_add, iz_sub, iz_mul, iz_lt, iz_le, iz_eq, iz_t, iz_c]; omega
    have e1 : iz c + (1 : Int32) = iz (c + 1) := iz_add c 1
    have e2 : iz r - iz e = iz (r - e) := iz_sub r e
    have e3 : iz c - iz f = iz (c - f) := iz_sub c f
    have e4 : iz z + iz 0 = iz z := by rw [iz_add]; exact iz_inj (by omega)
    have e5 : iz z + (1 : Int32) = iz (z + 1) := iz_add z 1
    obtain ⟨u1, p1, q1⟩ := sLi_isCorner (g := g) (k := a') (r := r) (c := c) (by omega) (by omega) (by omega)
    obtain ⟨u2, p2, q2⟩ := sLi_isCorner (g := g) (k := b) (r := r - e) (c := c - f) (by omega) (by omega) (by omega)
    obtain ⟨v1, s1, t1⟩ := sMo_hasCorner (g := g') (k := a') (r := r) (c := c) (by omega) (by omega) (by omega)
    obtain ⟨v2, s2, t2⟩ := sMo_hasCorner (g := g') (k := b) (r := r - e) (c := c - f) (by omega) (by omega) (by omega)
    rw [HC_c ea] at q1
    rw [HC_c eb] at q2
    obtain ⟨z0, k1, k2, k3, k4⟩ := ih (c + 1) m (by omega) (by omega) (by omega) z (by omega)
    unfold fLi_countVotes_L15 fMo_votesNow_L15
    rw [if_neg g6, if_neg g6, p1, s1, e1, e2, e3, p2, s2]
    simp only [Option.bind_some, e4, e5, iz_l0]
    by_cases a1 : HC g' a' r c
    · rw [if_neg (fun q => (q1.mp q) a1), if_neg (fun q => (t1.mp q) a1)]
      by_cases a2 : HC g' b (r - e) (c - f)
      · rw [if_neg (fun q => (q2.mp q) a2), if_neg (fun q => (t2.mp q) a2)]
        have hi : 0 ≤ r - e ∧ r - e < 4 ∧ 0 ≤ c - f ∧ c - f < 8 := by unfold HC at a2; omega
        have b1 := o.ce (k := a') (by omega) (r := r) (c := c) (by omega) (by omega)
        have b2 := o.ce (k := b) (by omega) (r := r - e) (c := c - f) (by omega) (by omega)
        rw [sSc_cellAt h on ha (by omega) (by omega), sSc_cellAt h on hb (by omega) (by omega), sMo_at (by omega) (by omega) (by omega), sMo_at (by omega) (by omega) (by omega)]
        simp only [Option.bind_some, iz_sub, if_neg (show ¬ (1 : Int32) = iz 0 by rw [iz_n]; exact iz01)]
        rw [sMo_ab (by omega), cabs2 (z := CE al a' r c - CE al b (r - e) (c - f)) (by omega)]
        have hab := ab_le (z := CE al a' r c - CE al b (r - e) (c - f)) (by omega)
        have n2 : (0 : Int) ≤ (2 : Int32).toInt ∧ (2 : Int32).toInt < 406 := by decide
        have n3 : al (2 : Int32).toNatClampNeg = iz (AA al) := iz_self _
        have n4 : (iz (AA al) < iz (ab (CE al a' r c - CE al b (r - e) (c - f)))) ↔ AA al < ab (CE al a' r c - CE al b (r - e) (c - f)) := iz_lt (by omega) (by omega) (by omega) (by omega)
        simp only [Option.bind_some, if_pos n2, n3, et]
        by_cases a3 : AA al < ab (CE al a' r c - CE al b (r - e) (c - f))
        · rw [if_pos (n4.mpr a3), if_pos (n4.mpr a3)]
          exact ⟨z0, et ▸ k1, k2, k3, by omega⟩
        · rw [if_neg (fun q => a3 (n4.mp q)), if_neg (fun q => a3 (n4.mp q))]
          obtain ⟨z1, l1, l2, l3, l4⟩ := ih (c + 1) m (by omega) (by omega) (by omega) (z + 1) (by omega)
          exact ⟨z1, et ▸ l1, l2, by omega, by omega⟩
      · rw [if_pos (q2.mpr a2), if_pos (t2.mpr a2)]
        simp only [Option.bind_some, if_true]
        exact ⟨z0, k1, k2, k3, by omega⟩
    · rw [if_pos (q1.mpr a1), if_pos (t1.mpr a1)]
      simp only [Option.bind_some, if_true]
      exact ⟨z0, k1, k2, k3, by omega⟩
theorem vot_r {al : Nat → Int32} {w n t a : Int32} {dots cells sx sy sp : Nat → Int32} (h : RS al w n t a dots cells sx sy sp) (o : OkA al) {a' b e f : Int} (ha : 0 ≤ a' ∧ a' < NN al) (hb : 0 ≤ b ∧ b < NN al) (he : -1 ≤ e ∧ e ≤ 1) (hf : 1 ≤ f ∧ f ≤ 5) {g g' : Nat → Int32} (ea : g a'.toNat = g' a'.toNat) (eb : g b.toNat = g' b.toNat) :
    ∀ (d : Nat) (r : Int) (m : Nat), r = 3 - d → 1 ≤ r → d < m → ∀ z : Int, 0 ≤ z ∧ z + 6 * d ≤ 50 → ∃ z', fLi_countVotes_L6 (iz a') (iz b) (iz e) (iz f) n a cells g m (iz z) (iz r) = some (iz z') ∧ fMo_votesNow_L6 (iz a') (iz b) (iz e) (iz f) al g' m (iz z) (iz r) = some (iz z') ∧ z ≤ z' ∧ z' ≤ z + 6 * d := by
  intro d
  induction d with
  | zero =>
    intro c m hc h0 hm z hz
    obtain ⟨m, rfl⟩ : ∃ q, m = q + 1 := ⟨m - 1, by omega⟩
    refine ⟨z, ?_, ?_, by omega, by omega⟩
    · unfold fLi_countVotes_L6; simp (disch := omega) only [iz_n, iz_neg, iz_add, iz_sub, iz_mul, iz_lt, iz_le, iz_eq, iz_t, iz_c, Option.bind_some, bi0, bi1, bi01, bi10, bi11, if_pos, if_neg, if_true, if_false, ite_not, ite_bi]
    · unfold fMo_votesNow_L6; simp (disch := omega) only [iz_n, iz_neg, iz_add, iz_sub, iz_mul, iz_lt, iz_le, iz_eq, iz_t, iz_c, Option.bind_some, bi0, bi1, bi01, bi10, bi11, if_pos, if_neg, if_true, if_false, ite_not, ite_bi]
  | succ d ih =>
    intro r m hc h0 hm z hz
    obtain ⟨m, rfl⟩ : ∃ q, m = q + 1 := ⟨m - 1, by omega⟩
    have g6 : ¬ (2 : Int32) < iz r := by simp (disch := omega) only [iz_n, iz_neg, iz_add, iz_sub, iz_mul, iz_lt, iz_le, iz_eq, iz_t, iz_c]; omega
    have e1 : iz r + (1 : Int32) = iz (r + 1) := iz_add r 1
    obtain ⟨z1, k1, k2, k3, k4⟩ := vot_c h o ha hb (r := r) (by omega) he hf ea eb 6 1 FU (by omega) (by omega) (by decide) z (by omega)
    obtain ⟨z2, l1, l2, l3, l4⟩ := ih (r + 1) m (by omega) (by omega) (by omega) z1 (by omega)
    rw [← show (1 : Int32) = iz 1 from iz_n 1] at k1 k2
    unfold fLi_countVotes_L6 fMo_votesNow_L6
    rw [if_neg g6, if_neg g6, k1, k2, e1]
    exact ⟨z2, l1, l2, by omega, by omega⟩
theorem vot_p {al : Nat → Int32} {w n t a : Int32} {dots cells sx sy sp : Nat → Int32} (h : RS al w n t a dots cells sx sy sp) (o : OkA al) {a' b e f : Int} (ha : 0 ≤ a' ∧ a' < NN al) (hb : 0 ≤ b ∧ b < NN al) (he : -1 ≤ e ∧ e ≤ 1) (hf : 1 ≤ f ∧ f ≤ 5) {g g' : Nat → Int32} (ea : g a'.toNat = g' a'.toNat) (eb : g b.toNat = g' b.toNat) :
    ∃ z', fLi_countVotes (iz a') (iz b) (iz e) (iz f) n a cells g = some (iz z') ∧ fMo_votesNow (iz a') (iz b) (iz e) (iz f) al g' = some (iz z') ∧ 0 ≤ z' ∧ z' ≤ 12 := by
  obtain ⟨z1, k1, k2, k3, k4⟩ := vot_r h o ha hb he hf ea eb 2 1 FU (by omega) (by omega) (by decide) 0 (by omega)
  rw [← show (1 : Int32) = iz 1 from iz_n 1, ← iz_l0] at k1 k2
  exact ⟨z1, by unfold fLi_countVotes; rw [k1]; rfl, by unfold fMo_votesNow; rw [k2]; rfl, by omega, by omega⟩
/-- the votes, as the row alone has them -/
theorem VT_ex (al : Nat → Int32) (a b e f : Int) : ∃ v : Int, v = ((fMo_votesNow (iz a) (iz b) (iz e) (iz f) al (CO al)).getD 0).toInt := ⟨_, rfl⟩
noncomputable def VT (al : Nat → Int32) (a b e f : Int) : Int := Classical.choose (VT_ex al a b e f)
theorem VT_eq (al : Nat → Int32) (a b e f : Int) : VT al a b e f = ((fMo_votesNow (iz a) (iz b) (iz e) (iz f) al (CO al)).getD 0).toInt := Classical.choose_spec (VT_ex al a b e f)
theorem VT_r {al : Nat → Int32} {w n t a : Int32} {dots cells sx sy sp : Nat → Int32} (h : RS al w n t a dots cells sx sy sp) (o : OkA al) {a' b e f : Int} (ha : 0 ≤ a' ∧ a' < NN al) (hb : 0 ≤ b ∧ b < NN al) (he : -1 ≤ e ∧ e ≤ 1) (hf : 1 ≤ f ∧ f ≤ 5) : fMo_votesNow (iz a') (iz b) (iz e) (iz f) al (CO al) = some (iz (VT al a' b e f)) ∧ 0 ≤ VT al a' b e f ∧ VT al a' b e f ≤ 12 := by
  obtain ⟨z1, k1, k2, k3, k4⟩ := vot_p h o ha hb he hf (g := CO al) (g' := CO al) rfl rfl
  have : VT al a' b e f = z1 := by rw [VT_eq, k2]; exact iz_t (by omega) (by omega)
  rw [this]
  exact ⟨k2, k3, k4⟩
theorem sLi_votes {al : Nat → Int32} {w n t a : Int32} {dots cells sx sy sp : Nat → Int32} (h : RS al w n t a dots cells sx sy sp) (o : OkA al) {a' b e f : Int} (ha : 0 ≤ a' ∧ a' < NN al) (hb : 0 ≤ b ∧ b < NN al) (he : -1 ≤ e ∧ e ≤ 1) (hf : 1 ≤ f ∧ f ≤ 5) {g : Nat → Int32} (ea : g a'.toNat = CO al a'.toNat) (eb : g b.toNat = CO al b.toNat) :
    fLi_countVotes (iz a') (iz b) (iz e) (iz f) n a cells g = some (iz (VT al a' b e f)) := by
  obtain ⟨z1, k1, k2, k3, k4⟩ := vot_p h o ha hb he hf ea eb
  rw [k1, ← k2]
  exact (VT_r h o ha hb he hf).1
theorem sMo_votes {al : Nat → Int32} {w n t a : Int32} {dots cells sx sy sp : Nat → Int32} (h : RS al w n t a dots cells sx sy sp) (o : OkA al) {a' b e f : Int} (ha : 0 ≤ a' ∧ a' < NN al) (hb : 0 ≤ b ∧ b < NN al) (he : -1 ≤ e ∧ e ≤ 1) (hf : 1 ≤ f ∧ f ≤ 5) {g : Nat → Int32} (ea : g a'.toNat = CO al a'.toNat) (eb : g b.toNat = CO al b.toNat) :
    fMo_votesNow (iz a') (iz b) (iz e) (iz f) al g = some (iz (VT al a' b e f)) := by
  obtain ⟨z1, k1, k2, k3, k4⟩ := vot_p h o ha hb he hf (g := CO al) (g' := g) ea.symm eb.symm
  rw [k2, ← k1]
  exact sLi_votes h o ha hb he hf rfl rfl
/-! all corners -/
theorem fco_l {al : Nat → Int32} {w n t a : Int32} {dots cells sx sy sp : Nat → Int32} (h : RS al w n t a dots cells sx sy sp) (o : OkA al) : ∀ (d : Nat) (k : Int) (m : Nat), k = 6 - d → 0 ≤ k → d < m → ∀ g : Nat → Int32, ∃ g', fLi_find_L2 n t cells m (iz k) g = some g' ∧ (∀ j : Nat, k ≤ j → (j : Int) < NN al → g' j = CO al j) ∧ (∀ j : Nat, (j : Int) < k → g' j = g j) := by
  have on := o.n
  have en := h.iN
  intro d
  induction d with
  | zero =>
    intro k m hk h0 hm g
    obtain ⟨m, rfl⟩ : ∃ q, m = q + 1 := ⟨m - 1, by omega⟩
    refine ⟨g, ?_, fun j _ _ => by omega, fun _ _ => rfl⟩
    unfold fLi_find_L2; simp (disch := omega) only [iz_n, iz_neg, iz_add, iz_sub, iz_mul, iz_lt, iz_le, iz_eq, iz_t, iz_c, Option.bind_some, bi0, bi1, bi01, bi10, bi11, if_pos, if_neg, if_true, if_false, ite_not, ite_bi]
  | succ d ih =>
    intro k m hk h0 hm g
    obtain ⟨m, rfl⟩ : ∃ q, m = q + 1 := ⟨m - 1, by omega⟩
    have g6 : ¬ (6 : Int32) ≤ iz k := by simp (disch := omega) only [iz_n, iz_neg, iz_add, iz_sub, iz_mul, iz_lt, iz_le, iz_eq, iz_t, iz_c]; omega
    have e1 : iz k + (1 : Int32) = iz (k + 1) := iz_add k 1
    have e2 : 0 ≤ (iz k).toInt ∧ (iz k).toInt < 6 := by rw [iz_t (by omega) (by omega)]; omega
    have e3 : (iz k).toNatClampNeg = k.toNat := iz_c (by omega) (by omega)
    have hx : ∃ x, fLi_findCorners (iz k) n t cells = some x ∧ (k < NN al → x = CO al k.toNat) := by
      by_cases q : k < NN al
      · exact ⟨_, (cor_s h o ⟨h0, q⟩).1, fun _ => rfl⟩
      · refine ⟨iz 0, ?_, fun q' => absurd q' q⟩
        unfold fLi_findCorners
        rw [en, sSc_hasPicture (by omega) (by omega)]
        simp (disch := omega) only [iz_n, iz_neg, iz_add, iz_sub, iz_mul, iz_lt, iz_le, iz_eq, iz_t, iz_c, Option.bind_some, bi0, bi1, bi01, bi10, bi11, if_pos, if_neg, if_true, if_false, ite_not, ite_bi]
    obtain ⟨x, x1, x2⟩ := hx
    obtain ⟨g', k1, k2, k3⟩ := ih (k + 1) m (by omega) (by omega) (by omega) (upd g k.toNat x)
    unfold fLi_find_L2
    rw [if_neg g6, x1, e1, e3]
    simp only [Option.bind_some, if_pos e2]
    refine ⟨g', k1, ?_, ?_⟩
    · intro j h1 h2
      by_cases e : (j : Int) = k
      · rw [k3 j (by omega), show j = k.toNat by omega, upd_s]; exact x2 (by omega)
      · exact k2 j (by omega) h2
    · intro j h1
      rw [k3 j (by omega), upd_n _ _ (by omega)]
theorem mco_l {al : Nat → Int32} {w n t a : Int32} {dots cells sx sy sp : Nat → Int32} (h : RS al w n t a dots cells sx sy sp) (o : OkA al) : ∀ (d : Nat) (k : Int) (m : Nat), k = NN al - d → 0 ≤ k → d < m → ∀ g : Nat → Int32, ∃ g', fMo_laysCorners_L2 al m (iz k) g = some g' ∧ (∀ j : Nat, k ≤ j → (j : Int) < NN al → g' j = CO al j) ∧ (∀ j : Nat, (j : Int) < k → g' j = g j) := by
  have on := o.n
  have en := h.iN
  intro d
  induction d with
  | zero =>
    intro k m hk h0 hm g
    obtain ⟨m, rfl⟩ : ∃ q, m = q + 1 := ⟨m - 1, by omega⟩
    refine ⟨g, ?_, fun j _ _ => by omega, fun _ _ => rfl⟩
    unfold fMo_laysCorners_L2; simp (disch := omega) only [iz_n, iz_neg, iz_add, iz_sub, iz_mul, iz_lt, iz_le, iz_eq, iz_t, iz_c, sMo_many, Option.bind_some, bi0, bi1, bi01, bi10, bi11, if_pos, if_neg, if_true, if_false, ite_not, ite_bi]
  | succ d ih =>
    intro k m hk h0 hm g
    obtain ⟨m, rfl⟩ : ∃ q, m = q + 1 := ⟨m - 1, by omega⟩
    have g6 : ¬ iz (NN al) ≤ iz k := by simp (disch := omega) only [iz_n, iz_neg, iz_add, iz_sub, iz_mul, iz_lt, iz_le, iz_eq, iz_t, iz_c]; omega
    have e1 : iz k + (1 : Int32) = iz (k + 1) := iz_add k 1
    have e2 : 0 ≤ (iz k).toInt ∧ (iz k).toInt < 6 := by rw [iz_t (by omega) (by omega)]; omega
    have e3 : (iz k).toNatClampNeg = k.toNat := iz_c (by omega) (by omega)
    have x1 := (cor_s h o (k := k) (by omega)).2
    obtain ⟨g', k1, k2, k3⟩ := ih (k + 1) m (by omega) (by omega) (by omega) (upd g k.toNat (CO al k.toNat))
    unfold fMo_laysCorners_L2
    rw [sMo_many]
    simp only [Option.bind_some]
    rw [if_neg g6, x1, e1, e3]
    simp only [Option.bind_some, if_pos e2]
    refine ⟨g', k1, ?_, ?_⟩
    · intro j h1 h2
      by_cases e : (j : Int) = k
      · rw [k3 j (by omega), show j = k.toNat by omega, upd_s]
      · exact k2 j (by omega) h2
    · intro j h1
      rw [k3 j (by omega), upd_n _ _ (by omega)]
/-- a row of corners fits the pictures -/
def CF (al g : Nat → Int32) : Prop := ∀ j : Nat, (j : Int) < NN al → g j = CO al j
theorem sMo_laysCorners {al : Nat → Int32} {w n t a : Int32} {dots cells sx sy sp : Nat → Int32} (h : RS al w n t a dots cells sx sy sp) (o : OkA al) (g : Nat → Int32) : ∃ g', fMo_laysCorners al g = some g' ∧ CF al g' := by
  have on := o.n
  obtain ⟨g', k1, k2, k3⟩ := mco_l h o (NN al).toNat 0 FU (by omega) (by omega) (by show _ < 5000; omega) g
  refine ⟨g', ?_, fun j hj => k2 j (by omega) hj⟩
  unfold fMo_laysCorners
  rw [iz_l0, k1]
  rfl
theorem sLi_findL2 {al : Nat → Int32} {w n t a : Int32} {dots cells sx sy sp : Nat → Int32} (h : RS al w n t a dots cells sx sy sp) (o : OkA al) (g : Nat → Int32) : ∃ g', fLi_find_L2 n t cells FU (0 : Int32) g = some g' ∧ CF al g' := by
  obtain ⟨g', k1, k2, k3⟩ := fco_l h o 6 0 FU (by omega) (by omega) (by decide) g
  exact ⟨g', k1, fun j hj => k2 j (by omega) hj⟩
