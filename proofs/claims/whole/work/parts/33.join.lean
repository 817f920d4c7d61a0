/-! the chain, joined by both -/
theorem tail68 {al : Nat → Int32} {n : Int32} {sx sy sp : Nat → Int32} {M E Q : Nat → Int32} (hL : LTb al M E Q) {v x : Int} (hv : 1 ≤ v ∧ v ≤ 12) (hx : 0 ≤ x ∧ x < 6) : ∀ (d : Nat) (b : Int) (m : Nat), b = 6 - d → 0 ≤ b → d < m → (∀ b', b ≤ b' ∧ b' < 6 → LV al x b' = 0) → ∀ (tk tu dr ri : Int32) (F A LE LF : Nat → Int32),
    fCh_join_L68 (iz v) (iz x) n sx sy sp M E Q m (iz b) tk tu dr ri F A LE LF = some (tk, tu, dr, ri, F, A, LE, LF) := by
  intro d
  induction d with
  | zero =>
    intro b m hb h0 hm _ tk tu dr ri F A LE LF
    obtain ⟨m, rfl⟩ : ∃ q, m = q + 1 := ⟨m - 1, by omega⟩
    have g6 : (6 : Int32) ≤ iz b := by simp (disch := omega) only [iz_n, iz_neg, iz_add, iz_sub, iz_mul, iz_lt, iz_le, iz_eq, iz_t, iz_c]; omega
    unfold fCh_join_L68
    rw [if_pos g6]
  | succ d ih =>
    intro b m hb h0 hm hz tk tu dr ri F A LE LF
    obtain ⟨m, rfl⟩ : ∃ q, m = q + 1 := ⟨m - 1, by omega⟩
    have g6 : ¬ (6 : Int32) ≤ iz b := by simp (disch := omega) only [iz_n, iz_neg, iz_add, iz_sub, iz_mul, iz_lt, iz_le, iz_eq, iz_t, iz_c]; omega
    have e1 : iz b + (1 : Int32) = iz (b + 1) := iz_add b 1
    have g7 : ¬ iz 0 = iz v := by rw [iz_eq (by omega) (by omega) (by omega) (by omega)]; omega
    unfold fCh_join_L68
    rw [if_neg g6, sLi_votesOf hL hx (by omega), hz b (by omega)]
    simp only [Option.bind_some]
    rw [if_neg g7, e1]
    exact ih (b + 1) m (by omega) (by omega) (by omega) (fun b' hb' => hz b' (by omega)) tk tu dr ri F A LE LF
theorem LV_hi {al : Nat → Int32} {x b : Int} (h : ¬ (x < NN al ∧ b < NN al ∧ x ≠ b)) : LV al x b = 0 := by
  unfold LV; rw [if_neg h]
theorem j68 {al : Nat → Int32} {w n t a : Int32} {dots cells sx sy sp : Nat → Int32} (h : RS al w n t a dots cells sx sy sp) (o : OkA al) {M E Q : Nat → Int32} (hL : LTb al M E Q) {V E' Q' : Nat → Int32} (hV : LMb al V E' Q') {v x : Int} (hv : 1 ≤ v ∧ v ≤ 12) (hx : 0 ≤ x ∧ x < NN al) : ∀ (d : Nat) (b : Int) (m m' : Nat), b = NN al - d → 0 ≤ b → d + 8 < m → d < m' → ∀ (tk tu dr ri : Int32) (F A LE LF : Nat → Int32) (G H : Nat → Int32), JI al tk tu dr ri F A LE LF G H →
    ∃ (tk9 tu9 dr9 ri9 : Int32) (F9 A9 LE9 LF9 : Nat → Int32) (G9 H9 : Nat → Int32), fCh_join_L68 (iz v) (iz x) n sx sy sp M E Q m (iz b) tk tu dr ri F A LE LF = some (tk9, tu9, dr9, ri9, F9, A9, LE9, LF9) ∧ fMo_laysChain_L51 (iz v) (iz x) al V m' (iz b) G H = some (G9, H9) ∧ JI al tk9 tu9 dr9 ri9 F9 A9 LE9 LF9 G9 H9 := by
  have on := o.n
  intro d
  induction d with
  | zero =>
    intro b m m' hb h0 hm hm' tk tu dr ri F A LE LF G H hJ
    obtain ⟨m', rfl⟩ : ∃ q, m' = q + 1 := ⟨m' - 1, by omega⟩
    have g6 : iz (NN al) ≤ iz b := by simp (disch := omega) only [iz_n, iz_neg, iz_add, iz_sub, iz_mul, iz_lt, iz_le, iz_eq, iz_t, iz_c]; omega
    refine ⟨tk, tu, dr, ri, F, A, LE, LF, G, H, tail68 hL hv (by omega) (6 - b).toNat b m (by omega) h0 (by omega) (fun b' hb' => LV_hi (by omega)) tk tu dr ri F A LE LF, ?_, hJ⟩
    unfold fMo_laysChain_L51
    rw [sMo_many]
    simp only [Option.bind_some]
    rw [if_pos g6]
  | succ d ih =>
    intro b m m' hb h0 hm hm' tk tu dr ri F A LE LF G H hJ
    obtain ⟨m, rfl⟩ : ∃ q, m = q + 1 := ⟨m - 1, by omega⟩
    obtain ⟨m', rfl⟩ : ∃ q, m' = q + 1 := ⟨m' - 1, by omega⟩
    have g6 : ¬ (6 : Int32) ≤ iz b := by simp (disch := omega) only [iz_n, iz_neg, iz_add, iz_sub, iz_mul, iz_lt, iz_le, iz_eq, iz_t, iz_c]; omega
    have g7 : ¬ iz (NN al) ≤ iz b := by simp (disch := omega) only [iz_n, iz_neg, iz_add, iz_sub, iz_mul, iz_lt, iz_le, iz_eq, iz_t, iz_c]; omega
    have e1 : iz b + (1 : Int32) = iz (b + 1) := iz_add b 1
    have e0 : (iz x = iz b) ↔ x = b := iz_eq (by omega) (by omega) (by omega) (by omega)
    have e2 : (6 : Int32) * iz x + iz b = iz (6 * x + b) := by rw [iz_n, iz_mul, iz_add]
    have e3 : 0 ≤ (iz (6 * x + b)).toInt ∧ (iz (6 * x + b)).toInt < 36 := by rw [iz_t (by omega) (by omega)]; omega
    have e4 : (iz (6 * x + b)).toNatClampNeg = (6 * x + b).toNat := iz_c (by omega) (by omega)
    have i1 : 0 ≤ (iz x).toInt ∧ (iz x).toInt < 6 := by rw [iz_t (by omega) (by omega)]; omega
    have i2 : 0 ≤ (iz b).toInt ∧ (iz b).toInt < 6 := by rw [iz_t (by omega) (by omega)]; omega
    have i3 : (iz x).toNatClampNeg = x.toNat := iz_c (by omega) (by omega)
    have i4 : (iz b).toNatClampNeg = b.toNat := iz_c (by omega) (by omega)
    have step := fun (tk tu dr ri : Int32) (F A LE LF : Nat → Int32) (G H : Nat → Int32) hJ => ih (b + 1) m m' (by omega) (by omega) (by omega) (by omega) tk tu dr ri F A LE LF G H hJ
    unfold fCh_join_L68 fMo_laysChain_L51
    rw [if_neg g6, sLi_votesOf hL (by omega) (by omega), sMo_many]
    simp only [Option.bind_some]
    rw [if_neg g7, e1, e2]
    by_cases c0 : x = b
    · have g8 : ¬ iz (LV al x b) = iz v := by rw [LV_hi (by omega), iz_eq (by omega) (by omega) (by omega) (by omega)]; omega
      rw [if_neg g8, if_pos (e0.mpr c0)]
      exact step tk tu dr ri F A LE LF G H hJ
    · have hlk : LV al x b = (LK al x b).1 := by unfold LV; rw [if_pos (by omega)]
      have hr := LK_r h o (a' := x) (b := b) (by omega) (by omega)
      have hr1 := hr.1
      have hr2 := hr.2.1
      have hvt := (hV x b hx (by omega) c0).1
      have e5 : (iz (LV al x b) = iz v) ↔ LV al x b = v := iz_eq (by omega) (by omega) (by omega) (by omega)
      rw [if_neg (fun q => c0 (e0.mp q)), if_pos e3, e4, hvt, ← hlk]
      by_cases c1 : LV al x b = v
      · rw [if_pos (e5.mpr c1), if_pos (e5.mpr c1)]
        obtain ⟨u, u1, u2, u3⟩ := may_s h o hJ.1 hJ.2.1 (x := x) (b := b) (by omega) (by omega)
        rw [u1, u2]
        simp only [Option.bind_some]
        rcases u3 with u3 | ⟨u3, u4, u5, u6⟩
        · rw [if_pos (by rw [u3]; exact iz_l0.symm), if_pos (by rw [u3]; exact iz_l0.symm)]
          exact step tk tu dr ri F A LE LF G H hJ
        · have g9 : ¬ u = (0 : Int32) := by rw [u3, iz_l0]; exact iz01
          obtain ⟨tk', tu', dr', ri', LE', LF', k1, k2⟩ := take_s h o hL hJ (x := x) (b := b) (by omega) (by omega) (by omega) u4 u5 u6
          rw [if_neg g9, if_neg g9, k1, if_pos i1, if_pos i2, i3, i4]
          simp only [Option.bind_some]
          exact step tk' tu' dr' ri' _ _ LE' LF' _ _ k2
      · rw [if_neg (fun q => c1 (e5.mp q)), if_neg (fun q => c1 (e5.mp q))]
        exact step tk tu dr ri F A LE LF G H hJ
theorem tail58 {al : Nat → Int32} {n : Int32} {sx sy sp : Nat → Int32} {M E Q : Nat → Int32} (hL : LTb al M E Q) {v : Int} (hv : 1 ≤ v ∧ v ≤ 12) : ∀ (d : Nat) (x : Int) (m : Nat), x = 6 - d → 0 ≤ x → NN al ≤ x → d < m → ∀ (tk tu dr ri : Int32) (F A LE LF : Nat → Int32),
    fCh_join_L58 (iz v) n sx sy sp M E Q m (iz x) tk tu dr ri F A LE LF = some (tk, tu, dr, ri, F, A, LE, LF) := by
  intro d
  induction d with
  | zero =>
    intro b m hb h0 hN hm tk tu dr ri F A LE LF
    obtain ⟨m, rfl⟩ : ∃ q, m = q + 1 := ⟨m - 1, by omega⟩
    have g6 : (6 : Int32) ≤ iz b := by simp (disch := omega) only [iz_n, iz_neg, iz_add, iz_sub, iz_mul, iz_lt, iz_le, iz_eq, iz_t, iz_c]; omega
    unfold fCh_join_L58
    rw [if_pos g6]
  | succ d ih =>
    intro x m hb h0 hN hm tk tu dr ri F A LE LF
    obtain ⟨m, rfl⟩ : ∃ q, m = q + 1 := ⟨m - 1, by omega⟩
    have g6 : ¬ (6 : Int32) ≤ iz x := by simp (disch := omega) only [iz_n, iz_neg, iz_add, iz_sub, iz_mul, iz_lt, iz_le, iz_eq, iz_t, iz_c]; omega
    have e1 : iz x + (1 : Int32) = iz (x + 1) := iz_add x 1
    unfold fCh_join_L58
    rw [if_neg g6, iz_l0, tail68 hL hv (x := x) (by omega) 6 0 FU (by omega) (by omega) (by decide) (fun b' _ => LV_hi (by omega)) tk tu dr ri F A LE LF, e1]
    simp only [Option.bind_some]
    exact ih (x + 1) m (by omega) (by omega) (by omega) (by omega) tk tu dr ri F A LE LF
theorem j58 {al : Nat → Int32} {w n t a : Int32} {dots cells sx sy sp : Nat → Int32} (h : RS al w n t a dots cells sx sy sp) (o : OkA al) {M E Q : Nat → Int32} (hL : LTb al M E Q) {V E' Q' : Nat → Int32} (hV : LMb al V E' Q') {v : Int} (hv : 1 ≤ v ∧ v ≤ 12) : ∀ (d : Nat) (x : Int) (m m' : Nat), x = NN al - d → 0 ≤ x → d + 8 < m → d < m' → ∀ (tk tu dr ri : Int32) (F A LE LF : Nat → Int32) (G H : Nat → Int32), JI al tk tu dr ri F A LE LF G H →
    ∃ (tk9 tu9 dr9 ri9 : Int32) (F9 A9 LE9 LF9 : Nat → Int32) (G9 H9 : Nat → Int32), fCh_join_L58 (iz v) n sx sy sp M E Q m (iz x) tk tu dr ri F A LE LF = some (tk9, tu9, dr9, ri9, F9, A9, LE9, LF9) ∧ fMo_laysChain_L41 (iz v) al V m' (iz x) G H = some (G9, H9) ∧ JI al tk9 tu9 dr9 ri9 F9 A9 LE9 LF9 G9 H9 := by
  have on := o.n
  intro d
  induction d with
  | zero =>
    intro b m m' hb h0 hm hm' tk tu dr ri F A LE LF G H hJ
    obtain ⟨m', rfl⟩ : ∃ q, m' = q + 1 := ⟨m' - 1, by omega⟩
    have g6 : iz (NN al) ≤ iz b := by simp (disch := omega) only [iz_n, iz_neg, iz_add, iz_sub, iz_mul, iz_lt, iz_le, iz_eq, iz_t, iz_c]; omega
    refine ⟨tk, tu, dr, ri, F, A, LE, LF, G, H, tail58 hL hv (6 - b).toNat b m (by omega) h0 (by omega) (by omega) tk tu dr ri F A LE LF, ?_, hJ⟩
    unfold fMo_laysChain_L41
    rw [sMo_many]
    simp only [Option.bind_some]
    rw [if_pos g6]
  | succ d ih =>
    intro x m m' hb h0 hm hm' tk tu dr ri F A LE LF G H hJ
    obtain ⟨m, rfl⟩ : ∃ q, m = q + 1 := ⟨m - 1, by omega⟩
    obtain ⟨m', rfl⟩ : ∃ q, m' = q + 1 := ⟨m' - 1, by omega⟩
    have g6 : ¬ (6 : Int32) ≤ iz x := by simp (disch := omega) only [iz_n, iz_neg, iz_add, iz_sub, iz_mul, iz_lt, iz_le, iz_eq, iz_t, iz_c]; omega
    have g7 : ¬ iz (NN al) ≤ iz x := by simp (disch := omega) only [iz_n, iz_neg, iz_add, iz_sub, iz_mul, iz_lt, iz_le, iz_eq, iz_t, iz_c]; omega
    have e1 : iz x + (1 : Int32) = iz (x + 1) := iz_add x 1
    obtain ⟨tk2, tu2, dr2, ri2, F2, A2, LE2, LF2, G2, H2, k1, k2, k3⟩ := j68 h o hL hV hv (x := x) (by omega) (NN al).toNat 0 FU FU (by omega) (by omega) (by show _ < 5000; omega) (by show _ < 5000; omega) tk tu dr ri F A LE LF G H hJ
    unfold fCh_join_L58 fMo_laysChain_L41
    rw [if_neg g6, sMo_many, iz_l0, k1, e1]
    simp only [Option.bind_some]
    rw [if_neg g7, k2]
    simp only [Option.bind_some]
    exact ih (x + 1) m m' (by omega) (by omega) (by omega) (by omega) tk2 tu2 dr2 ri2 F2 A2 LE2 LF2 G2 H2 k3
theorem j51 {al : Nat → Int32} {w n t a : Int32} {dots cells sx sy sp : Nat → Int32} (h : RS al w n t a dots cells sx sy sp) (o : OkA al) {M E Q : Nat → Int32} (hL : LTb al M E Q) {V E' Q' : Nat → Int32} (hV : LMb al V E' Q') : ∀ (d : Nat) (m m' : Nat), d ≤ 12 → d < m → d < m' → ∀ (tk tu dr ri : Int32) (F A LE LF : Nat → Int32) (G H : Nat → Int32), JI al tk tu dr ri F A LE LF G H →
    ∃ (tk9 tu9 dr9 ri9 : Int32) (F9 A9 LE9 LF9 : Nat → Int32) (G9 H9 : Nat → Int32), fCh_join_L51 n sx sy sp M E Q m (iz d) tk tu dr ri F A LE LF = some (tk9, tu9, dr9, ri9, F9, A9, LE9, LF9) ∧ fMo_laysChain_L35 al V m' (iz d) G H = some (G9, H9) ∧ JI al tk9 tu9 dr9 ri9 F9 A9 LE9 LF9 G9 H9 := by
  have on := o.n
  intro d
  induction d with
  | zero =>
    intro m m' _ hm hm' tk tu dr ri F A LE LF G H hJ
    obtain ⟨m, rfl⟩ : ∃ q, m = q + 1 := ⟨m - 1, by omega⟩
    obtain ⟨m', rfl⟩ : ∃ q, m' = q + 1 := ⟨m' - 1, by omega⟩
    have g6 : iz ((0 : Nat) : Int) ≤ (0 : Int32) := by decide
    refine ⟨tk, tu, dr, ri, F, A, LE, LF, G, H, ?_, ?_, hJ⟩
    · unfold fCh_join_L51
      rw [if_pos g6]
    · unfold fMo_laysChain_L35
      rw [if_pos g6]
  | succ d ih =>
    intro m m' hd hm hm' tk tu dr ri F A LE LF G H hJ
    obtain ⟨m, rfl⟩ : ∃ q, m = q + 1 := ⟨m - 1, by omega⟩
    obtain ⟨m', rfl⟩ : ∃ q, m' = q + 1 := ⟨m' - 1, by omega⟩
    have g6 : ¬ iz ((d + 1 : Nat) : Int) ≤ (0 : Int32) := by simp (disch := omega) only [iz_n, iz_neg, iz_add, iz_sub, iz_mul, iz_lt, iz_le, iz_eq, iz_t, iz_c]; omega
    have e1 : iz ((d + 1 : Nat) : Int) + (-1 : Int32) = iz (d : Int) := by rw [iz_n, iz_neg, iz_add]; exact iz_inj (by omega)
    obtain ⟨tk2, tu2, dr2, ri2, F2, A2, LE2, LF2, G2, H2, k1, k2, k3⟩ := j58 h o hL hV (v := ((d + 1 : Nat) : Int)) (by omega) (NN al).toNat 0 FU FU (by omega) (by omega) (by show _ < 5000; omega) (by show _ < 5000; omega) tk tu dr ri F A LE LF G H hJ
    unfold fCh_join_L51 fMo_laysChain_L35
    rw [if_neg g6, if_neg g6, iz_l0, k1, k2, e1]
    simp only [Option.bind_some]
    exact ih m m' (by omega) (by omega) (by omega) tk2 tu2 dr2 ri2 F2 A2 LE2 LF2 G2 H2 k3
theorem ini_c : ∀ (d : Nat) (x : Int) (m : Nat), x = 6 - d → 0 ≤ x → d < m → ∀ F A : Nat → Int32, ∃ F1 A1 : Nat → Int32, fCh_join_L22 m (iz x) F A = some (F1, A1) ∧ (∀ j : Nat, x ≤ j → j < 6 → F1 j = iz (-1) ∧ A1 j = iz (-1)) ∧ (∀ j : Nat, (j : Int) < x → F1 j = F j ∧ A1 j = A j) := by
  intro d
  induction d with
  | zero =>
    intro x m hx h0 hm F A
    obtain ⟨m, rfl⟩ : ∃ q, m = q + 1 := ⟨m - 1, by omega⟩
    refine ⟨F, A, ?_, fun j _ _ => by omega, fun _ _ => ⟨rfl, rfl⟩⟩
    unfold fCh_join_L22; simp (disch := omega) only [iz_n, iz_neg, iz_add, iz_sub, iz_mul, iz_lt, iz_le, iz_eq, iz_t, iz_c, Option.bind_some, bi0, bi1, bi01, bi10, bi11, if_pos, if_neg, if_true, if_false, ite_not, ite_bi]
  | succ d ih =>
    intro x m hx h0 hm F A
    obtain ⟨m, rfl⟩ : ∃ q, m = q + 1 := ⟨m - 1, by omega⟩
    obtain ⟨F1, A1, k1, k2, k3⟩ := ih (x + 1) m (by omega) (by omega) (by omega) (upd F x.toNat (iz (-1))) (upd A x.toNat (iz (-1)))
    refine ⟨F1, A1, ?_, ?_, ?_⟩
    · unfold fCh_join_L22; simp (disch := omega) only [iz_n, iz_neg, iz_add, iz_sub, iz_mul, iz_lt, iz_le, iz_eq, iz_t, iz_c, Option.bind_some, bi0, bi1, bi01, bi10, bi11, if_pos, if_neg, if_true, if_false, ite_not, ite_bi, k1]
    · intro j h1 h2
      by_cases q : (j : Int) = x
      · rw [(k3 j (by omega)).1, (k3 j (by omega)).2, show j = x.toNat by omega, upd_s, upd_s]; exact ⟨rfl, rfl⟩
      · exact k2 j (by omega) h2
    · intro j h1
      rw [(k3 j (by omega)).1, (k3 j (by omega)).2, upd_n _ _ (by omega), upd_n _ _ (by omega)]; exact ⟨rfl, rfl⟩
theorem ini_m : ∀ (d : Nat) (x : Int) (m : Nat), x = 6 - d → 0 ≤ x → d < m → ∀ F A : Nat → Int32, ∃ F1 A1 : Nat → Int32, fMo_laysChain_L6 m (iz x) F A = some (F1, A1) ∧ (∀ j : Nat, x ≤ j → j < 6 → F1 j = iz (-1) ∧ A1 j = iz (-1)) ∧ (∀ j : Nat, (j : Int) < x → F1 j = F j ∧ A1 j = A j) := by
  intro d
  induction d with
  | zero =>
    intro x m hx h0 hm F A
    obtain ⟨m, rfl⟩ : ∃ q, m = q + 1 := ⟨m - 1, by omega⟩
    refine ⟨F, A, ?_, fun j _ _ => by omega, fun _ _ => ⟨rfl, rfl⟩⟩
    unfold fMo_laysChain_L6; simp (disch := omega) only [iz_n, iz_neg, iz_add, iz_sub, iz_mul, iz_lt, iz_le, iz_eq, iz_t, iz_c, Option.bind_some, bi0, bi1, bi01, bi10, bi11, if_pos, if_neg, if_true, if_false, ite_not, ite_bi]
  | succ d ih =>
    intro x m hx h0 hm F A
    obtain ⟨m, rfl⟩ : ∃ q, m = q + 1 := ⟨m - 1, by omega⟩
    obtain ⟨F1, A1, k1, k2, k3⟩ := ih (x + 1) m (by omega) (by omega) (by omega) (upd F x.toNat (iz (-1))) (upd A x.toNat (iz (-1)))
    refine ⟨F1, A1, ?_, ?_, ?_⟩
    · unfold fMo_laysChain_L6; simp (disch := omega) only [iz_n, iz_neg, iz_add, iz_sub, iz_mul, iz_lt, iz_le, iz_eq, iz_t, iz_c, Option.bind_some, bi0, bi1, bi01, bi10, bi11, if_pos, if_neg, if_true, if_false, ite_not, ite_bi, k1]
    · intro j h1 h2
      by_cases q : (j : Int) = x
      · rw [(k3 j (by omega)).1, (k3 j (by omega)).2, show j = x.toNat by omega, upd_s, upd_s]; exact ⟨rfl, rfl⟩
      · exact k2 j (by omega) h2
    · intro j h1
      rw [(k3 j (by omega)).1, (k3 j (by omega)).2, upd_n _ _ (by omega), upd_n _ _ (by omega)]; exact ⟨rfl, rfl⟩
theorem fw_1 {F : Nat → Int32} (h : ∀ j : Nat, j < 6 → F j = iz (-1)) : fw F = fun _ => -1 := by
  funext x
  unfold fw
  by_cases d : 0 ≤ x ∧ x < 6
  · rw [if_pos d, h _ (by omega), iz_t (by omega) (by omega)]
  · rw [if_neg d]
theorem it_m1 : ∀ (i : Nat) (x : Int), 1 ≤ i → it (fun _ => (-1 : Int)) i x = -1 := by
  intro i x hi
  obtain ⟨i, rfl⟩ : ∃ q, i = q + 1 := ⟨i - 1, by omega⟩
  rfl
theorem JI_0 (al : Nat → Int32) (on : 0 ≤ NN al ∧ NN al ≤ 6) {F A G H : Nat → Int32} (LE LF : Nat → Int32) (h1 : ∀ j : Nat, j < 6 → F j = iz (-1) ∧ A j = iz (-1)) (h2 : ∀ j : Nat, j < 6 → G j = iz (-1) ∧ H j = iz (-1)) : JI al (iz 0) (iz 0) (iz 0) (iz 0) F A LE LF G H := by
  have f1 := fw_1 (fun j hj => (h1 j hj).1)
  have f2 := fw_1 (fun j hj => (h1 j hj).2)
  have e : fw F 0 = -1 := by rw [f1]
  unfold JI
  rw [f1, f2]
  refine ⟨fun j hj => ⟨(h1 j hj).1.trans (h2 j hj).1.symm, (h1 j hj).2.trans (h2 j hj).2.symm⟩, ?_, fun x _ hp => ?_, ?_, ?_, ?_, ?_, ?_⟩
  · refine ⟨fun _ _ => ⟨rfl, rfl⟩, fun _ => ⟨(by omega : (-1 : Int) ≤ -1), (by omega : (-1 : Int) < NN al), (by omega : (-1 : Int) ≤ -1), (by omega : (-1 : Int) < NN al)⟩, fun x y hx hy => (by omega : (-1 : Int) = y ↔ (-1 : Int) = x), fun x i hx hi e => ?_⟩
    rw [it_m1 i x hi] at e
    omega
  · have hp : (0 : Int) ≤ -1 := hp
    omega
  · exact iz_inj rfl
  · rfl
  · exact iz_inj rfl
  · exact iz_inj rfl
  · exact iz_inj rfl
/-- the chain, joined by both: the follower and the one ahead of each picture, and what the links come to -/
theorem join_s {al : Nat → Int32} {w n t a : Int32} {dots cells sx sy sp : Nat → Int32} (h : RS al w n t a dots cells sx sy sp) (o : OkA al) {M E Q : Nat → Int32} (hL : LTb al M E Q) {V E' Q' : Nat → Int32} (hV : LMb al V E' Q') (F A LE LF G H : Nat → Int32) :
    ∃ (tk9 tu9 dr9 ri9 : Int32) (F9 A9 LE9 LF9 : Nat → Int32) (G9 H9 : Nat → Int32) (F0 A0 G0 H0 : Nat → Int32), fCh_join_L22 FU (0 : Int32) F A = some (F0, A0) ∧ fCh_join_L51 n sx sy sp M E Q FU (12 : Int32) (0 : Int32) (0 : Int32) (0 : Int32) (0 : Int32) F0 A0 LE LF = some (tk9, tu9, dr9, ri9, F9, A9, LE9, LF9) ∧
      fMo_laysChain_L6 FU (0 : Int32) G H = some (G0, H0) ∧ fMo_laysChain_L35 al V FU (12 : Int32) G0 H0 = some (G9, H9) ∧ JI al tk9 tu9 dr9 ri9 F9 A9 LE9 LF9 G9 H9 := by
  have on := o.n
  obtain ⟨F0, A0, k1, k2, k3⟩ := ini_c 6 0 FU (by omega) (by omega) (by decide) F A
  obtain ⟨G0, H0, l1, l2, l3⟩ := ini_m 6 0 FU (by omega) (by omega) (by decide) G H
  have hJ := JI_0 al on LE LF (fun j hj => k2 j (by omega) hj) (fun j hj => l2 j (by omega) hj)
  obtain ⟨tk9, tu9, dr9, ri9, F9, A9, LE9, LF9, G9, H9, p1, p2, p3⟩ := j51 h o hL hV 12 FU FU (by omega) (by decide) (by decide) _ _ _ _ F0 A0 LE LF G0 H0 hJ
  exact ⟨tk9, tu9, dr9, ri9, F9, A9, LE9, LF9, G9, H9, F0, A0, G0, H0, k1, p1, l1, p2, p3⟩
