/-! the link of two pictures -/
noncomputable def stp (al : Nat → Int32) (a b : Int) (q : Int × Int × Int) (e f : Int) : Int × Int × Int := if q.1 < VT al a b e f then (VT al a b e f, e, f) else q
noncomputable def LR (al : Nat → Int32) (a b far : Int) : Nat → Int × Int × Int → Int × Int × Int
  | 0, q => q
  | d + 1, q => LR al a b far d (stp al a b (stp al a b q (-far) (5 - d)) far (5 - d))
theorem LK_ex (al : Nat → Int32) (a b : Int) : ∃ v : Int × Int × Int, v = LR al a b 1 5 (LR al a b 0 5 (0, 0, 0)) := ⟨_, rfl⟩
noncomputable def LK (al : Nat → Int32) (a b : Int) : Int × Int × Int := Classical.choose (LK_ex al a b)
theorem LK_eq (al : Nat → Int32) (a b : Int) : LK al a b = LR al a b 1 5 (LR al a b 0 5 (0, 0, 0)) := Classical.choose_spec (LK_ex al a b)
def RQ (q : Int × Int × Int) : Prop := 0 ≤ q.1 ∧ q.1 ≤ 12 ∧ -1 ≤ q.2.1 ∧ q.2.1 ≤ 1 ∧ (0 < q.1 → 1 ≤ q.2.2 ∧ q.2.2 ≤ 5)
theorem stp_r {al : Nat → Int32} {w n t a : Int32} {dots cells sx sy sp : Nat → Int32} (h : RS al w n t a dots cells sx sy sp) (o : OkA al) {a' b e f : Int} (ha : 0 ≤ a' ∧ a' < NN al) (hb : 0 ≤ b ∧ b < NN al) (he : -1 ≤ e ∧ e ≤ 1) (hf : 1 ≤ f ∧ f ≤ 5) {q : Int × Int × Int} (hq : RQ q) : RQ (stp al a' b q e f) := by
  have := VT_r h o ha hb he hf
  unfold stp
  split
  · exact ⟨this.2.1, this.2.2, he.1, he.2, fun _ => hf⟩
  · exact hq
theorem LR_r {al : Nat → Int32} {w n t a : Int32} {dots cells sx sy sp : Nat → Int32} (h : RS al w n t a dots cells sx sy sp) (o : OkA al) {a' b far : Int} (ha : 0 ≤ a' ∧ a' < NN al) (hb : 0 ≤ b ∧ b < NN al) (hr : 0 ≤ far ∧ far ≤ 1) : ∀ (d : Nat), d ≤ 5 → ∀ q, RQ q → RQ (LR al a' b far d q) := by
  intro d
  induction d with
  | zero => intro _ q hq; exact hq
  | succ d ih => intro hd q hq; exact ih (by omega) _ (stp_r h o ha hb (by omega) (by omega) (stp_r h o ha hb (by omega) (by omega) hq))
theorem RQ0 : RQ (0, 0, 0) := ⟨by decide, by decide, by decide, by decide, fun h => absurd h (by decide)⟩
theorem LK_r {al : Nat → Int32} {w n t a : Int32} {dots cells sx sy sp : Nat → Int32} (h : RS al w n t a dots cells sx sy sp) (o : OkA al) {a' b : Int} (ha : 0 ≤ a' ∧ a' < NN al) (hb : 0 ≤ b ∧ b < NN al) : RQ (LK al a' b) := by
  rw [LK_eq]
  exact LR_r h o ha hb (by omega) 5 (by omega) _ (LR_r h o ha hb (by omega) 5 (by omega) _ RQ0)
def CQ (j : Nat) (q : Int × Int × Int) (M E F : Nat → Int32) : Prop := M j = iz q.1 ∧ (0 < q.1 → E j = iz q.2.1 ∧ F j = iz q.2.2)
def MQ3 (j : Nat) (q : Int × Int × Int) (M E F : Nat → Int32) : Prop := M j = iz q.1 ∧ E j = iz q.2.1 ∧ F j = iz q.2.2
def SO (j : Nat) (M E F M' E' F' : Nat → Int32) : Prop := ∀ i, i ≠ j → M' i = M i ∧ E' i = E i ∧ F' i = F i
theorem SO_refl (j : Nat) (M E F : Nat → Int32) : SO j M E F M E F := fun _ _ => ⟨rfl, rfl, rfl⟩
theorem SO_trans {j : Nat} {M E F M1 E1 F1 M2 E2 F2 : Nat → Int32} (h1 : SO j M E F M1 E1 F1) (h2 : SO j M1 E1 F1 M2 E2 F2) : SO j M E F M2 E2 F2 :=
  fun i hi => ⟨(h2 i hi).1.trans (h1 i hi).1, (h2 i hi).2.1.trans (h1 i hi).2.1, (h2 i hi).2.2.trans (h1 i hi).2.2⟩
theorem SO_upd (j : Nat) (M E F : Nat → Int32) (x y z : Int32) : SO j M E F (upd M j x) (upd E j y) (upd F j z) :=
  fun i hi => ⟨upd_n _ _ hi, upd_n _ _ hi, upd_n _ _ hi⟩
theorem stp_y {al : Nat → Int32} {a b : Int} {q : Int × Int × Int} {e f : Int} (h : ¬ VT al a b e f ≤ q.1) : stp al a b q e f = (VT al a b e f, e, f) := if_pos (Int.lt_of_not_ge h)
theorem stp_x {al : Nat → Int32} {a b : Int} {q : Int × Int × Int} {e f : Int} (h : VT al a b e f ≤ q.1) : stp al a b q e f = q := if_neg (Int.not_lt.mpr h)
theorem at_r {x : Int} (h : 0 ≤ x ∧ x < 36) : 0 ≤ (iz x).toInt ∧ (iz x).toInt < 36 := by rw [iz_t (by omega) (by omega)]; exact h
theorem lk59_1 {al : Nat → Int32} {w n t a : Int32} {dots cells sx sy sp : Nat → Int32} (h : RS al w n t a dots cells sx sy sp) (o : OkA al) {a' b far at' : Int} (ha : 0 ≤ a' ∧ a' < NN al) (hb : 0 ≤ b ∧ b < NN al) (hr : 0 ≤ far ∧ far ≤ 1) (hat : 0 ≤ at' ∧ at' < 36) {g : Nat → Int32} (hg : CF al g) {i : Int} (hi : 0 ≤ i ∧ i < 10) {e f : Int} (he : (i % 2 = 0 ∧ e = -far) ∨ (i % 2 = 1 ∧ e = far)) (hf : f = 1 + i / 2) (m : Nat) {q : Int × Int × Int} (hq : RQ q) {M E F : Nat → Int32} (hM : CQ at'.toNat q M E F) :
    ∃ M1 E1 F1, (∀ X, fLi_findLink_L59 (iz a') (iz b) (iz at') (iz far) n a cells g m (iz (i + 1)) M1 E1 F1 = X → fLi_findLink_L59 (iz a') (iz b) (iz at') (iz far) n a cells g (m + 1) (iz i) M E F = X) ∧ CQ at'.toNat (stp al a' b q e f) M1 E1 F1 ∧ SO at'.toNat M E F M1 E1 F1 := by
  have on := o.n
  have hv := sLi_votes h o ha hb (e := e) (f := f) (by omega) (by omega) (g := g) (hg _ (by omega)) (hg _ (by omega))
  have hr' := VT_r h o ha hb (e := e) (f := f) (by omega) (by omega)
  have g6 : ¬ (10 : Int32) ≤ iz i := by simp (disch := omega) only [iz_n, iz_neg, iz_add, iz_sub, iz_mul, iz_lt, iz_le, iz_eq, iz_t, iz_c]; omega
  have e1 : iz i + (1 : Int32) = iz (i + 1) := iz_add i 1
  have e2 : iz i / (2 : Int32) = iz (i / 2) := by rw [iz_n]; exact iz_div (a := i) (b := 2) (by omega) (by omega)
  have e3 : iz i - iz (i / 2) * (2 : Int32) = iz (i % 2) := by rw [iz_n, iz_mul, iz_sub]; exact iz_inj (by omega)
  have e4 : (1 : Int32) + iz (i / 2) = iz f := by rw [hf]; exact iz_add 1 (i / 2)
  have e5 : (if iz (i % 2) = (0 : Int32) then some (-iz far) else some (iz far) : Option Int32) = some (iz e) := by
    have n1 : (iz (i % 2) = (0 : Int32)) ↔ i % 2 = 0 := by rw [iz_l0]; exact iz_eq (by omega) (by omega) (by omega) (by omega)
    rcases he with ⟨p, rfl⟩ | ⟨p, rfl⟩
    · rw [if_pos (n1.mpr p), iz_neg]
    · rw [if_neg (fun q => by have := n1.mp q; omega)]
  have n2 : ¬ (2 : Int32) = 0 := by decide
  have n4 : (iz at').toNatClampNeg = at'.toNat := iz_c (by omega) (by omega)
  have n5 : (iz (VT al a' b e f) ≤ iz q.1) ↔ VT al a' b e f ≤ q.1 := iz_le (by omega) (by omega) (by have := hq.1; omega) (by have := hq.2.1; omega)
  have hM1 : M at'.toNat = iz q.1 := hM.1
  have n3 := at_r hat
  by_cases c : VT al a' b e f ≤ q.1
  · refine ⟨M, E, F, fun X hX => ?_, ?_, SO_refl _ _ _ _⟩
    · unfold fLi_findLink_L59
      rw [if_neg g6]
      simp only [if_pos n2, e2, e3, e5, Option.bind_some, e4, hv, if_pos n3, n4, hM1, e1]
      rw [if_pos (n5.mpr c)]
      with_reducible exact hX
    · rw [stp_x c]
      exact hM
  · refine ⟨upd M at'.toNat (iz (VT al a' b e f)), upd E at'.toNat (iz e), upd F at'.toNat (iz f), fun X hX => ?_, ?_, SO_upd _ _ _ _ _ _ _⟩
    · unfold fLi_findLink_L59
      rw [if_neg g6]
      simp only [if_pos n2, e2, e3, e5, Option.bind_some, e4, hv, if_pos n3, n4, hM1, e1]
      rw [if_neg (fun x => c (n5.mp x))]
      with_reducible exact hX
    · rw [stp_y c]
      exact ⟨upd_s _ _ _, fun _ => ⟨upd_s _ _ _, upd_s _ _ _⟩⟩
theorem lk59 {al : Nat → Int32} {w n t a : Int32} {dots cells sx sy sp : Nat → Int32} (h : RS al w n t a dots cells sx sy sp) (o : OkA al) {a' b far at' : Int} (ha : 0 ≤ a' ∧ a' < NN al) (hb : 0 ≤ b ∧ b < NN al) (hr : 0 ≤ far ∧ far ≤ 1) (hat : 0 ≤ at' ∧ at' < 36) {g : Nat → Int32} (hg : CF al g) :
    ∀ (d : Nat) (i : Int) (m : Nat), i = 10 - 2 * d → 0 ≤ i → 2 * d < m → ∀ (q : Int × Int × Int) (M E F : Nat → Int32), RQ q → CQ at'.toNat q M E F →
    ∃ M1 E1 F1, fLi_findLink_L59 (iz a') (iz b) (iz at') (iz far) n a cells g m (iz i) M E F = some (M1, E1, F1) ∧ CQ at'.toNat (LR al a' b far d q) M1 E1 F1 ∧ SO at'.toNat M E F M1 E1 F1 := by
  intro d
  induction d with
  | zero =>
    intro i m hi h0 hm q M E F hq hM
    obtain ⟨m, rfl⟩ : ∃ q, m = q + 1 := ⟨m - 1, by omega⟩
    refine ⟨M, E, F, ?_, hM, SO_refl _ _ _ _⟩
    unfold fLi_findLink_L59; simp (disch := omega) only [iz_n, iz_neg, iz_add, iz_sub, iz_mul, iz_lt, iz_le, iz_eq, iz_t, iz_c, Option.bind_some, bi0, bi1, bi01, bi10, bi11, if_pos, if_neg, if_true, if_false, ite_not, ite_bi]
  | succ d ih =>
    intro i m hi h0 hm q M E F hq hM
    obtain ⟨m, rfl⟩ : ∃ q, m = q + 1 + 1 := ⟨m - 2, by omega⟩
    obtain ⟨M1, E1, F1, k1, k2, k3⟩ := lk59_1 h o ha hb hr hat hg (i := i) (by omega) (e := -far) (f := 5 - (d : Int)) (by omega) (by omega) (m + 1) hq hM
    have hq1 := stp_r h o ha hb (e := -far) (f := 5 - d) (by omega) (by omega) hq
    obtain ⟨M2, E2, F2, l1, l2, l3⟩ := lk59_1 h o ha hb hr hat hg (i := i + 1) (by omega) (e := far) (f := 5 - (d : Int)) (by omega) (by omega) m hq1 k2
    obtain ⟨M3, E3, F3, p1, p2, p3⟩ := ih (i + 1 + 1) m (by omega) (by omega) (by omega) _ M2 E2 F2 (stp_r h o ha hb (by omega) (by omega) hq1) l2
    exact ⟨M3, E3, F3, k1 _ (l1 _ p1), p2, SO_trans k3 (SO_trans l3 p3)⟩
theorem lk51_1 {al : Nat → Int32} {w n t a : Int32} {dots cells sx sy sp : Nat → Int32} (h : RS al w n t a dots cells sx sy sp) (o : OkA al) {a' b far at' f : Int} (ha : 0 ≤ a' ∧ a' < NN al) (hb : 0 ≤ b ∧ b < NN al) (hr : 0 ≤ far ∧ far ≤ 1) (hat : 0 ≤ at' ∧ at' < 36) (hf : 1 ≤ f ∧ f ≤ 5) {g : Nat → Int32} (hg : CF al g) {e : Int} (he : -far ≤ e ∧ e ≤ far) (m : Nat) {q : Int × Int × Int} (hq : RQ q) {M E F : Nat → Int32} (hM : MQ3 at'.toNat q M E F) :
    ∃ M1 E1 F1, (∀ X, fMo_laysLink_L51 (iz a') (iz b) (iz at') (iz far) (iz f) al g m (iz (e + 1)) M1 E1 F1 = X → fMo_laysLink_L51 (iz a') (iz b) (iz at') (iz far) (iz f) al g (m + 1) (iz e) M E F = X) ∧ MQ3 at'.toNat (if ab e = far then stp al a' b q e f else q) M1 E1 F1 ∧ SO at'.toNat M E F M1 E1 F1 := by
  have on := o.n
  have hv := sMo_votes h o ha hb (e := e) (f := f) (by omega) (by omega) (g := g) (hg _ (by omega)) (hg _ (by omega))
  have hr' := VT_r h o ha hb (e := e) (f := f) (by omega) (by omega)
  have g6 : ¬ iz far < iz e := by simp (disch := omega) only [iz_n, iz_neg, iz_add, iz_sub, iz_mul, iz_lt, iz_le, iz_eq, iz_t, iz_c]; omega
  have e1 : iz e + (1 : Int32) = iz (e + 1) := iz_add e 1
  have hae := ab_le (z := e) (by omega)
  have hab2 : fMo_abs (iz e) = some (iz (ab e)) := sMo_ab (by omega)
  have n1 : (iz (ab e) = iz far) ↔ ab e = far := iz_eq (by omega) (by omega) (by omega) (by omega)
  have n4 : (iz at').toNatClampNeg = at'.toNat := iz_c (by omega) (by omega)
  have hq1 := hq.1
  have hq2 := hq.2.1
  have hM1 : M at'.toNat = iz q.1 := hM.1
  have n5 : (iz (VT al a' b e f) ≤ iz q.1) ↔ VT al a' b e f ≤ q.1 := iz_le (by omega) (by omega) (by omega) (by omega)
  have n6 : ((0 : Int32) ≤ iz q.1) ↔ 0 ≤ q.1 := by rw [iz_l0]; exact iz_le (by omega) (by omega) (by omega) (by omega)
  have n3 := at_r hat
  by_cases c1 : ab e = far
  · by_cases c : VT al a' b e f ≤ q.1
    · refine ⟨M, E, F, fun X hX => ?_, ?_, SO_refl _ _ _ _⟩
      · unfold fMo_laysLink_L51
        rw [if_neg g6, hab2]
        simp only [Option.bind_some]
        rw [if_pos (n1.mpr c1)]
        simp only [Option.bind_some, hv, if_pos n3, n4, hM1, e1]
        rw [if_pos (n5.mpr c)]
        with_reducible exact hX
      · rw [if_pos c1]
        rw [stp_x c]
        exact hM
    · refine ⟨upd M at'.toNat (iz (VT al a' b e f)), upd E at'.toNat (iz e), upd F at'.toNat (iz f), fun X hX => ?_, ?_, SO_upd _ _ _ _ _ _ _⟩
      · unfold fMo_laysLink_L51
        rw [if_neg g6, hab2]
        simp only [Option.bind_some]
        rw [if_pos (n1.mpr c1)]
        simp only [Option.bind_some, hv, if_pos n3, n4, hM1, e1]
        rw [if_neg (fun x => c (n5.mp x))]
        with_reducible exact hX
      · rw [if_pos c1]
        rw [stp_y c]
        exact ⟨upd_s _ _ _, upd_s _ _ _, upd_s _ _ _⟩
  · refine ⟨M, E, F, fun X hX => ?_, ?_, SO_refl _ _ _ _⟩
    · unfold fMo_laysLink_L51
      rw [if_neg g6, hab2]
      simp only [Option.bind_some]
      rw [if_neg (fun x => c1 (n1.mp x))]
      simp only [Option.bind_some, if_pos n3, n4, hM1, e1]
      rw [if_pos (n6.mpr hq1)]
      with_reducible exact hX
    · rw [if_neg c1]
      exact hM
theorem stp_2 (al : Nat → Int32) (a b : Int) (q : Int × Int × Int) (e f : Int) : stp al a b (stp al a b q e f) e f = stp al a b q e f := by
  unfold stp
  by_cases h : q.1 < VT al a b e f
  · rw [if_pos h, if_neg (by omega)]
  · rw [if_neg h, if_neg h]
theorem lk51 {al : Nat → Int32} {w n t a : Int32} {dots cells sx sy sp : Nat → Int32} (h : RS al w n t a dots cells sx sy sp) (o : OkA al) {a' b far at' f : Int} (ha : 0 ≤ a' ∧ a' < NN al) (hb : 0 ≤ b ∧ b < NN al) (hr : 0 ≤ far ∧ far ≤ 1) (hat : 0 ≤ at' ∧ at' < 36) (hf : 1 ≤ f ∧ f ≤ 5) {g : Nat → Int32} (hg : CF al g) (m : Nat) (hm : 4 ≤ m) {q : Int × Int × Int} (hq : RQ q) {M E F : Nat → Int32} (hM : MQ3 at'.toNat q M E F) :
    ∃ M1 E1 F1, fMo_laysLink_L51 (iz a') (iz b) (iz at') (iz far) (iz f) al g m (iz (-far)) M E F = some (M1, E1, F1) ∧ MQ3 at'.toNat (stp al a' b (stp al a' b q (-far) f) far f) M1 E1 F1 ∧ SO at'.toNat M E F M1 E1 F1 := by
  obtain ⟨m, rfl⟩ : ∃ q, m = q + 1 + 1 + 1 + 1 := ⟨m - 4, by omega⟩
  have stop : ∀ (m : Nat) (e : Int), far < e → e ≤ 5 → ∀ M E F, fMo_laysLink_L51 (iz a') (iz b) (iz at') (iz far) (iz f) al g (m + 1) (iz e) M E F = some (M, E, F) := by
    intro m e h1 h2 M E F
    unfold fMo_laysLink_L51; simp (disch := omega) only [iz_n, iz_neg, iz_add, iz_sub, iz_mul, iz_lt, iz_le, iz_eq, iz_t, iz_c, Option.bind_some, bi0, bi1, bi01, bi10, bi11, if_pos, if_neg, if_true, if_false, ite_not, ite_bi]
  by_cases c : far = 0
  · subst c
    obtain ⟨M1, E1, F1, k1, k2, k3⟩ := lk51_1 h o ha hb hr hat hf hg (e := 0) (by omega) (m + 1 + 1 + 1) hq hM
    rw [show -(0 : Int) = 0 from rfl, stp_2]
    rw [if_pos (by decide)] at k2
    exact ⟨M1, E1, F1, k1 _ (stop _ _ (by omega) (by omega) _ _ _), k2, k3⟩
  · have c1 : far = 1 := by omega
    subst c1
    obtain ⟨M1, E1, F1, k1, k2, k3⟩ := lk51_1 h o ha hb hr hat hf hg (e := -1) (by omega) (m + 1 + 1 + 1) hq hM
    rw [if_pos (by decide)] at k2
    have hq1 := stp_r h o ha hb (e := -1) (f := f) (by omega) hf hq
    obtain ⟨M2, E2, F2, l1, l2, l3⟩ := lk51_1 h o ha hb hr hat hf hg (e := -1 + 1) (by omega) (m + 1 + 1) hq1 k2
    rw [if_neg (by decide)] at l2
    obtain ⟨M3, E3, F3, p1, p2, p3⟩ := lk51_1 h o ha hb hr hat hf hg (e := -1 + 1 + 1) (by omega) (m + 1) hq1 l2
    rw [if_pos (by decide)] at p2
    exact ⟨M3, E3, F3, k1 _ (l1 _ (p1 _ (stop _ _ (by omega) (by omega) _ _ _))), p2, SO_trans k3 (SO_trans l3 p3)⟩
theorem lk40 {al : Nat → Int32} {w n t a : Int32} {dots cells sx sy sp : Nat → Int32} (h : RS al w n t a dots cells sx sy sp) (o : OkA al) {a' b far at' : Int} (ha : 0 ≤ a' ∧ a' < NN al) (hb : 0 ≤ b ∧ b < NN al) (hr : 0 ≤ far ∧ far ≤ 1) (hat : 0 ≤ at' ∧ at' < 36) {g : Nat → Int32} (hg : CF al g) :
    ∀ (d : Nat) (f : Int) (m : Nat), f = 6 - d → 1 ≤ f → d < m → ∀ (q : Int × Int × Int) (M E F : Nat → Int32), RQ q → MQ3 at'.toNat q M E F →
    ∃ M1 E1 F1, fMo_laysLink_L40 (iz a') (iz b) (iz at') (iz far) al g m (iz f) M E F = some (M1, E1, F1) ∧ MQ3 at'.toNat (LR al a' b far d q) M1 E1 F1 ∧ SO at'.toNat M E F M1 E1 F1 := by
  intro d
  induction d with
  | zero =>
    intro i m hi h0 hm q M E F hq hM
    obtain ⟨m, rfl⟩ : ∃ q, m = q + 1 := ⟨m - 1, by omega⟩
    refine ⟨M, E, F, ?_, hM, SO_refl _ _ _ _⟩
    unfold fMo_laysLink_L40; simp (disch := omega) only [iz_n, iz_neg, iz_add, iz_sub, iz_mul, iz_lt, iz_le, iz_eq, iz_t, iz_c, Option.bind_some, bi0, bi1, bi01, bi10, bi11, if_pos, if_neg, if_true, if_false, ite_not, ite_bi]
  | succ d ih =>
    intro f m hi h0 hm q M E F hq hM
    obtain ⟨m, rfl⟩ : ∃ q, m = q + 1 := ⟨m - 1, by omega⟩
    obtain ⟨M1, E1, F1, k1, k2, k3⟩ := lk51 h o ha hb hr hat (f := f) (by omega) hg FU (by decide) hq hM
    rw [show f = 5 - (d : Int) by omega] at k2
    obtain ⟨M3, E3, F3, p1, p2, p3⟩ := ih (f + 1) m (by omega) (by omega) (by omega) _ M1 E1 F1 (stp_r h o ha hb (by omega) (by omega) (stp_r h o ha hb (by omega) (by omega) hq)) k2
    have g6 : ¬ (5 : Int32) < iz f := by simp (disch := omega) only [iz_n, iz_neg, iz_add, iz_sub, iz_mul, iz_lt, iz_le, iz_eq, iz_t, iz_c]; omega
    have e1 : iz f + (1 : Int32) = iz (f + 1) := iz_add f 1
    refine ⟨M3, E3, F3, ?_, p2, SO_trans k3 p3⟩
    unfold fMo_laysLink_L40
    rw [if_neg g6, iz_neg, k1, e1]
    exact p1
theorem lk31 {al : Nat → Int32} {w n t a : Int32} {dots cells sx sy sp : Nat → Int32} (h : RS al w n t a dots cells sx sy sp) (o : OkA al) {a' b at' : Int} (ha : 0 ≤ a' ∧ a' < NN al) (hb : 0 ≤ b ∧ b < NN al) (hat : 0 ≤ at' ∧ at' < 36) {g : Nat → Int32} (hg : CF al g) (m : Nat) (hm : 3 ≤ m) {M E F : Nat → Int32} (hM : MQ3 at'.toNat (0, 0, 0) M E F) :
    ∃ M1 E1 F1, fMo_laysLink_L31 (iz a') (iz b) (iz at') al g m (iz 0) M E F = some (M1, E1, F1) ∧ MQ3 at'.toNat (LK al a' b) M1 E1 F1 ∧ SO at'.toNat M E F M1 E1 F1 := by
  rw [LK_eq]
  obtain ⟨m, rfl⟩ : ∃ q, m = q + 1 + 1 + 1 := ⟨m - 3, by omega⟩
  obtain ⟨M1, E1, F1, k1, k2, k3⟩ := lk40 h o ha hb (far := 0) (by omega) hat hg 5 1 FU (by omega) (by omega) (by decide) _ M E F RQ0 hM
  obtain ⟨M2, E2, F2, l1, l2, l3⟩ := lk40 h o ha hb (far := 1) (by omega) hat hg 5 1 FU (by omega) (by omega) (by decide) _ M1 E1 F1 (LR_r h o ha hb (by omega) 5 (by omega) _ RQ0) k2
  have g0 : ¬ (1 : Int32) < iz 0 := by decide
  have g1 : ¬ (1 : Int32) < iz 1 := by decide
  have g2 : (1 : Int32) < iz 2 := by decide
  have e1 : (1 : Int32) = iz 1 := iz_n 1
  have e2 : iz 0 + (1 : Int32) = iz 1 := by decide
  have e3 : iz 1 + (1 : Int32) = iz 2 := by decide
  have s3 : fMo_laysLink_L31 (iz a') (iz b) (iz at') al g (m + 1) (iz 2) M2 E2 F2 = some (M2, E2, F2) := by
    unfold fMo_laysLink_L31
    rw [if_pos g2]
  have s2 : fMo_laysLink_L31 (iz a') (iz b) (iz at') al g (m + 1 + 1) (iz 1) M1 E1 F1 = some (M2, E2, F2) := by
    unfold fMo_laysLink_L31
    rw [if_neg g1, e3, e1, l1]
    simp only [Option.bind_some]
    exact s3
  refine ⟨M2, E2, F2, ?_, l2, SO_trans k3 l3⟩
  unfold fMo_laysLink_L31
  rw [if_neg g0, e2, e1, k1]
  simp only [Option.bind_some]
  exact s2
theorem lk50 {al : Nat → Int32} {w n t a : Int32} {dots cells sx sy sp : Nat → Int32} (h : RS al w n t a dots cells sx sy sp) (o : OkA al) {a' b at' : Int} (ha : 0 ≤ a' ∧ a' < NN al) (hb : 0 ≤ b ∧ b < NN al) (hat : 0 ≤ at' ∧ at' < 36) {g : Nat → Int32} (hg : CF al g) (m : Nat) (hm : 3 ≤ m) {M E F : Nat → Int32} (hM : CQ at'.toNat (0, 0, 0) M E F) :
    ∃ M1 E1 F1, fLi_findLink_L50 (iz a') (iz b) (iz at') n a cells g m (iz 0) M E F = some (M1, E1, F1) ∧ CQ at'.toNat (LK al a' b) M1 E1 F1 ∧ SO at'.toNat M E F M1 E1 F1 := by
  rw [LK_eq]
  obtain ⟨m, rfl⟩ : ∃ q, m = q + 1 + 1 + 1 := ⟨m - 3, by omega⟩
  obtain ⟨M1, E1, F1, k1, k2, k3⟩ := lk59 h o ha hb (far := 0) (by omega) hat hg 5 0 FU (by omega) (by omega) (by decide) _ M E F RQ0 hM
  obtain ⟨M2, E2, F2, l1, l2, l3⟩ := lk59 h o ha hb (far := 1) (by omega) hat hg 5 0 FU (by omega) (by omega) (by decide) _ M1 E1 F1 (LR_r h o ha hb (by omega) 5 (by omega) _ RQ0) k2
  have g0 : ¬ (1 : Int32) < iz 0 := by decide
  have g1 : ¬ (1 : Int32) < iz 1 := by decide
  have g2 : (1 : Int32) < iz 2 := by decide
  have e2 : iz 0 + (1 : Int32) = iz 1 := by decide
  have e3 : iz 1 + (1 : Int32) = iz 2 := by decide
  have s3 : fLi_findLink_L50 (iz a') (iz b) (iz at') n a cells g (m + 1) (iz 2) M2 E2 F2 = some (M2, E2, F2) := by
    unfold fLi_findLink_L50
    rw [if_pos g2]
  have s2 : fLi_findLink_L50 (iz a') (iz b) (iz at') n a cells g (m + 1 + 1) (iz 1) M1 E1 F1 = some (M2, E2, F2) := by
    unfold fLi_findLink_L50
    rw [if_neg g1, e3, iz_l0, l1]
    simp only [Option.bind_some]
    exact s3
  refine ⟨M2, E2, F2, ?_, l2, SO_trans k3 l3⟩
  unfold fLi_findLink_L50
  rw [if_neg g0, e2, iz_l0, k1]
  simp only [Option.bind_some]
  exact s2
/-! the tables of links -/
noncomputable def LV (al : Nat → Int32) (a b : Int) : Int := if a < NN al ∧ b < NN al ∧ a ≠ b then (LK al a b).1 else 0
def EN (al : Nat → Int32) (a b : Int) (M E F : Nat → Int32) : Prop := M (6 * a + b).toNat = iz (LV al a b) ∧ (0 < LV al a b → E (6 * a + b).toNat = iz (LK al a b).2.1 ∧ F (6 * a + b).toNat = iz (LK al a b).2.2)
theorem sLi_findLink {al : Nat → Int32} {w n t a : Int32} {dots cells sx sy sp : Nat → Int32} (h : RS al w n t a dots cells sx sy sp) (o : OkA al) {a' b : Int} (ha : 0 ≤ a' ∧ a' < 6) (hb : 0 ≤ b ∧ b < 6) {g : Nat → Int32} (hg : CF al g) (M E F : Nat → Int32) :
    ∃ M1 E1 F1, fLi_findLink (iz a') (iz b) n a cells g M E F = some (M1, E1, F1) ∧ EN al a' b M1 E1 F1 ∧ SO (6 * a' + b).toNat M E F M1 E1 F1 := by
  have on := o.n
  have en := h.iN
  have e1 : iz a' * (6 : Int32) + iz b = iz (a' * 6 + b) := by rw [iz_n, iz_mul, iz_add]
  have n3 : 0 ≤ (iz (a' * 6 + b)).toInt ∧ (iz (a' * 6 + b)).toInt < 36 := by rw [iz_t (by omega) (by omega)]; omega
  have n4 : (iz (a' * 6 + b)).toNatClampNeg = (6 * a' + b).toNat := by rw [iz_c (by omega) (by omega)]; congr 1; omega
  have n5 : (iz a' = iz b) ↔ a' = b := iz_eq (by omega) (by omega) (by omega) (by omega)
  have n6 : (a' * 6 + b).toNat = (6 * a' + b).toNat := by congr 1; omega
  unfold fLi_findLink EN LV
  rw [sLi_areTwo (by omega) (by omega), e1, n4]
  simp (disch := omega) only [Option.bind_some, iz_l0, bi0, ite_not, if_pos, if_pos n3]
  by_cases c : a' < NN al ∧ b < NN al ∧ a' ≠ b
  · obtain ⟨M1, E1, F1, k1, k2, k3⟩ := lk50 h o (a' := a') (b := b) (at' := a' * 6 + b) (by omega) (by omega) (by omega) hg FU (by decide) (M := upd M (6 * a' + b).toNat (iz 0)) (E := E) (F := F) (by rw [n6]; exact ⟨upd_s _ _ _, fun q => absurd q (by decide)⟩)
    rw [n6] at k2 k3
    rw [if_neg (fun q => c.2.2 (n5.mp q)), k1]
    rw [if_pos c]
    refine ⟨M1, E1, F1, ?_, k2, SO_trans (fun i hi => ⟨upd_n _ _ hi, rfl, rfl⟩) k3⟩
    rw [en, sSc_hasPicture (by omega) (by omega), sSc_hasPicture (by omega) (by omega)]
    simp (disch := omega) only [Option.bind_some, bi0, ite_not, if_pos]
  · rw [if_neg c]
    refine ⟨upd M (6 * a' + b).toNat (iz 0), E, F, ?_, ⟨upd_s _ _ _, fun q => absurd q (by decide)⟩, fun i hi => ⟨upd_n _ _ hi, rfl, rfl⟩⟩
    by_cases d : a' = b
    · rw [if_pos (n5.mpr d)]
    · rw [if_neg (fun q => d (n5.mp q)), en, sSc_hasPicture (by omega) (by omega), sSc_hasPicture (by omega) (by omega)]
      by_cases d2 : a' < NN al
      · simp (disch := omega) only [Option.bind_some, bi0, ite_not, if_pos, if_neg]
      · simp (disch := omega) only [Option.bind_some, bi0, ite_not, if_pos, if_neg]
theorem lk36 {al : Nat → Int32} {w n t a : Int32} {dots cells sx sy sp : Nat → Int32} (h : RS al w n t a dots cells sx sy sp) (o : OkA al) {a' : Int} (ha : 0 ≤ a' ∧ a' < 6) {g : Nat → Int32} (hg : CF al g) :
    ∀ (d : Nat) (b : Int) (m : Nat), b = 6 - d → 0 ≤ b → d < m → ∀ (M E F : Nat → Int32),
    ∃ M1 E1 F1, fLi_find_L36 (iz a') n a cells g m (iz b) M E F = some (M1, E1, F1) ∧ (∀ b', b ≤ b' ∧ b' < 6 → EN al a' b' M1 E1 F1) ∧ (∀ i : Nat, (i : Int) < 6 * a' + b ∨ 6 * a' + 6 ≤ i → M1 i = M i ∧ E1 i = E i ∧ F1 i = F i) := by
  intro d
  induction d with
  | zero =>
    intro i m hi h0 hm M E F
    obtain ⟨m, rfl⟩ : ∃ q, m = q + 1 := ⟨m - 1, by omega⟩
    refine ⟨M, E, F, ?_, fun b' hb => by omega, fun _ _ => ⟨rfl, rfl, rfl⟩⟩
    unfold fLi_find_L36; simp (disch := omega) only [iz_n, iz_neg, iz_add, iz_sub, iz_mul, iz_lt, iz_le, iz_eq, iz_t, iz_c, Option.bind_some, bi0, bi1, bi01, bi10, bi11, if_pos, if_neg, if_true, if_false, ite_not, ite_bi]
  | succ d ih =>
    intro b m hi h0 hm M E F
    obtain ⟨m, rfl⟩ : ∃ q, m = q + 1 := ⟨m - 1, by omega⟩
    obtain ⟨M1, E1, F1, k1, k2, k3⟩ := sLi_findLink h o ha (b := b) (by omega) hg M E F
    obtain ⟨M2, E2, F2, l1, l2, l3⟩ := ih (b + 1) m (by omega) (by omega) (by omega) M1 E1 F1
    have g6 : ¬ (6 : Int32) ≤ iz b := by simp (disch := omega) only [iz_n, iz_neg, iz_add, iz_sub, iz_mul, iz_lt, iz_le, iz_eq, iz_t, iz_c]; omega
    have e1 : iz b + (1 : Int32) = iz (b + 1) := iz_add b 1
    refine ⟨M2, E2, F2, ?_, ?_, ?_⟩
    · unfold fLi_find_L36
      rw [if_neg g6, k1, e1]
      exact l1
    · intro b' hb'
      by_cases c : b' = b
      · subst c
        unfold EN at k2 ⊢
        rw [(l3 _ (by omega)).1, (l3 _ (by omega)).2.1, (l3 _ (by omega)).2.2]
        exact k2
      · exact l2 b' (by omega)
    · intro i hi
      rw [(l3 i (by omega)).1, (l3 i (by omega)).2.1, (l3 i (by omega)).2.2]
      exact k3 i (by omega)
theorem lk28 {al : Nat → Int32} {w n t a : Int32} {dots cells sx sy sp : Nat → Int32} (h : RS al w n t a dots cells sx sy sp) (o : OkA al) {g : Nat → Int32} (hg : CF al g) :
    ∀ (d : Nat) (a' : Int) (m : Nat), a' = 6 - d → 0 ≤ a' → d < m → ∀ (M E F : Nat → Int32),
    ∃ M1 E1 F1, fLi_find_L28 n a cells g m (iz a') M E F = some (M1, E1, F1) ∧ (∀ x b', a' ≤ x ∧ x < 6 → 0 ≤ b' ∧ b' < 6 → EN al x b' M1 E1 F1) ∧ (∀ i : Nat, (i : Int) < 6 * a' → M1 i = M i ∧ E1 i = E i ∧ F1 i = F i) := by
  intro d
  induction d with
  | zero =>
    intro i m hi h0 hm M E F
    obtain ⟨m, rfl⟩ : ∃ q, m = q + 1 := ⟨m - 1, by omega⟩
    refine ⟨M, E, F, ?_, fun x b' hx hb => by omega, fun _ _ => ⟨rfl, rfl, rfl⟩⟩
    unfold fLi_find_L28; simp (disch := omega) only [iz_n, iz_neg, iz_add, iz_sub, iz_mul, iz_lt, iz_le, iz_eq, iz_t, iz_c, Option.bind_some, bi0, bi1, bi01, bi10, bi11, if_pos, if_neg, if_true, if_false, ite_not, ite_bi]
  | succ d ih =>
    intro a' m hi h0 hm M E F
    obtain ⟨m, rfl⟩ : ∃ q, m = q + 1 := ⟨m - 1, by omega⟩
    obtain ⟨M1, E1, F1, k1, k2, k3⟩ := lk36 h o (a' := a') (by omega) hg 6 0 FU (by omega) (by omega) (by decide) M E F
    obtain ⟨M2, E2, F2, l1, l2, l3⟩ := ih (a' + 1) m (by omega) (by omega) (by omega) M1 E1 F1
    have g6 : ¬ (6 : Int32) ≤ iz a' := by simp (disch := omega) only [iz_n, iz_neg, iz_add, iz_sub, iz_mul, iz_lt, iz_le, iz_eq, iz_t, iz_c]; omega
    have e1 : iz a' + (1 : Int32) = iz (a' + 1) := iz_add a' 1
    refine ⟨M2, E2, F2, ?_, ?_, ?_⟩
    · unfold fLi_find_L28
      rw [if_neg g6, iz_l0, k1, e1]
      exact l1
    · intro x b' hx hb'
      by_cases c : x = a'
      · subst c
        have := k2 b' hb'
        unfold EN at this ⊢
        rw [(l3 _ (by omega)).1, (l3 _ (by omega)).2.1, (l3 _ (by omega)).2.2]
        exact this
      · exact l2 x b' (by omega) hb'
    · intro i hi
      rw [(l3 i (by omega)).1, (l3 i (by omega)).2.1, (l3 i (by omega)).2.2]
      exact k3 i (by omega)
def LTb (al M E F : Nat → Int32) : Prop := ∀ a b, 0 ≤ a ∧ a < 6 → 0 ≤ b ∧ b < 6 → EN al a b M E F
theorem sLi_find {al : Nat → Int32} {w n t a : Int32} {dots cells sx sy sp : Nat → Int32} (h : RS al w n t a dots cells sx sy sp) (o : OkA al) (g M E F : Nat → Int32) :
    ∃ g1 M1 E1 F1, fLi_find n t a cells g M E F = some (g1, M1, E1, F1) ∧ CF al g1 ∧ LTb al M1 E1 F1 := by
  obtain ⟨g1, k1, k2⟩ := sLi_findL2 h o g
  obtain ⟨M1, E1, F1, l1, l2, l3⟩ := lk28 h o k2 6 0 FU (by omega) (by omega) (by decide) M E F
  refine ⟨g1, M1, E1, F1, ?_, k2, fun x y hx hy => l2 x y (by omega) hy⟩
  unfold fLi_find
  rw [k1]
  simp only [Option.bind_some]
  rw [iz_l0, l1]
  rfl
def MT (al : Nat → Int32) (a b : Int) (M E F : Nat → Int32) : Prop := MQ3 (6 * a + b).toNat (LK al a b) M E F
theorem sMo_laysLink {al : Nat → Int32} {w n t a : Int32} {dots cells sx sy sp : Nat → Int32} (h : RS al w n t a dots cells sx sy sp) (o : OkA al) {a' b : Int} (ha : 0 ≤ a' ∧ a' < NN al) (hb : 0 ≤ b ∧ b < NN al) {g : Nat → Int32} (hg : CF al g) (M E F : Nat → Int32) :
    ∃ M1 E1 F1, fMo_laysLink (iz a') (iz b) al g M E F = some (M1, E1, F1) ∧ MT al a' b M1 E1 F1 ∧ SO (6 * a' + b).toNat M E F M1 E1 F1 := by
  have on := o.n
  have e1 : (6 : Int32) * iz a' + iz b = iz (6 * a' + b) := by rw [iz_n, iz_mul, iz_add]
  have n3 : 0 ≤ (iz (6 * a' + b)).toInt ∧ (iz (6 * a' + b)).toInt < 36 := by rw [iz_t (by omega) (by omega)]; omega
  have n4 : (iz (6 * a' + b)).toNatClampNeg = (6 * a' + b).toNat := iz_c (by omega) (by omega)
  obtain ⟨M1, E1, F1, k1, k2, k3⟩ := lk31 h o ha hb (at' := 6 * a' + b) (by omega) hg FU (by decide) (M := upd M (6 * a' + b).toNat 0) (E := upd E (6 * a' + b).toNat 0) (F := upd F (6 * a' + b).toNat 0) ⟨upd_s _ _ _, upd_s _ _ _, upd_s _ _ _⟩
  refine ⟨M1, E1, F1, ?_, k2, SO_trans (SO_upd _ _ _ _ _ _ _) k3⟩
  unfold fMo_laysLink
  rw [e1, if_pos n3, if_pos n3, if_pos n3, n4]
  simp only [iz_l0] at k1 ⊢
  rw [k1]
  rfl
theorem lm16 {al : Nat → Int32} {w n t a : Int32} {dots cells sx sy sp : Nat → Int32} (h : RS al w n t a dots cells sx sy sp) (o : OkA al) {a' : Int} (ha : 0 ≤ a' ∧ a' < NN al) {g : Nat → Int32} (hg : CF al g) :
    ∀ (d : Nat) (b : Int) (m : Nat), b = NN al - d → 0 ≤ b → d < m → ∀ (M E F : Nat → Int32),
    ∃ M1 E1 F1, fMo_laysLinks_L16 (iz a') al g m (iz b) M E F = some (M1, E1, F1) ∧ (∀ b', b ≤ b' ∧ b' < NN al → a' ≠ b' → MT al a' b' M1 E1 F1) ∧ (∀ i : Nat, (i : Int) < 6 * a' + b ∨ 6 * a' + 6 ≤ i → M1 i = M i ∧ E1 i = E i ∧ F1 i = F i) := by
  have on := o.n
  intro d
  induction d with
  | zero =>
    intro i m hi h0 hm M E F
    obtain ⟨m, rfl⟩ : ∃ q, m = q + 1 := ⟨m - 1, by omega⟩
    refine ⟨M, E, F, ?_, fun b' hb => by omega, fun _ _ => ⟨rfl, rfl, rfl⟩⟩
    unfold fMo_laysLinks_L16; simp (disch := omega) only [iz_n, iz_neg, iz_add, iz_sub, iz_mul, iz_lt, iz_le, iz_eq, iz_t, iz_c, sMo_many, Option.bind_some, bi0, bi1, bi01, bi10, bi11, if_pos, if_neg, if_true, if_false, ite_not, ite_bi]
  | succ d ih =>
    intro b m hi h0 hm M E F
    obtain ⟨m, rfl⟩ : ∃ q, m = q + 1 := ⟨m - 1, by omega⟩
    have g6 : ¬ iz (NN al) ≤ iz b := by simp (disch := omega) only [iz_n, iz_neg, iz_add, iz_sub, iz_mul, iz_lt, iz_le, iz_eq, iz_t, iz_c]; omega
    have e1 : iz b + (1 : Int32) = iz (b + 1) := iz_add b 1
    have n5 : (iz a' = iz b) ↔ a' = b := iz_eq (by omega) (by omega) (by omega) (by omega)
    unfold fMo_laysLinks_L16
    rw [sMo_many]
    simp only [Option.bind_some]
    rw [if_neg g6, e1]
    by_cases c0 : a' = b
    · rw [if_pos (n5.mpr c0)]
      obtain ⟨M2, E2, F2, l1, l2, l3⟩ := ih (b + 1) m (by omega) (by omega) (by omega) M E F
      exact ⟨M2, E2, F2, l1, fun b' hb' hn => l2 b' (by omega) hn, fun i hi => l3 i (by omega)⟩
    · rw [if_neg (fun q => c0 (n5.mp q))]
      obtain ⟨M1, E1, F1, k1, k2, k3⟩ := sMo_laysLink h o ha (b := b) (by omega) hg M E F
      obtain ⟨M2, E2, F2, l1, l2, l3⟩ := ih (b + 1) m (by omega) (by omega) (by omega) M1 E1 F1
      refine ⟨M2, E2, F2, ?_, ?_, ?_⟩
      · rw [k1]
        exact l1
      · intro b' hb' hn
        by_cases c : b' = b
        · subst c
          unfold MT MQ3 at k2 ⊢
          rw [(l3 _ (by omega)).1, (l3 _ (by omega)).2.1, (l3 _ (by omega)).2.2]
          exact k2
        · exact l2 b' (by omega) hn
      · intro i hi
        rw [(l3 i (by omega)).1, (l3 i (by omega)).2.1, (l3 i (by omega)).2.2]
        exact k3 i (by omega)
theorem lm6 {al : Nat → Int32} {w n t a : Int32} {dots cells sx sy sp : Nat → Int32} (h : RS al w n t a dots cells sx sy sp) (o : OkA al) {g : Nat → Int32} (hg : CF al g) :
    ∀ (d : Nat) (a' : Int) (m : Nat), a' = NN al - d → 0 ≤ a' → d < m → ∀ (M E F : Nat → Int32),
    ∃ M1 E1 F1, fMo_laysLinks_L6 al g m (iz a') M E F = some (M1, E1, F1) ∧ (∀ x b', a' ≤ x ∧ x < NN al → 0 ≤ b' ∧ b' < NN al → x ≠ b' → MT al x b' M1 E1 F1) ∧ (∀ i : Nat, (i : Int) < 6 * a' → M1 i = M i ∧ E1 i = E i ∧ F1 i = F i) := by
  have on := o.n
  intro d
  induction d with
  | zero =>
    intro i m hi h0 hm M E F
    obtain ⟨m, rfl⟩ : ∃ q, m = q + 1 := ⟨m - 1, by omega⟩
    refine ⟨M, E, F, ?_, fun x b' hx hb => by omega, fun _ _ => ⟨rfl, rfl, rfl⟩⟩
    unfold fMo_laysLinks_L6; simp (disch := omega) only [iz_n, iz_neg, iz_add, iz_sub, iz_mul, iz_lt, iz_le, iz_eq, iz_t, iz_c, sMo_many, Option.bind_some, bi0, bi1, bi01, bi10, bi11, if_pos, if_neg, if_true, if_false, ite_not, ite_bi]
  | succ d ih =>
    intro a' m hi h0 hm M E F
    obtain ⟨m, rfl⟩ : ∃ q, m = q + 1 := ⟨m - 1, by omega⟩
    obtain ⟨M1, E1, F1, k1, k2, k3⟩ := lm16 h o (a' := a') (by omega) hg (NN al).toNat 0 FU (by omega) (by omega) (by show _ < 5000; omega) M E F
    obtain ⟨M2, E2, F2, l1, l2, l3⟩ := ih (a' + 1) m (by omega) (by omega) (by omega) M1 E1 F1
    have g6 : ¬ iz (NN al) ≤ iz a' := by simp (disch := omega) only [iz_n, iz_neg, iz_add, iz_sub, iz_mul, iz_lt, iz_le, iz_eq, iz_t, iz_c]; omega
    have e1 : iz a' + (1 : Int32) = iz (a' + 1) := iz_add a' 1
    refine ⟨M2, E2, F2, ?_, ?_, ?_⟩
    · unfold fMo_laysLinks_L6
      rw [sMo_many]
      simp only [Option.bind_some]
      rw [if_neg g6, iz_l0, k1, e1]
      exact l1
    · intro x b' hx hb' hn
      by_cases c : x = a'
      · subst c
        have := k2 b' hb' hn
        unfold MT MQ3 at this ⊢
        rw [(l3 _ (by omega)).1, (l3 _ (by omega)).2.1, (l3 _ (by omega)).2.2]
        exact this
      · exact l2 x b' (by omega) hb' hn
    · intro i hi
      rw [(l3 i (by omega)).1, (l3 i (by omega)).2.1, (l3 i (by omega)).2.2]
      exact k3 i (by omega)
def LMb (al M E F : Nat → Int32) : Prop := ∀ a b, 0 ≤ a ∧ a < NN al → 0 ≤ b ∧ b < NN al → a ≠ b → MT al a b M E F
theorem sMo_laysLinks {al : Nat → Int32} {w n t a : Int32} {dots cells sx sy sp : Nat → Int32} (h : RS al w n t a dots cells sx sy sp) (o : OkA al) (g M E F : Nat → Int32) :
    ∃ g1 M1 E1 F1, fMo_laysLinks al g M E F = some (g1, M1, E1, F1) ∧ CF al g1 ∧ LMb al M1 E1 F1 := by
  have on := o.n
  obtain ⟨g1, k1, k2⟩ := sMo_laysCorners h o g
  obtain ⟨M1, E1, F1, l1, l2, l3⟩ := lm6 h o k2 (NN al).toNat 0 FU (by omega) (by omega) (by show _ < 5000; omega) M E F
  refine ⟨g1, M1, E1, F1, ?_, k2, fun x y hx hy hn => l2 x y (by omega) hy hn⟩
  unfold fMo_laysLinks
  rw [k1]
  simp only [Option.bind_some]
  rw [iz_l0, l1]
  rfl
