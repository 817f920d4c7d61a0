/-! ways, and the taking of links -/
def fw (F : Nat → Int32) (x : Int) : Int := if 0 ≤ x ∧ x < 6 then (F x.toNat).toInt else -1
theorem fw_i (F : Nat → Int32) {x : Int} (h : 0 ≤ x ∧ x < 6) : F x.toNat = iz (fw F x) := by
  unfold fw; rw [if_pos h]; exact iz_self _
theorem fw_up (F : Nat → Int32) {a b : Int} (ha : 0 ≤ a ∧ a < 6) (hb : -1 ≤ b ∧ b < 6) : fw (upd F a.toNat (iz b)) = fun x => if x = a then b else fw F x := by
  funext x
  unfold fw
  by_cases c : x = a
  · subst c
    rw [if_pos ha, if_pos rfl, upd_s, iz_t (by omega) (by omega)]
  · rw [if_neg c]
    by_cases d : 0 ≤ x ∧ x < 6
    · rw [if_pos d, if_pos d, upd_n _ _ (by omega)]
    · rw [if_neg d, if_neg d]
theorem fw_c {F F' : Nat → Int32} (h : ∀ j, j < 6 → F j = F' j) : fw F = fw F' := by
  funext x
  unfold fw
  by_cases d : 0 ≤ x ∧ x < 6
  · rw [if_pos d, if_pos d, h _ (by omega)]
  · rw [if_neg d, if_neg d]
theorem sCh_followerOf (F : Nat → Int32) {x : Int} (hx : -1 ≤ x ∧ x < 6) : fCh_followerOf (iz x) F = some (iz (fw F x)) := by
  unfold fCh_followerOf
  by_cases c : 0 ≤ x
  · have := fw_i F (x := x) (by omega)
    simp (disch := omega) only [iz_n, iz_neg, iz_add, iz_sub, iz_mul, iz_lt, iz_le, iz_eq, iz_t, iz_c, sRi_within, Option.bind_some, bi0, bi1, bi01, bi10, bi11, if_pos, if_neg, if_true, if_false, ite_not, ite_bi, this]
  · have : fw F x = -1 := by unfold fw; rw [if_neg (by omega)]
    rw [this]
    simp (disch := omega) only [iz_n, iz_neg, iz_add, iz_sub, iz_mul, iz_lt, iz_le, iz_eq, iz_t, iz_c, sRi_within, Option.bind_some, bi0, bi1, bi01, bi10, bi11, if_pos, if_neg, if_true, if_false, ite_not, ite_bi]
theorem sCh_aheadOf (F : Nat → Int32) {x : Int} (hx : -1 ≤ x ∧ x < 6) : fCh_aheadOf (iz x) F = some (iz (fw F x)) := by
  unfold fCh_aheadOf
  by_cases c : 0 ≤ x
  · have := fw_i F (x := x) (by omega)
    simp (disch := omega) only [iz_n, iz_neg, iz_add, iz_sub, iz_mul, iz_lt, iz_le, iz_eq, iz_t, iz_c, sRi_within, Option.bind_some, bi0, bi1, bi01, bi10, bi11, if_pos, if_neg, if_true, if_false, ite_not, ite_bi, this]
  · have : fw F x = -1 := by unfold fw; rw [if_neg (by omega)]
    rw [this]
    simp (disch := omega) only [iz_n, iz_neg, iz_add, iz_sub, iz_mul, iz_lt, iz_le, iz_eq, iz_t, iz_c, sRi_within, Option.bind_some, bi0, bi1, bi01, bi10, bi11, if_pos, if_neg, if_true, if_false, ite_not, ite_bi]
theorem it_end {N : Int} {f g : Int → Int} (h : GI N f g) (hN : 0 ≤ N ∧ N ≤ 6) {b : Int} (hb : 0 ≤ b ∧ b < N) (hg : g b = -1) : it f 6 b = -1 := by
  have := (it_neg (h.f1 hN.1) N.toNat (6 - N.toNat)).2 b (h.ends hN.1 hb hg)
  rwa [show 6 - N.toNat + N.toNat = 6 by omega] at this
theorem way_l {N : Int} {F F' A : Nat → Int32} (hF : ∀ j, j < 6 → F j = F' j) (h : GI N (fw F) (fw A)) (hN : 0 ≤ N ∧ N ≤ 6) {a b : Int} (ha : 0 ≤ a ∧ a < N) (hb : 0 ≤ b ∧ b < N) (hg : fw A b = -1) :
    ∀ (d k m m' : Nat), k + d = 6 → d + 1 < m → d + 1 < m' → 0 ≤ it (fw F) k b → (∀ j, j < k → it (fw F) j b ≠ a) →
    (∃ m0 : Nat, it (fw F) m0 b = a ∧ (∀ j, j < m0 → it (fw F) j b ≠ a) ∧ (m0 : Int) < 6 ∧ fCh_wayLength_L5 (iz a) F m (iz (it (fw F) k b)) (iz (k + 1)) = some (.inl (iz (m0 + 1))) ∧ fMo_wayFrom_L5 (iz a) F' m' (iz (k + 1)) (iz (it (fw F) k b)) = some (iz (m0 + 1), iz a)) ∨
    ((∀ j, it (fw F) j b ≠ a) ∧ fCh_wayLength_L5 (iz a) F m (iz (it (fw F) k b)) (iz (k + 1)) = some (.inr ()) ∧ ∃ n' y, fMo_wayFrom_L5 (iz a) F' m' (iz (k + 1)) (iz (it (fw F) k b)) = some (n', iz y) ∧ y ≠ a ∧ 0 ≤ y ∧ y < 6) := by
  have h6 := it_end h hN hb hg
  intro d
  induction d with
  | zero =>
    intro k m m' hk _ _ h0 _
    rw [show k = 6 by omega, h6] at h0
    omega
  | succ d ih =>
    intro k m m' hk hm hm' h0 hn
    obtain ⟨m, rfl⟩ : ∃ q, m = q + 1 := ⟨m - 1, by omega⟩
    obtain ⟨m', rfl⟩ : ∃ q, m' = q + 1 := ⟨m' - 1, by omega⟩
    have hlt : it (fw F) k b < N := by
      cases k with
      | zero => exact hb.2
      | succ k => exact (h.2.1 _).2.1
    have nx : it (fw F) (k + 1) b = fw F (it (fw F) k b) := rfl
    have ih' := ih (k + 1) m m' (by omega) (by omega) (by omega)
    rw [nx] at ih'
    have hy := h.2.1 (it (fw F) k b)
    have hF' : F' (it (fw F) k b).toNat = iz (fw F (it (fw F) k b)) := by rw [← hF _ (by omega)]; exact fw_i F (by omega)
    generalize hx : it (fw F) k b = x at *
    have g1 : ¬ (6 : Int32) < iz (k + 1) := by simp (disch := omega) only [iz_n, iz_neg, iz_add, iz_sub, iz_mul, iz_lt, iz_le, iz_eq, iz_t, iz_c]; omega
    have g2 : ¬ iz x = (-1 : Int32) := by simp (disch := omega) only [iz_n, iz_neg, iz_add, iz_sub, iz_mul, iz_lt, iz_le, iz_eq, iz_t, iz_c]; omega
    have e0 : (iz x = iz a) ↔ x = a := iz_eq (by omega) (by omega) (by omega) (by omega)
    have e1 : iz (k + 1) + (1 : Int32) = iz ((k + 1 : Nat) + 1) := by rw [iz_n, iz_add]; exact iz_inj (by omega)
    have e2 : 0 ≤ (iz x).toInt ∧ (iz x).toInt < 6 := by rw [iz_t (by omega) (by omega)]; omega
    have e3 : (iz x).toNatClampNeg = x.toNat := iz_c (by omega) (by omega)
    have e4 : (iz (fw F x) = (-1 : Int32)) ↔ fw F x = -1 := by rw [iz_n, iz_neg]; exact iz_eq (by omega) (by omega) (by omega) (by omega)
    by_cases c : x = a
    · refine .inl ⟨k, by rw [hx, c], hn, by omega, ?_, ?_⟩
      · unfold fCh_wayLength_L5
        rw [if_neg g1, if_neg g2, if_pos (e0.mpr c)]
      · unfold fMo_wayFrom_L5
        rw [if_pos (e0.mpr c), c]
    · by_cases c2 : fw F x = -1
      · refine .inr ⟨?_, ?_, iz (k + 1), x, ?_, c, by omega, by omega⟩
        · intro j
          by_cases q1 : j < k
          · exact hn j q1
          · by_cases q2 : j = k
            · rw [q2, hx]; exact c
            · have := (it_neg (h.f1 hN.1) (k + 1) (j - (k + 1))).2 b (by rw [nx]; exact c2)
              rw [show j - (k + 1) + (k + 1) = j by omega] at this
              omega
        · unfold fCh_wayLength_L5
          rw [if_neg g1, if_neg g2, if_neg (fun q => c (e0.mp q)), sCh_followerOf F (by omega)]
          simp only [Option.bind_some]
          obtain ⟨m, rfl⟩ : ∃ q, m = q + 1 := ⟨m - 1, by omega⟩
          unfold fCh_wayLength_L5
          rw [if_pos (e4.mpr c2)]
          split <;> rfl
        · unfold fMo_wayFrom_L5
          rw [if_neg (fun q => c (e0.mp q)), if_pos e2, e3, hF', if_pos (e4.mpr c2)]
      · have r1 : fCh_wayLength_L5 (iz a) F (m + 1) (iz x) (iz (k + 1)) = fCh_wayLength_L5 (iz a) F m (iz (fw F x)) (iz ((k + 1 : Nat) + 1)) := by
          conv => lhs; unfold fCh_wayLength_L5
          rw [if_neg g1, if_neg g2, if_neg (fun q => c (e0.mp q)), sCh_followerOf F (by omega)]
          simp only [Option.bind_some, e1]
        have r2 : fMo_wayFrom_L5 (iz a) F' (m' + 1) (iz (k + 1)) (iz x) = fMo_wayFrom_L5 (iz a) F' m' (iz ((k + 1 : Nat) + 1)) (iz (fw F x)) := by
          conv => lhs; unfold fMo_wayFrom_L5
          rw [if_neg (fun q => c (e0.mp q)), if_pos e2, e3, hF', if_neg (fun q => c2 (e4.mp q))]
          simp only [if_pos e2, Option.bind_some, e1]
        rw [r1, r2]
        exact ih' (by omega) (fun j hj => by
          by_cases q : j = k
          · rw [q, hx]; exact c
          · exact hn j (by omega))
/-- both ask the same -/
theorem may_s {al : Nat → Int32} {w n t a : Int32} {dots cells sx sy sp : Nat → Int32} (h : RS al w n t a dots cells sx sy sp) (o : OkA al) {F F' A A' : Nat → Int32} (hF : ∀ j, j < 6 → F j = F' j ∧ A j = A' j) (hG : GI (NN al) (fw F) (fw A)) {x b : Int} (ha : 0 ≤ x ∧ x < NN al) (hb : 0 ≤ b ∧ b < NN al) :
    ∃ u, fCh_mayJoin (iz x) (iz b) n F A = some u ∧ fMo_mayTake (iz x) (iz b) al F' A' = some u ∧ (u = iz 0 ∨ (u = iz 1 ∧ fw F x = -1 ∧ fw A b = -1 ∧ ((∀ m, it (fw F) m b ≠ x) ∨ ∃ m : Nat, (m : Int) + 1 = NN al ∧ it (fw F) m b = x ∧ ∀ j, j < m → it (fw F) j b ≠ x))) := by
  have on := o.n
  have en := h.iN
  have q1 := hG.2.1 x
  have q2 := hG.2.1 b
  have s1 : F' x.toNat = iz (fw F x) := by rw [← (hF _ (by omega)).1]; exact fw_i F (by omega)
  have s2 : A' b.toNat = iz (fw A b) := by rw [← (hF _ (by omega)).2]; exact fw_i A (by omega)
  have e2 : 0 ≤ (iz x).toInt ∧ (iz x).toInt < 6 := by rw [iz_t (by omega) (by omega)]; omega
  have e3 : (iz x).toNatClampNeg = x.toNat := iz_c (by omega) (by omega)
  have e5 : 0 ≤ (iz b).toInt ∧ (iz b).toInt < 6 := by rw [iz_t (by omega) (by omega)]; omega
  have e6 : (iz b).toNatClampNeg = b.toNat := iz_c (by omega) (by omega)
  have e4 : (iz (fw F x) = (-1 : Int32)) ↔ fw F x = -1 := by rw [iz_n, iz_neg]; exact iz_eq (by omega) (by omega) (by omega) (by omega)
  have e7 : (iz (fw A b) = (-1 : Int32)) ↔ fw A b = -1 := by rw [iz_n, iz_neg]; exact iz_eq (by omega) (by omega) (by omega) (by omega)
  unfold fCh_mayJoin fMo_mayTake
  rw [sCh_followerOf F (by omega), sCh_aheadOf A (by omega), if_pos e2, e3, s1, if_pos e5, e6, s2]
  simp only [Option.bind_some]
  by_cases c1 : fw F x = -1
  · rw [if_pos (e4.mpr c1), if_pos (e4.mpr c1)]
    by_cases c2 : fw A b = -1
    · rw [if_pos (e7.mpr c2), if_pos (e7.mpr c2)]
      have w := way_l (fun j hj => (hF j hj).1) hG on ha hb c2 6 0 FU FU (by omega) (by decide) (by decide) hb.1 (fun j hj => by omega)
      have w0 : it (fw F) 0 b = b := rfl
      rw [w0, show ((0 : Nat) : Int) + 1 = 1 from rfl, ← show (1 : Int32) = iz 1 from iz_n 1] at w
      unfold fCh_wayLength fMo_wayFrom
      rcases w with ⟨m0, w1, w2, w3, w4, w5⟩ | ⟨w1, w2, n', y, w3, w4, w5, w6⟩
      · rw [w4, w5]
        have z0 : ¬ iz (m0 + 1) = (0 : Int32) := by rw [iz_l0, iz_eq (by omega) (by omega) (by omega) (by omega)]; omega
        have zn : (iz (m0 + 1) = iz (NN al)) ↔ (m0 : Int) + 1 = NN al := iz_eq (by omega) (by omega) (by omega) (by omega)
        simp only [Option.bind_some, Sum.elim_inl, if_neg z0, sMo_many, en, if_true]
        by_cases c3 : (m0 : Int) + 1 = NN al
        · rw [if_pos (zn.mpr c3)]
          exact ⟨_, rfl, rfl, .inr ⟨rfl, c1, c2, .inr ⟨m0, c3, w1, w2⟩⟩⟩
        · rw [if_neg (fun q => c3 (zn.mp q))]
          exact ⟨_, rfl, rfl, .inl rfl⟩
      · rw [w2, w3]
        have zy : ¬ iz y = iz x := by rw [iz_eq (by omega) (by omega) (by omega) (by omega)]; exact w4
        simp only [Option.bind_some, Sum.elim_inr, if_neg zy, if_true]
        exact ⟨_, rfl, rfl, .inr ⟨rfl, c1, c2, .inl w1⟩⟩
    · rw [if_neg (fun q => c2 (e7.mp q)), if_neg (fun q => c2 (e7.mp q))]
      exact ⟨_, rfl, rfl, .inl rfl⟩
  · rw [if_neg (fun q => c1 (e4.mp q)), if_neg (fun q => c1 (e4.mp q))]
    exact ⟨_, rfl, rfl, .inl rfl⟩
