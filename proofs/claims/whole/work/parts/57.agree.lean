/-! levels, as told -/
def BB (g h : Int → Int) : Nat → Int → Int
  | 0, _ => 0
  | k + 1, x => if x = -1 then 0 else h x + BB g h k (g x)
theorem BB_m1 (g h : Int → Int) (k : Nat) : BB g h k (-1) = 0 := by
  cases k with
  | zero => rfl
  | succ k => exact if_pos rfl
theorem BB_r {g h : Int → Int} {u : Int} (hu : 0 ≤ u) (hh : ∀ x : Int, -u ≤ h x ∧ h x ≤ u) : ∀ (k : Nat) (x : Int), -(u * k) ≤ BB g h k x ∧ BB g h k x ≤ u * k := by
  intro k
  induction k with
  | zero => intro x; show -(u * 0) ≤ 0 ∧ 0 ≤ u * 0; omega
  | succ k ih =>
    intro x
    have h1 := hh x
    have h2 := ih (g x)
    have e : u * ((k + 1 : Nat) : Int) = u * k + u := by rw [show ((k + 1 : Nat) : Int) = (k : Int) + 1 by omega, Int.mul_add, Int.mul_one]
    rw [e]
    have h3 : 0 ≤ u * (k : Int) := Int.mul_nonneg hu (by omega)
    show -(u * k + u) ≤ (if x = -1 then 0 else h x + BB g h k (g x)) ∧ (if x = -1 then 0 else h x + BB g h k (g x)) ≤ u * k + u
    split <;> omega
noncomputable def IX (al : Nat → Int32) (x : Int) : Nat := Classical.epsilon (fun i : Nat => (i : Int) < NN al ∧ it (fC al) i 0 = x)
noncomputable def RAW (al : Nat → Int32) (x : Int) : Int := @ite Int (Cl al) (Classical.propDecidable _) (WT (fC al) (lsT al (WW' al) (DD' al)) 0 (IX al x)) (BB (gC al) (lsT al 1 0) 6 (gC al x))
noncomputable def PAR (al : Nat → Int32) : Int := @ite Int (Cl al) (Classical.propDecidable _) (5040 * WW' al) (5040 * 1)
noncomputable def LA (al : Nat → Int32) (x : Int) : Int64 := lz (RAW al x) / lz (GD (RAW al x) (PAR al))
noncomputable def LB (al : Nat → Int32) (x : Int) : Int64 := lz (PAR al) / lz (GD (RAW al x) (PAR al))
theorem IX_s {al : Nat → Int32} (on : 0 ≤ NN al ∧ NN al ≤ 6) (cn : Cn al) (cl : Cl al) {i : Nat} (hi : (i : Int) < NN al) : IX al (it (fC al) i 0) = i := by
  obtain ⟨r1, r2, r3, r4⟩ := cn.gi.round (by have := cl.1; omega) (Cl_all on cn cl)
  have h : (IX al (it (fC al) i 0) : Int) < NN al ∧ it (fC al) (IX al (it (fC al) i 0)) 0 = it (fC al) i 0 := Classical.epsilon_spec (p := fun j : Nat => (j : Int) < NN al ∧ it (fC al) j 0 = it (fC al) i 0) ⟨i, hi, rfl⟩
  generalize IX al (it (fC al) i 0) = q at *
  by_cases c1 : q < i
  · exact absurd h.2 (r2 q i c1 hi)
  · by_cases c2 : i < q
    · exact absurd h.2.symm (r2 i q c2 h.1)
    · omega
theorem RAW_cl {al : Nat → Int32} (on : 0 ≤ NN al ∧ NN al ≤ 6) (cn : Cn al) (cl : Cl al) {i : Nat} (hi : (i : Int) < NN al) : RAW al (it (fC al) i 0) = WT (fC al) (lsT al (WW' al) (DD' al)) 0 i := by
  unfold RAW
  rw [if_pos cl, IX_s on cn cl hi]
theorem RAW_op {al : Nat → Int32} (on : 0 ≤ NN al ∧ NN al ≤ 6) (cn : Cn al) (cl : ¬ Cl al) {y : Int} (hy : gC al y = -1) (hy0 : 0 ≤ y) : ∀ (j : Nat) (k : Nat), j ≤ k → 0 ≤ it (fC al) j y → BB (gC al) (lsT al 1 0) k (gC al (it (fC al) j y)) = WT (fC al) (lsT al 1 0) y j := by
  have f1 := cn.gi.f1 (by omega)
  intro j
  induction j with
  | zero =>
    intro k _ _
    show BB (gC al) (lsT al 1 0) k (gC al y) = 0
    rw [hy, BB_m1]
  | succ j ih =>
    intro k hk hp
    obtain ⟨k, rfl⟩ : ∃ q, k = q + 1 := ⟨k - 1, by omega⟩
    have hpj : 0 ≤ it (fC al) j y := by
      by_cases q : 0 ≤ it (fC al) j y
      · exact q
      · exfalso
        have hb : -1 ≤ it (fC al) j y := by
          cases j with
          | zero => show -1 ≤ y; omega
          | succ j => exact (cn.fr _).1
        have e : it (fC al) j y = -1 := by omega
        have : it (fC al) (j + 1) y = fC al (it (fC al) j y) := rfl
        rw [this, e, f1] at hp
        omega
    have hg : gC al (it (fC al) (j + 1) y) = it (fC al) j y := (cn.gi.2.2.1 _ _ hpj hp).mp rfl
    rw [hg]
    have ih' := ih k (by omega) hpj
    show (if it (fC al) j y = -1 then 0 else lsT al 1 0 (it (fC al) j y) + BB (gC al) (lsT al 1 0) k (gC al (it (fC al) j y))) = WT (fC al) (lsT al 1 0) y j + lsT al 1 0 (it (fC al) j y)
    rw [if_neg (by omega), ih', Int.add_comm]
theorem PAR_r {al : Nat → Int32} {w n t a : Int32} {dots cells sx sy sp : Nat → Int32} (hR : RS al w n t a dots cells sx sy sp) (o : OkA al) (cn : Cn al) : 5040 ≤ PAR al ∧ PAR al ≤ 16934400 := by
  unfold PAR
  by_cases cl : Cl al
  · have := W_r hR o cn cl
    rw [if_pos cl]; omega
  · rw [if_neg cl]; omega
theorem RAW_r {al : Nat → Int32} {w n t a : Int32} {dots cells sx sy sp : Nat → Int32} (hR : RS al w n t a dots cells sx sy sp) (o : OkA al) (cn : Cn al) {x : Int} (hx : 0 ≤ x ∧ x < NN al) : -42000000000 ≤ RAW al x ∧ RAW al x ≤ 42000000000 := by
  have on := o.n
  by_cases cl : Cl al
  · obtain ⟨r1, r2, r3, r4⟩ := cn.gi.round (by have := cl.1; omega) (Cl_all on cn cl)
    have hW := W_r hR o cn cl
    obtain ⟨i, h1, rfl⟩ := r3 x hx
    rw [RAW_cl on cn cl h1]
    have := WT_r (f := fC al) (y := 0) (lsT_r hR o cn (P := WW' al) (D := DD' al) (by omega) (by omega)) i
    omega
  · unfold RAW
    rw [if_neg cl]
    have := BB_r (g := gC al) (by omega) (fun x => lsT_r hR o cn (P := 1) (D := 0) (by omega) (by omega) x) 6 (gC al x)
    omega
/-- levels as kept -/
def LEI (al : Nat → Int32) (ab be : Nat → Int64) : Prop := ∀ x, 0 ≤ x ∧ x < NN al → ab x.toNat = LA al x ∧ be x.toNat = LB al x
noncomputable def RA (al : Nat → Int32) : Int64 := @ite Int64 (Cl al) (Classical.propDecidable _) (lz (DD' al * DD' al) / lz (GD (DD' al * DD' al) (5040 * WW' al))) (lz 0)
noncomputable def RB (al : Nat → Int32) : Int64 := @ite Int64 (Cl al) (Classical.propDecidable _) (lz (5040 * WW' al) / lz (GD (DD' al * DD' al) (5040 * WW' al))) (lz 1)
theorem dd_r {D : Int} (h : -5927040 ≤ D ∧ D ≤ 5927040) : 0 ≤ D * D ∧ D * D ≤ 40000000000000 := by
  have a1 : 0 ≤ (5927040 - D) * (5927040 + D) := Int.mul_nonneg (by omega) (by omega)
  rw [Int.sub_mul, Int.mul_add, Int.mul_add, Int.mul_comm D 5927040] at a1
  have a2 : 0 ≤ D * D := by
    by_cases c : 0 ≤ D
    · exact Int.mul_nonneg c c
    · have := Int.mul_nonneg (show 0 ≤ -D by omega) (show 0 ≤ -D by omega)
      rw [Int.neg_mul_neg] at this
      exact this
  omega
theorem sLe_round {al : Nat → Int32} {w n t a : Int32} {dots cells sx sy sp : Nat → Int32} (hR : RS al w n t a dots cells sx sy sp) (o : OkA al) (cn : Cn al) (cl : Cl al) {F A B C S K : Nat → Int32} (hF : fw F = fC al) (hS : SEI al A B C S K) (ra rb : Int64) (ab be : Nat → Int64) :
    ∃ ab' be', fLe_agreeRound F A C ra rb ab be = some (RA al, RB al, ab', be') ∧ LEI al ab' be' := by
  have on := o.n
  obtain ⟨r1, r2, r3, r4⟩ := cn.gi.round (by have := cl.1; omega) (Cl_all on cn cl)
  have hW := W_r hR o cn cl
  have h8 := round_8 hR o cn hF hS 6 0 FU (by omega) (by show _ < 5000; omega)
  rw [show SU (US al) 0 = 0 from rfl, show SU (QS al) 0 = 0 from rfl, show iz ((0 : Nat) : Int) = (0 : Int32) from iz_l0.symm, ← lz0] at h8
  have hpar : PAR al = 5040 * WW' al := if_pos cl
  obtain ⟨ab', be', k1, k2, k3⟩ := sLe_walk hR o cn hF hS (P := WW' al) (D := DD' al) (y := 0) (by omega) (by omega) (by omega) (LA al) (LB al) (fun j hj hp hn => by
    have hjN : (j : Int) < NN al := by
      by_cases q : (j : Int) < NN al
      · exact q
      · exact absurd r4 (hn (NN al).toNat (by have := cl.1; omega) (by omega))
    unfold LA LB
    rw [RAW_cl on cn cl hjN, hpar]
    exact ⟨rfl, rfl⟩) ab be
  rw [← iz_l0] at k1
  have hd := dd_r (D := DD' al) (by omega)
  have hgd := sRi_gd (a := DD' al * DD' al) (b := 5040 * WW' al) (by omega) (by omega)
  have hg := GD_r (a := DD' al * DD' al) (b := 5040 * WW' al) (by omega)
  have n2 : ¬ lg_cmp (lz (GD (DD' al * DD' al) (5040 * WW' al))) (0 : Int64) ≤ 0 := by
    rw [lz0, show (0 : Int32) = iz 0 from iz_n 0, lc_le (by omega) (by omega)]; omega
  have n3 : ¬ lz (GD (DD' al * DD' al) (5040 * WW' al)) = 0 := fun z => by have := (ne0 (b := GD (DD' al * DD' al) (5040 * WW' al)) (by omega)).mp z; omega
  have e5 : (5040 : Int64) * lz (WW' al) = lz (5040 * WW' al) := by rw [lz_n, lz_mul]
  refine ⟨ab', be', ?_, ?_⟩
  · unfold fLe_agreeRound
    rw [h8]
    simp only [Option.bind_some, k1]
    rw [lz_mul, e5, hgd]
    simp only [Option.bind_some]
    rw [if_neg n2, if_pos n3]
    unfold RA RB
    rw [if_pos cl, if_pos cl, if_pos n3]
  · intro x hx
    obtain ⟨i, h1, rfl⟩ := r3 x hx
    have r0 : ∀ j', 1 ≤ j' → j' ≤ i → it (fC al) j' 0 ≠ 0 := fun j' h2 h3 e => r2 0 j' (by omega) (by omega) e.symm
    exact k3 i (by omega) (r1 i).1 r0
theorem open_27 {al : Nat → Int32} {w n t a : Int32} {dots cells sx sy sp : Nat → Int32} (hR : RS al w n t a dots cells sx sy sp) (o : OkA al) (cn : Cn al) (cl : ¬ Cl al) {F H A B C S K : Nat → Int32} (hF : fw F = fC al) (hH : fw H = gC al) (hS : SEI al A B C S K) :
    ∀ (d k m : Nat), (k : Int) + d = NN al → d < m → ∀ ab be : Nat → Int64, ∃ ab' be', fLe_agree_L27 (iz (NN al)) F H A C m (iz k) ab be = some (ab', be') ∧
      (∀ x : Int, 0 ≤ x ∧ x < 6 → (ab' x.toNat = ab x.toNat ∧ be' x.toNat = be x.toNat) ∨ (ab' x.toNat = LA al x ∧ be' x.toNat = LB al x)) ∧
      (∀ y : Int, (k : Int) ≤ y ∧ y < NN al → gC al y = -1 → ∀ j : Nat, j < 6 → 0 ≤ it (fC al) j y → ab' (it (fC al) j y).toNat = LA al (it (fC al) j y) ∧ be' (it (fC al) j y).toNat = LB al (it (fC al) j y)) := by
  have on := o.n
  have hpar : PAR al = 5040 * 1 := if_neg cl
  have m1 : (-1 : Int32) = iz (-1) := by rw [iz_n, iz_neg]
  have f1 := cn.gi.f1 (by omega)
  intro d
  induction d with
  | zero =>
    intro k m hk hm ab be
    obtain ⟨m, rfl⟩ : ∃ q, m = q + 1 := ⟨m - 1, by omega⟩
    refine ⟨ab, be, ?_, fun _ _ => .inl ⟨rfl, rfl⟩, fun y hy => by omega⟩
    have g6 : iz (NN al) ≤ iz k := by rw [iz_le (by omega) (by omega) (by omega) (by omega)]; omega
    unfold fLe_agree_L27
    by_cases q : (6 : Int32) ≤ iz k
    · rw [if_pos q]
    · rw [if_neg q, if_pos g6]
  | succ d ih =>
    intro k m hk hm ab be
    obtain ⟨m, rfl⟩ : ∃ q, m = q + 1 := ⟨m - 1, by omega⟩
    have g6 : ¬ iz (NN al) ≤ iz k := by rw [iz_le (by omega) (by omega) (by omega) (by omega)]; omega
    have g7 : ¬ (6 : Int32) ≤ iz k := by rw [iz_n, iz_le (by omega) (by omega) (by omega) (by omega)]; omega
    have e1 : iz (k : Int) + (1 : Int32) = iz ((k + 1 : Nat) : Int) := by rw [iz_n, iz_add]; exact iz_inj (by omega)
    have ff := sCh_aheadOf H (x := (k : Int)) (by omega)
    rw [hH] at ff
    have hgr := cn.gr k
    have nm : (iz (gC al k) = iz (-1)) ↔ gC al k = -1 := iz_eq (by omega) (by omega) (by omega) (by omega)
    by_cases z : gC al k = -1
    · have nor : ∀ j' : Nat, 1 ≤ j' → it (fC al) j' k ≠ k := fun j' h1 e => by
        obtain ⟨j, rfl⟩ : ∃ q, j' = q + 1 := ⟨j' - 1, by omega⟩
        have e2 : fC al (it (fC al) j k) = k := e
        have hpj : 0 ≤ it (fC al) j k := by
          by_cases q : 0 ≤ it (fC al) j k
          · exact q
          · exfalso
            have hb : -1 ≤ it (fC al) j k := by
              cases j with
              | zero => show -1 ≤ (k : Int); omega
              | succ j => exact (cn.fr _).1
            have e3 : it (fC al) j k = -1 := by omega
            rw [e3, f1] at e2
            omega
        have := (cn.gi.2.2.1 _ _ hpj (show 0 ≤ (k : Int) by omega)).mp e2
        omega
      obtain ⟨ab1, be1, k1, k2, k3⟩ := sLe_walk hR o cn hF hS (P := 1) (D := 0) (y := (k : Int)) (by omega) (by omega) (by omega) (LA al) (LB al) (fun j hj hp hn => by
        have : RAW al (it (fC al) j k) = WT (fC al) (lsT al 1 0) k j := by
          unfold RAW
          rw [if_neg cl, RAW_op on cn cl z (by omega) j 6 (by omega) hp]
        unfold LA LB
        rw [this, hpar]
        exact ⟨rfl, rfl⟩) ab be
      obtain ⟨ab', be', l1, l2, l3⟩ := ih (k + 1) m (by omega) (by omega) ab1 be1
      have keep : ∀ x : Int, 0 ≤ x ∧ x < 6 → (ab1 x.toNat = LA al x ∧ be1 x.toNat = LB al x) → (ab' x.toNat = LA al x ∧ be' x.toNat = LB al x) := fun x hx h => by
        rcases l2 x hx with ⟨q1, q2⟩ | q
        · rw [q1, q2]; exact h
        · exact q
      refine ⟨ab', be', ?_, ?_, ?_⟩
      · unfold fLe_agree_L27
        rw [if_neg g7, if_neg g6, ff]
        simp only [Option.bind_some]
        rw [m1, if_pos (nm.mpr z), show (1 : Int64) = lz 1 from lz_n 1, lz0, k1]
        simp only [Option.bind_some]
        rw [e1]
        exact l1
      · intro x hx
        rcases l2 x hx with ⟨q1, q2⟩ | q
        · rw [q1, q2]; exact k2 x hx
        · exact .inr q
      · intro y hy hg j hj hp
        by_cases e : y = k
        · have hb : it (fC al) j k < 6 := by
            cases j with
            | zero => show (k : Int) < 6; omega
            | succ j => have := (cn.fr (it (fC al) j k)).2; show fC al (it (fC al) j k) < 6; omega
          rw [e] at hp ⊢
          exact keep _ ⟨hp, hb⟩ (k3 j hj hp (fun j' h1 _ => nor j' h1))
        · exact l3 y (by omega) hg j hj hp
    · obtain ⟨ab', be', l1, l2, l3⟩ := ih (k + 1) m (by omega) (by omega) ab be
      refine ⟨ab', be', ?_, l2, fun y hy hg j hj hp => by
        by_cases e : y = k
        · rw [e] at hg; exact absurd hg z
        · exact l3 y (by omega) hg j hj hp⟩
      unfold fLe_agree_L27
      rw [if_neg g7, if_neg g6, ff]
      simp only [Option.bind_some]
      rw [m1, if_neg (fun q => z (nm.mp q)), e1]
      exact l1
theorem heads {al : Nat → Int32} (on : 0 ≤ NN al ∧ NN al ≤ 6) (cn : Cn al) (cl : ¬ Cl al) {x : Int} (hx : 0 ≤ x ∧ x < NN al) : ∃ (y : Int) (j : Nat), (0 ≤ y ∧ y < NN al) ∧ gC al y = -1 ∧ j < 6 ∧ it (fC al) j y = x := by
  obtain ⟨z, hz, hfz⟩ := nCl on cn (by omega) cl
  have hb := cn.gi.back (by omega) hz hfz hx
  obtain ⟨m, m1, m2, m3⟩ := first (P := fun i => it (gC al) i x = -1) (NN al).toNat hb
  have m0 : m ≠ 0 := fun e => by
    subst e
    have : x = -1 := m2
    omega
  obtain ⟨q, rfl⟩ : ∃ q, m = q + 1 := ⟨m - 1, by omega⟩
  have pos : ∀ j, j ≤ q → 0 ≤ it (gC al) j x ∧ it (gC al) j x < NN al := fun j hj => by
    have n1 := m3 j (by omega)
    cases j with
    | zero => exact hx
    | succ j =>
      have h1 := cn.gr (it (gC al) j x)
      have n2 : gC al (it (gC al) j x) ≠ -1 := n1
      show 0 ≤ gC al (it (gC al) j x) ∧ gC al (it (gC al) j x) < NN al
      omega
  have fg : ∀ j, j < q → fC al (it (gC al) (j + 1) x) = it (gC al) j x := fun j hj => (cn.gi.2.2.1 _ _ (pos (j + 1) (by omega)).1 (pos j (by omega)).1).mpr rfl
  have up : ∀ d, d ≤ q → it (fC al) d (it (gC al) d x) = x := by
    intro d
    induction d with
    | zero => intro _; rfl
    | succ d ih =>
      intro hd
      rw [it_in, fg d (by omega)]
      exact ih (by omega)
  exact ⟨it (gC al) q x, q, pos q (Nat.le_refl q), m2, by omega, up q (Nat.le_refl q)⟩
theorem sLe_agree {al : Nat → Int32} {w n t a : Int32} {dots cells sx sy sp : Nat → Int32} (hR : RS al w n t a dots cells sx sy sp) (o : OkA al) (cn : Cn al) {F H A B C S K : Nat → Int32} (hF : fw F = fC al) (hH : fw H = gC al) (hS : SEI al A B C S K) {cc : Int32} (hc : cc = 0 ↔ ¬ Cl al) (ra rb : Int64) (ab be : Nat → Int64) :
    ∃ ab' be', fLe_agree n cc F H A C ra rb ab be = some (RA al, RB al, ab', be') ∧ LEI al ab' be' := by
  have on := o.n
  by_cases cl : Cl al
  · obtain ⟨ab', be', k1, k2⟩ := sLe_round hR o cn cl hF hS (0 : Int64) (1 : Int64) ab be
    refine ⟨ab', be', ?_, k2⟩
    unfold fLe_agree
    rw [if_neg (fun z => hc.mp z cl), k1]
    rfl
  · obtain ⟨ab', be', k1, k2, k3⟩ := open_27 hR o cn cl hF hH hS (NN al).toNat 0 FU (by omega) (by show _ < 5000; omega) ab be
    rw [show iz ((0 : Nat) : Int) = (0 : Int32) from iz_l0.symm, ← hR.iN] at k1
    refine ⟨ab', be', ?_, ?_⟩
    · unfold fLe_agree
      rw [if_pos (hc.mpr cl), k1]
      unfold RA RB
      rw [if_neg cl, if_neg cl, ← lz0, ← lz_n]
      rfl
    · intro x hx
      obtain ⟨y, j, h1, h2, h3, h4⟩ := heads on cn cl hx
      have := k3 y (by omega) h2 j h3 (by omega)
      rw [h4] at this
      exact this
