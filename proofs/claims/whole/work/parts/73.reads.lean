/-! the row kept aside -/
theorem row_46 (al : Nat → Int32) : ∀ (d : Nat) (j : Int) (m : Nat), j = 406 - d → 0 ≤ j → d < m → ∀ x : Nat → Int32, ∃ x', fMo_reads_L46 al m (iz j) x = some x' ∧ (∀ i : Nat, j ≤ i → i < 406 → x' i = al i) := by
  intro d
  induction d with
  | zero =>
    intro j m hj h0 hm x
    obtain ⟨m, rfl⟩ : ∃ q, m = q + 1 := ⟨m - 1, by omega⟩
    have n1 : (406 : Int32) ≤ iz j := by rw [iz_n, iz_le (by omega) (by omega) (by omega) (by omega)]; omega
    refine ⟨x, ?_, fun i h1 h2 => by omega⟩
    unfold fMo_reads_L46
    rw [if_pos n1]
  | succ d ih =>
    intro j m hj h0 hm x
    obtain ⟨m, rfl⟩ : ∃ q, m = q + 1 := ⟨m - 1, by omega⟩
    have n1 : ¬ (406 : Int32) ≤ iz j := by rw [iz_n, iz_le (by omega) (by omega) (by omega) (by omega)]; omega
    have e1 : iz j + (1 : Int32) = iz (j + 1) := iz_add j 1
    have i3 : 0 ≤ (iz j).toInt ∧ (iz j).toInt < 406 := by rw [iz_t (by omega) (by omega)]; omega
    have i4 : (iz j).toNatClampNeg = j.toNat := iz_c (by omega) (by omega)
    have lo : ∀ (d : Nat) (j : Int) (m : Nat), j = 406 - d → 0 ≤ j → d < m → ∀ (x x' : Nat → Int32), fMo_reads_L46 al m (iz j) x = some x' → ∀ i : Nat, (i : Int) < j → x' i = x i := by
      intro d
      induction d with
      | zero =>
        intro j m hj h0 hm x x' h i hi
        obtain ⟨m, rfl⟩ : ∃ q, m = q + 1 := ⟨m - 1, by omega⟩
        have n1 : (406 : Int32) ≤ iz j := by rw [iz_n, iz_le (by omega) (by omega) (by omega) (by omega)]; omega
        unfold fMo_reads_L46 at h
        rw [if_pos n1] at h
        injection h with h
        rw [h]
      | succ d ih =>
        intro j m hj h0 hm x x' h i hi
        obtain ⟨m, rfl⟩ : ∃ q, m = q + 1 := ⟨m - 1, by omega⟩
        have n1 : ¬ (406 : Int32) ≤ iz j := by rw [iz_n, iz_le (by omega) (by omega) (by omega) (by omega)]; omega
        have e1 : iz j + (1 : Int32) = iz (j + 1) := iz_add j 1
        have i3 : 0 ≤ (iz j).toInt ∧ (iz j).toInt < 406 := by rw [iz_t (by omega) (by omega)]; omega
        have i4 : (iz j).toNatClampNeg = j.toNat := iz_c (by omega) (by omega)
        unfold fMo_reads_L46 at h
        rw [if_neg n1, if_pos i3, if_pos i3, e1, i4] at h
        rw [ih (j + 1) m (by omega) (by omega) (by omega) _ _ h i (by omega), upd_n _ _ (by omega)]
    obtain ⟨x', k1, k2⟩ := ih (j + 1) m (by omega) (by omega) (by omega) (upd x j.toNat (al j.toNat))
    refine ⟨x', ?_, ?_⟩
    · unfold fMo_reads_L46
      rw [if_neg n1, if_pos i3, if_pos i3, e1, i4]
      exact k1
    · intro i h1 h2
      by_cases e : i = j.toNat
      · rw [lo d (j + 1) m (by omega) (by omega) (by omega) _ _ k1 i (by omega), e, upd_s]
      · exact k2 i (by omega) h2
theorem row_106 (al : Nat → Int32) : ∀ (d : Nat) (j : Int) (m : Nat), j = 406 - d → 0 ≤ j → d < m → ∀ x : Nat → Int32, ∃ x', fMo_reads_L106 al m (iz j) x = some x' ∧ (∀ i : Nat, j ≤ i → i < 406 → x' i = al i) ∧ (∀ i : Nat, (i : Int) < j → x' i = x i) := by
  intro d
  induction d with
  | zero =>
    intro j m hj h0 hm x
    obtain ⟨m, rfl⟩ : ∃ q, m = q + 1 := ⟨m - 1, by omega⟩
    have n1 : (406 : Int32) ≤ iz j := by rw [iz_n, iz_le (by omega) (by omega) (by omega) (by omega)]; omega
    refine ⟨x, ?_, fun i h1 h2 => by omega, fun _ _ => rfl⟩
    unfold fMo_reads_L106
    rw [if_pos n1]
  | succ d ih =>
    intro j m hj h0 hm x
    obtain ⟨m, rfl⟩ : ∃ q, m = q + 1 := ⟨m - 1, by omega⟩
    have n1 : ¬ (406 : Int32) ≤ iz j := by rw [iz_n, iz_le (by omega) (by omega) (by omega) (by omega)]; omega
    have e1 : iz j + (1 : Int32) = iz (j + 1) := iz_add j 1
    have i3 : 0 ≤ (iz j).toInt ∧ (iz j).toInt < 406 := by rw [iz_t (by omega) (by omega)]; omega
    have i4 : (iz j).toNatClampNeg = j.toNat := iz_c (by omega) (by omega)
    obtain ⟨x', k1, k2, k3⟩ := ih (j + 1) m (by omega) (by omega) (by omega) (upd x j.toNat (al j.toNat))
    refine ⟨x', ?_, ?_, ?_⟩
    · unfold fMo_reads_L106
      rw [if_neg n1, if_pos i3, if_pos i3, e1, i4]
      exact k1
    · intro i h1 h2
      by_cases e : i = j.toNat
      · rw [k3 i (by omega), e, upd_s]
      · exact k2 i (by omega) h2
    · intro i hi
      rw [k3 i (by omega), upd_n _ _ (by omega)]
theorem row_47 (al : Nat → Int32) : ∀ (d : Nat) (j : Int) (m : Nat), j = 406 - d → 0 ≤ j → d < m → ∀ x : Nat → Int32, ∃ x', fMo_keepsAside_L47 al m (iz j) x = some x' ∧ (∀ i : Nat, j ≤ i → i < 406 → x' i = al i) ∧ (∀ i : Nat, (i : Int) < j → x' i = x i) := by
  intro d
  induction d with
  | zero =>
    intro j m hj h0 hm x
    obtain ⟨m, rfl⟩ : ∃ q, m = q + 1 := ⟨m - 1, by omega⟩
    have n1 : (406 : Int32) ≤ iz j := by rw [iz_n, iz_le (by omega) (by omega) (by omega) (by omega)]; omega
    refine ⟨x, ?_, fun i h1 h2 => by omega, fun _ _ => rfl⟩
    unfold fMo_keepsAside_L47
    rw [if_pos n1]
  | succ d ih =>
    intro j m hj h0 hm x
    obtain ⟨m, rfl⟩ : ∃ q, m = q + 1 := ⟨m - 1, by omega⟩
    have n1 : ¬ (406 : Int32) ≤ iz j := by rw [iz_n, iz_le (by omega) (by omega) (by omega) (by omega)]; omega
    have e1 : iz j + (1 : Int32) = iz (j + 1) := iz_add j 1
    have i3 : 0 ≤ (iz j).toInt ∧ (iz j).toInt < 406 := by rw [iz_t (by omega) (by omega)]; omega
    have i4 : (iz j).toNatClampNeg = j.toNat := iz_c (by omega) (by omega)
    obtain ⟨x', k1, k2, k3⟩ := ih (j + 1) m (by omega) (by omega) (by omega) (upd x j.toNat (al j.toNat))
    refine ⟨x', ?_, ?_, ?_⟩
    · unfold fMo_keepsAside_L47
      rw [if_neg n1, if_pos i3, if_pos i3, e1, i4]
      exact k1
    · intro i h1 h2
      by_cases e : i = j.toNat
      · rw [k3 i (by omega), e, upd_s]
      · exact k2 i (by omega) h2
    · intro i hi
      rw [k3 i (by omega), upd_n _ _ (by omega)]
theorem row_2 : ∀ (d : Nat) (j : Int) (m : Nat), j = 406 - d → 0 ≤ j → d < m → ∀ x y : Nat → Int32, ∃ x' y', fMo_keepsAside_L2 m (iz j) x y = some (x', y') ∧ (∀ i : Nat, j ≤ i → i < 406 → x' i = y i ∧ y' i = x i) ∧ (∀ i : Nat, (i : Int) < j → x' i = x i ∧ y' i = y i) := by
  intro d
  induction d with
  | zero =>
    intro j m hj h0 hm x y
    obtain ⟨m, rfl⟩ : ∃ q, m = q + 1 := ⟨m - 1, by omega⟩
    have n1 : (406 : Int32) ≤ iz j := by rw [iz_n, iz_le (by omega) (by omega) (by omega) (by omega)]; omega
    refine ⟨x, y, ?_, fun i h1 h2 => by omega, fun _ _ => ⟨rfl, rfl⟩⟩
    unfold fMo_keepsAside_L2
    rw [if_pos n1]
  | succ d ih =>
    intro j m hj h0 hm x y
    obtain ⟨m, rfl⟩ : ∃ q, m = q + 1 := ⟨m - 1, by omega⟩
    have n1 : ¬ (406 : Int32) ≤ iz j := by rw [iz_n, iz_le (by omega) (by omega) (by omega) (by omega)]; omega
    have e1 : iz j + (1 : Int32) = iz (j + 1) := iz_add j 1
    have i3 : 0 ≤ (iz j).toInt ∧ (iz j).toInt < 406 := by rw [iz_t (by omega) (by omega)]; omega
    have i4 : (iz j).toNatClampNeg = j.toNat := iz_c (by omega) (by omega)
    obtain ⟨x', y', k1, k2, k3⟩ := ih (j + 1) m (by omega) (by omega) (by omega) (upd x j.toNat (y j.toNat)) (upd y j.toNat (x j.toNat))
    refine ⟨x', y', ?_, ?_, ?_⟩
    · unfold fMo_keepsAside_L2
      rw [if_neg n1, if_pos i3, if_pos i3, if_pos i3, if_pos i3, e1, i4]
      exact k1
    · intro i h1 h2
      by_cases e : i = j.toNat
      · rw [(k3 i (by omega)).1, (k3 i (by omega)).2, e, upd_s, upd_s]; exact ⟨rfl, rfl⟩
      · have := k2 i (by omega) h2
        rw [this.1, this.2, upd_n _ _ e, upd_n _ _ e]; exact ⟨rfl, rfl⟩
    · intro i hi
      rw [(k3 i (by omega)).1, (k3 i (by omega)).2, upd_n _ _ (by omega), upd_n _ _ (by omega)]; exact ⟨rfl, rfl⟩
theorem Kept_c {s : Int} {al al' pa pa' : Nat → Int32} (e : ∀ i, i < 406 → al' i = al i) (h : Kept s al' pa pa') : Kept s al pa pa' := by
  refine ⟨fun hs => ⟨(h.1 hs).1, fun i hi => ?_⟩, fun hs => ⟨(h.2 hs).1, fun i hi => ?_⟩⟩
  · rw [(h.1 hs).2 i hi, e i hi]
  · rw [(h.2 hs).2 i hi, e i hi]
/-! all orders, carried out -/
theorem orders_l {B : Nat → Int} {L : Nat} {mt : Nat → Int32} (hM : TXT B L mt) (le nu past aside : Nat → Int32) (states kind ck co : Int32) :
    ∀ (d i p : Nat) (al : Nat → Int32) (w n t a : Int32) (dots cells sx sy sp : Nat → Int32) (val nt : Int32) (nums : Nat → Int32) (m m' : Nat), RS al w n t a dots cells sx sy sp → OkA al → Tr B L le nu d i p → i + d ≤ 40 → d < m → d < m' →
    (∃ (q : Int) (k : Nat) (w' n' t' a' : Int32) (dots' cells' sx' sy' sp' al1 nums' : Nat → Int32) (pl' val' : Int32), (-4 ≤ q ∧ q ≤ -2) ∧ k < 40 ∧ fOr_carryOut_L2 (iz ((i + d : Nat) : Int)) le nu m (iz i) w n t a dots cells sx sy sp kind = some (.inl (iz k, w', n', t', a', dots', cells', sx', sy', sp', iz (-q))) ∧
      fMo_reads_L83 past aside states mt (iz L) m' (iz i) al ck co (iz p) val nums nt = some (.inl ((-1000 : Int32) - iz k, al1, past, aside, states, iz (-q), iz k, pl', val', nums', iz q)) ∧ (∀ j, j < 406 → al1 j = aside j)) ∨
    (∃ (w' n' t' a' : Int32) (dots' cells' sx' sy' sp' al' nums' : Nat → Int32) (pl' val' nt' : Int32), fOr_carryOut_L2 (iz ((i + d : Nat) : Int)) le nu m (iz i) w n t a dots cells sx sy sp kind = some (.inr (w', n', t', a', dots', cells', sx', sy', sp', kind)) ∧
      fMo_reads_L83 past aside states mt (iz L) m' (iz i) al ck co (iz p) val nums nt = some (.inr (iz ((i + d : Nat) : Int), al', ck, co, pl', val', nums', nt')) ∧ RS al' w' n' t' a' dots' cells' sx' sy' sp' ∧ OkA al') := by
  have hL := hM.1
  intro d
  induction d with
  | zero =>
    intro i p al w n t a dots cells sx sy sp val nt nums m m' h o hT hi hm hm'
    obtain ⟨m, rfl⟩ : ∃ q, m = q + 1 := ⟨m - 1, by omega⟩
    obtain ⟨m', rfl⟩ : ∃ q, m' = q + 1 := ⟨m' - 1, by omega⟩
    obtain ⟨es, hp⟩ := hT
    have hh := sMo_here hM hp
    have hb : HB B L (SK B L p) = -1 := if_neg (by omega)
    rw [hb] at hh
    refine .inr ⟨w, n, t, a, dots, cells, sx, sy, sp, al, nums, iz (SK B L p : Nat), val, nt, ?_, ?_, h, o⟩
    · unfold fOr_carryOut_L2
      rw [Nat.add_zero, if_pos (Int32.le_refl _)]
    · unfold fMo_reads_L83
      rw [hh]
      simp only [Option.bind_some]
      rw [if_pos (by decide)]
      rfl
  | succ d ih =>
    intro i p al w n t a dots cells sx sy sp val nt nums m m' h o hT hi hm hm'
    obtain ⟨m, rfl⟩ : ∃ q, m = q + 1 := ⟨m - 1, by omega⟩
    obtain ⟨m', rfl⟩ : ∃ q, m' = q + 1 := ⟨m' - 1, by omega⟩
    obtain ⟨hp, ok, hle, hnu, hT'⟩ := hT
    have hs := SK_r B hp
    obtain ⟨a1, a2, a3, a4, a5⟩ := ORo_t.mp ok
    have hh := sMo_here hM hp
    have hbb := (hM.2 _ a1).2
    have hb : HB B L (SK B L p) = B (SK B L p) := if_pos a1
    rw [hb] at hh
    have nm1 : ¬ iz (B (SK B L p)) = (-1 : Int32) := by rw [iz_n, iz_neg, iz_eq (by omega) (by omega) (by omega) (by omega)]; omega
    obtain ⟨o1, o2, o3, o4, o5⟩ := OR_sk B hp
    obtain ⟨val1, nums1, _, w2⟩ := sMo_order hM hs.2.1 1 al val nums nt
    rw [o1, o3, o4, o5] at w2
    obtain ⟨hM', ho⟩ := w2 ok
    rw [if_neg (by decide : ¬ (1 : Int32) = 0)] at ho
    have g1 : ¬ iz ((i + (d + 1) : Nat) : Int) ≤ iz i := by rw [iz_le (by omega) (by omega) (by omega) (by omega)]; omega
    have g2 : ¬ (40 : Int32) ≤ iz i := by rw [iz_n, iz_le (by omega) (by omega) (by omega) (by omega)]; omega
    have i1 : 0 ≤ (iz (i : Int)).toInt ∧ (iz (i : Int)).toInt < 40 := by rw [iz_t (by omega) (by omega)]; omega
    have i3 : (iz (i : Int)).toNatClampNeg = i := by rw [iz_c (by omega) (by omega)]; omega
    have e4 : iz (i : Int) * (4 : Int32) = iz ((4 * i : Nat) : Int) := by rw [iz_n, iz_mul]; exact iz_inj (by omega)
    have e1 : iz (i : Int) + (1 : Int32) = iz ((i + 1 : Nat) : Int) := by rw [iz_n, iz_add]; exact iz_inj (by omega)
    rcases ex_all h o (i := i) (by omega) a2 (nu := nu) (M := nums1) (fun j hj => by rw [hM' j hj, hnu j hj]) with ⟨q, hq, c1, c2⟩ | ⟨z, w', n', t', a', dots', cells', sx', sy', sp', al', hz, c1, c2, c3, r', o'⟩
    · obtain ⟨al1, k1, k2, _⟩ := row_106 aside 406 0 FU (by omega) (by omega) (by show _ < 5000; omega) al
      have nq : ¬ 0 ≤ iz q := by rw [show (0 : Int32) = iz 0 from iz_n 0, iz_le (by omega) (by omega) (by omega) (by omega)]; omega
      have nq0 : ¬ iz q = 0 := by rw [show (0 : Int32) = iz 0 from iz_n 0, iz_eq (by omega) (by omega) (by omega) (by omega)]; omega
      refine .inl ⟨q, i, w, n, t, a, dots, cells, sx, sy, sp, al1, nums1, iz ((ORq B L p + 1 : Nat) : Int), val1, hq, by omega, ?_, ?_, fun j hj => k2 j (by omega) hj⟩
      · unfold fOr_carryOut_L2
        rw [if_neg g1, if_neg g2, if_pos i1, i3, hle, e4, c1]
        simp only [Option.bind_some]
        rw [if_neg nq, iz_neg]
      · unfold fMo_reads_L83
        rw [hh]
        simp only [Option.bind_some]
        rw [if_neg nm1, ho, c2]
        simp only [Option.bind_some, if_neg nq0, if_neg nq]
        rw [iz_l0, k1]
        simp only [Option.bind_some, iz_neg]
    · have nz : 0 ≤ iz z := by rw [show (0 : Int32) = iz 0 from iz_n 0, iz_le (by omega) (by omega) (by omega) (by omega)]; omega
      have hc : ∀ X, fOr_carryOut_L2 (iz ((i + (d + 1) : Nat) : Int)) le nu m (iz ((i + 1 : Nat) : Int)) w' n' t' a' dots' cells' sx' sy' sp' kind = X → fOr_carryOut_L2 (iz ((i + (d + 1) : Nat) : Int)) le nu (m + 1) (iz i) w n t a dots cells sx sy sp kind = X := fun X hX => by
        unfold fOr_carryOut_L2
        rw [if_neg g1, if_neg g2, if_pos i1, i3, hle, e4, c1]
        simp only [Option.bind_some]
        rw [if_pos nz, e1]
        exact hX
      have hmm : ∀ X, fMo_reads_L83 past aside states mt (iz L) m' (iz ((i + 1 : Nat) : Int)) al' ck co (iz ((ORq B L p + 1 : Nat) : Int)) val1 nums1 0 = X → fMo_reads_L83 past aside states mt (iz L) (m' + 1) (iz i) al ck co (iz p) val nums nt = X := fun X hX => by
        unfold fMo_reads_L83
        rw [hh]
        simp only [Option.bind_some]
        rw [if_neg nm1, ho, c2]
        simp only [Option.bind_some, if_true]
        rw [c3]
        simp only [Option.bind_some]
        rw [if_pos (by decide), e1]
        exact hX
      rcases ih (i + 1) (ORq B L p + 1) al' w' n' t' a' dots' cells' sx' sy' sp' val1 0 nums1 m m' r' o' hT' (by omega) (by omega) (by omega) with ⟨q, k, w2', n2', t2', a2', d2', c2', x2', y2', p2', al1, nums', pl', val', b1, b2, b3, b4, b5⟩ | ⟨w2', n2', t2', a2', d2', c2', x2', y2', p2', al2, nums', pl', val', nt', b1, b2, b3, b4⟩
      · rw [show i + 1 + d = i + (d + 1) by omega] at b3
        exact .inl ⟨q, k, w2', n2', t2', a2', d2', c2', x2', y2', p2', al1, nums', pl', val', b1, b2, hc _ b3, hmm _ b4, b5⟩
      · rw [show i + 1 + d = i + (d + 1) by omega] at b1 b2
        exact .inr ⟨w2', n2', t2', a2', d2', c2', x2', y2', p2', al2, nums', pl', val', nt', hc _ b1, hmm _ b2, b3, b4⟩
