/-! bytes, why, told, back -/
def TX (L : Int) (tx mt : Nat → Int32) : Prop := ∀ j : Nat, (j : Int) < L → tx j = mt j ∧ 0 ≤ (tx j).toInt ∧ (tx j).toInt ≤ 127
theorem c_type {L : Int} (hL : 0 ≤ L ∧ L ≤ 120) {tx mt rf mr : Nat → Int32} (hX : TX L tx mt) (hR : RF rf mr) (jq : Int32) :
    ∃ (ans : Int32) (L' : Int) (tx' mt' rf1 mr1 : Nat → Int32), fRi_type jq (iz L) tx rf = some (ans, iz L', tx', rf1) ∧ fMo_type jq mr mt (iz L) = some (ans, mr1, mt', iz L') ∧ (0 ≤ L' ∧ L' ≤ 120) ∧ TX L' tx' mt' ∧ RF rf1 mr1 := by
  obtain ⟨iq, lq, uq, rfl⟩ := iz_of jq
  have pe := wi0_127 (z := iq) (by omega)
  have n1 : (iz L < 0) = False := eq_false (by rw [show (0 : Int32) = iz 0 from iz_n 0, iz_lt (by omega) (by omega) (by omega) (by omega)]; omega)
  have n2 : (iz L < (120 : Int32)) ↔ L < 120 := by rw [iz_n]; exact iz_lt (by omega) (by omega) (by omega) (by omega)
  have n3 : (iz L = (120 : Int32)) ↔ L = 120 := by rw [iz_n]; exact iz_eq (by omega) (by omega) (by omega) (by omega)
  by_cases qe : 0 ≤ iq ∧ iq ≤ 127
  · rw [bi10 qe] at pe
    obtain ⟨e1, e2⟩ := pe
    by_cases c : L < 120
    · have i1 : 0 ≤ (iz L).toInt ∧ (iz L).toInt < 120 := by rw [iz_t (by omega) (by omega)]; omega
      have i3 : (iz L).toNatClampNeg = L.toNat := iz_c (by omega) (by omega)
      have d1 := eq_true (n2.mpr c)
      have d2 : (iz L = (120 : Int32)) = False := eq_false (fun z => by have := n3.mp z; omega)
      refine ⟨iz (L + 1), L + 1, upd tx L.toNat (iz iq), upd mt L.toNat (iz iq), rf, mr, ?_, ?_, by omega, ?_, hR⟩
      · unfold fRi_type
        simp only [e1, n1, d1, if_pos i1, i3, Option.bind_some, c1e, c0e, if_true, if_false]
        rw [iz_n, iz_add]
      · unfold fMo_type
        simp only [e2, d2, if_pos i1, i3, Option.bind_some, c1e, c0e, if_true, if_false]
        rw [iz_n, iz_add]
      · intro j hj
        by_cases e : j = L.toNat
        · rw [e, upd_s, upd_s, iz_t (by omega) (by omega)]; exact ⟨rfl, by omega, by omega⟩
        · rw [upd_n _ _ e, upd_n _ _ e]; exact hX j (by omega)
    · have d1 := eq_false (fun z => c (n2.mp z))
      have d2 := eq_true (n3.mpr (show L = 120 by omega))
      refine ⟨iz (-4), L, tx, mt, ref rf (-4), ref mr (-4), ?_, ?_, hL, hX, RF_ref hR (by omega)⟩
      · unfold fRi_type
        simp only [e1, n1, d1, rfC4, Option.bind_some, c1e, c0e, if_true, if_false]
      · unfold fMo_type
        simp only [e2, d2, rfM4, Option.bind_some, c1e, c0e, if_true, if_false]
  · rw [bi11 qe] at pe
    obtain ⟨e1, e2⟩ := pe
    refine ⟨iz (-2), L, tx, mt, ref rf (-2), ref mr (-2), ?_, ?_, hL, hX, RF_ref hR (by omega)⟩
    · unfold fRi_type
      simp only [e1, rfC2, Option.bind_some, c1e, c0e, if_true, if_false]
    · unfold fMo_type
      simp only [e2, rfM2, Option.bind_some, c1e, c0e, if_true, if_false]
theorem c_why {rf mr : Nat → Int32} (hR : RF rf mr) (ck co jq : Int32) :
    ∃ (ans : Int32) (rf1 mr1 : Nat → Int32), fRi_why jq ck co rf = some (ans, rf1) ∧ fMo_why jq mr ck co = some (ans, mr1) ∧ RF rf1 mr1 := by
  obtain ⟨iq, lq, uq, rfl⟩ := iz_of jq
  have pe := wi0_1 (z := iq) (by omega)
  have hq0 : (iz iq = (0 : Int32)) = (iq = 0) := by rw [iz_l0]; exact propext (iz_eq (by omega) (by omega) (by omega) (by omega))
  by_cases qe : 0 ≤ iq ∧ iq ≤ 1
  · rw [bi10 qe] at pe
    obtain ⟨e1, e2⟩ := pe
    by_cases c0 : iq = 0
    · have d0 := hq0.trans (eq_true c0)
      refine ⟨ck, rf, mr, ?_, ?_, hR⟩
      · unfold fRi_why
        simp only [e1, d0, Option.bind_some, c1e, c0e, if_true, if_false]
      · unfold fMo_why
        simp only [e2, d0, Option.bind_some, c1e, c0e, if_true, if_false]
    · have d0 := hq0.trans (eq_false c0)
      refine ⟨co, rf, mr, ?_, ?_, hR⟩
      · unfold fRi_why
        simp only [e1, d0, Option.bind_some, c1e, c0e, if_true, if_false]
      · unfold fMo_why
        simp only [e2, d0, Option.bind_some, c1e, c0e, if_true, if_false]
  · rw [bi11 qe] at pe
    obtain ⟨e1, e2⟩ := pe
    refine ⟨(-10 : Int32), ref rf (-2), ref mr (-2), ?_, ?_, RF_ref hR (by omega)⟩
    · unfold fRi_why
      simp only [e1, rfC2, Option.bind_some, c1e, c0e, if_true, if_false]
    · unfold fMo_why
      simp only [e2, bump, if_pos z03, Option.bind_some, c1e, c0e, if_true, if_false]
/-- what told answers -/
def TD (al rf : Nat → Int32) (L s q : Int) : Int32 := if q = 3 then iz L else if q = 4 then iz (WW al) else if q = 5 then iz (NN al) else if q = 6 then iz (TT al) else if q = 7 then iz (AA al) else if q = 8 then iz s else rf q.toNat
theorem told_s {al : Nat → Int32} {w n t a : Int32} {dots cells sx sy sp : Nat → Int32} (h : RS al w n t a dots cells sx sy sp) (o : OkA al) {rf mr : Nat → Int32} (hR : RF rf mr) {L s q : Int} (hq : 0 ≤ q ∧ q ≤ 8) :
    fRi_aboutObject (iz q) (iz L) w n t a (iz s) rf = some (TD al rf L s q) ∧ fMo_toldOf (iz q) al (iz s) mr (iz L) = some (TD al rf L s q) := by
  have on := o.n
  have hk : ∀ k : Int, 0 ≤ k ∧ k ≤ 8 → ((iz q = iz k) ↔ q = k) := fun k hk => iz_eq (by omega) (by omega) (by omega) (by omega)
  have k0 := hk 0 (by omega)
  have k1 := hk 1 (by omega)
  have k2 := hk 2 (by omega)
  have k3 := hk 3 (by omega)
  have k4 := hk 4 (by omega)
  have k5 := hk 5 (by omega)
  have k6 := hk 6 (by omega)
  have k7 := hk 7 (by omega)
  have k8 := hk 8 (by omega)
  have hw := h.iw
  have hn := h.iN
  have ht := h.it
  have ha := h.ia
  have w0 : 0 ≤ (0 : Int32).toInt ∧ (0 : Int32).toInt < 406 := by decide
  have w1 : 0 ≤ (1 : Int32).toInt ∧ (1 : Int32).toInt < 406 := by decide
  have w2 : 0 ≤ (2 : Int32).toInt ∧ (2 : Int32).toInt < 406 := by decide
  have r0 : 0 ≤ (0 : Int32).toInt ∧ (0 : Int32).toInt < 3 := by decide
  have r1 : 0 ≤ (1 : Int32).toInt ∧ (1 : Int32).toInt < 3 := by decide
  have r2 : 0 ≤ (2 : Int32).toInt ∧ (2 : Int32).toInt < 3 := by decide
  have c0 : (0 : Int32).toNatClampNeg = 0 := by decide
  have c1 : (1 : Int32).toNatClampNeg = 1 := by decide
  have c2 : (2 : Int32).toNatClampNeg = 2 := by decide
  have g0 : al 0 = iz (WW al) := iz_self _
  have g1 : al 1 = iz (TT al) := iz_self _
  have g2 : al 2 = iz (AA al) := iz_self _
  have i1 : q ≤ 2 → 0 ≤ (iz q).toInt ∧ (iz q).toInt < 3 := fun z => by rw [iz_t (by omega) (by omega)]; omega
  have i3 : (iz q).toNatClampNeg = q.toNat := iz_c (by omega) (by omega)
  unfold fRi_aboutObject fMo_toldOf TD
  rw [show (3 : Int32) = iz 3 from iz_n 3, show (4 : Int32) = iz 4 from iz_n 4, show (5 : Int32) = iz 5 from iz_n 5, show (6 : Int32) = iz 6 from iz_n 6, show (7 : Int32) = iz 7 from iz_n 7, show (8 : Int32) = iz 8 from iz_n 8]
  rw [if_pos w0, if_pos w1, if_pos w2, if_pos r0, if_pos r1, if_pos r2, c0, c1, c2, sMo_many, g0, g1, g2, hw, hn, ht, ha]
  have z0 : (iz q = (0 : Int32)) ↔ q = 0 := by rw [iz_l0]; exact k0
  have z1 : (iz q = (1 : Int32)) ↔ q = 1 := by rw [show (1 : Int32) = iz 1 from iz_n 1]; exact k1
  have z2 : (iz q = (2 : Int32)) ↔ q = 2 := by rw [show (2 : Int32) = iz 2 from iz_n 2]; exact k2
  have hc : q = 0 ∨ q = 1 ∨ q = 2 ∨ q = 3 ∨ q = 4 ∨ q = 5 ∨ q = 6 ∨ q = 7 ∨ q = 8 := by omega
  rcases hc with e | e | e | e | e | e | e | e | e
  · constructor
    · rw [if_pos (z0.mpr e), if_neg (by omega), if_neg (by omega), if_neg (by omega), if_neg (by omega), if_neg (by omega), if_neg (by omega), e]; rfl
    · rw [if_neg (fun z => by have := k3.mp z; omega), if_neg (fun z => by have := k4.mp z; omega), if_neg (fun z => by have := k5.mp z; omega), if_neg (fun z => by have := k6.mp z; omega), if_neg (fun z => by have := k7.mp z; omega), if_neg (fun z => by have := k8.mp z; omega), if_pos (i1 (by omega)), i3, if_neg (by omega), if_neg (by omega), if_neg (by omega), if_neg (by omega), if_neg (by omega), if_neg (by omega), hR _ (by omega)]
  · constructor
    · rw [if_neg (fun z => by have := z0.mp z; omega), if_pos (z1.mpr e), if_neg (by omega), if_neg (by omega), if_neg (by omega), if_neg (by omega), if_neg (by omega), if_neg (by omega), e]; rfl
    · rw [if_neg (fun z => by have := k3.mp z; omega), if_neg (fun z => by have := k4.mp z; omega), if_neg (fun z => by have := k5.mp z; omega), if_neg (fun z => by have := k6.mp z; omega), if_neg (fun z => by have := k7.mp z; omega), if_neg (fun z => by have := k8.mp z; omega), if_pos (i1 (by omega)), i3, if_neg (by omega), if_neg (by omega), if_neg (by omega), if_neg (by omega), if_neg (by omega), if_neg (by omega), hR _ (by omega)]
  · constructor
    · rw [if_neg (fun z => by have := z0.mp z; omega), if_neg (fun z => by have := z1.mp z; omega), if_pos (z2.mpr e), if_neg (by omega), if_neg (by omega), if_neg (by omega), if_neg (by omega), if_neg (by omega), if_neg (by omega), e]; rfl
    · rw [if_neg (fun z => by have := k3.mp z; omega), if_neg (fun z => by have := k4.mp z; omega), if_neg (fun z => by have := k5.mp z; omega), if_neg (fun z => by have := k6.mp z; omega), if_neg (fun z => by have := k7.mp z; omega), if_neg (fun z => by have := k8.mp z; omega), if_pos (i1 (by omega)), i3, if_neg (by omega), if_neg (by omega), if_neg (by omega), if_neg (by omega), if_neg (by omega), if_neg (by omega), hR _ (by omega)]
  · constructor
    · rw [if_neg (fun z => by have := z0.mp z; omega), if_neg (fun z => by have := z1.mp z; omega), if_neg (fun z => by have := z2.mp z; omega), if_pos (k3.mpr e), if_pos e]
    · rw [if_pos (k3.mpr e), if_pos e]
  · constructor
    · rw [if_neg (fun z => by have := z0.mp z; omega), if_neg (fun z => by have := z1.mp z; omega), if_neg (fun z => by have := z2.mp z; omega), if_neg (fun z => by have := k3.mp z; omega), if_pos (k4.mpr e), if_neg (by omega), if_pos e]
    · rw [if_neg (fun z => by have := k3.mp z; omega), if_pos (k4.mpr e), if_neg (by omega), if_pos e]
  · constructor
    · rw [if_neg (fun z => by have := z0.mp z; omega), if_neg (fun z => by have := z1.mp z; omega), if_neg (fun z => by have := z2.mp z; omega), if_neg (fun z => by have := k3.mp z; omega), if_neg (fun z => by have := k4.mp z; omega), if_pos (k5.mpr e), if_neg (by omega), if_neg (by omega), if_pos e]
    · rw [if_neg (fun z => by have := k3.mp z; omega), if_neg (fun z => by have := k4.mp z; omega), if_pos (k5.mpr e), if_neg (by omega), if_neg (by omega), if_pos e]; rfl
  · constructor
    · rw [if_neg (fun z => by have := z0.mp z; omega), if_neg (fun z => by have := z1.mp z; omega), if_neg (fun z => by have := z2.mp z; omega), if_neg (fun z => by have := k3.mp z; omega), if_neg (fun z => by have := k4.mp z; omega), if_neg (fun z => by have := k5.mp z; omega), if_pos (k6.mpr e), if_neg (by omega), if_neg (by omega), if_neg (by omega), if_pos e]
    · rw [if_neg (fun z => by have := k3.mp z; omega), if_neg (fun z => by have := k4.mp z; omega), if_neg (fun z => by have := k5.mp z; omega), if_pos (k6.mpr e), if_neg (by omega), if_neg (by omega), if_neg (by omega), if_pos e]
  · constructor
    · rw [if_neg (fun z => by have := z0.mp z; omega), if_neg (fun z => by have := z1.mp z; omega), if_neg (fun z => by have := z2.mp z; omega), if_neg (fun z => by have := k3.mp z; omega), if_neg (fun z => by have := k4.mp z; omega), if_neg (fun z => by have := k5.mp z; omega), if_neg (fun z => by have := k6.mp z; omega), if_pos (k7.mpr e), if_neg (by omega), if_neg (by omega), if_neg (by omega), if_neg (by omega), if_pos e]
    · rw [if_neg (fun z => by have := k3.mp z; omega), if_neg (fun z => by have := k4.mp z; omega), if_neg (fun z => by have := k5.mp z; omega), if_neg (fun z => by have := k6.mp z; omega), if_pos (k7.mpr e), if_neg (by omega), if_neg (by omega), if_neg (by omega), if_neg (by omega), if_pos e]
  · constructor
    · rw [if_neg (fun z => by have := z0.mp z; omega), if_neg (fun z => by have := z1.mp z; omega), if_neg (fun z => by have := z2.mp z; omega), if_neg (fun z => by have := k3.mp z; omega), if_neg (fun z => by have := k4.mp z; omega), if_neg (fun z => by have := k5.mp z; omega), if_neg (fun z => by have := k6.mp z; omega), if_neg (fun z => by have := k7.mp z; omega), if_neg (by omega), if_neg (by omega), if_neg (by omega), if_neg (by omega), if_neg (by omega), if_pos e]
    · rw [if_neg (fun z => by have := k3.mp z; omega), if_neg (fun z => by have := k4.mp z; omega), if_neg (fun z => by have := k5.mp z; omega), if_neg (fun z => by have := k6.mp z; omega), if_neg (fun z => by have := k7.mp z; omega), if_pos (k8.mpr e), if_neg (by omega), if_neg (by omega), if_neg (by omega), if_neg (by omega), if_neg (by omega), if_pos e]
theorem c_told {al : Nat → Int32} {w n t a : Int32} {dots cells sx sy sp : Nat → Int32} (h : RS al w n t a dots cells sx sy sp) (o : OkA al) {rf mr : Nat → Int32} (hR : RF rf mr) (L s : Int) (jq : Int32) :
    ∃ (ans : Int32) (rf1 mr1 : Nat → Int32), fRi_told jq (iz L) w n t a (iz s) rf = some (ans, rf1) ∧ fMo_told jq al (iz s) mr (iz L) = some (ans, mr1) ∧ RF rf1 mr1 := by
  obtain ⟨iq, lq, uq, rfl⟩ := iz_of jq
  have pe := wi0_8 (z := iq) (by omega)
  by_cases qe : 0 ≤ iq ∧ iq ≤ 8
  · rw [bi10 qe] at pe
    obtain ⟨e1, e2⟩ := pe
    obtain ⟨t1, t2⟩ := told_s h o hR (L := L) (s := s) qe
    refine ⟨TD al rf L s iq, rf, mr, ?_, ?_, hR⟩
    · unfold fRi_told
      simp only [e1, t1, Option.bind_some, c1e, c0e, if_true, if_false]
    · unfold fMo_told
      simp only [e2, t2, Option.bind_some, c1e, c0e, if_true, if_false]
  · rw [bi11 qe] at pe
    obtain ⟨e1, e2⟩ := pe
    refine ⟨iz (-2), ref rf (-2), ref mr (-2), ?_, ?_, RF_ref hR (by omega)⟩
    · unfold fRi_told
      simp only [e1, rfC2, Option.bind_some, c1e, c0e, if_true, if_false]
    · unfold fMo_told
      simp only [e2, rfM2, Option.bind_some, c1e, c0e, if_true, if_false]
theorem back_26 {s : Int} (hs : 0 ≤ s ∧ s ≤ 4) (pa : Nat → Int32) : ∀ (d : Nat) (j : Int) (m : Nat), j = 406 - d → 0 ≤ j → d < m → ∀ al : Nat → Int32, ∃ al', fMo_back_L26 pa (iz s) m (iz j) al = some al' ∧
    (∀ i : Nat, j ≤ i → i < 406 → al' i = pa (406 * s.toNat + i)) ∧ (∀ i : Nat, (i : Int) < j → al' i = al i) := by
  intro d
  induction d with
  | zero =>
    intro j m hj h0 hm al
    obtain ⟨m, rfl⟩ : ∃ q, m = q + 1 := ⟨m - 1, by omega⟩
    have n1 : (406 : Int32) ≤ iz j := by rw [iz_n, iz_le (by omega) (by omega) (by omega) (by omega)]; omega
    refine ⟨al, ?_, fun i h1 h2 => by omega, fun _ _ => rfl⟩
    unfold fMo_back_L26
    rw [if_pos n1]
  | succ d ih =>
    intro j m hj h0 hm al
    obtain ⟨m, rfl⟩ : ∃ q, m = q + 1 := ⟨m - 1, by omega⟩
    have n1 : ¬ (406 : Int32) ≤ iz j := by rw [iz_n, iz_le (by omega) (by omega) (by omega) (by omega)]; omega
    have e1 : iz j + (1 : Int32) = iz (j + 1) := iz_add j 1
    have e2 : (406 : Int32) * iz s + iz j = iz (406 * s + j) := by rw [iz_n, iz_mul, iz_add]
    have i1 : 0 ≤ (iz (406 * s + j)).toInt ∧ (iz (406 * s + j)).toInt < 2030 := by rw [iz_t (by omega) (by omega)]; omega
    have i2 : (iz (406 * s + j)).toNatClampNeg = (406 * s + j).toNat := iz_c (by omega) (by omega)
    have i3 : 0 ≤ (iz j).toInt ∧ (iz j).toInt < 406 := by rw [iz_t (by omega) (by omega)]; omega
    have i4 : (iz j).toNatClampNeg = j.toNat := iz_c (by omega) (by omega)
    obtain ⟨al', k1, k2, k3⟩ := ih (j + 1) m (by omega) (by omega) (by omega) (upd al j.toNat (pa (406 * s + j).toNat))
    refine ⟨al', ?_, ?_, ?_⟩
    · unfold fMo_back_L26
      rw [if_neg n1, e2, if_pos i1, if_pos i3, i2, i4, e1]
      exact k1
    · intro i h1 h2
      by_cases e : i = j.toNat
      · rw [e, k3 _ (by omega), upd_s]
        exact congrArg pa (by omega)
      · exact k2 i (by omega) h2
    · intro i hi
      rw [k3 i (by omega), upd_n _ _ (by omega)]
theorem c_back {al : Nat → Int32} {w n t a : Int32} {dots cells sx sy sp : Nat → Int32} (h : RS al w n t a dots cells sx sy sp) (o : OkA al) {w2 n2 t2 a2 : Int32} {d2 c2 x2 y2 p2 : Nat → Int32} {s : Int} (hs : 0 ≤ s ∧ s ≤ 5) {pa rf mr : Nat → Int32} (hR : RF rf mr)
    (hb : 0 < s → RS (fun i => pa (406 * (s - 1).toNat + i)) w2 n2 t2 a2 d2 c2 x2 y2 p2 ∧ OkA (fun i => pa (406 * (s - 1).toNat + i))) (fr : Int32) :
    ∃ (ans fr1 w' n' t' a' : Int32) (dots' cells' sx' sy' sp' : Nat → Int32) (s' : Int) (rf1 al1 mr1 : Nat → Int32),
      fRi_back fr w n t a dots cells sx sy sp w2 n2 t2 a2 d2 c2 x2 y2 p2 (iz s) rf = some (ans, fr1, w', n', t', a', dots', cells', sx', sy', sp', iz s', rf1) ∧
      fMo_back al pa (iz s) mr = some (ans, al1, iz s', mr1) ∧ RS al1 w' n' t' a' dots' cells' sx' sy' sp' ∧ OkA al1 ∧ RF rf1 mr1 ∧ ((s' = s ∧ fr1 = fr ∧ al1 = al) ∨ (fr1 = 0 ∧ s' = s - 1 ∧ 0 < s)) := by
  have n0 : (iz s = (0 : Int32)) ↔ s = 0 := by rw [iz_l0]; exact iz_eq (by omega) (by omega) (by omega) (by omega)
  by_cases c : s = 0
  · refine ⟨iz (-3), fr, w, n, t, a, dots, cells, sx, sy, sp, s, ref rf (-3), al, ref mr (-3), ?_, ?_, h, o, RF_ref hR (by omega), .inl ⟨rfl, rfl, rfl⟩⟩
    · unfold fRi_back
      rw [if_pos (n0.mpr c), rfC3]
      rfl
    · unfold fMo_back
      rw [if_pos (n0.mpr c), rfM3]
      rfl
  · obtain ⟨h2, o2⟩ := hb (by omega)
    obtain ⟨d', c', x', y', p', e, r⟩ := copy_s h2 w n t a dots cells sx sy sp
    obtain ⟨al', k1, k2, k3⟩ := back_26 (s := s - 1) (by omega) pa 406 0 FU (by omega) (by omega) (by show _ < 5000; omega) al
    have e1 : iz s - (1 : Int32) = iz (s - 1) := iz_sub s 1
    have m1 : ¬ iz s ≤ 0 := by rw [show (0 : Int32) = iz 0 from iz_n 0, iz_le (by omega) (by omega) (by omega) (by omega)]; omega
    have m2 : ¬ (5 : Int32) < iz s := by rw [iz_n, iz_lt (by omega) (by omega) (by omega) (by omega)]; omega
    have i1 : 0 ≤ (iz (s - 1)).toInt ∧ (iz (s - 1)).toInt < 5 := by rw [iz_t (by omega) (by omega)]; omega
    have hx : ∀ j, j < 406 → al' j = (fun i => pa (406 * (s - 1).toNat + i)) j := fun j hj => k2 j (by omega) hj
    refine ⟨iz (s - 1), 0, w2, n2, t2, a2, d', c', x', y', p', s - 1, rf, al', mr, ?_, ?_, RS_ext hx r, OkA_ext hx o2, hR, .inr ⟨rfl, rfl, by omega⟩⟩
    · unfold fRi_back fHi_goBack
      rw [if_neg (fun z => c (n0.mp z)), if_neg m1, if_neg m2, e1, if_pos i1, e]
      rfl
    · unfold fMo_back
      rw [if_neg (fun z => c (n0.mp z)), e1, show (0 : Int32) = iz 0 from iz_n 0, k1]
      rfl
