/-! changes and corners -/
def ab (z : Int) : Int := if 0 ≤ z then z else -z
theorem ab_le {z : Int} (h : -63 ≤ z ∧ z ≤ 63) : 0 ≤ ab z ∧ ab z ≤ 63 := by unfold ab; split <;> omega
theorem sMo_ab {z : Int} (h : -2147483648 ≤ z ∧ z ≤ 2147483647) : fMo_abs (iz z) = some (iz (ab z)) := sMo_abs h
theorem cabs {z : Int} (h : -1000000 ≤ z ∧ z ≤ 1000000) : (if (0 : Int32) ≤ iz z then iz z else (0 : Int32) - iz z) = iz (ab z) := by
  unfold ab
  simp (disch := omega) only [iz_n, iz_neg, iz_add, iz_sub, iz_mul, iz_lt, iz_le, iz_eq, iz_t, iz_c]
  split
  · rfl
  · exact iz_inj (by omega)
theorem cabs' {z : Int} (h : -1000000 ≤ z ∧ z ≤ 1000000) : (if iz 0 ≤ iz z then iz z else iz 0 - iz z) = iz (ab z) := cabs h
def PR (al : Nat → Int32) (k r c e f : Int) : Int := ab (CE al k r c - CE al k (r - e) (c - f)) + ab (CE al k r c - CE al k (r + e) (c + f))
def mn (a b : Int) : Int := if b < a then b else a
theorem mn_r {a b : Int} (ha : 0 ≤ a ∧ a ≤ 126) (hb : 0 ≤ b ∧ b ≤ 126) : 0 ≤ mn a b ∧ mn a b ≤ 126 := by unfold mn; split <;> omega
def CG (al : Nat → Int32) (k r c : Int) : Int := mn (mn (mn (PR al k r c 0 1) (PR al k r c 1 0)) (PR al k r c 1 1)) (PR al k r c 1 (-1))
theorem PR_r {al : Nat → Int32} (o : OkA al) {k r c e f : Int} (hk : 0 ≤ k ∧ k < 6) (hr : 1 ≤ r ∧ r ≤ 2) (hc : 1 ≤ c ∧ c ≤ 6) (he : 0 ≤ e ∧ e ≤ 1) (hf : -1 ≤ f ∧ f ≤ 1) : 0 ≤ PR al k r c e f ∧ PR al k r c e f ≤ 126 := by
  have h0 := o.ce hk (r := r) (c := c) (by omega) (by omega)
  have h1 := o.ce hk (r := r - e) (c := c - f) (by omega) (by omega)
  have h2 := o.ce hk (r := r + e) (c := c + f) (by omega) (by omega)
  have h3 := ab_le (z := CE al k r c - CE al k (r - e) (c - f)) (by omega)
  have h4 := ab_le (z := CE al k r c - CE al k (r + e) (c + f)) (by omega)
  unfold PR
  omega
theorem CG_r {al : Nat → Int32} (o : OkA al) {k r c : Int} (hk : 0 ≤ k ∧ k < 6) (hr : 1 ≤ r ∧ r ≤ 2) (hc : 1 ≤ c ∧ c ≤ 6) : 0 ≤ CG al k r c ∧ CG al k r c ≤ 126 :=
  mn_r (mn_r (mn_r (PR_r o hk hr hc (by omega) (by omega)) (PR_r o hk hr hc (by omega) (by omega))) (PR_r o hk hr hc (by omega) (by omega))) (PR_r o hk hr hc (by omega) (by omega))
theorem sLi_changeAlong {al : Nat → Int32} {w n t a : Int32} {dots cells sx sy sp : Nat → Int32} (h : RS al w n t a dots cells sx sy sp) (o : OkA al) {k r c e f : Int} (hk : 0 ≤ k ∧ k < NN al) (hr : 1 ≤ r ∧ r ≤ 2) (hc : 1 ≤ c ∧ c ≤ 6) (he : 0 ≤ e ∧ e ≤ 1) (hf : -1 ≤ f ∧ f ≤ 1) :
    fLi_changeAlong (iz k) (iz r) (iz c) (iz e) (iz f) n cells = some (iz (PR al k r c e f)) := by
  have on := o.n
  have h0 := o.ce (k := k) (by omega) (r := r) (c := c) (by omega) (by omega)
  have h1 := o.ce (k := k) (by omega) (r := r - e) (c := c - f) (by omega) (by omega)
  have h2 := o.ce (k := k) (by omega) (r := r + e) (c := c + f) (by omega) (by omega)
  unfold fLi_changeAlong PR
  rw [iz_sub, iz_sub, iz_add, iz_add, sSc_cellAt h on hk (by omega) (by omega), sSc_cellAt h on hk (by omega) (by omega), sSc_cellAt h on hk (by omega) (by omega)]
  simp only [Option.bind_some, iz_sub]
  rw [cabs (by omega), cabs (by omega), iz_add]
theorem sMo_pair {al : Nat → Int32} (o : OkA al) {k r c e f : Int} (hk : 0 ≤ k ∧ k < NN al) (hr : 1 ≤ r ∧ r ≤ 2) (hc : 1 ≤ c ∧ c ≤ 6) (he : 0 ≤ e ∧ e ≤ 1) (hf : -1 ≤ f ∧ f ≤ 1) :
    fMo_pair (iz k) (iz r) (iz c) (iz e) (iz f) al = some (iz (PR al k r c e f)) := by
  have on := o.n
  have h0 := o.ce (k := k) (by omega) (r := r) (c := c) (by omega) (by omega)
  have h1 := o.ce (k := k) (by omega) (r := r - e) (c := c - f) (by omega) (by omega)
  have h2 := o.ce (k := k) (by omega) (r := r + e) (c := c + f) (by omega) (by omega)
  unfold fMo_pair PR
  rw [iz_sub, iz_sub, iz_add, iz_add, sMo_at (by omega) (by omega) (by omega), sMo_at (by omega) (by omega) (by omega), sMo_at (by omega) (by omega) (by omega)]
  simp only [Option.bind_some, iz_sub]
  rw [sMo_ab (by omega), sMo_ab (by omega)]
  simp only [Option.bind_some, iz_add]
  rw [Int.add_comm]
theorem cmin {a b : Int} (ha : 0 ≤ a ∧ a ≤ 126) (hb : 0 ≤ b ∧ b ≤ 126) : (if iz b < iz a then iz b else iz a) = iz (mn a b) := by
  unfold mn
  simp (disch := omega) only [iz_n, iz_neg, iz_add, iz_sub, iz_mul, iz_lt, iz_le, iz_eq, iz_t, iz_c]
  split <;> rfl
theorem mmin {a b : Int} (ha : 0 ≤ a ∧ a ≤ 126) (hb : 0 ≤ b ∧ b ≤ 126) : (if iz a ≤ iz b then some (iz a) else some (iz b)) = some (iz (mn a b)) := by
  unfold mn
  simp (disch := omega) only [iz_n, iz_neg, iz_add, iz_sub, iz_mul, iz_lt, iz_le, iz_eq, iz_t, iz_c]
  by_cases e : b < a
  · rw [if_neg (by omega), if_pos e]
  · rw [if_pos (by omega), if_neg e]
theorem sLi_changeAt {al : Nat → Int32} {w n t a : Int32} {dots cells sx sy sp : Nat → Int32} (h : RS al w n t a dots cells sx sy sp) (o : OkA al) {k r c : Int} (hk : 0 ≤ k ∧ k < NN al) (hr : 1 ≤ r ∧ r ≤ 2) (hc : 1 ≤ c ∧ c ≤ 6) :
    fLi_changeAt (iz k) (iz r) (iz c) n cells = some (iz (CG al k r c)) := by
  have on := o.n
  have hk6 : 0 ≤ k ∧ k < 6 := by omega
  have p1 := PR_r o hk6 hr hc (e := 0) (f := 1) (by omega) (by omega)
  have p2 := PR_r o hk6 hr hc (e := 1) (f := 0) (by omega) (by omega)
  have p3 := PR_r o hk6 hr hc (e := 1) (f := 1) (by omega) (by omega)
  have p4 := PR_r o hk6 hr hc (e := 1) (f := -1) (by omega) (by omega)
  unfold fLi_changeAt
  simp only [iz_n, iz_neg]
  rw [sLi_changeAlong h o hk hr hc (by omega) (by omega), sLi_changeAlong h o hk hr hc (by omega) (by omega), sLi_changeAlong h o hk hr hc (by omega) (by omega), sLi_changeAlong h o hk hr hc (by omega) (by omega)]
  simp only [Option.bind_some]
  rw [cmin p1 p2, cmin (mn_r p1 p2) p3, cmin (mn_r (mn_r p1 p2) p3) p4]
  rfl
theorem sMo_changeNow {al : Nat → Int32} (o : OkA al) {k r c : Int} (hk : 0 ≤ k ∧ k < NN al) (hr : 1 ≤ r ∧ r ≤ 2) (hc : 1 ≤ c ∧ c ≤ 6) :
    fMo_changeNow (iz k) (iz r) (iz c) al = some (iz (CG al k r c)) := by
  have on := o.n
  have hk6 : 0 ≤ k ∧ k < 6 := by omega
  have p1 := PR_r o hk6 hr hc (e := 0) (f := 1) (by omega) (by omega)
  have p2 := PR_r o hk6 hr hc (e := 1) (f := 0) (by omega) (by omega)
  have p3 := PR_r o hk6 hr hc (e := 1) (f := 1) (by omega) (by omega)
  have p4 := PR_r o hk6 hr hc (e := 1) (f := -1) (by omega) (by omega)
  unfold fMo_changeNow
  simp only [iz_n, iz_neg]
  rw [sMo_pair o hk hr hc (by omega) (by omega), sMo_pair o hk hr hc (by omega) (by omega), sMo_pair o hk hr hc (by omega) (by omega), sMo_pair o hk hr hc (by omega) (by omega)]
  simp only [Option.bind_some]
  rw [mmin p1 p2]
  simp only [Option.bind_some]
  rw [mmin (mn_r p1 p2) p3]
  simp only [Option.bind_some]
  rw [mmin (mn_r (mn_r p1 p2) p3) p4]
  rfl
theorem c_change {al : Nat → Int32} {w n t a : Int32} {dots cells sx sy sp : Nat → Int32} (h : RS al w n t a dots cells sx sy sp) (o : OkA al) {rf mr : Nat → Int32} (hR : RF rf mr) (jk jr jc : Int32) :
    ∃ (ans : Int32) (rf1 mr1 : Nat → Int32), fRi_change jk jr jc n cells rf = some (ans, rf1) ∧ fMo_change jk jr jc al mr = some (ans, mr1) ∧ RF rf1 mr1 := by
  have on := o.n
  have en := h.iN
  obtain ⟨ik, lk, uk, rfl⟩ := iz_of jk
  obtain ⟨ir, lr, ur, rfl⟩ := iz_of jr
  obtain ⟨ic, lc, uc, rfl⟩ := iz_of jc
  by_cases h1 : 0 ≤ ik ∧ ik < NN al
  · by_cases h2 : 1 ≤ ir ∧ ir ≤ 2 ∧ 1 ≤ ic ∧ ic ≤ 6
    · refine ⟨iz (CG al ik ir ic), rf, mr, ?_, ?_, hR⟩
      · unfold fRi_change
        rw [sLi_changeAt h o h1 (by omega) (by omega), en, sSc_hasPicture (by omega) (by omega), sRi_isInner (by omega) (by omega)]
        simp (disch := omega) only [iz_n, iz_neg, iz_add, iz_sub, iz_mul, iz_lt, iz_le, iz_eq, iz_t, iz_c, Option.bind_some, bi0, bi1, bi01, bi10, bi11, if_pos, if_neg, if_true, if_false, ite_not, ite_bi]
      · unfold fMo_change
        rw [sMo_isPicture o (by omega), sMo_isInner (by omega) (by omega), sMo_changeNow o h1 (by omega) (by omega)]
        simp (disch := omega) only [iz_n, iz_neg, iz_add, iz_sub, iz_mul, iz_lt, iz_le, iz_eq, iz_t, iz_c, Option.bind_some, bi0, bi1, bi01, bi10, bi11, if_pos, if_neg, if_true, if_false, ite_not, ite_bi]
    · refine ⟨iz (-2), ref rf (-2), ref mr (-2), ?_, ?_, RF_ref hR (by omega)⟩
      · unfold fRi_change
        rw [en, sSc_hasPicture (by omega) (by omega), sRi_isInner (by omega) (by omega)]
        simp (disch := omega) only [iz_n, iz_neg, iz_add, iz_sub, iz_mul, iz_lt, iz_le, iz_eq, iz_t, iz_c, sRi_refuse, Option.bind_some, bi0, bi1, bi01, bi10, bi11, if_pos, if_neg, if_true, if_false, ite_not, ite_bi]
      · unfold fMo_change
        rw [sMo_isPicture o (by omega), sMo_isInner (by omega) (by omega)]
        simp (disch := omega) only [iz_n, iz_neg, iz_add, iz_sub, iz_mul, iz_lt, iz_le, iz_eq, iz_t, iz_c, sMo_refuses, Option.bind_some, bi0, bi1, bi01, bi10, bi11, if_pos, if_neg, if_true, if_false, ite_not, ite_bi]
  · refine ⟨iz (-2), ref rf (-2), ref mr (-2), ?_, ?_, RF_ref hR (by omega)⟩
    · unfold fRi_change
      rw [en, sSc_hasPicture (by omega) (by omega)]
      simp (disch := omega) only [iz_n, iz_neg, iz_add, iz_sub, iz_mul, iz_lt, iz_le, iz_eq, iz_t, iz_c, sRi_refuse, Option.bind_some, bi0, bi1, bi01, bi10, bi11, if_pos, if_neg, if_true, if_false, ite_not, ite_bi]
    · unfold fMo_change
      rw [sMo_isPicture o (by omega)]
      simp (disch := omega) only [iz_n, iz_neg, iz_add, iz_sub, iz_mul, iz_lt, iz_le, iz_eq, iz_t, iz_c, sMo_refuses, Option.bind_some, bi0, bi1, bi01, bi10, bi11, if_pos, if_neg, if_true, if_false, ite_not, ite_bi]
/-! corners: the same bits -/
theorem or_0 (x : Int32) : x ||| (0 : Int32) = x := by
  apply Int32.toBitVec_inj.mp
  simp
theorem cor_c {al : Nat → Int32} {w n t a : Int32} {dots cells sx sy sp : Nat → Int32} (h : RS al w n t a dots cells sx sy sp) (o : OkA al) {k r : Int} (hk : 0 ≤ k ∧ k < NN al) (hr : 1 ≤ r ∧ r ≤ 2) :
    ∀ (d : Nat) (c : Int) (m : Nat), c = 7 - d → 1 ≤ c → d < m → ∀ acc : Int32, ∃ x : Int32, fLi_findCorners_L24 (iz k) (iz r) n t cells m acc (iz c) = some x ∧ fMo_cornersNow_L12 (iz k) (iz r) al m acc (iz c) = some x := by
  have on := o.n
  have ot := o.t
  have et := h.it
  intro d
  induction d with
  | zero =>
    intro c m hc h0 hm acc
    obtain ⟨m, rfl⟩ : ∃ q, m = q + 1 := ⟨m - 1, by omega⟩
    refine ⟨acc, ?_, ?_⟩
    · unfold fLi_findCorners_L24; simp (disch := omega) only [iz_n, iz_neg, iz_add, iz_sub, iz_mul, iz_lt, iz_le, iz_eq, iz_t, iz_c, Option.bind_some, bi0, bi1, bi01, bi10, bi11, if_pos, if_neg, if_true, if_false, ite_not, ite_bi]
    · unfold fMo_cornersNow_L12; simp (disch := omega) only [iz_n, iz_neg, iz_add, iz_sub, iz_mul, iz_lt, iz_le, iz_eq, iz_t, iz_c, Option.bind_some, bi0, bi1, bi01, bi10, bi11, if_pos, if_neg, if_true, if_false, ite_not, ite_bi]
  | succ d ih =>
    intro c m hc h0 hm acc
    obtain ⟨m, rfl⟩ : ∃ q, m = q + 1 := ⟨m - 1, by omega⟩
    have hg := CG_r o (k := k) (r := r) (c := c) (by omega) hr (by omega)
    have g6 : ¬ (6 : Int32) < iz c := by simp (disch := omega) only [iz_n, iz_neg, iz_add, iz_sub, iz_mul, iz_lt, iz_le, iz_eq, iz_t, iz_c]; omega
    have e1 : iz c + (1 : Int32) = iz (c + 1) := iz_add c 1
    unfold fLi_findCorners_L24 fMo_cornersNow_L12 fMo_isCorner
    rw [if_neg g6, if_neg g6, sLi_changeAt h o hk hr (by omega), sMo_isInner (by omega) (by omega), sMo_changeNow o hk hr (by omega), e1]
    have n1 : ¬ bi (1 ≤ r ∧ r ≤ 2 ∧ 1 ≤ c ∧ c ≤ 6) = (0 : Int32) := by rw [iz_n, bi0]; omega
    have n2 : (0 : Int) ≤ (1 : Int32).toInt ∧ (1 : Int32).toInt < 406 := by decide
    have n3 : al (1 : Int32).toNatClampNeg = iz (TT al) := iz_self _
    have n4 : (iz (CG al k r c) < iz (TT al)) ↔ CG al k r c < TT al := iz_lt (by omega) (by omega) (by omega) (by omega)
    simp only [Option.bind_some, if_neg n1, if_pos n2, n3, et]
    by_cases hq : CG al k r c < TT al
    · rw [if_pos (n4.mpr hq), if_pos (n4.mpr hq)]
      simp only [Option.bind_some, if_true, or_0]
      exact et ▸ ih (c + 1) m (by omega) (by omega) (by omega) acc
    · rw [if_neg (fun q => hq (n4.mp q)), if_neg (fun q => hq (n4.mp q))]
      simp only [Option.bind_some, if_neg (show ¬ (1 : Int32) = 0 by decide)]
      unfold fLi_cornerBit
      simp only [Option.bind_some]
      exact et ▸ ih (c + 1) m (by omega) (by omega) (by omega) _
theorem cor_r {al : Nat → Int32} {w n t a : Int32} {dots cells sx sy sp : Nat → Int32} (h : RS al w n t a dots cells sx sy sp) (o : OkA al) {k : Int} (hk : 0 ≤ k ∧ k < NN al) :
    ∀ (d : Nat) (r : Int) (m : Nat), r = 3 - d → 1 ≤ r → d < m → ∀ acc : Int32, ∃ x : Int32, fLi_findCorners_L15 (iz k) n t cells m acc (iz r) = some x ∧ fMo_cornersNow_L4 (iz k) al m acc (iz r) = some x := by
  intro d
  induction d with
  | zero =>
    intro c m hc h0 hm acc
    obtain ⟨m, rfl⟩ : ∃ q, m = q + 1 := ⟨m - 1, by omega⟩
    refine ⟨acc, ?_, ?_⟩
    · unfold fLi_findCorners_L15; simp (disch := omega) only [iz_n, iz_neg, iz_add, iz_sub, iz_mul, iz_lt, iz_le, iz_eq, iz_t, iz_c, Option.bind_some, bi0, bi1, bi01, bi10, bi11, if_pos, if_neg, if_true, if_false, ite_not, ite_bi]
    · unfold fMo_cornersNow_L4; simp (disch := omega) only [iz_n, iz_neg, iz_add, iz_sub, iz_mul, iz_lt, iz_le, iz_eq, iz_t, iz_c, Option.bind_some, bi0, bi1, bi01, bi10, bi11, if_pos, if_neg, if_true, if_false, ite_not, ite_bi]
  | succ d ih =>
    intro r m hc h0 hm acc
    obtain ⟨m, rfl⟩ : ∃ q, m = q + 1 := ⟨m - 1, by omega⟩
    have g6 : ¬ (2 : Int32) < iz r := by simp (disch := omega) only [iz_n, iz_neg, iz_add, iz_sub, iz_mul, iz_lt, iz_le, iz_eq, iz_t, iz_c]; omega
    have e1 : iz r + (1 : Int32) = iz (r + 1) := iz_add r 1
    obtain ⟨x, e2, e3⟩ := cor_c h o hk (r := r) (by omega) 6 1 FU (by omega) (by omega) (by decide) acc
    rw [← show (1 : Int32) = iz 1 from iz_n 1] at e2 e3
    unfold fLi_findCorners_L15 fMo_cornersNow_L4
    rw [if_neg g6, if_neg g6, e2, e3, e1]
    simp only [Option.bind_some]
    exact ih (r + 1) m (by omega) (by omega) (by omega) x
/-- the corners of a picture, as bits -/
def CO (al : Nat → Int32) (k : Nat) : Int32 := (fMo_cornersNow (iz k) al).getD 0
theorem cor_s {al : Nat → Int32} {w n t a : Int32} {dots cells sx sy sp : Nat → Int32} (h : RS al w n t a dots cells sx sy sp) (o : OkA al) {k : Int} (hk : 0 ≤ k ∧ k < NN al) :
    fLi_findCorners (iz k) n t cells = some (CO al k.toNat) ∧ fMo_cornersNow (iz k) al = some (CO al k.toNat) := by
  have on := o.n
  have en := h.iN
  obtain ⟨x, e2, e3⟩ := cor_r h o hk 2 1 FU (by omega) (by omega) (by decide) 0
  rw [← show (1 : Int32) = iz 1 from iz_n 1] at e2 e3
  have e4 : fMo_cornersNow (iz k) al = some x := by unfold fMo_cornersNow; rw [e3]; rfl
  have e5 : CO al k.toNat = x := by
    unfold CO
    rw [show ((k.toNat : Nat) : Int) = k by omega, e4]; rfl
  rw [e5]
  refine ⟨?_, e4⟩
  unfold fLi_findCorners
  rw [e2, en, sSc_hasPicture (by omega) (by omega)]
  simp (disch := omega) only [iz_n, iz_neg, iz_add, iz_sub, iz_mul, iz_lt, iz_le, iz_eq, iz_t, iz_c, Option.bind_some, bi0, bi1, bi01, bi10, bi11, if_pos, if_neg, if_true, if_false, ite_not, ite_bi]
/-! a corner's bit, read in two ways -/
theorem bit_x (x : Int32) (s : Nat) (hs : s < 12) : (x &&& ((1 : Int32) <<< ((Int32.ofNat s) &&& (31 : Int32))) = 0) ↔ ¬ ((x >>> ((Int32.ofNat s) &&& (31 : Int32))) &&& (1 : Int32) = 1) := by
  have key : ∀ y : BitVec 32, (y &&& BitVec.twoPow 32 s = 0#32) ↔ ¬ ((y.sshiftRight s) &&& 1#32 = 1#32) := by
    intro y
    have h1 : y &&& BitVec.twoPow 32 s = if y.getLsbD s then BitVec.twoPow 32 s else 0#32 := BitVec.and_twoPow y s
    have h2 : (y.sshiftRight s) &&& 1#32 = if (y.sshiftRight s).getLsbD 0 then 1#32 else 0#32 := by
      have := BitVec.and_twoPow (y.sshiftRight s) 0
      rwa [show BitVec.twoPow 32 0 = 1#32 by decide] at this
    have h3 : (y.sshiftRight s).getLsbD 0 = y.getLsbD s := by
      rw [BitVec.getLsbD_sshiftRight]
      simp
      omega
    have h4 : ¬ BitVec.twoPow 32 s = 0#32 := by
      have : s = 0 ∨ s = 1 ∨ s = 2 ∨ s = 3 ∨ s = 4 ∨ s = 5 ∨ s = 6 ∨ s = 7 ∨ s = 8 ∨ s = 9 ∨ s = 10 ∨ s = 11 := by omega
      rcases this with rfl | rfl | rfl | rfl | rfl | rfl | rfl | rfl | rfl | rfl | rfl | rfl <;> decide
    rw [h1, h2, h3]
    cases y.getLsbD s
    · simp
    · simp [h4]
  have a1 : ((1 : Int32) <<< ((Int32.ofNat s) &&& (31 : Int32))).toBitVec = BitVec.twoPow 32 s := by
    have : s = 0 ∨ s = 1 ∨ s = 2 ∨ s = 3 ∨ s = 4 ∨ s = 5 ∨ s = 6 ∨ s = 7 ∨ s = 8 ∨ s = 9 ∨ s = 10 ∨ s = 11 := by omega
    rcases this with rfl | rfl | rfl | rfl | rfl | rfl | rfl | rfl | rfl | rfl | rfl | rfl <;> decide
  have a2 : (x >>> ((Int32.ofNat s) &&& (31 : Int32))).toBitVec = x.toBitVec.sshiftRight s := by
    have : s = 0 ∨ s = 1 ∨ s = 2 ∨ s = 3 ∨ s = 4 ∨ s = 5 ∨ s = 6 ∨ s = 7 ∨ s = 8 ∨ s = 9 ∨ s = 10 ∨ s = 11 := by omega
    rcases this with rfl | rfl | rfl | rfl | rfl | rfl | rfl | rfl | rfl | rfl | rfl | rfl <;> rfl
  rw [← Int32.toBitVec_inj, ← Int32.toBitVec_inj, Int32.toBitVec_and, Int32.toBitVec_and, a1, a2]
  exact key x.toBitVec
theorem bit_z (x : Int32) {z : Int} (hz : 0 ≤ z ∧ z < 12) : (x &&& (iz 1 <<< (iz z &&& iz 31)) = iz 0) = ¬ ((x >>> (iz z &&& iz 31)) &&& iz 1 = iz 1) := by
  have := bit_x x z.toNat (by omega)
  rw [show Int32.ofNat z.toNat = iz z by unfold iz; rw [← Int32.ofInt_eq_ofNat]; congr 1; omega] at this
  exact propext this
