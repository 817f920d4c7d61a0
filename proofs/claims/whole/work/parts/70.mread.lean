/-! the model reads -/
theorem here_0 {B : Nat → Int} {L : Nat} {mt : Nat → Int32} (hT : TXT B L mt) : ∀ (d p m : Nat), p + d = L → d < m → fMo_here_L0 mt (iz L) m (iz p) = some (iz (sk B d p : Nat)) := by
  have hL := hT.1
  intro d
  induction d with
  | zero =>
    intro p m hp hm
    obtain ⟨m, rfl⟩ : ∃ q, m = q + 1 := ⟨m - 1, by omega⟩
    have n1 : iz (L : Int) ≤ iz p := by rw [iz_le (by omega) (by omega) (by omega) (by omega)]; omega
    unfold fMo_here_L0
    rw [if_pos n1]
    rfl
  | succ d ih =>
    intro p m hp hm
    obtain ⟨m, rfl⟩ : ∃ q, m = q + 1 := ⟨m - 1, by omega⟩
    have n1 : ¬ iz (L : Int) ≤ iz p := by rw [iz_le (by omega) (by omega) (by omega) (by omega)]; omega
    have i1 : 0 ≤ (iz (p : Int)).toInt ∧ (iz (p : Int)).toInt < 120 := by rw [iz_t (by omega) (by omega)]; omega
    have i3 : (iz (p : Int)).toNatClampNeg = p := by rw [iz_c (by omega) (by omega)]; omega
    have e1 : iz (p : Int) + (1 : Int32) = iz ((p + 1 : Nat) : Int) := by rw [iz_n, iz_add]; exact iz_inj (by omega)
    obtain ⟨b1, b2⟩ := hT.2 p (by omega)
    unfold fMo_here_L0
    rw [if_neg n1, if_pos i1, i3, b1, e1]
    by_cases c : B p = 32
    · rw [if_pos (by rw [b32 b2]; exact c), show sk B (d + 1) p = sk B d (p + 1) from if_pos c]
      exact ih (p + 1) m (by omega) (by omega)
    · rw [if_neg (by rw [b32 b2]; exact c), show sk B (d + 1) p = p from if_neg c]
def HB (B : Nat → Int) (L q : Nat) : Int := if q < L then B q else -1
theorem sMo_here {B : Nat → Int} {L : Nat} {mt : Nat → Int32} (hT : TXT B L mt) {p : Nat} (hp : p ≤ L) : fMo_here mt (iz L) (iz p) = some (iz (HB B L (SK B L p)), iz (SK B L p : Nat)) := by
  have hL := hT.1
  have hs := SK_r B hp
  have h0 := here_0 hT (L - p) p FU (by omega) (by show _ < 5000; omega)
  have e : sk B (L - p) p = SK B L p := rfl
  rw [e] at h0
  unfold fMo_here HB
  rw [h0]
  simp only [Option.bind_some]
  by_cases c : SK B L p < L
  · have n1 : ¬ iz (L : Int) ≤ iz (SK B L p : Nat) := by rw [iz_le (by omega) (by omega) (by omega) (by omega)]; omega
    have i1 : 0 ≤ (iz (SK B L p : Nat)).toInt ∧ (iz (SK B L p : Nat)).toInt < 120 := by rw [iz_t (by omega) (by omega)]; omega
    have i3 : (iz (SK B L p : Nat)).toNatClampNeg = SK B L p := by rw [iz_c (by omega) (by omega)]; omega
    rw [if_neg n1, if_pos i1, i3, (hT.2 _ c).1, if_pos c]
  · have n1 : iz (L : Int) ≤ iz (SK B L p : Nat) := by rw [iz_le (by omega) (by omega) (by omega) (by omega)]; omega
    rw [if_pos n1, if_neg c, iz_n, iz_neg]
theorem sMo_isFigure {B : Nat → Int} {L : Nat} {mt : Nat → Int32} (hT : TXT B L mt) {p : Nat} (hp : p ≤ L) : fMo_isFigure (iz p) mt (iz L) = some (bi (p < L ∧ 48 ≤ B p ∧ B p ≤ 57)) := by
  have hL := hT.1
  unfold fMo_isFigure
  by_cases c : p < L
  · have n1 : ¬ iz (L : Int) ≤ iz p := by rw [iz_le (by omega) (by omega) (by omega) (by omega)]; omega
    have i1 : 0 ≤ (iz (p : Int)).toInt ∧ (iz (p : Int)).toInt < 120 := by rw [iz_t (by omega) (by omega)]; omega
    have i3 : (iz (p : Int)).toNatClampNeg = p := by rw [iz_c (by omega) (by omega)]; omega
    obtain ⟨b1, b2⟩ := hT.2 p c
    rw [if_neg n1, if_pos i1, i3, b1, iz_64 (by omega) (by omega), show (48 : Int64) = lz 48 from lz_n 48, show (57 : Int64) = lz 57 from lz_n 57, sMo_in (by omega) (by omega) (by omega)]
    simp only [Option.bind_some]
    by_cases z : 48 ≤ B p ∧ B p ≤ 57
    · rw [bi10 z, bi10 ⟨c, z⟩, if_neg (by rw [iz_l0]; exact iz01), iz_n]
    · rw [bi11 z, bi11 (fun y => z y.2), if_pos iz_l0.symm, iz_l0]
  · have n1 : iz (L : Int) ≤ iz p := by rw [iz_le (by omega) (by omega) (by omega) (by omega)]; omega
    rw [if_pos n1, bi11 (fun y => c y.1), iz_l0]
theorem takes_58 {B : Nat → Int} {L : Nat} {mt : Nat → Int32} (hT : TXT B L mt) : ∀ (k p m : Nat) (v : Int), k ≤ 6 → p ≤ L → k < m → fMo_takes_L58 mt (iz L) m (iz (6 - k)) (iz p) (iz v) = some (iz (6 - k + ((ds B L k p v).1 - p)), iz ((ds B L k p v).1 : Nat), iz (ds B L k p v).2) := by
  have hL := hT.1
  intro k
  induction k with
  | zero =>
    intro p m v hk hp hm
    obtain ⟨m, rfl⟩ : ∃ q, m = q + 1 := ⟨m - 1, by omega⟩
    have e : iz (6 - ((0 : Nat) : Int) + (((ds B L 0 p v).1 : Nat) - (p : Int))) = iz (6 - ((0 : Nat) : Int)) := iz_inj (by show 6 - ((0 : Nat) : Int) + ((p : Int) - (p : Int)) = _; omega)
    have n1 : (6 : Int32) ≤ iz (6 - ((0 : Nat) : Int)) := by rw [iz_n, iz_le (by omega) (by omega) (by omega) (by omega)]; omega
    unfold fMo_takes_L58
    rw [sMo_isFigure hT hp, e]
    simp only [Option.bind_some]
    by_cases z : p < L ∧ 48 ≤ B p ∧ B p ≤ 57
    · rw [bi10 z, if_neg (by rw [iz_l0]; exact iz01), if_pos n1]
      rfl
    · rw [bi11 z, if_pos iz_l0.symm]
      rfl
  | succ k ih =>
    intro p m v hk hp hm
    obtain ⟨m, rfl⟩ : ∃ q, m = q + 1 := ⟨m - 1, by omega⟩
    have n1 : ¬ (6 : Int32) ≤ iz (6 - ((k + 1 : Nat) : Int)) := by rw [iz_n, iz_le (by omega) (by omega) (by omega) (by omega)]; omega
    unfold fMo_takes_L58
    rw [sMo_isFigure hT hp]
    simp only [Option.bind_some]
    by_cases z : p < L ∧ 48 ≤ B p ∧ B p ≤ 57
    · have e : ds B L (k + 1) p v = ds B L k (p + 1) (10 * v + B p - 48) := if_pos z
      have i1 : 0 ≤ (iz (p : Int)).toInt ∧ (iz (p : Int)).toInt < 120 := by rw [iz_t (by omega) (by omega)]; omega
      have i3 : (iz (p : Int)).toNatClampNeg = p := by rw [iz_c (by omega) (by omega)]; omega
      have e1 : iz (p : Int) + (1 : Int32) = iz ((p + 1 : Nat) : Int) := by rw [iz_n, iz_add]; exact iz_inj (by omega)
      have e2 : iz (6 - ((k + 1 : Nat) : Int)) + (1 : Int32) = iz (6 - k) := by rw [iz_n, iz_add]; exact iz_inj (by omega)
      have e6 : (10 : Int32) * iz v + iz (B p) - 48 = iz (10 * v + B p - 48) := by rw [show (10 : Int32) = iz 10 from iz_n 10, show (48 : Int32) = iz 48 from iz_n 48, iz_mul, iz_add, iz_sub]
      have ih' := ih (p + 1) m (10 * v + B p - 48) (by omega) (by omega) (by omega)
      rw [bi10 z, if_neg (by rw [iz_l0]; exact iz01), if_neg n1, if_pos i1, i3, (hT.2 p z.1).1, e1, e2, e6, ih', e]
      exact congrArg some (Prod.ext (iz_inj (by omega)) rfl)
    · have e : ds B L (k + 1) p v = (p, v) := if_neg z
      rw [bi11 z, if_pos iz_l0.symm, e]
      exact congrArg some (Prod.ext (iz_inj (by show _ = 6 - ((k + 1 : Nat) : Int) + ((p : Int) - (p : Int)); omega)) rfl)
theorem sMo_takes {B : Nat → Int} {L : Nat} {mt : Nat → Int32} (hT : TXT B L mt) (sg : Bool) {p : Nat} (hp : p ≤ L) (val : Int32) : fMo_takes (if sg = true then (1 : Int32) else (0 : Int32)) mt (iz L) (iz p) val = some (iz (if TKo B L sg p = true then 1 else 0), iz (TKe B L sg p : Nat), iz (TKv B L sg p)) := by
  have hL := hT.1
  have hs := SK_r B hp
  obtain ⟨t1, t2, t3, t4, t5, t6⟩ := TK_r B sg hp
  have h1 := sMo_here hT hp
  have h2 := sMo_here hT (p := SK B L p) hs.2.1
  rw [SK_id B hs.2.2 hs.2.1] at h2
  have hHB : -1 ≤ HB B L (SK B L p) ∧ HB B L (SK B L p) ≤ 127 ∧ (HB B L (SK B L p) = -1 ↔ ¬ SK B L p < L) ∧ (HB B L (SK B L p) = 45 ↔ SK B L p < L ∧ B (SK B L p) = 45) := by
    unfold HB
    by_cases c : SK B L p < L
    · have := (hT.2 _ c).2
      rw [if_pos c]
      exact ⟨by omega, by omega, by omega, by omega⟩
    · rw [if_neg c]
      exact ⟨by omega, by omega, by omega, by omega⟩
  generalize HB B L (SK B L p) = hb at *
  obtain ⟨b1, b2, b3, b4⟩ := hHB
  have c45 : (iz hb = (45 : Int32)) ↔ hb = 45 := by rw [iz_n]; exact iz_eq (by omega) (by omega) (by omega) (by omega)
  have cm1 : (iz hb = (-1 : Int32)) ↔ hb = -1 := by rw [iz_n, iz_neg]; exact iz_eq (by omega) (by omega) (by omega) (by omega)
  have u3 : (if iz hb = (45 : Int32) then if (if sg = true then (1 : Int32) else (0 : Int32)) = 0 then some (0 : Int32) else some (1 : Int32) else some (0 : Int32)) = some (if TKm B L sg p = true then (1 : Int32) else 0) := by
    by_cases mi : TKm B L sg p = true
    · have := t5 mi
      rw [if_pos (c45.mpr (b4.mpr this.2)), if_pos this.1, if_neg (by decide), if_pos mi]
    · rw [if_neg mi]
      by_cases q : iz hb = (45 : Int32)
      · have hq := b4.mp (c45.mp q)
        have : ¬ sg = true := fun y => t6 mi ⟨y, hq⟩
        rw [if_pos q, if_neg this, if_pos rfl]
      · rw [if_neg q]
  have k58 := takes_58 hT 6 (TKs B L sg p) FU 0 (by omega) t2 (by show _ < 5000; omega)
  have eE : (ds B L 6 (TKs B L sg p) 0).1 = TKe B L sg p := rfl
  rw [show iz (6 - ((6 : Nat) : Int)) = (0 : Int32) from (iz_inj (by omega)).trans iz_l0.symm, show (6 : Int) - ((6 : Nat) : Int) + (((ds B L 6 (TKs B L sg p) 0).1 : Nat) - ((TKs B L sg p : Nat) : Int)) = (TKe B L sg p : Int) - (TKs B L sg p : Int) by rw [eE]; omega, eE, ← iz_l0] at k58
  have hfin : ∀ (c8 w : Int32), (c8 = (-1 : Int32) ↔ hb = -1) → (if c8 = (-1 : Int32) then some ((0 : Int32), iz (TKe B L sg p : Nat), w) else if iz ((TKe B L sg p : Int) - (TKs B L sg p : Int)) ≤ 0 then some ((0 : Int32), iz (TKe B L sg p : Nat), w) else (fMo_isFigure (iz (TKe B L sg p : Nat)) mt (iz L)).bind fun u19 => if u19 = 0 then some ((1 : Int32), iz (TKe B L sg p : Nat), w) else some ((0 : Int32), iz (TKe B L sg p : Nat), w)) = some (iz (if TKo B L sg p = true then 1 else 0), iz (TKe B L sg p : Nat), w) := fun c8 w hc8 => by
    have n0 : (iz ((TKe B L sg p : Int) - (TKs B L sg p : Int)) ≤ 0) ↔ ¬ TKs B L sg p < TKe B L sg p := by rw [show (0 : Int32) = iz 0 from iz_n 0, iz_le (by omega) (by omega) (by omega) (by omega)]; omega
    by_cases q1 : hb = -1
    · have no : ¬ TKo B L sg p = true := fun y => by
        have h := (TKo_t.mp y).1
        have := b3.mp q1
        have es : SK B L p = L := by omega
        have hmm : ¬ TKm B L sg p = true := fun y => by have := t5 y; omega
        have : TKs B L sg p = SK B L p := by unfold TKs; rw [if_neg hmm]
        omega
      rw [if_pos (hc8.mpr q1), if_neg no, iz_l0]
    · rw [if_neg (fun y => q1 (hc8.mp y))]
      by_cases q2 : TKs B L sg p < TKe B L sg p
      · rw [if_neg (fun y => n0.mp y q2), sMo_isFigure hT t4]
        simp only [Option.bind_some]
        by_cases q3 : TKe B L sg p < L ∧ 48 ≤ B (TKe B L sg p) ∧ B (TKe B L sg p) ≤ 57
        · have no : ¬ TKo B L sg p = true := fun y => (TKo_t.mp y).2 q3
          rw [bi10 q3, if_neg (by rw [iz_l0]; exact iz01), if_neg no, iz_l0]
        · rw [bi11 q3, if_pos iz_l0.symm, if_pos (TKo_t.mpr ⟨q2, q3⟩), ← iz_n]
      · have no : ¬ TKo B L sg p = true := fun y => q2 (TKo_t.mp y).1
        rw [if_pos (n0.mpr q2), if_neg no, iz_l0]
  unfold fMo_takes
  rw [h1]
  simp only [Option.bind_some]
  rw [u3]
  simp only [Option.bind_some]
  by_cases mi : TKm B L sg p = true
  · have es : TKs B L sg p = SK B L p + 1 := by unfold TKs; rw [if_pos mi]
    have e1 : iz (SK B L p : Nat) + (1 : Int32) = iz (TKs B L sg p : Nat) := by rw [iz_n, iz_add]; exact iz_inj (by omega)
    have ev : -iz (ds B L 6 (TKs B L sg p) 0).2 = iz (TKv B L sg p) := by unfold TKv; rw [if_pos mi, iz_neg]
    have h45 := b4.mpr (t5 mi).2
    simp only [if_pos mi, s10, if_false, Option.bind_some, e1, k58, ev]
    exact hfin 0 _ ⟨fun y => absurd y (by decide), fun y => by omega⟩
  · have es : TKs B L sg p = SK B L p := by unfold TKs; rw [if_neg mi]
    have e1 : iz (SK B L p : Nat) + (0 : Int32) = iz (SK B L p : Nat) := by rw [iz_n, iz_add]; exact iz_inj (by omega)
    have ev : iz (ds B L 6 (TKs B L sg p) 0).2 = iz (TKv B L sg p) := by unfold TKv; rw [if_neg mi]
    rw [es] at k58
    simp only [if_neg mi, s00, if_true, Option.bind_some, e1, h2, k58]
    rw [← es, ev, es]
    have := hfin (iz hb) (iz (TKv B L sg p)) cm1
    rw [es] at this
    exact this
def sgk (l : Int) : Int := if l = 115 then 2 else -1
theorem takesAll_2 {B : Nat → Int} {L : Nat} {mt : Nat → Int32} (hT : TXT B L mt) {l : Int} {n : Nat} (hn : n ≤ 4) : ∀ (d k p m : Nat) (vs : Nat → Int) (val : Int32) (nums : Nat → Int32), k + d = n → p ≤ L → d < m → (∀ j, j < k → nums j = iz (vs j)) →
    ∃ (val' : Int32) (nums' : Nat → Int32), ((TA B L l d k p vs).1 ≠ true → fMo_takesAll_L2 (iz n) (iz (sgk l)) mt (iz L) m (iz k) (iz p) val nums = some (.inl (0, iz ((TA B L l d k p vs).2.1 : Nat), val', nums'))) ∧
      ((TA B L l d k p vs).1 = true → fMo_takesAll_L2 (iz n) (iz (sgk l)) mt (iz L) m (iz k) (iz p) val nums = some (.inr (iz ((TA B L l d k p vs).2.1 : Nat), val', nums')) ∧ ∀ j, j < n → nums' j = iz ((TA B L l d k p vs).2.2 j)) := by
  intro d
  induction d with
  | zero =>
    intro k p m vs val nums hk hp hm hv
    obtain ⟨m, rfl⟩ : ∃ q, m = q + 1 := ⟨m - 1, by omega⟩
    have n1 : iz (n : Int) ≤ iz k := by rw [iz_le (by omega) (by omega) (by omega) (by omega)]; omega
    refine ⟨val, nums, fun q => absurd rfl q, fun _ => ⟨?_, fun j hj => hv j (by omega)⟩⟩
    unfold fMo_takesAll_L2
    rw [if_pos n1]
    rfl
  | succ d ih =>
    intro k p m vs val nums hk hp hm hv
    obtain ⟨m, rfl⟩ : ∃ q, m = q + 1 := ⟨m - 1, by omega⟩
    have n1 : ¬ iz (n : Int) ≤ iz k := by rw [iz_le (by omega) (by omega) (by omega) (by omega)]; omega
    have hsg : (iz (k : Int) = iz (sgk l)) ↔ sgn l k = true := by
      have h1 : sgn l k = true ↔ l = 115 ∧ k = 2 := by unfold sgn; exact decide_eq_true_iff
      rw [h1]
      unfold sgk
      by_cases q : l = 115
      · rw [if_pos q, iz_eq (by omega) (by omega) (by omega) (by omega)]; omega
      · rw [if_neg q, iz_eq (by omega) (by omega) (by omega) (by omega)]; omega
    have u4 : (if iz (k : Int) = iz (sgk l) then some (1 : Int32) else some (0 : Int32)) = some (if sgn l k = true then (1 : Int32) else (0 : Int32)) := by
      by_cases q : sgn l k = true
      · rw [if_pos (hsg.mpr q), if_pos q]
      · rw [if_neg (fun y => q (hsg.mp y)), if_neg q]
    have htk := sMo_takes hT (sgn l k) hp val
    have hr := TK_r B (sgn l k) hp
    have i1 : 0 ≤ (iz (k : Int)).toInt ∧ (iz (k : Int)).toInt < 4 := by rw [iz_t (by omega) (by omega)]; omega
    have i3 : (iz (k : Int)).toNatClampNeg = k := by rw [iz_c (by omega) (by omega)]; omega
    have e1 : iz (k : Int) + (1 : Int32) = iz ((k + 1 : Nat) : Int) := by rw [iz_n, iz_add]; exact iz_inj (by omega)
    by_cases ok : TKo B L (sgn l k) p = true
    · have e : TA B L l (d + 1) k p vs = TA B L l d (k + 1) (TKe B L (sgn l k) p) (fun j => if j = k then TKv B L (sgn l k) p else vs j) := if_pos ok
      obtain ⟨val', nums', j1, j2⟩ := ih (k + 1) (TKe B L (sgn l k) p) m (fun j => if j = k then TKv B L (sgn l k) p else vs j) (iz (TKv B L (sgn l k) p)) (upd nums k (iz (TKv B L (sgn l k) p))) (by omega) hr.2.2.2.1 (by omega) (fun j hj => by
        by_cases ej : j = k
        · rw [ej, upd_s, if_pos rfl]
        · rw [upd_n _ _ ej, if_neg ej]; exact hv j (by omega))
      have st : fMo_takesAll_L2 (iz n) (iz (sgk l)) mt (iz L) (m + 1) (iz k) (iz p) val nums = fMo_takesAll_L2 (iz n) (iz (sgk l)) mt (iz L) m (iz ((k + 1 : Nat) : Int)) (iz (TKe B L (sgn l k) p : Nat)) (iz (TKv B L (sgn l k) p)) (upd nums k (iz (TKv B L (sgn l k) p))) := by
        generalize hX : fMo_takesAll_L2 (iz n) (iz (sgk l)) mt (iz L) m (iz ((k + 1 : Nat) : Int)) (iz (TKe B L (sgn l k) p : Nat)) (iz (TKv B L (sgn l k) p)) (upd nums k (iz (TKv B L (sgn l k) p))) = X
        unfold fMo_takesAll_L2
        rw [if_neg n1, u4]
        simp only [Option.bind_some]
        rw [htk, if_pos ok]
        simp only [Option.bind_some, c1e, if_false, if_pos i1, i3, e1]
        exact hX
      rw [e, st]
      exact ⟨val', nums', j1, j2⟩
    · have e : TA B L l (d + 1) k p vs = (false, TKe B L (sgn l k) p, vs) := if_neg ok
      refine ⟨iz (TKv B L (sgn l k) p), nums, fun _ => ?_, fun q => by rw [e] at q; exact absurd (show false = true from q) (by decide)⟩
      rw [e]
      unfold fMo_takesAll_L2
      rw [if_neg n1, u4]
      simp only [Option.bind_some]
      rw [htk, if_neg ok]
      simp only [Option.bind_some, c0e, if_true]
theorem sMo_takesAll {B : Nat → Int} {L : Nat} {mt : Nat → Int32} (hT : TXT B L mt) {l : Int} {n p : Nat} (hn : n ≤ 4) (hp : p ≤ L) (val : Int32) (nums : Nat → Int32) :
    ∃ (val' : Int32) (nums' : Nat → Int32), ((TA B L l n 0 p (fun _ => 0)).1 ≠ true → fMo_takesAll (iz n) (iz (sgk l)) mt (iz L) (iz p) val nums = some (0, iz ((TA B L l n 0 p (fun _ => 0)).2.1 : Nat), val', nums')) ∧
      ((TA B L l n 0 p (fun _ => 0)).1 = true → fMo_takesAll (iz n) (iz (sgk l)) mt (iz L) (iz p) val nums = some (1, iz ((TA B L l n 0 p (fun _ => 0)).2.1 : Nat), val', nums') ∧ ∀ j, j < n → nums' j = iz ((TA B L l n 0 p (fun _ => 0)).2.2 j)) := by
  obtain ⟨val', nums', j1, j2⟩ := takesAll_2 hT (l := l) hn n 0 p FU (fun _ => 0) val nums (by omega) hp (by show _ < 5000; omega) (fun j hj => by omega)
  rw [show iz ((0 : Nat) : Int) = (0 : Int32) from iz_l0.symm] at j1 j2
  refine ⟨val', nums', fun q => ?_, fun q => ⟨?_, (j2 q).2⟩⟩
  · unfold fMo_takesAll
    rw [j1 q]
    rfl
  · unfold fMo_takesAll
    rw [(j2 q).1]
    rfl
/-! an order, the model's -/
def ROb (dn l : Int32) (al mt : Nat → Int32) (L place val : Int32) (nums : Nat → Int32) (nt : Int32) : Option (Int32 × (Nat → Int32) × Int32 × Int32 × (Nat → Int32) × Int32) :=
   (fMo_numbersOf l).bind fun u3 =>
   ((if l = (115 : Int32) then
     some (2 : Int32)
    else
     some (-1 : Int32) : Option (Int32))).bind fun u5 =>
   (fMo_takesAll u3 u5 mt L (place + (1 : Int32)) val nums).bind fun u6 =>
   if u6.1 = 0 then
    some ((0 : Int32), al, u6.2.1, u6.2.2.1, u6.2.2.2, nt)
   else
    (fMo_here mt L u6.2.1).bind fun u8 =>
    if u8.1 = (59 : Int32) then
     if dn = 0 then
      some ((1 : Int32), al, (u8.2 + (1 : Int32)), u6.2.2.1, u6.2.2.2, nt)
     else
      (fMo_can l al u6.2.2.2).bind fun u11 =>
      if u11 = 0 then
       (fMo_does l al u6.2.2.2).bind fun u13 =>
       some ((1 : Int32), u13, (u8.2 + (1 : Int32)), u6.2.2.1, u6.2.2.2, u11)
      else
       some ((1 : Int32), al, (u8.2 + (1 : Int32)), u6.2.2.1, u6.2.2.2, u11)
    else
     some ((0 : Int32), al, u8.2, u6.2.2.1, u6.2.2.2, nt)
theorem RO_let (dn : Int32) (al mt : Nat → Int32) (L p val : Int32) (nums : Nat → Int32) (nt : Int32) {l place : Int32} (h : fMo_here mt L p = some (l, place)) (hl : l = 119 ∨ l = 115 ∨ l = 112 ∨ l = 99 ∨ l = 116 ∨ l = 97 ∨ l = 120) :
    fMo_readsOrder dn al mt L p val nums nt = ROb dn l al mt L place val nums nt := by
  unfold fMo_readsOrder ROb
  rw [h]
  simp only [Option.bind_some]
  rcases hl with rfl | rfl | rfl | rfl | rfl | rfl | rfl
  · rw [if_pos (rfl : (119 : Int32) = 119)]
  · rw [if_neg (by decide : ¬ (115 : Int32) = 119), if_pos (rfl : (115 : Int32) = 115)]
  · rw [if_neg (by decide : ¬ (112 : Int32) = 119), if_neg (by decide : ¬ (112 : Int32) = 115), if_pos (rfl : (112 : Int32) = 112)]
  · rw [if_neg (by decide : ¬ (99 : Int32) = 119), if_neg (by decide : ¬ (99 : Int32) = 115), if_neg (by decide : ¬ (99 : Int32) = 112), if_pos (rfl : (99 : Int32) = 99)]
  · rw [if_neg (by decide : ¬ (116 : Int32) = 119), if_neg (by decide : ¬ (116 : Int32) = 115), if_neg (by decide : ¬ (116 : Int32) = 112), if_neg (by decide : ¬ (116 : Int32) = 99), if_pos (rfl : (116 : Int32) = 116)]
  · rw [if_neg (by decide : ¬ (97 : Int32) = 119), if_neg (by decide : ¬ (97 : Int32) = 115), if_neg (by decide : ¬ (97 : Int32) = 112), if_neg (by decide : ¬ (97 : Int32) = 99), if_neg (by decide : ¬ (97 : Int32) = 116), if_pos (rfl : (97 : Int32) = 97)]
  · rw [if_neg (by decide : ¬ (120 : Int32) = 119), if_neg (by decide : ¬ (120 : Int32) = 115), if_neg (by decide : ¬ (120 : Int32) = 112), if_neg (by decide : ¬ (120 : Int32) = 99), if_neg (by decide : ¬ (120 : Int32) = 116), if_neg (by decide : ¬ (120 : Int32) = 97), if_pos (rfl : (120 : Int32) = 120)]
theorem RO_no (dn : Int32) (al mt : Nat → Int32) (L p val : Int32) (nums : Nat → Int32) (nt : Int32) {l place : Int32} (h : fMo_here mt L p = some (l, place)) (h1 : ¬ l = 119) (h2 : ¬ l = 115) (h3 : ¬ l = 112) (h4 : ¬ l = 99) (h5 : ¬ l = 116) (h6 : ¬ l = 97) (h7 : ¬ l = 120) :
    fMo_readsOrder dn al mt L p val nums nt = some (0, al, place, val, nums, nt) := by
  unfold fMo_readsOrder
  rw [h]
  simp only [Option.bind_some]
  rw [if_neg h1, if_neg h2, if_neg h3, if_neg h4, if_neg h5, if_neg h6, if_neg h7]
theorem NB_let {x : Int} : NB x ≠ 0 ↔ (x = 119 ∨ x = 115 ∨ x = 112 ∨ x = 99 ∨ x = 116 ∨ x = 97 ∨ x = 120) := by
  unfold NB
  constructor
  · intro h
    by_cases c : x = 119 ∨ x = 115 ∨ x = 112 ∨ x = 99 ∨ x = 116 ∨ x = 97 ∨ x = 120
    · exact c
    · exfalso
      apply h
      rw [if_neg (by omega), if_neg (by omega), if_neg (by omega), if_neg (by omega), if_neg (by omega), if_neg (by omega), if_neg (by omega)]
  · intro h
    rcases h with rfl | rfl | rfl | rfl | rfl | rfl | rfl <;> decide
theorem sMo_numbersOf {x : Int} (h : NB x ≠ 0) : fMo_numbersOf (iz x) = some (iz (NB x)) := by
  rcases NB_let.mp h with rfl | rfl | rfl | rfl | rfl | rfl | rfl <;> decide
theorem sMo_order {B : Nat → Int} {L : Nat} {mt : Nat → Int32} (hT : TXT B L mt) {p : Nat} (hp : p ≤ L) (dn : Int32) (al : Nat → Int32) (val : Int32) (nums : Nat → Int32) (nt : Int32) :
    ∃ (val' : Int32) (nums' : Nat → Int32), (ORo B L p ≠ true → fMo_readsOrder dn al mt (iz L) (iz p) val nums nt = some (0, al, iz (ORf B L p : Nat), val', nums', nt)) ∧
      (ORo B L p = true → (∀ j : Nat, (j : Int) < NB (B (SK B L p)) → nums' j = iz ((ORr B L p).2.2 j)) ∧ fMo_readsOrder dn al mt (iz L) (iz p) val nums nt =
        if dn = 0 then some ((1 : Int32), al, iz ((ORq B L p + 1 : Nat) : Int), val', nums', nt)
        else (fMo_can (iz (B (SK B L p))) al nums').bind fun u11 =>
          if u11 = 0 then (fMo_does (iz (B (SK B L p))) al nums').bind fun u13 => some ((1 : Int32), u13, iz ((ORq B L p + 1 : Nat) : Int), val', nums', u11)
          else some ((1 : Int32), al, iz ((ORq B L p + 1 : Nat) : Int), val', nums', u11)) := by
  have hL := hT.1
  have hs := SK_r B hp
  obtain ⟨o1, o2, o3⟩ := OR_r B hp
  have hh := sMo_here hT hp
  have hHB : -1 ≤ HB B L (SK B L p) ∧ HB B L (SK B L p) ≤ 127 := by
    unfold HB
    by_cases c : SK B L p < L
    · have := (hT.2 _ c).2
      rw [if_pos c]; omega
    · rw [if_neg c]; omega
  by_cases bad : ¬ SK B L p < L ∨ NB (B (SK B L p)) = 0
  · have no : ORo B L p ≠ true := fun q => by
      have := ORo_t.mp q
      rcases bad with b | b
      · exact b this.1
      · exact this.2.1 b
    have ef : ORf B L p = SK B L p := by unfold ORf; rw [if_pos bad]
    have hn : ¬ (HB B L (SK B L p) = 119 ∨ HB B L (SK B L p) = 115 ∨ HB B L (SK B L p) = 112 ∨ HB B L (SK B L p) = 99 ∨ HB B L (SK B L p) = 116 ∨ HB B L (SK B L p) = 97 ∨ HB B L (SK B L p) = 120) := by
      unfold HB
      by_cases c : SK B L p < L
      · rw [if_pos c]
        intro q
        rcases bad with b | b
        · exact b c
        · exact NB_let.mpr q b
      · rw [if_neg c]; omega
    have ne : ∀ k : Int, 0 ≤ k ∧ k ≤ 127 → HB B L (SK B L p) ≠ k → ¬ iz (HB B L (SK B L p)) = iz k := fun k hk hne => by rw [iz_eq (by omega) (by omega) (by omega) (by omega)]; exact hne
    refine ⟨val, nums, fun _ => ?_, fun q => absurd q no⟩
    rw [ef]
    exact RO_no dn al mt (iz L) (iz p) val nums nt hh (by rw [iz_n]; exact ne 119 (by omega) (by omega)) (by rw [iz_n]; exact ne 115 (by omega) (by omega)) (by rw [iz_n]; exact ne 112 (by omega) (by omega)) (by rw [iz_n]; exact ne 99 (by omega) (by omega)) (by rw [iz_n]; exact ne 116 (by omega) (by omega)) (by rw [iz_n]; exact ne 97 (by omega) (by omega)) (by rw [iz_n]; exact ne 120 (by omega) (by omega))
  · have hlt : SK B L p < L := by omega
    have hnb : NB (B (SK B L p)) ≠ 0 := fun q => bad (.inr q)
    have hb := hT.2 _ hlt
    have hnr := NB_r (B (SK B L p))
    obtain ⟨q1, q2, q3, q4⟩ := o2 hlt
    have eh : HB B L (SK B L p) = B (SK B L p) := if_pos hlt
    rw [eh] at hh
    have hlet : iz (B (SK B L p)) = 119 ∨ iz (B (SK B L p)) = 115 ∨ iz (B (SK B L p)) = 112 ∨ iz (B (SK B L p)) = 99 ∨ iz (B (SK B L p)) = 116 ∨ iz (B (SK B L p)) = 97 ∨ iz (B (SK B L p)) = 120 := by
      rcases NB_let.mp hnb with h | h | h | h | h | h | h <;> rw [h]
      · exact .inl (iz_n 119).symm
      · exact .inr (.inl (iz_n 115).symm)
      · exact .inr (.inr (.inl (iz_n 112).symm))
      · exact .inr (.inr (.inr (.inl (iz_n 99).symm)))
      · exact .inr (.inr (.inr (.inr (.inl (iz_n 116).symm))))
      · exact .inr (.inr (.inr (.inr (.inr (.inl (iz_n 97).symm)))))
      · exact .inr (.inr (.inr (.inr (.inr (.inr (iz_n 120).symm)))))
    have hro := RO_let dn al mt (iz L) (iz p) val nums nt hh hlet
    have e1 : iz (SK B L p : Nat) + (1 : Int32) = iz ((SK B L p + 1 : Nat) : Int) := by rw [iz_n, iz_add]; exact iz_inj (by omega)
    have e2 : iz (ORq B L p : Nat) + (1 : Int32) = iz ((ORq B L p + 1 : Nat) : Int) := by rw [iz_n, iz_add]; exact iz_inj (by omega)
    have u5 : (if iz (B (SK B L p)) = (115 : Int32) then some (2 : Int32) else some (-1 : Int32)) = some (iz (sgk (B (SK B L p)))) := by
      unfold sgk
      by_cases q : B (SK B L p) = 115
      · rw [if_pos (by rw [b115 hb.2]; exact q), if_pos q, ← iz_n]
      · rw [if_neg (by rw [b115 hb.2]; exact q), if_neg q, iz_n, iz_neg]
    obtain ⟨val', nums', j1, j2⟩ := sMo_takesAll hT (l := B (SK B L p)) (n := (NB (B (SK B L p))).toNat) (p := SK B L p + 1) (by omega) (by omega) val nums
    rw [show (((NB (B (SK B L p))).toNat : Nat) : Int) = NB (B (SK B L p)) by omega] at j1 j2
    have er : TA B L (B (SK B L p)) (NB (B (SK B L p))).toNat 0 (SK B L p + 1) (fun _ => 0) = ORr B L p := rfl
    rw [er] at j1 j2
    have h2 := sMo_here hT q2
    have eq' : SK B L (ORr B L p).2.1 = ORq B L p := rfl
    rw [eq'] at h2
    refine ⟨val', nums', fun no => ?_, fun ok => ?_⟩
    · rw [hro]
      unfold ROb
      rw [sMo_numbersOf hnb, u5]
      simp only [Option.bind_some]
      rw [e1]
      by_cases ok1 : (ORr B L p).1 = true
      · have ef : ORf B L p = ORq B L p := by unfold ORf; rw [if_neg bad, if_pos ok1]
        have n59 : ¬ iz (HB B L (ORq B L p)) = (59 : Int32) := by
          unfold HB
          by_cases c : ORq B L p < L
          · rw [if_pos c, b59 (hT.2 _ c).2]
            exact fun q => no (ORo_t.mpr ⟨hlt, hnb, ok1, c, q⟩)
          · rw [if_neg c]; decide
        rw [(j2 ok1).1]
        simp only [Option.bind_some, s10, if_false]
        rw [h2]
        simp only [Option.bind_some]
        rw [if_neg n59, ef]
      · have ef : ORf B L p = (ORr B L p).2.1 := by unfold ORf; rw [if_neg bad, if_neg ok1]
        rw [j1 ok1, ef]
        simp only [Option.bind_some, s00, if_true]
    · obtain ⟨a1, a2, a3, a4, a5⟩ := ORo_t.mp ok
      refine ⟨fun j hj => (j2 a3).2 j (by omega), ?_⟩
      have y59 : iz (HB B L (ORq B L p)) = (59 : Int32) := by
        unfold HB
        rw [if_pos a4, b59 (hT.2 _ a4).2]
        exact a5
      rw [hro]
      unfold ROb
      rw [sMo_numbersOf hnb, u5]
      simp only [Option.bind_some]
      rw [e1, (j2 a3).1]
      simp only [Option.bind_some, s10, if_false]
      rw [h2]
      simp only [Option.bind_some]
      rw [if_pos y59, e2]
