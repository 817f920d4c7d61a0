/-! a text, as it is told to be read -/
def sk (B : Nat → Int) : Nat → Nat → Nat
  | 0, p => p
  | d + 1, p => if B p = 32 then sk B d (p + 1) else p
theorem sk_r (B : Nat → Int) : ∀ (d p : Nat), p ≤ sk B d p ∧ sk B d p ≤ p + d ∧ (sk B d p < p + d → B (sk B d p) ≠ 32) := by
  intro d
  induction d with
  | zero => intro p; exact ⟨Nat.le_refl p, Nat.le_refl p, fun h => absurd h (Nat.lt_irrefl p)⟩
  | succ d ih =>
    intro p
    by_cases c : B p = 32
    · have e : sk B (d + 1) p = sk B d (p + 1) := if_pos c
      obtain ⟨h1, h2, h3⟩ := ih (p + 1)
      rw [e]
      exact ⟨by omega, by omega, fun h => h3 (by omega)⟩
    · have e : sk B (d + 1) p = p := if_neg c
      rw [e]
      exact ⟨Nat.le_refl p, by omega, fun _ => c⟩
def SK (B : Nat → Int) (L p : Nat) : Nat := sk B (L - p) p
theorem SK_r (B : Nat → Int) {L p : Nat} (h : p ≤ L) : p ≤ SK B L p ∧ SK B L p ≤ L ∧ (SK B L p < L → B (SK B L p) ≠ 32) := by
  have := sk_r B (L - p) p
  unfold SK
  exact ⟨this.1, by omega, fun h => this.2.2 (by omega)⟩
theorem SK_id (B : Nat → Int) {L p : Nat} (h : p < L → B p ≠ 32) (hp : p ≤ L) : SK B L p = p := by
  unfold SK
  by_cases c : p < L
  · rw [show L - p = (L - p - 1) + 1 by omega]
    exact if_neg (h c)
  · rw [show L - p = 0 by omega]; rfl
/-- figures, k at most -/
def ds (B : Nat → Int) (L : Nat) : Nat → Nat → Int → Nat × Int
  | 0, p, v => (p, v)
  | k + 1, p, v => if p < L ∧ 48 ≤ B p ∧ B p ≤ 57 then ds B L k (p + 1) (10 * v + B p - 48) else (p, v)
theorem ds_r (B : Nat → Int) {L : Nat} : ∀ (k p : Nat) (v : Int), p ≤ L → p ≤ (ds B L k p v).1 ∧ (ds B L k p v).1 ≤ L ∧ (ds B L k p v).1 ≤ p + k ∧ ((ds B L k p v).1 < p + k → ¬ ((ds B L k p v).1 < L ∧ 48 ≤ B (ds B L k p v).1 ∧ B (ds B L k p v).1 ≤ 57)) := by
  intro k
  induction k with
  | zero => intro p v h; exact ⟨Nat.le_refl p, h, Nat.le_refl p, fun h => absurd h (Nat.lt_irrefl p)⟩
  | succ k ih =>
    intro p v h
    by_cases c : p < L ∧ 48 ≤ B p ∧ B p ≤ 57
    · have e : ds B L (k + 1) p v = ds B L k (p + 1) (10 * v + B p - 48) := if_pos c
      obtain ⟨h1, h2, h3, h4⟩ := ih (p + 1) (10 * v + B p - 48) (by omega)
      rw [e]
      exact ⟨by omega, h2, by omega, fun h => h4 (by omega)⟩
    · have e : ds B L (k + 1) p v = (p, v) := if_neg c
      rw [e]
      exact ⟨Nat.le_refl p, h, by show p ≤ p + (k + 1); omega, fun _ => c⟩
def TKm (B : Nat → Int) (L : Nat) (sg : Bool) (p : Nat) : Bool := sg && decide (SK B L p < L ∧ B (SK B L p) = 45)
def TKs (B : Nat → Int) (L : Nat) (sg : Bool) (p : Nat) : Nat := if TKm B L sg p = true then SK B L p + 1 else SK B L p
def TKe (B : Nat → Int) (L : Nat) (sg : Bool) (p : Nat) : Nat := (ds B L 6 (TKs B L sg p) 0).1
def TKv (B : Nat → Int) (L : Nat) (sg : Bool) (p : Nat) : Int := if TKm B L sg p = true then -(ds B L 6 (TKs B L sg p) 0).2 else (ds B L 6 (TKs B L sg p) 0).2
def TKo (B : Nat → Int) (L : Nat) (sg : Bool) (p : Nat) : Bool := decide (TKs B L sg p < TKe B L sg p ∧ ¬ (TKe B L sg p < L ∧ 48 ≤ B (TKe B L sg p) ∧ B (TKe B L sg p) ≤ 57))
theorem TK_r (B : Nat → Int) {L p : Nat} (sg : Bool) (hp : p ≤ L) : p ≤ TKs B L sg p ∧ TKs B L sg p ≤ L ∧ TKs B L sg p ≤ TKe B L sg p ∧ TKe B L sg p ≤ L ∧ (TKm B L sg p = true → sg = true ∧ SK B L p < L ∧ B (SK B L p) = 45) ∧ (TKm B L sg p ≠ true → ¬ (sg = true ∧ SK B L p < L ∧ B (SK B L p) = 45)) := by
  have h := SK_r B hp
  have m1 : TKm B L sg p = true ↔ sg = true ∧ SK B L p < L ∧ B (SK B L p) = 45 := by
    unfold TKm
    rw [Bool.and_eq_true, decide_eq_true_iff]
  have hs : p ≤ TKs B L sg p ∧ TKs B L sg p ≤ L := by
    unfold TKs
    by_cases c : TKm B L sg p = true
    · rw [if_pos c]; have := m1.mp c; omega
    · rw [if_neg c]; omega
  have hd := ds_r B (L := L) 6 (TKs B L sg p) 0 hs.2
  exact ⟨hs.1, hs.2, hd.1, hd.2.1, m1.mp, fun h z => h (m1.mpr z)⟩
theorem TKo_t {B : Nat → Int} {L p : Nat} {sg : Bool} : TKo B L sg p = true ↔ (TKs B L sg p < TKe B L sg p ∧ ¬ (TKe B L sg p < L ∧ 48 ≤ B (TKe B L sg p) ∧ B (TKe B L sg p) ≤ 57)) := by unfold TKo; exact decide_eq_true_iff
def sgn (l : Int) (k : Nat) : Bool := decide (l = 115 ∧ k = 2)
/-- d numbers, from the k-th on -/
def TA (B : Nat → Int) (L : Nat) (l : Int) : Nat → Nat → Nat → (Nat → Int) → Bool × Nat × (Nat → Int)
  | 0, _, p, vs => (true, p, vs)
  | d + 1, k, p, vs => if TKo B L (sgn l k) p = true then TA B L l d (k + 1) (TKe B L (sgn l k) p) (fun j => if j = k then TKv B L (sgn l k) p else vs j) else (false, TKe B L (sgn l k) p, vs)
theorem TA_r (B : Nat → Int) {L : Nat} (l : Int) : ∀ (d k p : Nat) (vs : Nat → Int), p ≤ L → p ≤ (TA B L l d k p vs).2.1 ∧ (TA B L l d k p vs).2.1 ≤ L ∧ ((TA B L l d k p vs).1 = true → p + d ≤ (TA B L l d k p vs).2.1) := by
  intro d
  induction d with
  | zero => intro k p vs h; exact ⟨Nat.le_refl p, h, fun _ => Nat.le_refl p⟩
  | succ d ih =>
    intro k p vs h
    have hr := TK_r B (sgn l k) h
    by_cases c : TKo B L (sgn l k) p = true
    · have e : TA B L l (d + 1) k p vs = TA B L l d (k + 1) (TKe B L (sgn l k) p) (fun j => if j = k then TKv B L (sgn l k) p else vs j) := if_pos c
      have h2 := ih (k + 1) (TKe B L (sgn l k) p) (fun j => if j = k then TKv B L (sgn l k) p else vs j) hr.2.2.2.1
      have h3 := (TKo_t.mp c).1
      rw [e]
      exact ⟨by omega, h2.2.1, fun q => by have := h2.2.2 q; omega⟩
    · have e : TA B L l (d + 1) k p vs = (false, TKe B L (sgn l k) p, vs) := if_neg c
      rw [e]
      exact ⟨by show p ≤ TKe B L (sgn l k) p; omega, hr.2.2.2.1, fun q => by cases q⟩
theorem TA_lo (B : Nat → Int) {L : Nat} (l : Int) : ∀ (d k p : Nat) (vs : Nat → Int) (j : Nat), j < k → (TA B L l d k p vs).2.2 j = vs j := by
  intro d
  induction d with
  | zero => intro k p vs j hj; rfl
  | succ d ih =>
    intro k p vs j hj
    by_cases c : TKo B L (sgn l k) p = true
    · have e : TA B L l (d + 1) k p vs = TA B L l d (k + 1) (TKe B L (sgn l k) p) (fun j => if j = k then TKv B L (sgn l k) p else vs j) := if_pos c
      rw [e, ih (k + 1) _ _ j (by omega)]
      exact if_neg (by omega)
    · have e : TA B L l (d + 1) k p vs = (false, TKe B L (sgn l k) p, vs) := if_neg c
      rw [e]
/-- an order from p on -/
def ORr (B : Nat → Int) (L p : Nat) : Bool × Nat × (Nat → Int) := TA B L (B (SK B L p)) (NB (B (SK B L p))).toNat 0 (SK B L p + 1) (fun _ => 0)
def ORq (B : Nat → Int) (L p : Nat) : Nat := SK B L (ORr B L p).2.1
def ORo (B : Nat → Int) (L p : Nat) : Bool := decide (SK B L p < L ∧ NB (B (SK B L p)) ≠ 0 ∧ (ORr B L p).1 = true ∧ ORq B L p < L ∧ B (ORq B L p) = 59)
def ORf (B : Nat → Int) (L p : Nat) : Nat := if ¬ SK B L p < L ∨ NB (B (SK B L p)) = 0 then SK B L p else if (ORr B L p).1 = true then ORq B L p else (ORr B L p).2.1
theorem ORo_t {B : Nat → Int} {L p : Nat} : ORo B L p = true ↔ (SK B L p < L ∧ NB (B (SK B L p)) ≠ 0 ∧ (ORr B L p).1 = true ∧ ORq B L p < L ∧ B (ORq B L p) = 59) := by unfold ORo; exact decide_eq_true_iff
theorem OR_r (B : Nat → Int) {L p : Nat} (h : p ≤ L) : ORf B L p ≤ L ∧ (SK B L p < L → SK B L p + 1 ≤ (ORr B L p).2.1 ∧ (ORr B L p).2.1 ≤ L ∧ (ORr B L p).2.1 ≤ ORq B L p ∧ ORq B L p ≤ L) ∧ (ORo B L p = true → p + 3 ≤ ORq B L p + 1) := by
  have h1 := SK_r B h
  have h2 : SK B L p < L → SK B L p + 1 ≤ (ORr B L p).2.1 ∧ (ORr B L p).2.1 ≤ L ∧ (ORr B L p).2.1 ≤ ORq B L p ∧ ORq B L p ≤ L := fun q => by
    have h3 := TA_r B (B (SK B L p)) (NB (B (SK B L p))).toNat 0 (SK B L p + 1) (fun _ => 0) (L := L) (by omega)
    have h4 := SK_r B (p := (ORr B L p).2.1) (L := L) h3.2.1
    exact ⟨h3.1, h3.2.1, h4.1, h4.2.1⟩
  refine ⟨?_, h2, fun q => ?_⟩
  · unfold ORf
    by_cases c : ¬ SK B L p < L ∨ NB (B (SK B L p)) = 0
    · rw [if_pos c]; omega
    · rw [if_neg c]
      have := h2 (by omega)
      by_cases c2 : (ORr B L p).1 = true
      · rw [if_pos c2]; omega
      · rw [if_neg c2]; omega
  · obtain ⟨a1, a2, a3, a4, a5⟩ := ORo_t.mp q
    have h3 := (TA_r B (B (SK B L p)) (NB (B (SK B L p))).toNat 0 (SK B L p + 1) (fun _ => 0) (L := L) (by omega)).2.2 a3
    have h4 := NB_r (B (SK B L p))
    have := h2 a1
    have e : (ORr B L p).2.1 = (TA B L (B (SK B L p)) (NB (B (SK B L p))).toNat 0 (SK B L p + 1) (fun _ => 0)).2.1 := rfl
    omega
/-! the program reads it -/
abbrev T9 : Type := Int32 × (Nat → Int32) × (Nat → Int32) × Int32 × Int32 × Int32 × Int32 × Int32 × Int32
def FLT (L f : Nat) (o : Option (Sum (Int32 × T9) T9)) : Prop := (f < L ∧ ∃ x : T9, o = some (.inl (iz f, x))) ∨ (f = L ∧ ∃ x : T9, o = some (.inr x) ∧ (x.1 ≤ 0 ∨ ¬ x.2.2.2.1 = 0))
def TXT (B : Nat → Int) (L : Nat) (tx : Nat → Int32) : Prop := L ≤ 120 ∧ ∀ j, j < L → tx j = iz (B j) ∧ 0 ≤ B j ∧ B j ≤ 127
theorem L12_ok {B : Nat → Int} {L : Nat} {tx : Nat → Int32} (hT : TXT B L tx) {p : Nat} (hp : p < L) {c : Int32} {le nu : Nat → Int32} {s l fi fs nm be c' : Int32} {le' nu' : Nat → Int32} {s' l' fi' fs' nm' be' : Int32}
    (ha : fOr_accept (iz (B p)) c le nu s l fi fs nm be = some (1, c', le', nu', s', l', fi', fs', nm', be')) (m : Nat) :
    fOr_findFault_L12 (iz L) tx (m + 1) (iz p) c le nu s l fi fs nm be = fOr_findFault_L12 (iz L) tx m (iz ((p + 1 : Nat) : Int)) c' le' nu' s' l' fi' fs' nm' be' := by
  have hL := hT.1
  have n1 : ¬ iz (L : Int) ≤ iz p := by rw [iz_le (by omega) (by omega) (by omega) (by omega)]; omega
  have n2 : ¬ (120 : Int32) ≤ iz p := by rw [iz_n, iz_le (by omega) (by omega) (by omega) (by omega)]; omega
  have i1 : 0 ≤ (iz (p : Int)).toInt ∧ (iz (p : Int)).toInt < 120 := by rw [iz_t (by omega) (by omega)]; omega
  have i3 : (iz (p : Int)).toNatClampNeg = p := by rw [iz_c (by omega) (by omega)]; omega
  have e1 : iz (p : Int) + (1 : Int32) = iz ((p + 1 : Nat) : Int) := by rw [iz_n, iz_add]; exact iz_inj (by omega)
  generalize hX : fOr_findFault_L12 (iz L) tx m (iz ((p + 1 : Nat) : Int)) c' le' nu' s' l' fi' fs' nm' be' = X
  unfold fOr_findFault_L12
  rw [if_neg n1, if_neg n2, if_pos i1, i3, (hT.2 p hp).1, ha]
  simp only [Option.bind_some, s10, if_false]
  rw [e1]
  exact hX
theorem L12_no {B : Nat → Int} {L : Nat} {tx : Nat → Int32} (hT : TXT B L tx) {p : Nat} (hp : p < L) {c : Int32} {le nu : Nat → Int32} {s l fi fs nm be : Int32} {y : T9}
    (ha : fOr_accept (iz (B p)) c le nu s l fi fs nm be = some (0, y)) {m : Nat} (hm : 0 < m) : FLT L p (fOr_findFault_L12 (iz L) tx m (iz p) c le nu s l fi fs nm be) := by
  obtain ⟨m, rfl⟩ : ∃ q, m = q + 1 := ⟨m - 1, by omega⟩
  have hL := hT.1
  have n1 : ¬ iz (L : Int) ≤ iz p := by rw [iz_le (by omega) (by omega) (by omega) (by omega)]; omega
  have n2 : ¬ (120 : Int32) ≤ iz p := by rw [iz_n, iz_le (by omega) (by omega) (by omega) (by omega)]; omega
  have i1 : 0 ≤ (iz (p : Int)).toInt ∧ (iz (p : Int)).toInt < 120 := by rw [iz_t (by omega) (by omega)]; omega
  have i3 : (iz (p : Int)).toNatClampNeg = p := by rw [iz_c (by omega) (by omega)]; omega
  refine .inl ⟨hp, y, ?_⟩
  unfold fOr_findFault_L12
  rw [if_neg n1, if_neg n2, if_pos i1, i3, (hT.2 p hp).1, ha]
  simp only [Option.bind_some, s00, if_true]
theorem L12_end {L : Nat} (tx : Nat → Int32) (c : Int32) (le nu : Nat → Int32) (s l fi fs nm be : Int32) {m : Nat} (hm : 0 < m) : fOr_findFault_L12 (iz L) tx m (iz L) c le nu s l fi fs nm be = some (.inr (c, le, nu, s, l, fi, fs, nm, be)) := by
  obtain ⟨m, rfl⟩ : ∃ q, m = q + 1 := ⟨m - 1, by omega⟩
  unfold fOr_findFault_L12
  rw [if_pos (Int32.le_refl _)]
theorem L12_fe {L : Nat} (tx : Nat → Int32) (c : Int32) (le nu : Nat → Int32) {s : Int32} (hs : ¬ s = 0) (l fi fs nm be : Int32) {m : Nat} (hm : 0 < m) : FLT L L (fOr_findFault_L12 (iz L) tx m (iz L) c le nu s l fi fs nm be) := .inr ⟨rfl, _, L12_end tx c le nu s l fi fs nm be hm, .inr hs⟩
theorem skip_01 {B : Nat → Int} {L : Nat} {tx : Nat → Int32} (hT : TXT B L tx) {s : Int32} (hs : s = 0 ∨ s = 1) (c : Int32) (le nu : Nat → Int32) (l fi fs nm be : Int32) : ∀ (d p m : Nat), p + d = L →
    fOr_findFault_L12 (iz L) tx (m + (sk B d p - p)) (iz p) c le nu s l fi fs nm be = fOr_findFault_L12 (iz L) tx m (iz (sk B d p : Nat)) c le nu s l fi fs nm be := by
  intro d
  induction d with
  | zero => intro p m hp; show fOr_findFault_L12 (iz L) tx (m + (p - p)) (iz p) c le nu s l fi fs nm be = _; rw [show m + (p - p) = m by omega]; rfl
  | succ d ih =>
    intro p m hp
    by_cases q : B p = 32
    · have e : sk B (d + 1) p = sk B d (p + 1) := if_pos q
      have hr := sk_r B d (p + 1)
      have ha : fOr_accept (iz (B p)) c le nu s l fi fs nm be = some (1, c, le, nu, s, l, fi, fs, nm, be) := by
        rw [q]
        rcases hs with rfl | rfl
        · exact a0_blank c le nu l fi fs nm be
        · exact a1_blank c le nu l fi fs nm be
      rw [e, show m + (sk B d (p + 1) - p) = (m + (sk B d (p + 1) - (p + 1))) + 1 by omega, L12_ok hT (by omega) ha]
      exact ih (p + 1) m (by omega)
    · have e : sk B (d + 1) p = p := if_neg q
      rw [e, show m + (p - p) = m by omega]
theorem skip_K {B : Nat → Int} {L : Nat} {tx : Nat → Int32} (hT : TXT B L tx) {s : Int32} (hs : s = 0 ∨ s = 1) (c : Int32) (le nu : Nat → Int32) (l fi fs nm be : Int32) {p : Nat} (hp : p ≤ L) (m : Nat) :
    fOr_findFault_L12 (iz L) tx (m + (SK B L p - p)) (iz p) c le nu s l fi fs nm be = fOr_findFault_L12 (iz L) tx m (iz (SK B L p : Nat)) c le nu s l fi fs nm be := skip_01 hT hs c le nu l fi fs nm be (L - p) p m (by omega)
