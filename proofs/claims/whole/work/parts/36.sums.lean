/-! sums over the pictures -/
def SU (f : Int → Int) : Nat → Int
  | 0 => 0
  | k + 1 => SU f k + f k
theorem SU_6 (f : Int → Int) : SU f 6 = S6 f := by
  show 0 + f ((0 : Nat) : Int) + f ((1 : Nat) : Int) + f ((2 : Nat) : Int) + f ((3 : Nat) : Int) + f ((4 : Nat) : Int) + f ((5 : Nat) : Int) = f 0 + f 1 + f 2 + f 3 + f 4 + f 5
  rw [Int.zero_add]; rfl
theorem SU_tail {f : Int → Int} {N : Nat} (h : ∀ x : Nat, N ≤ x → f x = 0) : ∀ d, SU f (N + d) = SU f N := by
  intro d
  induction d with
  | zero => rfl
  | succ d ih => show SU f (N + d) + f ((N + d : Nat) : Int) = SU f N; rw [ih, h (N + d) (by omega)]; omega
theorem SU_S6 {f : Int → Int} {N : Int} (hN : 0 ≤ N ∧ N ≤ 6) (h : ∀ x : Int, N ≤ x → f x = 0) : SU f N.toNat = S6 f := by
  have := SU_tail (f := f) (N := N.toNat) (fun x hx => h x (by omega)) (6 - N.toNat)
  rw [show N.toNat + (6 - N.toNat) = 6 by omega, SU_6] at this
  exact this.symm
theorem SU_r {f : Int → Int} {l u : Int} (h : ∀ x : Int, l ≤ f x ∧ f x ≤ u) : ∀ k : Nat, l * k ≤ SU f k ∧ SU f k ≤ u * k := by
  intro k
  induction k with
  | zero => show l * 0 ≤ 0 ∧ 0 ≤ u * 0; omega
  | succ k ih =>
    have := h k
    show l * ((k + 1 : Nat) : Int) ≤ SU f k + f k ∧ SU f k + f k ≤ u * ((k + 1 : Nat) : Int)
    rw [show ((k + 1 : Nat) : Int) = (k : Int) + 1 by omega, Int.mul_add, Int.mul_add, Int.mul_one, Int.mul_one]
    omega
theorem sMo_takenL {al G : Nat → Int32} (o : OkA al) (c : Cn al) (hG : fw G = fC al) : ∀ (d k m : Nat), (k : Int) + d = NN al → d < m → fMo_taken_L4 al G m (iz (SU (co (fC al)) k)) (iz k) = some (iz (SU (co (fC al)) (NN al).toNat)) := by
  have on := o.n
  intro d
  induction d with
  | zero =>
    intro k m hk hm
    obtain ⟨m, rfl⟩ : ∃ q, m = q + 1 := ⟨m - 1, by omega⟩
    have g6 : iz (NN al) ≤ iz k := by simp (disch := omega) only [iz_n, iz_neg, iz_add, iz_sub, iz_mul, iz_lt, iz_le, iz_eq, iz_t, iz_c]; omega
    unfold fMo_taken_L4
    rw [sMo_many]
    simp only [Option.bind_some]
    rw [if_pos g6, show k = (NN al).toNat by omega]
  | succ d ih =>
    intro k m hk hm
    obtain ⟨m, rfl⟩ : ∃ q, m = q + 1 := ⟨m - 1, by omega⟩
    have g6 : ¬ iz (NN al) ≤ iz k := by simp (disch := omega) only [iz_n, iz_neg, iz_add, iz_sub, iz_mul, iz_lt, iz_le, iz_eq, iz_t, iz_c]; omega
    have e1 : iz (k : Int) + (1 : Int32) = iz ((k + 1 : Nat) : Int) := by rw [iz_n, iz_add]; exact iz_inj (by omega)
    have i1 : 0 ≤ (iz (k : Int)).toInt ∧ (iz (k : Int)).toInt < 6 := by rw [iz_t (by omega) (by omega)]; omega
    have i3 : (iz (k : Int)).toNatClampNeg = (k : Int).toNat := iz_c (by omega) (by omega)
    have hg : G (k : Int).toNat = iz (fC al k) := by rw [← hG]; exact fw_i G (by omega)
    have hf := c.fr k
    have e4 : (iz (fC al k) = (-1 : Int32)) ↔ fC al k = -1 := by rw [iz_n, iz_neg]; exact iz_eq (by omega) (by omega) (by omega) (by omega)
    have st : SU (co (fC al)) (k + 1) = SU (co (fC al)) k + co (fC al) k := rfl
    have ih' := ih (k + 1) m (by omega) (by omega)
    unfold fMo_taken_L4
    rw [sMo_many]
    simp only [Option.bind_some]
    rw [if_neg g6, if_pos i1, i3, hg, e1]
    by_cases q : fC al k = -1
    · rw [if_pos (e4.mpr q), iz_l0, iz_add]
      rw [st] at ih'
      unfold co at ih' ⊢
      rw [if_pos q] at ih'
      exact ih'
    · rw [if_neg (fun z => q (e4.mp z)), iz_n, iz_add]
      rw [st] at ih'
      unfold co at ih' ⊢
      rw [if_neg q] at ih'
      exact ih'
/-- how many links are taken -/
noncomputable def tk (al : Nat → Int32) : Int := S6 (co (fC al))
theorem co_hi {al : Nat → Int32} (c : Cn al) {x : Int} (h : NN al ≤ x) : co (fC al) x = 0 := by
  unfold co; rw [if_pos (c.1.1 x (by omega)).1]
theorem sMo_taken {al G : Nat → Int32} (o : OkA al) (c : Cn al) (hG : fw G = fC al) : fMo_taken al G = some (iz (tk al)) := by
  have on := o.n
  have := sMo_takenL o c hG (NN al).toNat 0 FU (by omega) (by show _ < 5000; omega)
  unfold fMo_taken
  rw [iz_l0]
  have e : SU (co (fC al)) 0 = 0 := rfl
  rw [e] at this
  rw [show ((0 : Nat) : Int) = 0 from rfl] at this
  rw [this, SU_S6 on (fun x hx => co_hi c hx)]
  rfl
def Cl (al : Nat → Int32) : Prop := 2 ≤ NN al ∧ S6 (co (fC al)) = NN al
theorem co_r (f : Int → Int) (x : Int) : 0 ≤ co f x ∧ co f x ≤ 1 := by unfold co; split <;> omega
theorem tk_r (al : Nat → Int32) : 0 ≤ tk al ∧ tk al ≤ 6 := by
  have := S6_r (f := co (fC al)) (l := 0) (u := 1) (fun x _ => co_r _ x)
  unfold tk; omega
theorem sMo_isClosed {al G : Nat → Int32} (o : OkA al) (c : Cn al) (hG : fw G = fC al) : ∃ u, fMo_isClosed al G = some u ∧ (u = iz 0 ∨ u = iz 1) ∧ (u = iz 0 ↔ ¬ Cl al) := by
  have on := o.n
  have ht := tk_r al
  have e4 : (iz (tk al) = iz (NN al)) ↔ tk al = NN al := iz_eq (by omega) (by omega) (by omega) (by omega)
  have e5 : (iz (NN al) < (2 : Int32)) ↔ NN al < 2 := by rw [iz_n]; exact iz_lt (by omega) (by omega) (by omega) (by omega)
  have et : tk al = S6 (co (fC al)) := rfl
  unfold fMo_isClosed Cl
  rw [sMo_many, sMo_taken o c hG]
  simp only [Option.bind_some]
  by_cases q1 : NN al < 2
  · rw [if_pos (e5.mpr q1)]
    exact ⟨_, rfl, .inl rfl, ⟨fun _ => by omega, fun _ => rfl⟩⟩
  · rw [if_neg (fun z => q1 (e5.mp z))]
    by_cases q2 : tk al = NN al
    · rw [if_pos (e4.mpr q2)]
      exact ⟨_, rfl, .inr rfl, ⟨fun z => absurd z iz01, fun z => absurd ⟨by omega, by omega⟩ z⟩⟩
    · rw [if_neg (fun z => q2 (e4.mp z))]
      exact ⟨_, rfl, .inl rfl, ⟨fun _ z => q2 z.2, fun _ => rfl⟩⟩
theorem Cl_all {al : Nat → Int32} (on : 0 ≤ NN al ∧ NN al ≤ 6) (c : Cn al) (h : Cl al) : ∀ x, 0 ≤ x ∧ x < NN al → fC al x ≠ -1 := by
  intro x hx e
  have h1 := h.2
  have s : SU (co (fC al)) (NN al).toNat = NN al := by rw [SU_S6 on (fun x hx => co_hi c hx)]; exact h1
  have key : ∀ k : Nat, SU (co (fC al)) k ≤ k ∧ (x < k → SU (co (fC al)) k ≤ k - 1) := by
    intro k
    induction k with
    | zero => exact ⟨by show (0 : Int) ≤ 0; omega, fun q => by omega⟩
    | succ k ih =>
      have hr := co_r (fC al) k
      have st : SU (co (fC al)) (k + 1) = SU (co (fC al)) k + co (fC al) k := rfl
      refine ⟨by omega, fun q => ?_⟩
      by_cases d : x < k
      · have := ih.2 d; omega
      · have ek : (k : Int) = x := by omega
        have : co (fC al) k = 0 := by unfold co; rw [ek, if_pos e]
        omega
  have := (key (NN al).toNat).2 (by omega)
  omega
theorem nCl {al : Nat → Int32} (on : 0 ≤ NN al ∧ NN al ≤ 6) (c : Cn al) (h2 : 1 ≤ NN al) (h : ¬ Cl al) : ∃ y, (0 ≤ y ∧ y < NN al) ∧ fC al y = -1 := by
  by_cases q : ∃ y, (0 ≤ y ∧ y < NN al) ∧ fC al y = -1
  · exact q
  · exfalso
    have key : ∀ k : Nat, (k : Int) ≤ NN al → SU (co (fC al)) k = k := by
      intro k
      induction k with
      | zero => intro _; rfl
      | succ k ih =>
        intro hk
        have st : SU (co (fC al)) (k + 1) = SU (co (fC al)) k + co (fC al) k := rfl
        have : co (fC al) k = 1 := by
          unfold co; rw [if_neg (fun e => q ⟨k, by omega, e⟩)]
        have := ih (by omega)
        omega
    have hs : S6 (co (fC al)) = NN al := by
      rw [← SU_S6 on (fun x hx => co_hi c hx), key (NN al).toNat (by omega)]; omega
    by_cases e1 : NN al = 1
    · have f0 := c.fr 0
      have hn : fC al 0 ≠ -1 := fun e => q ⟨0, by omega, e⟩
      have := c.ne on (x := 0) (by omega)
      omega
    · exact h ⟨by omega, hs⟩
