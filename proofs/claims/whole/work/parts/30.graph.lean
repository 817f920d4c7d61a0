/-! walks along a chain -/
theorem pigeon : ∀ (n : Nat) (p : Nat → Nat), (∀ i, i ≤ n → p i < n) → ∃ i j, i < j ∧ j ≤ n ∧ p i = p j := by
  intro n
  induction n with
  | zero => intro p h; exact absurd (h 0 (by omega)) (by omega)
  | succ n ih =>
    intro p h
    by_cases c : ∃ i, i ≤ n ∧ p i = p (n + 1)
    · obtain ⟨i, h1, h2⟩ := c
      exact ⟨i, n + 1, by omega, by omega, h2⟩
    · have hq : ∀ i, i ≤ n → (if p i = n then p (n + 1) else p i) < n := by
        intro i hi
        have h1 := h i (by omega)
        have h2 := h (n + 1) (by omega)
        have h3 : p i ≠ p (n + 1) := fun e => c ⟨i, hi, e⟩
        split <;> omega
      obtain ⟨i, j, h1, h2, h3⟩ := ih (fun i => if p i = n then p (n + 1) else p i) hq
      have ci : p i ≠ p (n + 1) := fun e => c ⟨i, by omega, e⟩
      have cj : p j ≠ p (n + 1) := fun e => c ⟨j, by omega, e⟩
      have h3 : (if p i = n then p (n + 1) else p i) = (if p j = n then p (n + 1) else p j) := h3
      refine ⟨i, j, h1, by omega, ?_⟩
      by_cases a1 : p i = n
      · by_cases a2 : p j = n
        · omega
        · rw [if_pos a1, if_neg a2] at h3; omega
      · by_cases a2 : p j = n
        · rw [if_neg a1, if_pos a2] at h3; omega
        · rw [if_neg a1, if_neg a2] at h3; exact h3
theorem pigeonZ {N : Int} (hN : 0 ≤ N) (p : Nat → Int) (h : ∀ i : Nat, (i : Int) ≤ N → 0 ≤ p i ∧ p i < N) : ∃ i j : Nat, i < j ∧ (j : Int) ≤ N ∧ p i = p j := by
  obtain ⟨i, j, h1, h2, h3⟩ := pigeon N.toNat (fun i => (p i).toNat) (fun i hi => by have := h i (by omega); show (p i).toNat < N.toNat; omega)
  have h3 : (p i).toNat = (p j).toNat := h3
  have := h i (by omega)
  have := h j (by omega)
  exact ⟨i, j, h1, by omega, by omega⟩
def it (f : Int → Int) : Nat → Int → Int
  | 0, x => x
  | i + 1, x => f (it f i x)
theorem it_in (f : Int → Int) : ∀ (i : Nat) (x : Int), it f (i + 1) x = it f i (f x) := by
  intro i
  induction i with
  | zero => intro x; rfl
  | succ i ih => intro x; show f (it f (i + 1) x) = f (it f i (f x)); rw [ih]
theorem it_add (f : Int → Int) (i : Nat) : ∀ (j : Nat) (x : Int), it f (j + i) x = it f j (it f i x) := by
  intro j
  induction j with
  | zero => intro x; rw [Nat.zero_add]; rfl
  | succ j ih => intro x; rw [show j + 1 + i = (j + i) + 1 by omega]; show f (it f (j + i) x) = f (it f j (it f i x)); rw [ih]
/-- followers and pictures ahead, and no round shorter than N -/
def GI (N : Int) (f g : Int → Int) : Prop :=
  (∀ x, ¬ (0 ≤ x ∧ x < N) → f x = -1 ∧ g x = -1) ∧ (∀ x, -1 ≤ f x ∧ f x < N ∧ -1 ≤ g x ∧ g x < N) ∧ (∀ x y, 0 ≤ x → 0 ≤ y → (f x = y ↔ g y = x)) ∧
  (∀ (x : Int) (i : Nat), 0 ≤ x → 1 ≤ i → it f i x = x → N ≤ i)
theorem it_neg {f : Int → Int} (h : f (-1) = -1) (i : Nat) : ∀ j, it f i (-1) = -1 ∧ (∀ x, it f i x = -1 → it f (j + i) x = -1) := by
  have h1 : ∀ i, it f i (-1) = -1 := by
    intro i
    induction i with
    | zero => rfl
    | succ i ih => show f (it f i (-1)) = -1; rw [ih, h]
  intro j
  exact ⟨h1 i, fun x hx => by rw [it_add, hx, h1]⟩
section GIs
variable {N : Int} {f g : Int → Int}
theorem GI.f1 (h : GI N f g) (hN : 0 ≤ N) : f (-1) = -1 := (h.1 (-1) (by omega)).1
theorem GI.sw (h : GI N f g) (hN : 0 ≤ N) : (∀ x, ¬ (0 ≤ x ∧ x < N) → g x = -1 ∧ f x = -1) ∧ (∀ x y, 0 ≤ x → 0 ≤ y → (g x = y ↔ f y = x)) :=
  ⟨fun x hx => ⟨(h.1 x hx).2, (h.1 x hx).1⟩, fun x y hx hy => (h.2.2.1 y x hy hx).symm⟩
theorem GI.pos (h : GI N f g) (hN : 0 ≤ N) {i : Nat} {x : Int} (hi : 0 ≤ it f i x) {j : Nat} (hj : j ≤ i) : 0 ≤ it f j x ∧ (1 ≤ j → it f j x < N) := by
  have h1 : -1 ≤ it f j x ∨ j = 0 := by
    cases j with
    | zero => exact .inr rfl
    | succ j => exact .inl (h.2.1 _).1
  have h2 : it f j x ≠ -1 := by
    intro e
    have := ((it_neg (h.f1 hN) j (i - j)).2 x e)
    rw [show i - j + j = i by omega] at this
    omega
  constructor
  · rcases h1 with h1 | h1
    · omega
    · subst h1
      by_cases c : 0 ≤ x
      · exact c
      · cases i with
        | zero => exact hi
        | succ i =>
          rw [it_in, (h.1 x (by omega)).1, ((it_neg (h.f1 hN) i 0).1)] at hi
          omega
  · intro hj1
    cases j with
    | zero => omega
    | succ j => exact (h.2.1 _).2.1
theorem GI.inj (h : GI N f g) : ∀ (i : Nat) (x y : Int), (0 ≤ x ∧ 0 ≤ y) → (∀ j, 1 ≤ j → j ≤ i → 0 ≤ it f j x) → it f i x = it f i y → (∀ j, 1 ≤ j → j ≤ i → 0 ≤ it f j y) → x = y := by
  intro i
  induction i with
  | zero => intro x y _ _ e _; exact e
  | succ i ih =>
    intro x y hxy hx e hy
    have p1 : 0 ≤ f x := hx 1 (by omega) (by omega)
    have p2 : 0 ≤ f y := hy 1 (by omega) (by omega)
    have e2 : f x = f y := ih (f x) (f y) ⟨p1, p2⟩ (fun j h1 h2 => by rw [← it_in]; exact hx (j + 1) (by omega) (by omega)) (by rw [← it_in, ← it_in]; exact e) (fun j h1 h2 => by rw [← it_in]; exact hy (j + 1) (by omega) (by omega))
    have q1 := (h.2.2.1 x (f x) hxy.1 p1).mp rfl
    have q2 := (h.2.2.1 y (f y) hxy.2 p2).mp rfl
    rw [← e2] at q2
    omega
theorem GI.cyc (h : GI N f g) (hN : 0 ≤ N) {x : Int} {i d : Nat} (hx : 0 ≤ x) (hp : 0 ≤ it f (i + d) x) (e : it f i x = it f (i + d) x) : it f d x = x := by
  have e2 : it f i x = it f i (it f d x) := by rw [← it_add]; exact e
  have pd := (h.pos hN hp (j := d) (by omega)).1
  refine (h.inj i x (it f d x) ⟨hx, pd⟩ (fun j _ h2 => (h.pos hN hp (j := j) (by omega)).1) e2 (fun j _ h2 => ?_)).symm
  rw [← it_add]; exact (h.pos hN hp (j := j + d) (by omega)).1
/-- from a picture that none leads to, the walk ends -/
theorem GI.ends (h : GI N f g) (hN : 0 ≤ N) {b : Int} (hb : 0 ≤ b ∧ b < N) (hg : g b = -1) : it f N.toNat b = -1 := by
  by_cases c : 0 ≤ it f N.toNat b
  · exfalso
    obtain ⟨i, j, h1, h2, h3⟩ := pigeonZ hN (fun i => it f i b) (fun i hi => by
      have := h.pos hN c (j := i) (by omega)
      refine ⟨this.1, ?_⟩
      cases i with
      | zero => exact hb.2
      | succ i => exact this.2 (by omega))
    have h3 : it f i b = it f j b := h3
    obtain ⟨d, rfl⟩ : ∃ d, j = i + d := ⟨j - i, by omega⟩
    have hpj := (h.pos hN c (j := i + d) (by omega)).1
    have e := h.cyc hN hb.1 hpj h3
    obtain ⟨d', rfl⟩ : ∃ q, d = q + 1 := ⟨d - 1, by omega⟩
    have e' : f (it f d' b) = b := e
    have := (h.2.2.1 (it f d' b) b (h.pos hN hpj (j := d') (by omega)).1 hb.1).mp e'
    have := (h.pos hN hpj (j := d') (by omega)).1
    omega
  · have : -1 ≤ it f N.toNat b := by
      rw [show N.toNat = (N.toNat - 1) + 1 by omega]
      exact (h.2.1 _).1
    omega
theorem first {P : Nat → Prop} : ∀ n, P n → ∃ m, m ≤ n ∧ P m ∧ ∀ j, j < m → ¬ P j := by
  intro n
  induction n using Nat.strongRecOn with
  | ind n ih =>
    intro hn
    by_cases c : ∃ j, j < n ∧ P j
    · obtain ⟨j, h1, h2⟩ := c
      obtain ⟨m, a, b, d⟩ := ih j h1 h2
      exact ⟨m, by omega, b, d⟩
    · exact ⟨n, by omega, hn, fun j hj hp => c ⟨j, hj, hp⟩⟩
/-- one more link -/
theorem GI.take (h : GI N f g) (hN : 0 ≤ N) {a b : Int} (ha : 0 ≤ a ∧ a < N) (hb : 0 ≤ b ∧ b < N) (hfa : f a = -1) (hgb : g b = -1)
    (hw : (∀ m, it f m b ≠ a) ∨ ∃ m : Nat, (m : Int) + 1 = N ∧ it f m b = a ∧ ∀ j, j < m → it f j b ≠ a) :
    GI N (fun x => if x = a then b else f x) (fun x => if x = b then a else g x) := by
  refine ⟨?_, ?_, ?_, ?_⟩
  · intro x hx
    refine ⟨?_, ?_⟩
    · show (if x = a then b else f x) = -1
      rw [if_neg (by omega)]; exact (h.1 x hx).1
    · show (if x = b then a else g x) = -1
      rw [if_neg (by omega)]; exact (h.1 x hx).2
  · intro x
    have := h.2.1 x
    refine ⟨?_, ?_, ?_, ?_⟩
    · show -1 ≤ (if x = a then b else f x)
      split <;> omega
    · show (if x = a then b else f x) < N
      split <;> omega
    · show -1 ≤ (if x = b then a else g x)
      split <;> omega
    · show (if x = b then a else g x) < N
      split <;> omega
  · intro x y hx hy
    show (if x = a then b else f x) = y ↔ (if y = b then a else g y) = x
    have h3 := h.2.2.1 x y hx hy
    by_cases c1 : x = a
    · rw [if_pos c1]
      by_cases c2 : y = b
      · rw [if_pos c2]; omega
      · rw [if_neg c2]
        constructor
        · intro e; omega
        · intro e
          have := h3.mpr e
          rw [c1] at this; omega
    · rw [if_neg c1]
      by_cases c2 : y = b
      · rw [if_pos c2]
        constructor
        · intro e
          have := h3.mp e
          rw [c2] at this; omega
        · intro e; omega
      · rw [if_neg c2]; exact h3
  · have same : ∀ (x : Int) (i : Nat), (∀ j, j < i → it (fun x => if x = a then b else f x) j x ≠ a) → it (fun x => if x = a then b else f x) i x = it f i x := by
      intro x i
      induction i with
      | zero => intro _; rfl
      | succ i ih =>
        intro hj
        have e := ih (fun j h1 => hj j (by omega))
        show (if it (fun x => if x = a then b else f x) i x = a then b else f (it (fun x => if x = a then b else f x) i x)) = f (it f i x)
        rw [if_neg (hj i (by omega)), e]
    intro x i hx hi e
    by_cases c : ∃ j, j < i ∧ it (fun x => if x = a then b else f x) j x = a
    · obtain ⟨j, h1, h2⟩ := c
      have e2 : it (fun x => if x = a then b else f x) i a = a := by
        have q : it (fun x => if x = a then b else f x) i (it (fun x => if x = a then b else f x) j x) = it (fun x => if x = a then b else f x) j (it (fun x => if x = a then b else f x) i x) := by
          rw [← it_add, ← it_add, Nat.add_comm]
        rw [e, h2] at q
        exact q
      obtain ⟨i', rfl⟩ : ∃ q, i = q + 1 := ⟨i - 1, by omega⟩
      rw [it_in, show (if a = a then b else f a) = b from if_pos rfl] at e2
      obtain ⟨m, m1, m2, m3⟩ := first (P := fun m => it (fun x => if x = a then b else f x) m b = a) i' e2
      have m2' : it (fun x => if x = a then b else f x) m b = a := m2
      rw [same b m (fun j hj => m3 j hj)] at m2'
      rcases hw with hw | ⟨m0, k1, k2, k3⟩
      · exact absurd m2' (hw m)
      · have : ¬ m < m0 := fun q => k3 m q m2'
        omega
    · rw [same x i (fun j hj q => c ⟨j, hj, q⟩)] at e
      exact h.2.2.2 x i hx hi e
/-- a closed chain: the walk from 0 meets all -/
theorem GI.round (h : GI N f g) (hN : 1 ≤ N) (hc : ∀ x, 0 ≤ x ∧ x < N → f x ≠ -1) :
    (∀ i, 0 ≤ it f i 0 ∧ it f i 0 < N) ∧ (∀ i j : Nat, i < j → (j : Int) < N → it f i 0 ≠ it f j 0) ∧ (∀ k, 0 ≤ k ∧ k < N → ∃ i : Nat, (i : Int) < N ∧ it f i 0 = k) ∧ it f N.toNat 0 = 0 := by
  have c1 : ∀ i, 0 ≤ it f i 0 ∧ it f i 0 < N := by
    intro i
    induction i with
    | zero => exact ⟨by show (0 : Int) ≤ 0; omega, by show (0 : Int) < N; omega⟩
    | succ i ih =>
      have a1 := hc _ ih
      have a2 := h.2.1 (it f i 0)
      show 0 ≤ f (it f i 0) ∧ f (it f i 0) < N
      omega
  have c2 : ∀ i j : Nat, i < j → (j : Int) < N → it f i 0 ≠ it f j 0 := by
    intro i j h1 h2 e
    obtain ⟨d, rfl⟩ : ∃ d, j = i + d := ⟨j - i, by omega⟩
    have := h.cyc (by omega) (x := 0) (i := i) (d := d) (by omega) (c1 _).1 e
    have := h.2.2.2 0 d (by omega) (by omega) this
    omega
  have c3 : ∀ k, 0 ≤ k ∧ k < N → ∃ i : Nat, (i : Int) < N ∧ it f i 0 = k := by
    intro k hk
    obtain ⟨i, j, h1, h2, h3⟩ := pigeonZ (N := N) (by omega) (fun i => if (i : Int) < N then it f i 0 else k) (fun i hi => by
      show 0 ≤ (if (i : Int) < N then it f i 0 else k) ∧ (if (i : Int) < N then it f i 0 else k) < N
      split
      · exact c1 i
      · exact hk)
    have h3 : (if (i : Int) < N then it f i 0 else k) = (if (j : Int) < N then it f j 0 else k) := h3
    rw [if_pos (by omega)] at h3
    by_cases c : (j : Int) < N
    · rw [if_pos c] at h3; exact absurd h3 (c2 i j h1 c)
    · rw [if_neg c] at h3; exact ⟨i, by omega, h3⟩
  refine ⟨c1, c2, c3, ?_⟩
  obtain ⟨i, h1, h2⟩ := c3 _ (c1 N.toNat)
  by_cases c : i = 0
  · subst c; exact h2.symm
  · obtain ⟨d, hd⟩ : ∃ d, N.toNat = i + d := ⟨N.toNat - i, by omega⟩
    rw [hd] at h2
    have := h.cyc (by omega) (x := 0) (i := i) (d := d) (by omega) (c1 _).1 h2
    have := h.2.2.2 0 d (by omega) (by omega) this
    omega
/-- a chain that isn't closed: the walk back ends -/
theorem GI.back (h : GI N f g) (hN : 1 ≤ N) {y : Int} (hy : 0 ≤ y ∧ y < N) (hf : f y = -1) {k : Int} (hk : 0 ≤ k ∧ k < N) : it g N.toNat k = -1 := by
  have hg1 : g (-1) = -1 := (h.1 (-1) (by omega)).2
  by_cases c : 0 ≤ it g N.toNat k
  · exfalso
    have p : ∀ j, j ≤ N.toNat → 0 ≤ it g j k ∧ it g j k < N := by
      intro j hj
      have n1 : it g j k ≠ -1 := by
        intro e
        have := (it_neg hg1 j (N.toNat - j)).2 k e
        rw [show N.toNat - j + j = N.toNat by omega] at this
        omega
      cases j with
      | zero => exact hk
      | succ j =>
        have := h.2.1 (it g j k)
        have n1 : g (it g j k) ≠ -1 := n1
        show 0 ≤ g (it g j k) ∧ g (it g j k) < N
        omega
    have fg : ∀ j, j < N.toNat → f (it g (j + 1) k) = it g j k := fun j hj => (h.2.2.1 _ _ (p (j + 1) (by omega)).1 (p j (by omega)).1).mpr rfl
    have up : ∀ d j : Nat, j + d ≤ N.toNat → it f d (it g (j + d) k) = it g j k := by
      intro d
      induction d with
      | zero => intro j _; rfl
      | succ d ih =>
        intro j hj
        rw [it_in, show j + (d + 1) = (j + d) + 1 by omega, fg (j + d) (by omega)]
        exact ih j (by omega)
    have dist : ∀ i j : Nat, i < j → j ≤ N.toNat → it g i k = it g j k → N ≤ (j : Int) - i := by
      intro i j h1 h2 e
      have := up (j - i) i (by omega)
      rw [show i + (j - i) = j by omega, ← e] at this
      have := h.2.2.2 _ (j - i) (p i (by omega)).1 (by omega) this
      omega
    obtain ⟨i, j, h1, h2, h3⟩ := pigeonZ (N := N) (by omega) (fun i => if (i : Int) < N then it g i k else y) (fun i hi => by
      show 0 ≤ (if (i : Int) < N then it g i k else y) ∧ (if (i : Int) < N then it g i k else y) < N
      split
      · exact p i (by omega)
      · exact hy)
    have h3 : (if (i : Int) < N then it g i k else y) = (if (j : Int) < N then it g j k else y) := h3
    rw [if_pos (by omega)] at h3
    by_cases c2 : (j : Int) < N
    · rw [if_pos c2] at h3
      have := dist i j h1 (by omega) h3
      omega
    · rw [if_neg c2] at h3
      obtain ⟨i2, j2, q1, q2, q3⟩ := pigeonZ (N := N) (by omega) (fun i => it g i k) (fun i hi => p i (by omega))
      have q3 : it g i2 k = it g j2 k := q3
      have := dist i2 j2 q1 (by omega) q3
      have e0 : i2 = 0 := by omega
      have e1 : j2 = N.toNat := by omega
      rw [e0, e1] at q3
      cases i with
      | zero =>
        have h3 : k = y := h3
        have q3 : k = it g N.toNat k := q3
        have := fg (N.toNat - 1) (by omega)
        rw [show N.toNat - 1 + 1 = N.toNat by omega, ← q3] at this
        have := (p (N.toNat - 1) (by omega)).1
        rw [h3] at *
        omega
      | succ i =>
        have := fg i (by omega)
        rw [h3, hf] at this
        have := (p i (by omega)).1
        omega
  · have : -1 ≤ it g N.toNat k := by
      rw [show N.toNat = (N.toNat - 1) + 1 by omega]
      exact (h.2.1 _).2.2.1
    omega
end GIs
