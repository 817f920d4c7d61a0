/-! what follows from the scene, kept -/
abbrev T27 : Type := Int32 × (Nat → Int32) × (Nat → Int32) × (Nat → Int32) × (Nat → Int32) × Int32 × Int32 × Int32 × Int32 × Int32 × (Nat → Int32) × (Nat → Int32) × (Nat → Int32) × (Nat → Int32) × (Nat → Int32) × (Nat → Int32) × (Nat → Int32) × (Nat → Int32) × (Nat → Int32) × (Nat → Int32) × (Nat → Int32) × (Nat → Int32) × (Nat → Int32) × Int64 × Int64 × (Nat → Int64) × (Nat → Int64)
def PLI (al PR PL : Nat → Int32) : Prop := Cl al → ∀ i : Nat, (i : Int) < NN al → PR (it (fC al) i 0).toNat = iz (WS (fC al) (fo al (fC al)) i) ∧ PL (it (fC al) i 0).toNat = iz (WS (fC al) (eo al (fC al)) i - HI (S6 (eo al (fC al))) (NN al) i)
def CA (al : Nat → Int32) (u : T27) : Prop := CF al u.2.1 ∧ LTb al u.2.2.1 u.2.2.2.1 u.2.2.2.2.1 ∧ JC al u.2.2.2.2.2.1 u.2.2.2.2.2.2.1 u.2.2.2.2.2.2.2.1 u.2.2.2.2.2.2.2.2.1 u.2.2.2.2.2.2.2.2.2.2.1 u.2.2.2.2.2.2.2.2.2.2.2.1 u.2.2.2.2.2.2.2.2.2.2.2.2.1 u.2.2.2.2.2.2.2.2.2.2.2.2.2.1 ∧ (u.2.2.2.2.2.2.2.2.2.1 = 0 ↔ ¬ Cl al) ∧ PLI al u.2.2.2.2.2.2.2.2.2.2.2.2.2.2.1 u.2.2.2.2.2.2.2.2.2.2.2.2.2.2.2.1 ∧ SEI al u.2.2.2.2.2.2.2.2.2.2.2.2.2.2.2.2.1 u.2.2.2.2.2.2.2.2.2.2.2.2.2.2.2.2.2.1 u.2.2.2.2.2.2.2.2.2.2.2.2.2.2.2.2.2.2.1 u.2.2.2.2.2.2.2.2.2.2.2.2.2.2.2.2.2.2.2.1 u.2.2.2.2.2.2.2.2.2.2.2.2.2.2.2.2.2.2.2.2.1 ∧ u.2.2.2.2.2.2.2.2.2.2.2.2.2.2.2.2.2.2.2.2.2.2.2.1 = RA al ∧ u.2.2.2.2.2.2.2.2.2.2.2.2.2.2.2.2.2.2.2.2.2.2.2.2.1 = RB al ∧ LEI al u.2.2.2.2.2.2.2.2.2.2.2.2.2.2.2.2.2.2.2.2.2.2.2.2.2.1 u.2.2.2.2.2.2.2.2.2.2.2.2.2.2.2.2.2.2.2.2.2.2.2.2.2.2
def CI (al : Nat → Int32) (u : T27) : Prop := (u.1 = 0 ∨ u.1 = 1) ∧ (u.1 = 1 → CA al u)
theorem CI_of {al : Nat → Int32} {u : T27} (h1 : u.1 = 1) (h2 : CA al u) : CI al u := ⟨.inr h1, fun _ => h2⟩
theorem CI_0 (al : Nat → Int32) {u : T27} (h1 : u.1 = 0) : CI al u := ⟨.inl h1, fun h => absurd (h1.symm.trans h) (by rw [iz_n, iz_n]; exact fun z => iz01 z.symm)⟩
theorem n10 : ¬ (1 : Int32) = 0 := by rw [iz_n, iz_n]; exact iz01
theorem sCh_join {al : Nat → Int32} {w n t a : Int32} {dots cells sx sy sp : Nat → Int32} (h : RS al w n t a dots cells sx sy sp) (o : OkA al) {M E Q : Nat → Int32} (hL : LTb al M E Q) (tk0 tu0 dr0 ri0 cc0 : Int32) (F A LE LF PR' PL : Nat → Int32) :
    ∃ (tk9 tu9 dr9 ri9 cc : Int32) (F9 A9 LE9 LF9 PR9 PL9 : Nat → Int32), fCh_join n sx sy sp M E Q tk0 tu0 dr0 ri0 cc0 F A LE LF PR' PL = some (tk9, tu9, dr9, ri9, cc, F9, A9, LE9, LF9, PR9, PL9) ∧
      JC al tk9 tu9 dr9 ri9 F9 A9 LE9 LF9 ∧ (cc = 0 ↔ ¬ Cl al) ∧ PLI al PR9 PL9 := by
  have on := o.n
  have cn := Cn_i h o
  obtain ⟨g1, V, E', Q', G9, H9, F0, A0, tk9, tu9, dr9, ri9, F9, A9, LE9, LF9, p1, p2, _⟩ := lays_j h o hL z0 z0 z0 z0 z0 z0 F A LE LF
  obtain ⟨j, _⟩ := JI_fC h o hL p1 p2
  have htk := tk_r al
  have e4 : (tk9 = n) ↔ tk al = NN al := by
    rw [j.2.2.2.1, h.iN]
    exact iz_eq (by show -2147483648 ≤ tk al; omega) (by show tk al ≤ 2147483647; omega) (by omega) (by omega)
  have e5 : (n < (2 : Int32)) ↔ NN al < 2 := by rw [h.iN, iz_n]; exact iz_lt (by omega) (by omega) (by omega) (by omega)
  by_cases cl : Cl al
  · have c1 := cl.1
    have c2 : tk al = NN al := cl.2
    obtain ⟨r1, r2, r3, r4⟩ := cn.gi.round (by omega) (Cl_all on cn cl)
    have hD := S6_r (f := eo al (fC al)) (l := -1) (u := 1) (fun x _ => eo_r h o cn x)
    have hr0 := cn.fr
    obtain ⟨PR9, PL9, k1, k2, _⟩ := sCh_places (N := NN al) (D := S6 (eo al (fC al))) (f := fC al) (eo' := eo al (fC al)) (fo' := fo al (fC al)) (F := F9) (LE := LE9) (LF := LF9) (by omega) (by omega) j.1 r1 r2 (fun x hx => j.2.2.1 x (by omega) (by have := Cl_all on cn cl x hx; have := hr0 x; omega)) (eo_r h o cn) (fo_r h o cn) (NN al).toNat 0 FU (by omega) (by show _ < 5000; omega) PR' PL
    rw [← h.iN, ← j.2.2.2.2.2.1] at k1
    rw [show it (fC al) 0 0 = 0 from rfl, show WS (fC al) (fo al (fC al)) 0 = 0 from rfl, show WS (fC al) (eo al (fC al)) 0 = 0 from rfl, show iz ((0 : Nat) : Int) = (0 : Int32) from iz_l0.symm, ← iz_l0] at k1
    refine ⟨tk9, tu9, dr9, ri9, 1, F9, A9, LE9, LF9, PR9, PL9, ?_, j, ⟨fun z => absurd z n10, fun z => absurd cl z⟩, fun _ i hi => k2 i (by omega) hi⟩
    unfold fCh_join
    rw [p1]
    simp only [Option.bind_some]
    rw [p2]
    simp only [Option.bind_some]
    rw [if_neg (fun z => by have := e5.mp z; omega), if_pos (e4.mpr c2)]
    simp only [Option.bind_some]
    rw [if_pos (.inr True.intro), if_neg n10]
    unfold fCh_findPlaces
    rw [k1]
    rfl
  · refine ⟨tk9, tu9, dr9, ri9, 0, F9, A9, LE9, LF9, PR', PL, ?_, j, ⟨fun _ => cl, fun _ => rfl⟩, fun z => absurd z cl⟩
    unfold fCh_join
    rw [p1]
    simp only [Option.bind_some]
    rw [p2]
    simp only [Option.bind_some]
    have : (if n < (2 : Int32) then some (0 : Int32) else if tk9 = n then some (1 : Int32) else some (0 : Int32)) = some 0 := by
      by_cases q : NN al < 2
      · rw [if_pos (e5.mpr q)]
      · rw [if_neg (fun z => q (e5.mp z)), if_neg (fun z => cl ⟨by omega, e4.mp z⟩)]
    rw [this]
    simp only [Option.bind_some]
    rw [if_pos (.inl True.intro), if_pos True.intro]
theorem refresh_s {al : Nat → Int32} {w n t a : Int32} {dots cells sx sy sp : Nat → Int32} (h : RS al w n t a dots cells sx sy sp) (o : OkA al) {u : T27} (hu : CI al u) : ∃ v : T27, fRi_refresh u.1 n t a cells sx sy sp u.2.1 u.2.2.1 u.2.2.2.1 u.2.2.2.2.1 u.2.2.2.2.2.1 u.2.2.2.2.2.2.1 u.2.2.2.2.2.2.2.1 u.2.2.2.2.2.2.2.2.1 u.2.2.2.2.2.2.2.2.2.1 u.2.2.2.2.2.2.2.2.2.2.1 u.2.2.2.2.2.2.2.2.2.2.2.1 u.2.2.2.2.2.2.2.2.2.2.2.2.1 u.2.2.2.2.2.2.2.2.2.2.2.2.2.1 u.2.2.2.2.2.2.2.2.2.2.2.2.2.2.1 u.2.2.2.2.2.2.2.2.2.2.2.2.2.2.2.1 u.2.2.2.2.2.2.2.2.2.2.2.2.2.2.2.2.1 u.2.2.2.2.2.2.2.2.2.2.2.2.2.2.2.2.2.1 u.2.2.2.2.2.2.2.2.2.2.2.2.2.2.2.2.2.2.1 u.2.2.2.2.2.2.2.2.2.2.2.2.2.2.2.2.2.2.2.1 u.2.2.2.2.2.2.2.2.2.2.2.2.2.2.2.2.2.2.2.2.1 u.2.2.2.2.2.2.2.2.2.2.2.2.2.2.2.2.2.2.2.2.2.1 u.2.2.2.2.2.2.2.2.2.2.2.2.2.2.2.2.2.2.2.2.2.2.1 u.2.2.2.2.2.2.2.2.2.2.2.2.2.2.2.2.2.2.2.2.2.2.2.1 u.2.2.2.2.2.2.2.2.2.2.2.2.2.2.2.2.2.2.2.2.2.2.2.2.1 u.2.2.2.2.2.2.2.2.2.2.2.2.2.2.2.2.2.2.2.2.2.2.2.2.2.1 u.2.2.2.2.2.2.2.2.2.2.2.2.2.2.2.2.2.2.2.2.2.2.2.2.2.2 = some v ∧ v.1 = 1 ∧ CA al v := by
  by_cases z : u.1 = 0
  · have cn := Cn_i h o
    obtain ⟨g1, M, E, Q, k1, k2, k3⟩ := sLi_find h o u.2.1 u.2.2.1 u.2.2.2.1 u.2.2.2.2.1
    obtain ⟨tk9, tu9, dr9, ri9, cc, F9, A9, LE9, LF9, PR9, PL9, j1, j2, j3, j4⟩ := sCh_join h o k3 u.2.2.2.2.2.1 u.2.2.2.2.2.2.1 u.2.2.2.2.2.2.2.1 u.2.2.2.2.2.2.2.2.1 u.2.2.2.2.2.2.2.2.2.1 u.2.2.2.2.2.2.2.2.2.2.1 u.2.2.2.2.2.2.2.2.2.2.2.1 u.2.2.2.2.2.2.2.2.2.2.2.2.1 u.2.2.2.2.2.2.2.2.2.2.2.2.2.1 u.2.2.2.2.2.2.2.2.2.2.2.2.2.2.1 u.2.2.2.2.2.2.2.2.2.2.2.2.2.2.2.1
    obtain ⟨A', B', C', S', K', D', T', s1, s2⟩ := sSe_cut h o cn (F := F9) (LE := LE9) (LF := LF9) ⟨j2.1, j2.2.2.1⟩ u.2.2.2.2.2.2.2.2.2.2.2.2.2.2.2.2.1 u.2.2.2.2.2.2.2.2.2.2.2.2.2.2.2.2.2.1 u.2.2.2.2.2.2.2.2.2.2.2.2.2.2.2.2.2.2.1 u.2.2.2.2.2.2.2.2.2.2.2.2.2.2.2.2.2.2.2.1 u.2.2.2.2.2.2.2.2.2.2.2.2.2.2.2.2.2.2.2.2.1 u.2.2.2.2.2.2.2.2.2.2.2.2.2.2.2.2.2.2.2.2.2.1 u.2.2.2.2.2.2.2.2.2.2.2.2.2.2.2.2.2.2.2.2.2.2.1
    obtain ⟨ab, be, l1, l2⟩ := sLe_agree h o cn (F := F9) (H := A9) j2.1 j2.2.1 s2 j3 u.2.2.2.2.2.2.2.2.2.2.2.2.2.2.2.2.2.2.2.2.2.2.2.1 u.2.2.2.2.2.2.2.2.2.2.2.2.2.2.2.2.2.2.2.2.2.2.2.2.1 u.2.2.2.2.2.2.2.2.2.2.2.2.2.2.2.2.2.2.2.2.2.2.2.2.2.1 u.2.2.2.2.2.2.2.2.2.2.2.2.2.2.2.2.2.2.2.2.2.2.2.2.2.2
    refine ⟨((1 : Int32), g1, M, E, Q, tk9, tu9, dr9, ri9, cc, F9, A9, LE9, LF9, PR9, PL9, A', B', C', S', K', D', T', RA al, RB al, ab, be), ?_, rfl, k2, k3, j2, j3, j4, s2, rfl, rfl, l2⟩
    unfold fRi_refresh
    rw [if_pos z, k1]
    simp only [Option.bind_some]
    rw [j1]
    simp only [Option.bind_some]
    rw [s1]
    simp only [Option.bind_some]
    rw [l1]
    rfl
  · have h1 : u.1 = 1 := hu.1.resolve_left z
    refine ⟨u, ?_, h1, hu.2 h1⟩
    unfold fRi_refresh
    rw [if_neg z]
