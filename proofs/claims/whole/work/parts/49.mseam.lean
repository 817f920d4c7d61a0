/-! the model's rows, from the lowest up -/
theorem m22_no {al : Nat → Int32} {w n t a : Int32} {dots cells sx sy sp : Nat → Int32} (hR : RS al w n t a dots cells sx sy sp) (o : OkA al) (cn : Cn al) {V E' Q' G : Nat → Int32} (hV : LMb al V E' Q') (hG : fw G = fC al) {x r : Int} (hp : 0 ≤ fC al x) (hr : 0 ≤ r ∧ r ≤ 3) (hn : ¬ (0 ≤ r - eo al (fC al) x ∧ r - eo al (fC al) x ≤ 3)) (least : Nat → Int32) :
    fMo_laysSeam_L22 (iz x) (iz (fo al (fC al) x)) (iz r) al E' Q' G FU (iz (fo al (fC al) x)) least = some least := by
  obtain ⟨p1, p2, p3, p4, p5, p6⟩ := Cn.ef hR o cn hp
  have n2 : ¬ (8 : Int32) ≤ iz (fo al (fC al) x) := by rw [iz_n, iz_le (by omega) (by omega) (by omega) (by omega)]; omega
  have hrow := sMo_hasRow hR o cn hV hG (r := r) hp (by omega)
  have n3 : bi (0 ≤ r ∧ r ≤ 3 ∧ 0 ≤ r - eo al (fC al) x ∧ r - eo al (fC al) x ≤ 3) = (0 : Int32) := by rw [iz_l0, bi0]; omega
  rw [show FU = 4999 + 1 from rfl]
  unfold fMo_laysSeam_L22
  rw [if_neg n2, hrow]
  simp only [Option.bind_some, if_pos n3]
theorem m8 {al : Nat → Int32} {w n t a : Int32} {dots cells sx sy sp : Nat → Int32} (hR : RS al w n t a dots cells sx sy sp) (o : OkA al) (cn : Cn al) {V E' Q' G : Nat → Int32} (hV : LMb al V E' Q') (hG : fw G = fC al) {x bo : Int} (hp : 0 ≤ fC al x) (hbo : bo = bt (eo al (fC al) x)) :
    ∀ (d : Nat) (r : Int) (m : Nat), r = -1 + d → r ≤ 3 → d < m → ∀ (least seam : Nat → Int32),
    (∀ r' y, r < r' → tp (eo al (fC al) x) ≤ r' ∧ r' ≤ bo → fo al (fC al) x ≤ y ∧ y ≤ 7 → least (8 * r' + y).toNat = iz (LC (DD al x) (fo al (fC al) x) (bo - r').toNat r' y)) → (∀ j : Nat, r < j → j < 4 → seam j = iz (-1)) →
    ∃ least' seam', fMo_laysSeam_L8 (iz x) (iz (fo al (fC al) x)) al E' Q' G m (iz r) least seam = some (least', seam') ∧
      (∀ r' y, tp (eo al (fC al) x) ≤ r' ∧ r' ≤ bo → fo al (fC al) x ≤ y ∧ y ≤ 7 → least' (8 * r' + y).toNat = iz (LC (DD al x) (fo al (fC al) x) (bo - r').toNat r' y)) ∧ (∀ j : Nat, j < 4 → seam' j = iz (-1)) := by
  obtain ⟨p1, p2, p3, p4, p5, p6⟩ := Cn.ef hR o cn hp
  obtain ⟨t1, t2, t3, t4⟩ := tb_r (e := eo al (fC al) x) (by omega)
  intro d
  induction d with
  | zero =>
    intro r m hr h0 hm least seam hl hs
    obtain ⟨m, rfl⟩ : ∃ q, m = q + 1 := ⟨m - 1, by omega⟩
    have n1 : iz r < (0 : Int32) := by rw [iz_n]; exact (iz_lt (by omega) (by omega) (by omega) (by omega)).mpr (by omega)
    refine ⟨least, seam, ?_, fun r' y h1 h2 => hl r' y (by omega) h1 h2, fun j hj => hs j (by omega) hj⟩
    unfold fMo_laysSeam_L8
    rw [if_pos n1]
  | succ d ih =>
    intro r m hr h0 hm least seam hl hs
    obtain ⟨m, rfl⟩ : ∃ q, m = q + 1 := ⟨m - 1, by omega⟩
    have n1 : ¬ iz r < (0 : Int32) := by rw [iz_n, iz_lt (by omega) (by omega) (by omega) (by omega)]; omega
    have e1 : iz r + (-1 : Int32) = iz (r - 1) := by rw [iz_n, iz_neg, iz_add]; exact iz_inj (by omega)
    have i1 : 0 ≤ (iz r).toInt ∧ (iz r).toInt < 4 := by rw [iz_t (by omega) (by omega)]; omega
    have i3 : (iz r).toNatClampNeg = r.toNat := iz_c (by omega) (by omega)
    have m1 : (-1 : Int32) = iz (-1) := by rw [iz_n, iz_neg]
    have t5 := t4 r
    have key : ∃ l1, fMo_laysSeam_L22 (iz x) (iz (fo al (fC al) x)) (iz r) al E' Q' G FU (iz (fo al (fC al) x)) least = some l1 ∧
        (∀ r' y, r - 1 < r' → tp (eo al (fC al) x) ≤ r' ∧ r' ≤ bo → fo al (fC al) x ≤ y ∧ y ≤ 7 → l1 (8 * r' + y).toNat = iz (LC (DD al x) (fo al (fC al) x) (bo - r').toNat r' y)) := by
      by_cases q : tp (eo al (fC al) x) ≤ r ∧ r ≤ bo
      · obtain ⟨l1, k1, k2, k3⟩ := m22 hR o cn hV hG hp hbo q (8 - fo al (fC al) x).toNat (fo al (fC al) x) FU (by omega) (by omega) (by show _ < 5000; omega) least (fun z y hy => hl (r + 1) y (by omega) (by omega) hy)
        refine ⟨l1, k1, fun r' y h1 h2 h3 => ?_⟩
        by_cases e : r' = r
        · rw [e]; exact k2 y h3
        · rw [k3 _ (fun z hz q => by omega)]; exact hl r' y (by omega) h2 h3
      · refine ⟨least, m22_no hR o cn hV hG hp (by omega) (by omega) least, fun r' y h1 h2 h3 => hl r' y ?_ h2 h3⟩
        by_cases e : r' = r
        · rw [e] at h2; exact absurd h2 q
        · omega
    obtain ⟨l1, k1, k2⟩ := key
    obtain ⟨l2, s2, a1, a2, a3⟩ := ih (r - 1) m (by omega) (by omega) (by omega) l1 (upd seam r.toNat (iz (-1))) k2 (fun j h1 h2 => by
      by_cases e : j = r.toNat
      · rw [e, upd_s]
      · rw [upd_n _ _ e]; exact hs j (by omega) h2)
    refine ⟨l2, s2, ?_, a2, a3⟩
    unfold fMo_laysSeam_L8
    rw [if_neg n1, if_pos i1, k1]
    simp only [Option.bind_some, e1, i3]
    rw [m1]
    exact a1
/-! the seam, row by row -/
def MAY (r c : Int32) (s : Nat → Int32) : Option Int32 :=
  (if r = 0 then
        some (1 : Int32)
       else
        if 0 ≤ (r - (1 : Int32)).toInt ∧ (r - (1 : Int32)).toInt < 4 then
         if (s (r - (1 : Int32)).toNatClampNeg) = (-1 : Int32) then
          some (1 : Int32)
         else
          if 0 ≤ (r - (1 : Int32)).toInt ∧ (r - (1 : Int32)).toInt < 4 then
           (fMo_isNear c (s (r - (1 : Int32)).toNatClampNeg)).bind fun u36 =>
           if u36 = 0 then
            some (0 : Int32)
           else
            some (1 : Int32)
          else none
        else none : Option (Int32))
def STP (r c : Int32) (least s : Nat → Int32) (go : (Nat → Int32) → Option (Nat → Int32)) : Option (Nat → Int32) :=
       if 0 ≤ r.toInt ∧ r.toInt < 4 then
        if (s r.toNatClampNeg) = (-1 : Int32) then
         if 0 ≤ r.toInt ∧ r.toInt < 4 then
          go (upd s r.toNatClampNeg c)
         else none
        else
         if 0 ≤ (((8 : Int32) * r) + c).toInt ∧ (((8 : Int32) * r) + c).toInt < 32 then
          if 0 ≤ r.toInt ∧ r.toInt < 4 then
           if 0 ≤ (((8 : Int32) * r) + (s r.toNatClampNeg)).toInt ∧ (((8 : Int32) * r) + (s r.toNatClampNeg)).toInt < 32 then
            if (least (((8 : Int32) * r) + (s r.toNatClampNeg)).toNatClampNeg) ≤ (least (((8 : Int32) * r) + c).toNatClampNeg) then
             go s
            else
             if 0 ≤ r.toInt ∧ r.toInt < 4 then
              go (upd s r.toNatClampNeg c)
             else none
           else none
          else none
         else none
       else none
theorem L172_s (a r : Int32) (E' G least : Nat → Int32) (m : Nat) (c : Int32) (s : Nat → Int32) : fMo_laysSeam_L172 a r E' G least (m + 1) c s =
    (if (8 : Int32) ≤ c then some s else (fMo_hasRow a r E' G).bind fun u29 => if u29 = 0 then some s else (MAY r c s).bind fun u32 => if u32 = 0 then fMo_laysSeam_L172 a r E' G least m (c + (1 : Int32)) s else STP r c least s (fun s' => fMo_laysSeam_L172 a r E' G least m (c + (1 : Int32)) s')) := rfl
theorem STP_first {r c : Int} (hr : 0 ≤ r ∧ r ≤ 3) {least s : Nat → Int32} (go : (Nat → Int32) → Option (Nat → Int32)) (hs : s r.toNat = iz (-1)) : STP (iz r) (iz c) least s go = go (upd s r.toNat (iz c)) := by
  have i1 : 0 ≤ (iz r).toInt ∧ (iz r).toInt < 4 := by rw [iz_t (by omega) (by omega)]; omega
  have i3 : (iz r).toNatClampNeg = r.toNat := iz_c (by omega) (by omega)
  have m1 : (-1 : Int32) = iz (-1) := by rw [iz_n, iz_neg]
  unfold STP
  rw [if_pos i1, if_pos i1, i3, hs, m1, if_pos rfl]
theorem STP_next {r c b gc gb : Int} (hr : 0 ≤ r ∧ r ≤ 3) (hc : 0 ≤ c ∧ c ≤ 7) (hb : 0 ≤ b ∧ b ≤ 7) {least s : Nat → Int32} (go : (Nat → Int32) → Option (Nat → Int32)) (hs : s r.toNat = iz b) (h1 : least (8 * r + c).toNat = iz gc) (h2 : least (8 * r + b).toNat = iz gb) (h3 : 0 ≤ gc ∧ gc ≤ 1000) (h4 : 0 ≤ gb ∧ gb ≤ 1000) :
    STP (iz r) (iz c) least s go = go (if gc < gb then upd s r.toNat (iz c) else s) := by
  have i1 : 0 ≤ (iz r).toInt ∧ (iz r).toInt < 4 := by rw [iz_t (by omega) (by omega)]; omega
  have i3 : (iz r).toNatClampNeg = r.toNat := iz_c (by omega) (by omega)
  have m1 : (-1 : Int32) = iz (-1) := by rw [iz_n, iz_neg]
  have nb : ¬ iz b = iz (-1) := by rw [iz_eq (by omega) (by omega) (by omega) (by omega)]; omega
  have e2 : (8 : Int32) * iz r + iz c = iz (8 * r + c) := by rw [iz_n, iz_mul, iz_add]
  have e3 : (8 : Int32) * iz r + iz b = iz (8 * r + b) := by rw [iz_n, iz_mul, iz_add]
  have i4 : 0 ≤ (iz (8 * r + c)).toInt ∧ (iz (8 * r + c)).toInt < 32 := by rw [iz_t (by omega) (by omega)]; omega
  have i5 : 0 ≤ (iz (8 * r + b)).toInt ∧ (iz (8 * r + b)).toInt < 32 := by rw [iz_t (by omega) (by omega)]; omega
  have i6 : (iz (8 * r + c)).toNatClampNeg = (8 * r + c).toNat := iz_c (by omega) (by omega)
  have i7 : (iz (8 * r + b)).toNatClampNeg = (8 * r + b).toNat := iz_c (by omega) (by omega)
  have nle : (iz gb ≤ iz gc) ↔ gb ≤ gc := iz_le (by omega) (by omega) (by omega) (by omega)
  unfold STP
  rw [if_pos i1, i3, hs, m1, if_neg nb, e2, e3, if_pos i4, if_pos i1, if_pos i5, i6, i7, h1, h2]
  by_cases q : gc < gb
  · rw [if_neg (fun z => by have := nle.mp z; omega), if_pos i1, if_pos q]
  · rw [if_pos (nle.mpr (by omega)), if_neg q]
/-- the columns that may: those from lo to hi -/
theorem m172_3 {a r lo hi f : Int} {E' G least : Nat → Int32} (hf : 0 ≤ f ∧ f ≤ lo) (hrow : fMo_hasRow (iz a) (iz r) E' G = some (iz 1)) (s0 : Nat → Int32) (hmay : ∀ c (s : Nat → Int32), f ≤ c ∧ c ≤ 7 → (∀ j, j ≠ r.toNat → s j = s0 j) → MAY (iz r) (iz c) s = some (bi (lo ≤ c ∧ c ≤ hi))) :
    ∀ (d : Nat) (c : Int) (m : Nat), c = 8 - d → f ≤ c → hi < c → d < m → ∀ s : Nat → Int32, (∀ j, j ≠ r.toNat → s j = s0 j) → fMo_laysSeam_L172 (iz a) (iz r) E' G least m (iz c) s = some s := by
  intro d
  induction d with
  | zero =>
    intro c m hc h0 h1 hm s hs
    obtain ⟨m, rfl⟩ : ∃ q, m = q + 1 := ⟨m - 1, by omega⟩
    have n2 : (8 : Int32) ≤ iz c := by rw [iz_n, iz_le (by omega) (by omega) (by omega) (by omega)]; omega
    rw [L172_s, if_pos n2]
  | succ d ih =>
    intro c m hc h0 h1 hm s hs
    obtain ⟨m, rfl⟩ : ∃ q, m = q + 1 := ⟨m - 1, by omega⟩
    have n2 : ¬ (8 : Int32) ≤ iz c := by rw [iz_n, iz_le (by omega) (by omega) (by omega) (by omega)]; omega
    have e1 : iz c + (1 : Int32) = iz (c + 1) := iz_add c 1
    have n3 : ¬ iz 1 = (0 : Int32) := by rw [iz_l0]; exact iz01
    have n4 : bi (lo ≤ c ∧ c ≤ hi) = (0 : Int32) := by rw [iz_l0, bi0]; omega
    rw [L172_s, if_neg n2, hrow]
    simp only [Option.bind_some, if_neg n3]
    rw [hmay c s (by omega) hs]
    simp only [Option.bind_some, if_pos n4, e1]
    exact ih (c + 1) m (by omega) (by omega) (by omega) (by omega) s hs
theorem m172_2 {a r lo hi f : Int} {g : Int → Int} {E' G least : Nat → Int32} (hr : 0 ≤ r ∧ r ≤ 3) (hl : 0 ≤ lo ∧ lo ≤ hi ∧ hi ≤ 7) (hf : 0 ≤ f ∧ f ≤ lo) (hrow : fMo_hasRow (iz a) (iz r) E' G = some (iz 1)) (s0 : Nat → Int32) (hmay : ∀ c (s : Nat → Int32), f ≤ c ∧ c ≤ 7 → (∀ j, j ≠ r.toNat → s j = s0 j) → MAY (iz r) (iz c) s = some (bi (lo ≤ c ∧ c ≤ hi)))
    (hg : ∀ y, lo ≤ y ∧ y ≤ hi → least (8 * r + y).toNat = iz (g y) ∧ 0 ≤ g y ∧ g y ≤ 1000) :
    ∀ (d : Nat) (c b : Int) (m : Nat), c = hi + 1 - d → lo < c → lo ≤ b ∧ b ≤ hi → d + 9 < m → ∀ s : Nat → Int32, s r.toNat = iz b → (∀ j, j ≠ r.toNat → s j = s0 j) →
    ∃ s', fMo_laysSeam_L172 (iz a) (iz r) E' G least m (iz c) s = some s' ∧ s' r.toNat = iz (chp g d b c) ∧ (∀ j, j ≠ r.toNat → s' j = s0 j) := by
  intro d
  induction d with
  | zero =>
    intro c b m hc h0 hb hm s h1 h2
    exact ⟨s, m172_3 hf hrow s0 hmay (8 - c).toNat c m (by omega) (by omega) (by omega) (by omega) s h2, h1, h2⟩
  | succ d ih =>
    intro c b m hc h0 hb hm s h1 h2
    obtain ⟨m, rfl⟩ : ∃ q, m = q + 1 := ⟨m - 1, by omega⟩
    have n2 : ¬ (8 : Int32) ≤ iz c := by rw [iz_n, iz_le (by omega) (by omega) (by omega) (by omega)]; omega
    have e1 : iz c + (1 : Int32) = iz (c + 1) := iz_add c 1
    have n3 : ¬ iz 1 = (0 : Int32) := by rw [iz_l0]; exact iz01
    have n4 : ¬ bi (lo ≤ c ∧ c ≤ hi) = (0 : Int32) := by rw [iz_l0, bi0]; omega
    obtain ⟨g1, g2, g3⟩ := hg c (by omega)
    obtain ⟨g4, g5, g6⟩ := hg b hb
    have st : chp g (d + 1) b c = chp g d (if g c < g b then c else b) (c + 1) := rfl
    rw [L172_s, if_neg n2, hrow]
    simp only [Option.bind_some, if_neg n3]
    rw [hmay c s (by omega) h2]
    simp only [Option.bind_some, if_neg n4, e1]
    rw [STP_next hr (by omega) (by omega) _ h1 g1 g4 ⟨g2, g3⟩ ⟨g5, g6⟩, st]
    by_cases q : g c < g b
    · rw [if_pos q, if_pos q]
      exact ih (c + 1) c m (by omega) (by omega) (by omega) (by omega) _ (upd_s _ _ _) (fun j hj => by rw [upd_n _ _ hj]; exact h2 j hj)
    · rw [if_neg q, if_neg q]
      exact ih (c + 1) b m (by omega) (by omega) (by omega) (by omega) s h1 h2
theorem m172_1 {a r lo hi f : Int} {g : Int → Int} {E' G least : Nat → Int32} (hr : 0 ≤ r ∧ r ≤ 3) (hl : 0 ≤ lo ∧ lo ≤ hi ∧ hi ≤ 7) (hf : 0 ≤ f ∧ f ≤ lo) (hrow : fMo_hasRow (iz a) (iz r) E' G = some (iz 1)) (s0 : Nat → Int32) (hmay : ∀ c (s : Nat → Int32), f ≤ c ∧ c ≤ 7 → (∀ j, j ≠ r.toNat → s j = s0 j) → MAY (iz r) (iz c) s = some (bi (lo ≤ c ∧ c ≤ hi)))
    (hg : ∀ y, lo ≤ y ∧ y ≤ hi → least (8 * r + y).toNat = iz (g y) ∧ 0 ≤ g y ∧ g y ≤ 1000) (h1 : s0 r.toNat = iz (-1)) :
    ∀ (d : Nat) (c : Int) (m : Nat), c = lo - d → f ≤ c → d + 20 < m → 
    ∃ s', fMo_laysSeam_L172 (iz a) (iz r) E' G least m (iz c) s0 = some s' ∧ s' r.toNat = iz (chs g lo hi) ∧ (∀ j, j ≠ r.toNat → s' j = s0 j) := by
  have n3 : ¬ iz 1 = (0 : Int32) := by rw [iz_l0]; exact iz01
  intro d
  induction d with
  | zero =>
    intro c m hc h0 hm
    obtain ⟨m, rfl⟩ : ∃ q, m = q + 1 := ⟨m - 1, by omega⟩
    have n2 : ¬ (8 : Int32) ≤ iz c := by rw [iz_n, iz_le (by omega) (by omega) (by omega) (by omega)]; omega
    have e1 : iz c + (1 : Int32) = iz (c + 1) := iz_add c 1
    have n4 : ¬ bi (lo ≤ c ∧ c ≤ hi) = (0 : Int32) := by rw [iz_l0, bi0]; omega
    obtain ⟨s', k1, k2, k3⟩ := m172_2 (a := a) (r := r) (g := g) hr hl hf hrow s0 hmay hg (hi - lo).toNat (c + 1) c m (by omega) (by omega) (by omega) (by omega) (upd s0 r.toNat (iz c)) (upd_s _ _ _) (fun j hj => upd_n _ _ hj)
    refine ⟨s', ?_, ?_, k3⟩
    · rw [L172_s, if_neg n2, hrow]
      simp only [Option.bind_some, if_neg n3]
      rw [hmay c s0 (by omega) (fun _ _ => rfl)]
      simp only [Option.bind_some, if_neg n4, e1]
      rw [STP_first hr _ h1]
      exact k1
    · rw [k2, show c = lo by omega]; rfl
  | succ d ih =>
    intro c m hc h0 hm
    obtain ⟨m, rfl⟩ : ∃ q, m = q + 1 := ⟨m - 1, by omega⟩
    have n2 : ¬ (8 : Int32) ≤ iz c := by rw [iz_n, iz_le (by omega) (by omega) (by omega) (by omega)]; omega
    have e1 : iz c + (1 : Int32) = iz (c + 1) := iz_add c 1
    have n4 : bi (lo ≤ c ∧ c ≤ hi) = (0 : Int32) := by rw [iz_l0, bi0]; omega
    obtain ⟨s', k1, k2, k3⟩ := ih (c + 1) m (by omega) (by omega) (by omega)
    refine ⟨s', ?_, k2, k3⟩
    rw [L172_s, if_neg n2, hrow]
    simp only [Option.bind_some, if_neg n3]
    rw [hmay c s0 (by omega) (fun _ _ => rfl)]
    simp only [Option.bind_some, if_pos n4, e1]
    exact k1
