/-! the program reads figures, a number, numbers, an order -/
theorem dig_run {B : Nat → Int} {L : Nat} {tx : Nat → Int32} (hT : TXT B L tx) {c fi : Int} (hc : 0 ≤ c ∧ c ≤ 39) (hfi : 0 ≤ fi ∧ fi ≤ 3) (le nu : Nat → Int32) (l : Int32) {be : Int32} (hbe : be = 0 ∨ be = 1) :
    ∀ (k p : Nat) (v : Int), p ≤ L → k ≤ 5 →
    ((ds B L k p v).1 = L → ∀ m, L - p < m → FLT L L (fOr_findFault_L12 (iz L) tx m (iz p) (iz c) le nu 3 l (iz fi) (iz (6 - k)) (iz v) be)) ∧
    ((ds B L k p v).1 < L → (48 ≤ B (ds B L k p v).1 ∧ B (ds B L k p v).1 ≤ 57) → ∀ m, L - p < m → FLT L (ds B L k p v).1 (fOr_findFault_L12 (iz L) tx m (iz p) (iz c) le nu 3 l (iz fi) (iz (6 - k)) (iz v) be)) ∧
    ((ds B L k p v).1 < L → ¬ (48 ≤ B (ds B L k p v).1 ∧ B (ds B L k p v).1 ≤ 57) → ∃ fs nm : Int32, ∀ m, fOr_findFault_L12 (iz L) tx (m + 1 + ((ds B L k p v).1 - p)) (iz p) (iz c) le nu 3 l (iz fi) (iz (6 - k)) (iz v) be = fOr_findFault_L12 (iz L) tx (m + 1) (iz ((ds B L k p v).1 : Nat)) (iz c) le (upd nu (4 * c + fi).toNat (iz (if be = 0 then (ds B L k p v).2 else -(ds B L k p v).2))) 1 l (iz (fi + 1)) fs nm be) := by
  have fin : ∀ (j : Int32) (p : Nat) (v : Int), p < L → ¬ (48 ≤ B p ∧ B p ≤ 57) → ∀ m, fOr_findFault_L12 (iz L) tx (m + 1) (iz p) (iz c) le nu 3 l (iz fi) j (iz v) be = fOr_findFault_L12 (iz L) tx (m + 1) (iz p) (iz c) le (upd nu (4 * c + fi).toNat (iz (if be = 0 then v else -v))) 1 l (iz (fi + 1)) j (iz v) be := fun j p v hp hn m => by
    have hL := hT.1
    have n1 : ¬ iz (L : Int) ≤ iz p := by rw [iz_le (by omega) (by omega) (by omega) (by omega)]; omega
    have n2 : ¬ (120 : Int32) ≤ iz p := by rw [iz_n, iz_le (by omega) (by omega) (by omega) (by omega)]; omega
    have i1 : 0 ≤ (iz (p : Int)).toInt ∧ (iz (p : Int)).toInt < 120 := by rw [iz_t (by omega) (by omega)]; omega
    have i3 : (iz (p : Int)).toNatClampNeg = p := by rw [iz_c (by omega) (by omega)]; omega
    have hb := hT.2 p hp
    unfold fOr_findFault_L12
    simp only [if_neg n1, if_neg n2, if_pos i1, i3, hb.1, a3_end hb.2 hn hc hfi le nu l j hbe]
  have fin0 : ∀ (k p : Nat) (v : Int), p ≤ L → ds B L k p v = (p, v) → (k = 0 ∨ ¬ (p < L ∧ 48 ≤ B p ∧ B p ≤ 57)) →
    ((ds B L k p v).1 = L → ∀ m, L - p < m → FLT L L (fOr_findFault_L12 (iz L) tx m (iz p) (iz c) le nu 3 l (iz fi) (iz (6 - k)) (iz v) be)) ∧
    ((ds B L k p v).1 < L → (48 ≤ B (ds B L k p v).1 ∧ B (ds B L k p v).1 ≤ 57) → ∀ m, L - p < m → FLT L (ds B L k p v).1 (fOr_findFault_L12 (iz L) tx m (iz p) (iz c) le nu 3 l (iz fi) (iz (6 - k)) (iz v) be)) ∧
    ((ds B L k p v).1 < L → ¬ (48 ≤ B (ds B L k p v).1 ∧ B (ds B L k p v).1 ≤ 57) → ∃ fs nm : Int32, ∀ m, fOr_findFault_L12 (iz L) tx (m + 1 + ((ds B L k p v).1 - p)) (iz p) (iz c) le nu 3 l (iz fi) (iz (6 - k)) (iz v) be = fOr_findFault_L12 (iz L) tx (m + 1) (iz ((ds B L k p v).1 : Nat)) (iz c) le (upd nu (4 * c + fi).toNat (iz (if be = 0 then (ds B L k p v).2 else -(ds B L k p v).2))) 1 l (iz (fi + 1)) fs nm be) := fun k p v hp e hk => by
    rw [e]
    refine ⟨fun h m hm => ?_, fun h1 h2 m hm => ?_, fun h1 h2 => ⟨iz (6 - k), iz v, fun m => ?_⟩⟩
    · have h' : p = L := h
      rw [h']
      exact L12_fe tx (iz c) le nu (by decide) l (iz fi) (iz (6 - k)) (iz v) be (by omega)
    · rcases hk with hk | hk
      · obtain ⟨y, hy⟩ := a3_six (b := B p) h2 (iz c) le nu l (iz fi) (iz v) be
        rw [hk, show (6 : Int) - ((0 : Nat) : Int) = 6 by omega]
        exact L12_no hT h1 hy (by omega)
      · exact absurd ⟨h1, h2⟩ hk
    · show fOr_findFault_L12 (iz L) tx (m + 1 + (p - p)) (iz p) (iz c) le nu 3 l (iz fi) (iz (6 - k)) (iz v) be = _
      rw [show m + 1 + (p - p) = m + 1 by omega]
      exact fin (iz (6 - k)) p v h1 h2 m
  intro k
  induction k with
  | zero => intro p v hp _; exact fin0 0 p v hp rfl (.inl rfl)
  | succ k ih =>
    intro p v hp hk
    by_cases q : p < L ∧ 48 ≤ B p ∧ B p ≤ 57
    · have e : ds B L (k + 1) p v = ds B L k (p + 1) (10 * v + B p - 48) := if_pos q
      have hr := ds_r B (L := L) k (p + 1) (10 * v + B p - 48) (by omega)
      obtain ⟨h1, h2, h3⟩ := ih (p + 1) (10 * v + B p - 48) (by omega) (by omega)
      have ha := a3_fig (b := B p) (j := 6 - ((k + 1 : Nat) : Int)) (v := v) q.2 (by omega) (iz c) le nu l (iz fi) be
      rw [show (6 : Int) - ((k + 1 : Nat) : Int) + 1 = 6 - (k : Int) by omega] at ha
      have st : ∀ m, fOr_findFault_L12 (iz L) tx (m + 1) (iz p) (iz c) le nu 3 l (iz fi) (iz (6 - ((k + 1 : Nat) : Int))) (iz v) be = fOr_findFault_L12 (iz L) tx m (iz ((p + 1 : Nat) : Int)) (iz c) le nu 3 l (iz fi) (iz (6 - k)) (iz (10 * v + B p - 48)) be := fun m => L12_ok hT q.1 ha m
      rw [e]
      refine ⟨fun h m hm => ?_, fun g1 g2 m hm => ?_, fun g1 g2 => ?_⟩
      · obtain ⟨m, rfl⟩ : ∃ q, m = q + 1 := ⟨m - 1, by omega⟩
        rw [st]
        exact h1 h m (by omega)
      · obtain ⟨m, rfl⟩ : ∃ q, m = q + 1 := ⟨m - 1, by omega⟩
        rw [st]
        exact h2 g1 g2 m (by omega)
      · obtain ⟨fs, nm, hh⟩ := h3 g1 g2
        refine ⟨fs, nm, fun m => ?_⟩
        rw [show m + 1 + ((ds B L k (p + 1) (10 * v + B p - 48)).1 - p) = (m + 1 + ((ds B L k (p + 1) (10 * v + B p - 48)).1 - (p + 1))) + 1 by omega, st]
        exact hh m
    · exact fin0 (k + 1) p v hp (if_neg q) (.inr q)
theorem num_run {B : Nat → Int} {L : Nat} {tx : Nat → Int32} (hT : TXT B L tx) {c l : Int} {k : Nat} (hc : 0 ≤ c ∧ c ≤ 39) (hl : 0 ≤ l ∧ l ≤ 127) (hk : (k : Int) < NB l) (le nu : Nat → Int32) (fs nm be : Int32) {p : Nat} (hp : p ≤ L) :
    (TKo B L (sgn l k) p ≠ true → ∀ m, L - p < m → FLT L (TKe B L (sgn l k) p) (fOr_findFault_L12 (iz L) tx m (iz p) (iz c) le nu 1 (iz l) (iz k) fs nm be)) ∧
    (TKo B L (sgn l k) p = true → TKe B L (sgn l k) p = L → ∀ m, L - p < m → FLT L L (fOr_findFault_L12 (iz L) tx m (iz p) (iz c) le nu 1 (iz l) (iz k) fs nm be)) ∧
    (TKo B L (sgn l k) p = true → TKe B L (sgn l k) p < L → ∃ fs' nm' be' : Int32, ∀ m, fOr_findFault_L12 (iz L) tx (m + 1 + (TKe B L (sgn l k) p - p)) (iz p) (iz c) le nu 1 (iz l) (iz k) fs nm be = fOr_findFault_L12 (iz L) tx (m + 1) (iz (TKe B L (sgn l k) p : Nat)) (iz c) le (upd nu (4 * c + k).toNat (iz (TKv B L (sgn l k) p))) 1 (iz l) (iz ((k + 1 : Nat) : Int)) fs' nm' be') := by
  have hr := TK_r B (sgn l k) hp
  have hs := SK_r B hp
  have hnb := NB_r l
  obtain ⟨t1, t2, t3, t4, t5, t6⟩ := hr
  have hsg : sgn l k = true ↔ l = 115 ∧ k = 2 := by unfold sgn; exact decide_eq_true_iff
  have sk := fun m => skip_K hT (s := 1) (.inr rfl) (iz c) le nu (iz l) (iz k) fs nm be hp m
  have hte : TKe B L (sgn l k) p = (ds B L 6 (TKs B L (sgn l k) p) 0).1 := rfl
  by_cases z : SK B L p = L
  · have hm : TKm B L (sgn l k) p ≠ true := fun q => by have := t5 q; omega
    have es : TKs B L (sgn l k) p = L := by unfold TKs; rw [if_neg hm, z]
    have ee : TKe B L (sgn l k) p = L := by omega
    have no : TKo B L (sgn l k) p ≠ true := fun q => by have := (TKo_t.mp q).1; omega
    refine ⟨fun _ m hm => ?_, fun q => absurd q no, fun q => absurd q no⟩
    rw [ee]
    have := sk (m - (SK B L p - p))
    rw [show m - (SK B L p - p) + (SK B L p - p) = m by omega, z] at this
    rw [this]
    exact L12_fe tx (iz c) le nu (by decide) (iz l) (iz k) fs nm be (by omega)
  · have hlt : SK B L p < L := by omega
    have hb := hT.2 _ hlt
    have h32 := hs.2.2 hlt
    have core : ∀ (q : Nat) (be' : Int32), q = TKs B L (sgn l k) p → (be' = 0 ∨ be' = 1) → TKv B L (sgn l k) p = (if be' = 0 then (ds B L 6 q 0).2 else -(ds B L 6 q 0).2) → q < L → (48 ≤ B q ∧ B q ≤ 57) →
        (∀ m, fOr_findFault_L12 (iz L) tx (m + 1 + (q - p)) (iz p) (iz c) le nu 1 (iz l) (iz k) fs nm be = fOr_findFault_L12 (iz L) tx m (iz ((q + 1 : Nat) : Int)) (iz c) le nu 3 (iz l) (iz k) (iz 1) (iz (B q - 48)) be') →
        (TKo B L (sgn l k) p ≠ true → ∀ m, L - p < m → FLT L (TKe B L (sgn l k) p) (fOr_findFault_L12 (iz L) tx m (iz p) (iz c) le nu 1 (iz l) (iz k) fs nm be)) ∧
        (TKo B L (sgn l k) p = true → TKe B L (sgn l k) p = L → ∀ m, L - p < m → FLT L L (fOr_findFault_L12 (iz L) tx m (iz p) (iz c) le nu 1 (iz l) (iz k) fs nm be)) ∧
        (TKo B L (sgn l k) p = true → TKe B L (sgn l k) p < L → ∃ fs' nm' be' : Int32, ∀ m, fOr_findFault_L12 (iz L) tx (m + 1 + (TKe B L (sgn l k) p - p)) (iz p) (iz c) le nu 1 (iz l) (iz k) fs nm be = fOr_findFault_L12 (iz L) tx (m + 1) (iz (TKe B L (sgn l k) p : Nat)) (iz c) le (upd nu (4 * c + k).toNat (iz (TKv B L (sgn l k) p))) 1 (iz l) (iz ((k + 1 : Nat) : Int)) fs' nm' be') := fun q be' hq hbe hv hqL hfig hrun => by
      have e6 : ds B L 6 q 0 = ds B L 5 (q + 1) (B q - 48) := by
        have : ds B L 6 q 0 = ds B L 5 (q + 1) (10 * 0 + B q - 48) := if_pos ⟨hqL, hfig⟩
        rw [this, show (10 : Int) * 0 + B q - 48 = B q - 48 by omega]
      have hd := ds_r B (L := L) 5 (q + 1) (B q - 48) (by omega)
      obtain ⟨d1, d2, d3⟩ := dig_run hT hc (fi := (k : Int)) (by omega) le nu (iz l) hbe 5 (q + 1) (B q - 48) (by omega) (by omega)
      rw [show (6 : Int) - ((5 : Nat) : Int) = 1 by omega] at d1 d2 d3
      rw [← e6] at hd d1 d2 d3
      rw [hq] at hd d1 d2 d3
      rw [← hte] at hd d1 d2 d3
      rw [← hq] at hd d1 d2 d3
      have hto : TKo B L (sgn l k) p = true ↔ ¬ (TKe B L (sgn l k) p < L ∧ 48 ≤ B (TKe B L (sgn l k) p) ∧ B (TKe B L (sgn l k) p) ≤ 57) := by
        rw [TKo_t]
        exact ⟨fun y => y.2, fun y => ⟨by omega, y⟩⟩
      refine ⟨fun no m hm => ?_, fun _ hL' m hm => ?_, fun ok hL' => ?_⟩
      · have : TKe B L (sgn l k) p < L ∧ 48 ≤ B (TKe B L (sgn l k) p) ∧ B (TKe B L (sgn l k) p) ≤ 57 := by
          by_cases y : TKe B L (sgn l k) p < L ∧ 48 ≤ B (TKe B L (sgn l k) p) ∧ B (TKe B L (sgn l k) p) ≤ 57
          · exact y
          · exact absurd (hto.mpr y) no
        have hw := hrun (m - 1 - (q - p))
        rw [show m - 1 - (q - p) + 1 + (q - p) = m by omega] at hw
        rw [hw]
        exact d2 this.1 this.2 _ (by omega)
      · have hw := hrun (m - 1 - (q - p))
        rw [show m - 1 - (q - p) + 1 + (q - p) = m by omega] at hw
        rw [hw]
        exact d1 hL' _ (by omega)
      · have nf : ¬ (48 ≤ B (TKe B L (sgn l k) p) ∧ B (TKe B L (sgn l k) p) ≤ 57) := fun y => hto.mp ok ⟨hL', y⟩
        obtain ⟨fs', nm', hh⟩ := d3 hL' nf
        refine ⟨fs', nm', be', fun m => ?_⟩
        have hw := hrun (m + 1 + (TKe B L (sgn l k) p - (q + 1)))
        rw [show m + 1 + (TKe B L (sgn l k) p - (q + 1)) + 1 + (q - p) = m + 1 + (TKe B L (sgn l k) p - p) by omega] at hw
        rw [hw, hh m, hv, hq, show ((k + 1 : Nat) : Int) = (k : Int) + 1 by omega]
    by_cases mi : TKm B L (sgn l k) p = true
    · obtain ⟨m1, m2, m3⟩ := t5 mi
      obtain ⟨hl5, hk2⟩ := hsg.mp m1
      have es : TKs B L (sgn l k) p = SK B L p + 1 := by unfold TKs; rw [if_pos mi]
      have ha := gap_minus (l := l) (k := (k : Int)) hl5 (by omega) (iz c) le nu fs nm be
      rw [← m3] at ha
      have run2 : ∀ m, fOr_findFault_L12 (iz L) tx (m + 1 + (SK B L p - p)) (iz p) (iz c) le nu 1 (iz l) (iz k) fs nm be = fOr_findFault_L12 (iz L) tx m (iz ((SK B L p + 1 : Nat) : Int)) (iz c) le nu 2 (iz l) (iz k) 0 0 1 := fun m => by
        rw [sk (m + 1), L12_ok hT hlt ha m]
      by_cases e1 : SK B L p + 1 = L
      · have ee : TKe B L (sgn l k) p = L := by omega
        have no : TKo B L (sgn l k) p ≠ true := fun q => by have := (TKo_t.mp q).1; omega
        refine ⟨fun _ m hm => ?_, fun q => absurd q no, fun q => absurd q no⟩
        have hw := run2 (m - 1 - (SK B L p - p))
        rw [show m - 1 - (SK B L p - p) + 1 + (SK B L p - p) = m by omega, e1] at hw
        rw [hw, ee]
        exact L12_fe tx (iz c) le nu (by decide) (iz l) (iz k) 0 0 1 (by omega)
      · have hlt2 : SK B L p + 1 < L := by omega
        have hb2 := hT.2 _ hlt2
        by_cases fg : 48 ≤ B (SK B L p + 1) ∧ B (SK B L p + 1) ≤ 57
        · have ha2 := a2_fig fg (iz c) le nu (iz l) (iz k) 1
          refine core (SK B L p + 1) 1 es.symm (.inr rfl) ?_ hlt2 fg (fun m => ?_)
          · unfold TKv; rw [if_pos mi, if_neg (by decide), es]
          · have hw := run2 (m + 1)
            rw [show m + 1 + (SK B L p + 1 - p) = m + 1 + 1 + (SK B L p - p) by omega, hw, L12_ok hT hlt2 ha2 m]
        · have ed : TKe B L (sgn l k) p = SK B L p + 1 := by
            rw [hte, es]
            have : ds B L 6 (SK B L p + 1) 0 = (SK B L p + 1, 0) := if_neg (fun y => fg y.2)
            rw [this]
          have no : TKo B L (sgn l k) p ≠ true := fun q => by have := (TKo_t.mp q).1; omega
          obtain ⟨y, hy⟩ := a2_no hb2.2 fg (iz c) le nu (iz l) (iz k) 0 0 1
          refine ⟨fun _ m hm => ?_, fun q => absurd q no, fun q => absurd q no⟩
          have hw := run2 (m - 1 - (SK B L p - p))
          rw [show m - 1 - (SK B L p - p) + 1 + (SK B L p - p) = m by omega] at hw
          rw [hw, ed]
          exact L12_no hT hlt2 hy (by omega)
    · have es : TKs B L (sgn l k) p = SK B L p := by unfold TKs; rw [if_neg mi]
      by_cases fg : 48 ≤ B (SK B L p) ∧ B (SK B L p) ≤ 57
      · have ha := gap_fig (l := l) (k := (k : Int)) fg hl (by omega) (iz c) le nu fs nm be
        refine core (SK B L p) 0 es.symm (.inl rfl) ?_ hlt fg (fun m => ?_)
        · unfold TKv; rw [if_neg mi, if_pos rfl, es]
        · rw [sk (m + 1), L12_ok hT hlt ha m]
      · have ed : TKe B L (sgn l k) p = SK B L p := by
          rw [hte, es]
          have : ds B L 6 (SK B L p) 0 = (SK B L p, 0) := if_neg (fun y => fg y.2)
          rw [this]
        have no : TKo B L (sgn l k) p ≠ true := fun q => by have := (TKo_t.mp q).1; omega
        have hnm : ¬ mns (B (SK B L p)) l k := fun y => t6 mi ⟨hsg.mpr ⟨y.2.1, by have := y.2.2; omega⟩, hlt, y.1⟩
        obtain ⟨y, hy⟩ := gap_no (l := l) (k := (k : Int)) hb.2 h32 fg hnm hl (by omega) (iz c) le nu fs nm be
        refine ⟨fun _ m hm => ?_, fun q => absurd q no, fun q => absurd q no⟩
        have hw := sk (m - (SK B L p - p))
        rw [show m - (SK B L p - p) + (SK B L p - p) = m by omega] at hw
        rw [hw, ed]
        exact L12_no hT hlt hy (by omega)
