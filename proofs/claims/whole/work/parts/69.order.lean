/-! the program reads numbers, an order -/
theorem nums_run {B : Nat → Int} {L : Nat} {tx : Nat → Int32} (hT : TXT B L tx) {c l : Int} (hc : 0 ≤ c ∧ c ≤ 39) (hl : 0 ≤ l ∧ l ≤ 127) (le : Nat → Int32) :
    ∀ (d k p : Nat) (vs : Nat → Int) (nu : Nat → Int32) (fs nm be : Int32), (k : Int) + d = NB l → p ≤ L → (∀ j, j < k → nu (4 * c.toNat + j) = iz (vs j)) →
    ((TA B L l d k p vs).1 ≠ true → ∀ m, L - p < m → FLT L (TA B L l d k p vs).2.1 (fOr_findFault_L12 (iz L) tx m (iz p) (iz c) le nu 1 (iz l) (iz k) fs nm be)) ∧
    ((TA B L l d k p vs).1 = true → (TA B L l d k p vs).2.1 = L → ∀ m, L - p < m → FLT L L (fOr_findFault_L12 (iz L) tx m (iz p) (iz c) le nu 1 (iz l) (iz k) fs nm be)) ∧
    ((TA B L l d k p vs).1 = true → (TA B L l d k p vs).2.1 < L → ∃ (nu' : Nat → Int32) (fs' nm' be' : Int32), (∀ m, fOr_findFault_L12 (iz L) tx (m + 1 + ((TA B L l d k p vs).2.1 - p)) (iz p) (iz c) le nu 1 (iz l) (iz k) fs nm be = fOr_findFault_L12 (iz L) tx (m + 1) (iz ((TA B L l d k p vs).2.1 : Nat)) (iz c) le nu' 1 (iz l) (iz (NB l)) fs' nm' be') ∧
      (∀ j, j < k + d → nu' (4 * c.toNat + j) = iz ((TA B L l d k p vs).2.2 j)) ∧ (∀ j, j < 4 * c.toNat → nu' j = nu j)) := by
  have hnb := NB_r l
  intro d
  induction d with
  | zero =>
    intro k p vs nu fs nm be hk hp hv
    refine ⟨fun q => absurd rfl q, fun _ hL m hm => ?_, fun _ hL => ⟨nu, fs, nm, be, fun m => ?_, fun j hj => hv j (by omega), fun _ _ => rfl⟩⟩
    · have hL' : p = L := hL
      rw [hL']
      exact L12_fe tx (iz c) le nu (by decide) (iz l) (iz k) fs nm be (by omega)
    · show fOr_findFault_L12 (iz L) tx (m + 1 + (p - p)) (iz p) (iz c) le nu 1 (iz l) (iz k) fs nm be = fOr_findFault_L12 (iz L) tx (m + 1) (iz p) (iz c) le nu 1 (iz l) (iz (NB l)) fs nm be
      rw [show m + 1 + (p - p) = m + 1 by omega, show NB l = (k : Int) by omega]
  | succ d ih =>
    intro k p vs nu fs nm be hk hp hv
    obtain ⟨r1, r2, r3⟩ := num_run hT hc hl (k := k) (by omega) le nu fs nm be hp
    have hr := TK_r B (sgn l k) hp
    by_cases ok : TKo B L (sgn l k) p = true
    · have e : TA B L l (d + 1) k p vs = TA B L l d (k + 1) (TKe B L (sgn l k) p) (fun j => if j = k then TKv B L (sgn l k) p else vs j) := if_pos ok
      have ht := TA_r B l d (k + 1) (TKe B L (sgn l k) p) (fun j => if j = k then TKv B L (sgn l k) p else vs j) (L := L) hr.2.2.2.1
      rw [← e] at ht
      by_cases hL : TKe B L (sgn l k) p = L
      · have e2 : (TA B L l (d + 1) k p vs).2.1 = L := by omega
        refine ⟨fun _ m hm => ?_, fun _ _ m hm => r2 ok hL m hm, fun _ h => by omega⟩
        rw [e2]
        exact r2 ok hL m hm
      · obtain ⟨fs1, nm1, be1, hh⟩ := r3 ok (by omega)
        obtain ⟨i1, i2, i3⟩ := ih (k + 1) (TKe B L (sgn l k) p) (fun j => if j = k then TKv B L (sgn l k) p else vs j) (upd nu (4 * c + k).toNat (iz (TKv B L (sgn l k) p))) fs1 nm1 be1 (by omega) hr.2.2.2.1 (fun j hj => by
          by_cases ej : j = k
          · rw [ej, show 4 * c.toNat + k = (4 * c + k).toNat by omega, upd_s, if_pos rfl]
          · rw [upd_n _ _ (by omega), if_neg ej]; exact hv j (by omega))
        rw [← e] at i1 i2 i3
        refine ⟨fun no m hm => ?_, fun y hL2 m hm => ?_, fun y hL2 => ?_⟩
        · have hw := hh (m - 1 - (TKe B L (sgn l k) p - p))
          rw [show m - 1 - (TKe B L (sgn l k) p - p) + 1 + (TKe B L (sgn l k) p - p) = m by omega] at hw
          rw [hw]
          exact i1 no _ (by omega)
        · have hw := hh (m - 1 - (TKe B L (sgn l k) p - p))
          rw [show m - 1 - (TKe B L (sgn l k) p - p) + 1 + (TKe B L (sgn l k) p - p) = m by omega] at hw
          rw [hw]
          exact i2 y hL2 _ (by omega)
        · obtain ⟨nu', fs', nm', be', j1, j2, j3⟩ := i3 y hL2
          refine ⟨nu', fs', nm', be', fun m => ?_, fun j hj => j2 j (by omega), fun j hj => by rw [j3 j hj, upd_n _ _ (by omega)]⟩
          have hw := hh (m + ((TA B L l (d + 1) k p vs).2.1 - TKe B L (sgn l k) p))
          have hj := j1 m
          rw [show m + ((TA B L l (d + 1) k p vs).2.1 - TKe B L (sgn l k) p) + 1 + (TKe B L (sgn l k) p - p) = m + 1 + ((TA B L l (d + 1) k p vs).2.1 - p) by omega] at hw
          rw [hw, show m + ((TA B L l (d + 1) k p vs).2.1 - TKe B L (sgn l k) p) + 1 = m + 1 + ((TA B L l (d + 1) k p vs).2.1 - TKe B L (sgn l k) p) by omega]
          exact hj
    · have e : TA B L l (d + 1) k p vs = (false, TKe B L (sgn l k) p, vs) := if_neg ok
      rw [e]
      exact ⟨fun _ m hm => r1 ok m hm, ⟨fun q => absurd (show false = true from q) (by decide), fun q => absurd (show false = true from q) (by decide)⟩⟩
theorem order_run {B : Nat → Int} {L : Nat} {tx : Nat → Int32} (hT : TXT B L tx) {c p : Nat} (hc : 3 * c ≤ p) (hp : p ≤ L) (le nu : Nat → Int32) (l fi fs nm be : Int32) :
    (ORo B L p ≠ true → (SK B L p = L → c = 0) → ∀ m, L - p < m → FLT L (ORf B L p) (fOr_findFault_L12 (iz L) tx m (iz p) (iz c) le nu 0 l fi fs nm be)) ∧
    (ORo B L p = true → ∃ (nu' : Nat → Int32) (l' fi' fs' nm' be' : Int32), (∀ m, fOr_findFault_L12 (iz L) tx (m + (ORq B L p + 1 - p)) (iz p) (iz c) le nu 0 l fi fs nm be = fOr_findFault_L12 (iz L) tx m (iz ((ORq B L p + 1 : Nat) : Int)) (iz ((c + 1 : Nat) : Int)) (upd le c (iz (B (SK B L p)))) nu' 0 l' fi' fs' nm' be') ∧
      (∀ j : Nat, (j : Int) < NB (B (SK B L p)) → nu' (4 * c + j) = iz ((ORr B L p).2.2 j)) ∧ (∀ j, j < 4 * c → nu' j = nu j)) := by
  have hL := hT.1
  have hs := SK_r B hp
  obtain ⟨o1, o2, o3⟩ := OR_r B hp
  have sk := fun m => skip_K hT (s := 0) (.inl rfl) (iz c) le nu l fi fs nm be hp m
  by_cases z : SK B L p = L
  · have no : ORo B L p ≠ true := fun q => by have := (ORo_t.mp q).1; omega
    refine ⟨fun _ h0 m hm => ?_, fun q => absurd q no⟩
    have ef : ORf B L p = L := by unfold ORf; rw [if_pos (.inl (by omega)), z]
    have := sk (m - (SK B L p - p))
    rw [show m - (SK B L p - p) + (SK B L p - p) = m by omega, z] at this
    rw [this, ef]
    refine .inr ⟨rfl, _, L12_end tx _ _ _ _ _ _ _ _ _ (by omega), .inl ?_⟩
    rw [h0 z]
    show iz ((0 : Nat) : Int) ≤ 0
    decide
  · have hlt : SK B L p < L := by omega
    have hb := hT.2 _ hlt
    have h32 := hs.2.2 hlt
    obtain ⟨q1, q2, q3, q4⟩ := o2 hlt
    by_cases nb : NB (B (SK B L p)) = 0
    · have no : ORo B L p ≠ true := fun q => (ORo_t.mp q).2.1 nb
      obtain ⟨y, hy⟩ := a0_bad hb.2 h32 nb (iz c) le nu l fi fs nm be
      refine ⟨fun _ _ m hm => ?_, fun q => absurd q no⟩
      have ef : ORf B L p = SK B L p := by unfold ORf; rw [if_pos (.inr nb)]
      have := sk (m - (SK B L p - p))
      rw [show m - (SK B L p - p) + (SK B L p - p) = m by omega] at this
      rw [this, ef]
      exact L12_no hT hlt hy (by omega)
    · have ha := a0_let hb.2 nb (c := (c : Int)) (by omega) le nu l fi fs nm be
      have run1 : ∀ m, fOr_findFault_L12 (iz L) tx (m + 1 + (SK B L p - p)) (iz p) (iz c) le nu 0 l fi fs nm be = fOr_findFault_L12 (iz L) tx m (iz ((SK B L p + 1 : Nat) : Int)) (iz c) le nu 1 (iz (B (SK B L p))) (iz ((0 : Nat) : Int)) fs nm be := fun m => by
        rw [sk (m + 1), L12_ok hT hlt ha m, show (0 : Int32) = iz ((0 : Nat) : Int) from iz_l0]
      have hnb := NB_r (B (SK B L p))
      obtain ⟨n1, n2, n3⟩ := nums_run hT (c := (c : Int)) (l := B (SK B L p)) (by omega) hb.2 le (NB (B (SK B L p))).toNat 0 (SK B L p + 1) (fun _ => 0) nu fs nm be (by omega) (by omega) (fun j hj => by omega)
      have er : TA B L (B (SK B L p)) (NB (B (SK B L p))).toNat 0 (SK B L p + 1) (fun _ => 0) = ORr B L p := rfl
      rw [er] at n1 n2 n3
      by_cases ok1 : (ORr B L p).1 = true
      · by_cases hL2 : (ORr B L p).2.1 = L
        · have eq : ORq B L p = L := by omega
          have no : ORo B L p ≠ true := fun q => by have := (ORo_t.mp q).2.2.2.1; omega
          refine ⟨fun _ _ m hm => ?_, fun q => absurd q no⟩
          have ef : ORf B L p = L := by unfold ORf; rw [if_neg (by omega), if_pos ok1, eq]
          have hw := run1 (m - 1 - (SK B L p - p))
          rw [show m - 1 - (SK B L p - p) + 1 + (SK B L p - p) = m by omega] at hw
          rw [hw, ef]
          exact n2 ok1 hL2 _ (by omega)
        · obtain ⟨nu', fs', nm', be', k1, k2, k3⟩ := n3 ok1 (by omega)
          have sk2 := fun m => skip_K hT (s := 1) (.inr rfl) (iz c) le nu' (iz (B (SK B L p))) (iz (NB (B (SK B L p)))) fs' nm' be' q2 m
          have eq' : SK B L (ORr B L p).2.1 = ORq B L p := rfl
          rw [eq'] at sk2
          have run2 : ∀ m, fOr_findFault_L12 (iz L) tx (m + 1 + (ORq B L p - p)) (iz p) (iz c) le nu 0 l fi fs nm be = fOr_findFault_L12 (iz L) tx (m + 1) (iz (ORq B L p : Nat)) (iz c) le nu' 1 (iz (B (SK B L p))) (iz (NB (B (SK B L p)))) fs' nm' be' := fun m => by
            have h1 := run1 (m + 1 + (ORq B L p - (SK B L p + 1)))
            rw [show m + 1 + (ORq B L p - (SK B L p + 1)) + 1 + (SK B L p - p) = m + 1 + (ORq B L p - p) by omega] at h1
            have h2 := k1 (m + (ORq B L p - (ORr B L p).2.1))
            rw [show m + (ORq B L p - (ORr B L p).2.1) + 1 + ((ORr B L p).2.1 - (SK B L p + 1)) = m + 1 + (ORq B L p - (SK B L p + 1)) by omega] at h2
            have h3 := sk2 (m + 1)
            rw [h1, h2, show m + (ORq B L p - (ORr B L p).2.1) + 1 = m + 1 + (ORq B L p - (ORr B L p).2.1) by omega, h3]
          by_cases hq : ORq B L p < L
          · have hb2 := hT.2 _ hq
            have hs2 := (SK_r B (p := (ORr B L p).2.1) (L := L) q2).2.2 hq
            rw [eq'] at hs2
            by_cases sm : B (ORq B L p) = 59
            · have ok : ORo B L p = true := ORo_t.mpr ⟨hlt, nb, ok1, hq, sm⟩
              have ha2 := gap_semi (l := B (SK B L p)) (c := (c : Int)) hb.2 rfl (by omega) le nu' fs' nm' be'
              rw [← sm] at ha2
              refine ⟨fun q => absurd ok q, fun _ => ⟨nu', iz (B (SK B L p)), iz (NB (B (SK B L p))), fs', nm', be', fun m => ?_, fun j hj => by have := k2 j (by omega); rw [show (c : Int).toNat = c by omega] at this; exact this, fun j hj => k3 j (by omega)⟩⟩
              rw [show m + (ORq B L p + 1 - p) = m + 1 + (ORq B L p - p) by omega, run2 m, L12_ok hT hq ha2 m, show (c : Int).toNat = c by omega, show ((c + 1 : Nat) : Int) = (c : Int) + 1 by omega]
            · have no : ORo B L p ≠ true := fun q => sm (ORo_t.mp q).2.2.2.2
              obtain ⟨y, hy⟩ := gap_full hb2.2 hs2 sm hb.2 (k := NB (B (SK B L p))) rfl (iz c) le nu' fs' nm' be'
              refine ⟨fun _ _ m hm => ?_, fun q => absurd q no⟩
              have ef : ORf B L p = ORq B L p := by unfold ORf; rw [if_neg (by omega), if_pos ok1]
              have hw := run2 (m - 1 - (ORq B L p - p))
              rw [show m - 1 - (ORq B L p - p) + 1 + (ORq B L p - p) = m by omega] at hw
              rw [hw, ef]
              exact L12_no hT hq hy (by omega)
          · have eq : ORq B L p = L := by omega
            have no : ORo B L p ≠ true := fun q => by have := (ORo_t.mp q).2.2.2.1; omega
            refine ⟨fun _ _ m hm => ?_, fun q => absurd q no⟩
            have ef : ORf B L p = L := by unfold ORf; rw [if_neg (by omega), if_pos ok1, eq]
            have hw := run2 (m - 1 - (ORq B L p - p))
            rw [show m - 1 - (ORq B L p - p) + 1 + (ORq B L p - p) = m by omega, eq] at hw
            rw [hw, ef]
            exact L12_fe tx (iz c) le nu' (by decide) _ _ fs' nm' be' (by omega)
      · have no : ORo B L p ≠ true := fun q => ok1 (ORo_t.mp q).2.2.1
        refine ⟨fun _ _ m hm => ?_, fun q => absurd q no⟩
        have ef : ORf B L p = (ORr B L p).2.1 := by unfold ORf; rw [if_neg (by omega), if_neg ok1]
        have hw := run1 (m - 1 - (SK B L p - p))
        rw [show m - 1 - (SK B L p - p) + 1 + (SK B L p - p) = m by omega] at hw
        rw [hw, ef]
        exact n1 ok1 _ (by omega)
