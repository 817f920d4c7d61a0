/-! the whole text, both sides -/
theorem OR_sk (B : Nat → Int) {L p : Nat} (hp : p ≤ L) : ORo B L (SK B L p) = ORo B L p ∧ ORf B L (SK B L p) = ORf B L p ∧ ORq B L (SK B L p) = ORq B L p ∧ ORr B L (SK B L p) = ORr B L p ∧ SK B L (SK B L p) = SK B L p := by
  have hs := SK_r B hp
  have e := SK_id B hs.2.2 hs.2.1
  have e1 : ORr B L (SK B L p) = ORr B L p := by unfold ORr; rw [e]
  have e2 : ORq B L (SK B L p) = ORq B L p := by unfold ORq; rw [e1]
  refine ⟨?_, ?_, e2, e1, e⟩
  · unfold ORo; rw [e, e1, e2]
  · unfold ORf; rw [e, e1, e2]
def Tr (B : Nat → Int) (L : Nat) (le nu : Nat → Int32) : Nat → Nat → Nat → Prop
  | 0, _, p => SK B L p = L ∧ p ≤ L
  | d + 1, i, p => p ≤ L ∧ ORo B L p = true ∧ le i = iz (B (SK B L p)) ∧ (∀ j : Nat, (j : Int) < NB (B (SK B L p)) → nu (4 * i + j) = iz ((ORr B L p).2.2 j)) ∧ Tr B L le nu d (i + 1) (ORq B L p + 1)
theorem text_l {B : Nat → Int} {L : Nat} {tx mt : Nat → Int32} (hT : TXT B L tx) (hM : TXT B L mt) (al : Nat → Int32) (nt : Int32) :
    ∀ (d p c : Nat) (le nu : Nat → Int32) (l fi fs nm be val : Int32) (nums : Nat → Int32) (m m' : Nat), 3 * c ≤ p → p ≤ L → L - p ≤ d → 1 ≤ c → L - p < m → d < m' →
    (∃ f, f ≤ L ∧ FLT L f (fOr_findFault_L12 (iz L) tx m (iz p) (iz c) le nu 0 l fi fs nm be) ∧ ∃ val' nums', fMo_reads_L11 mt (iz L) m' 1 al (iz p) val nums nt = some (0, al, iz f, val', nums', nt)) ∨
    (∃ (N : Nat) (le' nu' : Nat → Int32) (l' fi' fs' nm' be' : Int32), fOr_findFault_L12 (iz L) tx m (iz p) (iz c) le nu 0 l fi fs nm be = some (.inr (iz ((c + N : Nat) : Int), le', nu', 0, l', fi', fs', nm', be')) ∧
      (∃ val' nums', fMo_reads_L11 mt (iz L) m' 1 al (iz p) val nums nt = some (1, al, iz L, val', nums', nt)) ∧ Tr B L le' nu' N c p ∧ (∀ j, j < c → le' j = le j) ∧ (∀ j, j < 4 * c → nu' j = nu j) ∧ 3 * (c + N) ≤ L) := by
  have hL := hT.1
  intro d
  induction d with
  | zero =>
    intro p c le nu l fi fs nm be val nums m m' h1 h2 h3 h4 hm hm'
    obtain ⟨m', rfl⟩ : ∃ q, m' = q + 1 := ⟨m' - 1, by omega⟩
    have ep : p = L := by omega
    have es : SK B L p = L := by have := SK_r B h2; omega
    have hh := sMo_here hM h2
    have hb : HB B L (SK B L p) = -1 := if_neg (by omega)
    rw [hb, es] at hh
    refine .inr ⟨0, le, nu, l, fi, fs, nm, be, ?_, ⟨val, nums, ?_⟩, ⟨es, h2⟩, fun _ _ => rfl, fun _ _ => rfl, by omega⟩
    · rw [ep]; exact L12_end tx _ _ _ _ _ _ _ _ _ (by omega)
    · unfold fMo_reads_L11
      rw [if_neg (by decide), hh]
      simp only [Option.bind_some]
      rw [if_pos (by decide)]
  | succ d ih =>
    intro p c le nu l fi fs nm be val nums m m' h1 h2 h3 h4 hm hm'
    obtain ⟨m', rfl⟩ : ∃ q, m' = q + 1 := ⟨m' - 1, by omega⟩
    have hs := SK_r B h2
    have hh := sMo_here hM h2
    by_cases es : SK B L p = L
    · have hb : HB B L (SK B L p) = -1 := if_neg (by omega)
      rw [hb, es] at hh
      have sk := skip_K hT (s := 0) (.inl rfl) (iz c) le nu l fi fs nm be h2 (m - (SK B L p - p))
      rw [show m - (SK B L p - p) + (SK B L p - p) = m by omega, es] at sk
      refine .inr ⟨0, le, nu, l, fi, fs, nm, be, ?_, ⟨val, nums, ?_⟩, ⟨es, h2⟩, fun _ _ => rfl, fun _ _ => rfl, by omega⟩
      · rw [sk]; exact L12_end tx _ _ _ _ _ _ _ _ _ (by omega)
      · unfold fMo_reads_L11
        rw [if_neg (by decide), hh]
        simp only [Option.bind_some]
        rw [if_pos (by decide)]
    · have hlt : SK B L p < L := by omega
      have hbb := (hM.2 _ hlt).2
      have hb : HB B L (SK B L p) = B (SK B L p) := if_pos hlt
      rw [hb] at hh
      have nm1 : ¬ iz (B (SK B L p)) = (-1 : Int32) := by rw [iz_n, iz_neg, iz_eq (by omega) (by omega) (by omega) (by omega)]; omega
      obtain ⟨o1, o2, o3, o4, o5⟩ := OR_sk B h2
      obtain ⟨r1, r2, r3⟩ := OR_r B h2
      obtain ⟨val1, nums1, w1, w2⟩ := sMo_order hM hs.2.1 0 al val nums nt
      rw [o1, o2] at w1
      rw [o1, o3, o4, o5] at w2
      obtain ⟨q1, q2⟩ := order_run hT h1 h2 le nu l fi fs nm be
      by_cases ok : ORo B L p = true
      · obtain ⟨nu1, l1, fi1, fs1, nm1', be1, a1, a2, a3⟩ := q2 ok
        have hq := r3 ok
        have hq2 := (r2 hlt)
        have hqL := (ORo_t.mp ok).2.2.2.1
        have st := a1 (m - (ORq B L p + 1 - p))
        rw [show m - (ORq B L p + 1 - p) + (ORq B L p + 1 - p) = m by omega] at st
        have hmo : fMo_reads_L11 mt (iz L) (m' + 1) 1 al (iz p) val nums nt = fMo_reads_L11 mt (iz L) m' 1 al (iz ((ORq B L p + 1 : Nat) : Int)) val1 nums1 nt := by
          generalize hX : fMo_reads_L11 mt (iz L) m' 1 al (iz ((ORq B L p + 1 : Nat) : Int)) val1 nums1 nt = X
          unfold fMo_reads_L11
          rw [if_neg (by decide), hh]
          simp only [Option.bind_some]
          rw [if_neg nm1, (w2 ok).2, if_pos rfl]
          exact hX
        rw [st, hmo]
        rcases ih (ORq B L p + 1) (c + 1) (upd le c (iz (B (SK B L p)))) nu1 l1 fi1 fs1 nm1' be1 val1 nums1 (m - (ORq B L p + 1 - p)) m' (by omega) (by omega) (by omega) (by omega) (by omega) (by omega) with ⟨f, f1, f2, f3⟩ | ⟨N, le', nu', l', fi', fs', nm', be', f1, f2, f3, f4, f5, f6⟩
        · exact .inl ⟨f, f1, f2, f3⟩
        · refine .inr ⟨N + 1, le', nu', l', fi', fs', nm', be', ?_, f2, ⟨h2, ok, ?_, ?_, f3⟩, ?_, ?_, by omega⟩
          · rw [f1, show c + 1 + N = c + (N + 1) by omega]
          · rw [f4 c (by omega), upd_s]
          · intro j hj
            have hnr := NB_r (B (SK B L p))
            rw [f5 _ (by omega)]
            exact a2 j hj
          · intro j hj
            rw [f4 j (by omega), upd_n _ _ (by omega)]
          · intro j hj
            rw [f5 j (by omega), a3 j hj]
      · refine .inl ⟨ORf B L p, r1, q1 ok (fun z => absurd z es) m (by omega), val1, nums1, ?_⟩
        obtain ⟨m', rfl⟩ : ∃ q, m' = q + 1 := ⟨m' - 1, by omega⟩
        unfold fMo_reads_L11
        rw [if_neg (by decide), hh]
        simp only [Option.bind_some]
        rw [if_neg nm1, w1 ok]
        simp only [Option.bind_some]
        unfold fMo_reads_L11
        rw [if_pos rfl]
theorem ff_of {L f : Nat} (hL : L ≤ 120) (hf : f ≤ L) {tx le nu : Nat → Int32} {c st l fi fs nm be : Int32} (h : FLT L f (fOr_findFault_L12 (iz L) tx FU 0 0 le nu 0 l fi fs nm be)) : ∃ x : T9, fOr_findFault (iz L) c le nu st l fi fs nm be tx = some (iz f, x) := by
  unfold fOr_findFault
  rcases h with ⟨_, x, e⟩ | ⟨rfl, x, e, hx⟩
  · rw [e]; exact ⟨x, rfl⟩
  · rw [e]
    refine ⟨x, ?_⟩
    show (if x.1 ≤ 0 then _ else _) = _
    by_cases c1 : x.1 ≤ 0
    · rw [if_pos c1]
    · rw [if_neg c1, if_neg (hx.resolve_left c1)]
theorem text_all {B : Nat → Int} {L : Nat} {tx mt : Nat → Int32} (hT : TXT B L tx) (hM : TXT B L mt) (al : Nat → Int32) (nt c st l fi fs nm be val : Int32) (le nu nums : Nat → Int32) :
    ∃ (u1 : Int32 × (Nat → Int32) × Int32 × Int32 × (Nat → Int32) × Int32), fMo_readsOrder 0 al mt (iz L) 0 val nums nt = some u1 ∧
    ((∃ f, f ≤ L ∧ (∃ x : T9, fOr_findFault (iz L) c le nu st l fi fs nm be tx = some (iz f, x)) ∧ ∃ val' nums', fMo_reads_L11 mt (iz L) FU u1.1 u1.2.1 u1.2.2.1 u1.2.2.2.1 u1.2.2.2.2.1 u1.2.2.2.2.2 = some (0, al, iz f, val', nums', nt)) ∨
    (∃ (N : Nat) (le' nu' : Nat → Int32) (l' fi' fs' nm' be' : Int32), fOr_findFault (iz L) c le nu st l fi fs nm be tx = some (-1, iz N, le', nu', 0, l', fi', fs', nm', be') ∧
      (∃ val' nums', fMo_reads_L11 mt (iz L) FU u1.1 u1.2.1 u1.2.2.1 u1.2.2.2.1 u1.2.2.2.2.1 u1.2.2.2.2.2 = some (1, al, iz L, val', nums', nt)) ∧ Tr B L le' nu' N 0 0 ∧ 3 * N ≤ L)) := by
  have hL := hT.1
  obtain ⟨r1, r2, r3⟩ := OR_r B (Nat.zero_le L)
  obtain ⟨val1, nums1, w1, w2⟩ := sMo_order hM (Nat.zero_le L) 0 al val nums nt
  obtain ⟨q1, q2⟩ := order_run hT (c := 0) (p := 0) (by omega) (by omega) le nu l fi fs nm be
  rw [show iz ((0 : Nat) : Int) = (0 : Int32) from iz_l0.symm] at w1 w2 q1 q2
  by_cases ok : ORo B L 0 = true
  · obtain ⟨nu1, l1, fi1, fs1, nm1', be1, a1, a2, a3⟩ := q2 ok
    have hq := r3 ok
    have hqL := (ORo_t.mp ok).2.2.2.1
    have hs0 := (ORo_t.mp ok).1
    have hmo := (w2 ok).2
    rw [if_pos rfl] at hmo
    refine ⟨_, hmo, ?_⟩
    have hF : FU = 5000 := rfl
    have st1 := a1 (FU - (ORq B L 0 + 1 - 0))
    rw [show FU - (ORq B L 0 + 1 - 0) + (ORq B L 0 + 1 - 0) = FU by omega] at st1
    rcases text_l hT hM al nt L (ORq B L 0 + 1) 1 (upd le 0 (iz (B (SK B L 0)))) nu1 l1 fi1 fs1 nm1' be1 val1 nums1 (FU - (ORq B L 0 + 1 - 0)) FU (by omega) (by omega) (by omega) (by omega) (by omega) (by omega) with ⟨f, f1, f2, f3⟩ | ⟨N, le', nu', l', fi', fs', nm', be', f1, f2, f3, f4, f5, f6⟩
    · refine .inl ⟨f, f1, ff_of hL f1 ?_, f3⟩
      rw [st1]
      exact f2
    · refine .inr ⟨1 + N, le', nu', l', fi', fs', nm', be', ?_, f2, ?_, by omega⟩
      · unfold fOr_findFault
        have e12 : fOr_findFault_L12 (iz L) tx FU 0 0 le nu 0 l fi fs nm be = some (.inr (iz ((1 + N : Nat) : Int), le', nu', 0, l', fi', fs', nm', be')) := by rw [st1]; exact f1
        rw [e12]
        show (if iz ((1 + N : Nat) : Int) ≤ 0 then _ else _) = _
        rw [if_neg (by rw [show (0 : Int32) = iz 0 from iz_n 0, iz_le (by omega) (by omega) (by omega) (by omega)]; omega)]
        exact if_pos rfl
      · rw [show 1 + N = N + 1 by omega]
        refine ⟨by omega, ok, ?_, ?_, f3⟩
        · rw [f4 0 (by omega), upd_s]
        · intro j hj
          have hnr := NB_r (B (SK B L 0))
          rw [f5 _ (by omega)]
          exact a2 j hj
  · refine ⟨_, w1 ok, .inl ⟨ORf B L 0, r1, ff_of hL r1 (q1 ok (fun _ => rfl) FU (by show _ < 5000; omega)), val1, nums1, ?_⟩⟩
    show fMo_reads_L11 mt (iz L) (4999 + 1) 0 al (iz (ORf B L 0 : Nat)) val1 nums1 nt = _
    unfold fMo_reads_L11
    rw [if_pos rfl]
