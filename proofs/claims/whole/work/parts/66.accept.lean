/-! a byte, as the program takes it -/
theorem s10 : ((1 : Int32) = 0) = False := eq_false (by decide)
theorem s20 : ((2 : Int32) = 0) = False := eq_false (by decide)
theorem s30 : ((3 : Int32) = 0) = False := eq_false (by decide)
theorem s00 : ((0 : Int32) = 0) = True := eq_true rfl
theorem s11 : ((1 : Int32) = 1) = True := eq_true rfl
theorem s12 : ((1 : Int32) = 2) = False := eq_false (by decide)
theorem s13 : ((1 : Int32) = 3) = False := eq_false (by decide)
theorem s22 : ((2 : Int32) = 2) = True := eq_true rfl
theorem s32 : ((3 : Int32) = 2) = False := eq_false (by decide)
theorem s33 : ((3 : Int32) = 3) = True := eq_true rfl
def NB (x : Int) : Int := if x = 97 then 1 else if x = 99 then 3 else if x = 112 then 4 else if x = 115 then 3 else if x = 116 then 1 else if x = 119 then 2 else if x = 120 then 1 else 0
theorem NB_r (x : Int) : 0 ≤ NB x ∧ NB x ≤ 4 := by
  unfold NB
  repeat' split
  all_goals omega
theorem bne {b : Int} (hb : 0 ≤ b ∧ b ≤ 127) (c : Int) (hc : 0 ≤ c ∧ c ≤ 127) : (iz b = iz c) = (b = c) := propext (iz_eq (by omega) (by omega) (by omega) (by omega))
theorem sOr_numbersOf {b : Int} (hb : 0 ≤ b ∧ b ≤ 127) : fOr_numbersOf (iz b) = some (iz (NB b)) := by
  have h := bne hb
  unfold fOr_numbersOf NB
  rw [show (97 : Int32) = iz 97 from iz_n 97, show (99 : Int32) = iz 99 from iz_n 99, show (112 : Int32) = iz 112 from iz_n 112, show (115 : Int32) = iz 115 from iz_n 115, show (116 : Int32) = iz 116 from iz_n 116, show (119 : Int32) = iz 119 from iz_n 119, show (120 : Int32) = iz 120 from iz_n 120]
  simp only [h 97 (by omega), h 99 (by omega), h 112 (by omega), h 115 (by omega), h 116 (by omega), h 119 (by omega), h 120 (by omega)]
  repeat' split
  all_goals rw [← iz_n]
theorem sOr_isFigure {b : Int} (hb : 0 ≤ b ∧ b ≤ 127) : fOr_isFigure (iz b) = some (bi (48 ≤ b ∧ b ≤ 57)) := by
  unfold fOr_isFigure bi
  simp (disch := omega) only [iz_n, iz_neg, iz_add, iz_sub, iz_mul, iz_lt, iz_le, iz_eq, iz_t, iz_c]
  repeat' split
  all_goals first | rfl | (exfalso; omega)
theorem b32 {b : Int} (hb : 0 ≤ b ∧ b ≤ 127) : (iz b = (32 : Int32)) = (b = 32) := by rw [iz_n]; exact bne hb 32 (by omega)
theorem b45 {b : Int} (hb : 0 ≤ b ∧ b ≤ 127) : (iz b = (45 : Int32)) = (b = 45) := by rw [iz_n]; exact bne hb 45 (by omega)
theorem b59 {b : Int} (hb : 0 ≤ b ∧ b ≤ 127) : (iz b = (59 : Int32)) = (b = 59) := by rw [iz_n]; exact bne hb 59 (by omega)
theorem b115 {b : Int} (hb : 0 ≤ b ∧ b ≤ 127) : (iz b = (115 : Int32)) = (b = 115) := by rw [iz_n]; exact bne hb 115 (by omega)
section AC
theorem a0_blank (c : Int32) (le nu : Nat → Int32) (l fi fs nm be : Int32) : fOr_accept (iz 32) c le nu (0 : Int32) l fi fs nm be = some (1, c, le, nu, 0, l, fi, fs, nm, be) := by
  unfold fOr_accept
  rw [if_pos rfl, if_pos (iz_n 32).symm]
theorem a1_blank (c : Int32) (le nu : Nat → Int32) (l fi fs nm be : Int32) : fOr_accept (iz 32) c le nu (1 : Int32) l fi fs nm be = some (1, c, le, nu, 1, l, fi, fs, nm, be) := by
  have e : (iz 32 = (32 : Int32)) = True := eq_true (iz_n 32).symm
  unfold fOr_accept fOr_acceptInGap
  simp only [s10, s12, s13, e, if_true, if_false, Option.bind_some, s11, or_true]
theorem a0_bad {b : Int} (hb : 0 ≤ b ∧ b ≤ 127) (h1 : b ≠ 32) (h2 : NB b = 0) (c : Int32) (le nu : Nat → Int32) (l fi fs nm be : Int32) : ∃ y, fOr_accept (iz b) c le nu (0 : Int32) l fi fs nm be = some (0, y) := by
  have e := (b32 hb).trans (eq_false h1)
  have e2 : (iz 0 = (0 : Int32)) = True := c0e
  refine ⟨(c, le, nu, 0, l, fi, fs, nm, be), ?_⟩
  unfold fOr_accept fOr_acceptLetter
  simp only [s00, e, sOr_numbersOf hb, h2, e2, if_true, if_false, Option.bind_some]
theorem a0_let {b : Int} (hb : 0 ≤ b ∧ b ≤ 127) (h2 : NB b ≠ 0) {c : Int} (hc : 0 ≤ c ∧ c ≤ 39) (le nu : Nat → Int32) (l fi fs nm be : Int32) : fOr_accept (iz b) (iz c) le nu (0 : Int32) l fi fs nm be = some (1, iz c, le, nu, 1, iz b, 0, fs, nm, be) := by
  have h1 : b ≠ 32 := fun e => by rw [e] at h2; exact h2 (by decide)
  have hr := NB_r b
  have e := (b32 hb).trans (eq_false h1)
  have e2 : (iz (NB b) = (0 : Int32)) = False := eq_false (by rw [iz_l0, iz_eq (by omega) (by omega) (by omega) (by omega)]; exact h2)
  have w : fRi_within (iz c) (0 : Int32) (39 : Int32) = some (iz 1) := by rw [show (0 : Int32) = iz 0 from iz_n 0, show (39 : Int32) = iz 39 from iz_n 39, sRi_within (by omega) (by omega) (by omega), bi10 hc]
  unfold fOr_accept fOr_acceptLetter
  simp only [s00, e, sOr_numbersOf hb, e2, w, c1e, s10, if_true, if_false, Option.bind_some]
/-- what a byte in a gap does -/
theorem a1_gap (b c : Int32) (le nu : Nat → Int32) (l fi fs nm be : Int32) : fOr_accept b c le nu (1 : Int32) l fi fs nm be = (fOr_acceptInGap b c le (1 : Int32) l fi fs nm be).bind fun u16 => if u16.1 = 0 ∨ u16.1 = 1 then some (u16.1, u16.2.1, u16.2.2.1, nu, u16.2.2.2.1, l, fi, u16.2.2.2.2.1, u16.2.2.2.2.2.1, u16.2.2.2.2.2.2) else none := by
  unfold fOr_accept
  simp only [s10, s12, s13, if_false]
theorem gap_semi {l k c : Int} (hl : 0 ≤ l ∧ l ≤ 127) (hk : k = NB l) (hc : 0 ≤ c ∧ c ≤ 39) (le nu : Nat → Int32) (fs nm be : Int32) :
    fOr_accept (iz 59) (iz c) le nu (1 : Int32) (iz l) (iz k) fs nm be = some (1, iz (c + 1), upd le c.toNat (iz l), nu, 0, iz l, iz k, fs, nm, be) := by
  have hr := NB_r l
  have e1 : (iz 59 = (32 : Int32)) = False := (b32 (by omega)).trans (eq_false (by omega))
  have e2 : (iz 59 = (59 : Int32)) = True := (b59 (by omega)).trans (eq_true rfl)
  have e3 : (iz k < iz (NB l)) = False := eq_false (by rw [hk, iz_lt (by omega) (by omega) (by omega) (by omega)]; omega)
  have w : fRi_within (iz c) (0 : Int32) (39 : Int32) = some (iz 1) := by rw [show (0 : Int32) = iz 0 from iz_n 0, show (39 : Int32) = iz 39 from iz_n 39, sRi_within (by omega) (by omega) (by omega), bi10 hc]
  have i1 : 0 ≤ (iz c).toInt ∧ (iz c).toInt < 40 := by rw [iz_t (by omega) (by omega)]; omega
  have i3 : (iz c).toNatClampNeg = c.toNat := iz_c (by omega) (by omega)
  rw [a1_gap]
  unfold fOr_acceptInGap fOr_endOrder
  simp only [e1, e2, e3, sOr_numbersOf hl, w, c1e, s10, s11, if_pos i1, i3, if_true, if_false, Option.bind_some, or_true]
  rw [iz_n, iz_add]
theorem gap_full {b l k : Int} (hb : 0 ≤ b ∧ b ≤ 127) (h1 : b ≠ 32) (h2 : b ≠ 59) (hl : 0 ≤ l ∧ l ≤ 127) (hk : k = NB l) (c : Int32) (le nu : Nat → Int32) (fs nm be : Int32) :
    ∃ y, fOr_accept (iz b) c le nu (1 : Int32) (iz l) (iz k) fs nm be = some (0, y) := by
  have hr := NB_r l
  have e1 := (b32 hb).trans (eq_false h1)
  have e2 := (b59 hb).trans (eq_false h2)
  have e3 : (iz k < iz (NB l)) = False := eq_false (by rw [hk, iz_lt (by omega) (by omega) (by omega) (by omega)]; omega)
  refine ⟨(c, le, nu, 1, iz l, iz k, fs, nm, be), ?_⟩
  rw [a1_gap]
  unfold fOr_acceptInGap
  simp only [e1, e2, e3, sOr_numbersOf hl, s00, if_true, if_false, Option.bind_some, true_or]
/-- whether a minus may stand -/
def mns (b l k : Int) : Prop := b = 45 ∧ l = 115 ∧ k = 2
theorem gap_minus {l k : Int} (hl : l = 115) (hk : k = 2) (c : Int32) (le nu : Nat → Int32) (fs nm be : Int32) :
    fOr_accept (iz 45) c le nu (1 : Int32) (iz l) (iz k) fs nm be = some (1, c, le, nu, 2, iz l, iz k, 0, 0, 1) := by
  subst hl hk
  have e1 : (iz 45 = (32 : Int32)) = False := (b32 (by omega)).trans (eq_false (by omega))
  have e2 : (iz 45 = (45 : Int32)) = True := (b45 (by omega)).trans (eq_true rfl)
  have e4 : (iz 115 = (115 : Int32)) = True := (b115 (by omega)).trans (eq_true rfl)
  have e5 : (iz 2 = (2 : Int32)) = True := eq_true (iz_n 2).symm
  have e3 : (iz 2 < iz (NB 115)) = True := eq_true (by decide)
  rw [a1_gap]
  unfold fOr_acceptInGap
  simp only [e1, e2, e3, e4, e5, sOr_numbersOf (show (0 : Int) ≤ 115 ∧ (115 : Int) ≤ 127 by omega), s10, s11, if_true, if_false, Option.bind_some, or_true]
theorem gap_fig {b l k : Int} (hb : 48 ≤ b ∧ b ≤ 57) (hl : 0 ≤ l ∧ l ≤ 127) (hk : 0 ≤ k ∧ k < NB l) (c : Int32) (le nu : Nat → Int32) (fs nm be : Int32) :
    fOr_accept (iz b) c le nu (1 : Int32) (iz l) (iz k) fs nm be = some (1, c, le, nu, 3, iz l, iz k, iz 1, iz (b - 48), 0) := by
  have hr := NB_r l
  have e1 := (b32 (b := b) (by omega)).trans (eq_false (by omega))
  have e2 := (b45 (b := b) (by omega)).trans (eq_false (by omega))
  have e3 : (iz k < iz (NB l)) = True := eq_true (by rw [iz_lt (by omega) (by omega) (by omega) (by omega)]; omega)
  have e4 : ((0 : Int32) < 6) = True := eq_true (by decide)
  have hf := sOr_isFigure (b := b) (by omega)
  rw [bi10 hb] at hf
  rw [a1_gap]
  unfold fOr_acceptInGap fOr_acceptFigure
  simp only [e1, e2, e3, e4, sOr_numbersOf hl, hf, c1e, s00, s10, s11, if_true, if_false, Option.bind_some, true_or, or_true]
  have e6 : (10 : Int32) * 0 + iz b - 48 = iz (b - 48) := by
    rw [iz_n, iz_l0, iz_mul, iz_add, iz_n, iz_sub]; exact iz_inj (by omega)
  have e7 : (0 : Int32) + 1 = iz 1 := by decide
  rw [e6, e7]
theorem gap_no {b l k : Int} (hb : 0 ≤ b ∧ b ≤ 127) (h1 : b ≠ 32) (h2 : ¬ (48 ≤ b ∧ b ≤ 57)) (h3 : ¬ mns b l k) (hl : 0 ≤ l ∧ l ≤ 127) (hk : 0 ≤ k ∧ k < NB l) (c : Int32) (le nu : Nat → Int32) (fs nm be : Int32) :
    ∃ y, fOr_accept (iz b) c le nu (1 : Int32) (iz l) (iz k) fs nm be = some (0, y) := by
  have hr := NB_r l
  have e1 := (b32 hb).trans (eq_false h1)
  have e3 : (iz k < iz (NB l)) = True := eq_true (by rw [iz_lt (by omega) (by omega) (by omega) (by omega)]; omega)
  have hf := sOr_isFigure (b := b) hb
  rw [bi11 h2] at hf
  have hm : (if iz b = (45 : Int32) then if iz l = (115 : Int32) then if iz k = (2 : Int32) then some (1 : Int32) else some (0 : Int32) else some (0 : Int32) else some (0 : Int32)) = some (0 : Int32) := by
    by_cases q : b = 45
    · by_cases q2 : l = 115
      · have q3 : ¬ k = 2 := fun q3 => h3 ⟨q, q2, q3⟩
        have : ¬ iz k = (2 : Int32) := by rw [iz_n, iz_eq (by omega) (by omega) (by omega) (by omega)]; exact q3
        rw [if_neg this]
        split
        · split <;> rfl
        · rfl
      · have : ¬ iz l = (115 : Int32) := by rw [b115 hl]; exact q2
        rw [if_neg this]
        split <;> rfl
    · have : ¬ iz b = (45 : Int32) := by rw [b45 hb]; exact q
      rw [if_neg this]
  refine ⟨(c, le, nu, 1, iz l, iz k, fs, nm, be), ?_⟩
  rw [a1_gap]
  unfold fOr_acceptInGap
  simp only [e1, e3, sOr_numbersOf hl, hm, hf, c0e, s00, if_true, if_false, Option.bind_some, true_or]
theorem a2_fig {b : Int} (hb : 48 ≤ b ∧ b ≤ 57) (c : Int32) (le nu : Nat → Int32) (l fi be : Int32) :
    fOr_accept (iz b) c le nu (2 : Int32) l fi (0 : Int32) (0 : Int32) be = some (1, c, le, nu, 3, l, fi, iz 1, iz (b - 48), be) := by
  have e4 : ((0 : Int32) < 6) = True := eq_true (by decide)
  have hf := sOr_isFigure (b := b) (by omega)
  rw [bi10 hb] at hf
  unfold fOr_accept fOr_acceptFigure
  simp only [s20, s22, e4, hf, c1e, s10, if_true, if_false, Option.bind_some]
  have e6 : (10 : Int32) * 0 + iz b - 48 = iz (b - 48) := by
    rw [iz_n, iz_l0, iz_mul, iz_add, iz_n, iz_sub]; exact iz_inj (by omega)
  have e7 : (0 : Int32) + 1 = iz 1 := by decide
  rw [e6, e7]
theorem a2_no {b : Int} (hb : 0 ≤ b ∧ b ≤ 127) (h2 : ¬ (48 ≤ b ∧ b ≤ 57)) (c : Int32) (le nu : Nat → Int32) (l fi fs nm be : Int32) :
    ∃ y, fOr_accept (iz b) c le nu (2 : Int32) l fi fs nm be = some (0, y) := by
  have hf := sOr_isFigure (b := b) hb
  rw [bi11 h2] at hf
  refine ⟨(c, le, nu, 2, l, fi, fs, nm, be), ?_⟩
  unfold fOr_accept
  simp only [s20, s22, hf, c0e, if_true, if_false, Option.bind_some]
theorem a3_fig {b j v : Int} (hb : 48 ≤ b ∧ b ≤ 57) (hj : 0 ≤ j ∧ j < 6) (c : Int32) (le nu : Nat → Int32) (l fi be : Int32) :
    fOr_accept (iz b) c le nu (3 : Int32) l fi (iz j) (iz v) be = some (1, c, le, nu, 3, l, fi, iz (j + 1), iz (10 * v + b - 48), be) := by
  have e4 : (iz j < (6 : Int32)) = True := eq_true (by rw [iz_n, iz_lt (by omega) (by omega) (by omega) (by omega)]; omega)
  have hf := sOr_isFigure (b := b) (by omega)
  rw [bi10 hb] at hf
  unfold fOr_accept fOr_acceptFigure
  simp only [s30, s32, s33, e4, hf, c1e, s10, s11, if_true, if_false, Option.bind_some, or_true]
  have e6 : (10 : Int32) * iz v + iz b - 48 = iz (10 * v + b - 48) := by rw [show (10 : Int32) = iz 10 from iz_n 10, show (48 : Int32) = iz 48 from iz_n 48, iz_mul, iz_add, iz_sub]
  have e7 : iz j + (1 : Int32) = iz (j + 1) := iz_add j 1
  rw [e6, e7]
theorem a3_six {b : Int} (hb : 48 ≤ b ∧ b ≤ 57) (c : Int32) (le nu : Nat → Int32) (l fi nm be : Int32) :
    ∃ y, fOr_accept (iz b) c le nu (3 : Int32) l fi (iz 6) nm be = some (0, y) := by
  have e4 : (iz 6 < (6 : Int32)) = False := eq_false (by rw [iz_n, iz_lt (by omega) (by omega) (by omega) (by omega)]; omega)
  have hf := sOr_isFigure (b := b) (by omega)
  rw [bi10 hb] at hf
  refine ⟨(c, le, nu, 3, l, fi, iz 6, nm, be), ?_⟩
  unfold fOr_accept fOr_acceptFigure
  simp only [s30, s32, s33, e4, hf, c1e, s00, if_true, if_false, Option.bind_some, true_or]
/-- a number ends: as if it had ended before -/
theorem a3_end {b c k v : Int} (hb : 0 ≤ b ∧ b ≤ 127) (h2 : ¬ (48 ≤ b ∧ b ≤ 57)) (hc : 0 ≤ c ∧ c ≤ 39) (hk : 0 ≤ k ∧ k ≤ 3) (le nu : Nat → Int32) (l fs : Int32) {be : Int32} (hbe : be = 0 ∨ be = 1) :
    fOr_accept (iz b) (iz c) le nu (3 : Int32) l (iz k) fs (iz v) be = fOr_accept (iz b) (iz c) le (upd nu (4 * c + k).toNat (iz (if be = 0 then v else -v))) (1 : Int32) l (iz (k + 1)) fs (iz v) be := by
  have hf := sOr_isFigure (b := b) hb
  rw [bi11 h2] at hf
  have e1 : iz c * (4 : Int32) + iz k = iz (4 * c + k) := by rw [iz_n, iz_mul, iz_add]; exact iz_inj (by omega)
  have w : fRi_within (iz (4 * c + k)) (0 : Int32) (159 : Int32) = some (iz 1) := by rw [show (0 : Int32) = iz 0 from iz_n 0, show (159 : Int32) = iz 159 from iz_n 159, sRi_within (by omega) (by omega) (by omega), bi10 (by omega)]
  have i1 : 0 ≤ (iz (4 * c + k)).toInt ∧ (iz (4 * c + k)).toInt < 160 := by rw [iz_t (by omega) (by omega)]; omega
  have i3 : (iz (4 * c + k)).toNatClampNeg = (4 * c + k).toNat := iz_c (by omega) (by omega)
  have hend : fOr_endNumber (iz c) nu (3 : Int32) (iz k) (iz v) be = some (upd nu (4 * c + k).toNat (iz (if be = 0 then v else -v)), 1, iz (k + 1)) := by
    unfold fOr_endNumber
    rcases hbe with rfl | rfl
    · simp only [Option.bind_some, e1, w, c1e, s00, if_true, if_false, if_pos i1, i3]
      rw [iz_n, iz_add]
    · simp only [Option.bind_some, e1, w, c1e, s10, if_true, if_false, if_pos i1, i3, iz_neg]
      rw [iz_n, iz_add]
  rw [a1_gap]
  unfold fOr_accept
  simp only [s30, s32, s33, hf, hend, c0e, if_true, if_false, Option.bind_some]
end AC
