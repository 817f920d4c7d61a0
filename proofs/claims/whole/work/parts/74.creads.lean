/-! reads -/
def PostR (al pa al1 pa1 : Nat → Int32) (s : Int) (st1 fr fr1 hc1 : Int32) (hs hs' hs1 : Nat → Option Nat) (hh hh' hh1 : Nat) (w2 n2 t2 a2 : Int32) (d2 c2 x2 y2 p2 : Nat → Int32) : Prop :=
  ((∀ j, j < 406 → al1 j = al j) ∧ pa1 = pa ∧ st1 = iz s ∧ fr1 = fr ∧ hc1 = iz s ∧ hs1 = hs ∧ hh1 = hh) ∨ (RS al w2 n2 t2 a2 d2 c2 x2 y2 p2 ∧ fr1 = iz 0 ∧ hc1 = iz (nx s) ∧ hs1 = hs' ∧ hh1 = hh' ∧ st1 = iz (nx s) ∧ Kept s al pa pa1)
theorem c_reads {al : Nat → Int32} {w n t a : Int32} {dots cells sx sy sp : Nat → Int32} (h : RS al w n t a dots cells sx sy sp) (o : OkA al) (w2 n2 t2 a2 : Int32) (d2 c2 x2 y2 p2 : Nat → Int32) {s : Int} (hs5 : 0 ≤ s ∧ s ≤ 5) {hs hs' : Nat → Option Nat} {hh hh' : Nat} (hk : fHi_keep (iz s) hs hh = some (iz (nx s), hs', hh'))
    {L : Int} (hL : 0 ≤ L ∧ L ≤ 120) {tx mt : Nat → Int32} (hX : TX L tx mt) (rf pa aside : Nat → Int32) (fr ck co oc ok os ol ofi ofs onm obe place val nt : Int32) (le nu nums : Nat → Int32) :
    ∃ (ans ck1 co1 fr1 w' n' t' a' : Int32) (dots' cells' sx' sy' sp' : Nat → Int32) (w3 n3 t3 a3 : Int32) (d3 c3 x3 y3 p3 : Nat → Int32) (hc1 : Int32) (hs1 : Nat → Option Nat) (hh1 : Nat) (oc1 ok1 : Int32) (le1 nu1 : Nat → Int32) (os1 ol1 ofi1 ofs1 onm1 obe1 : Int32) (al1 pa1 as1 : Nat → Int32) (st1 place1 val1 : Int32) (nums1 : Nat → Int32) (nt1 : Int32),
    fRi_reads (iz L) ck co fr w n t a dots cells sx sy sp w2 n2 t2 a2 d2 c2 x2 y2 p2 (iz s) hs hh oc ok le nu os ol ofi ofs onm obe tx rf = some (ans, ck1, co1, fr1, w', n', t', a', dots', cells', sx', sy', sp', w3, n3, t3, a3, d3, c3, x3, y3, p3, hc1, hs1, hh1, oc1, ok1, le1, nu1, os1, ol1, ofi1, ofs1, onm1, obe1, rf) ∧
    fMo_reads al pa aside (iz s) ck co mt (iz L) place val nums nt = some (ans, al1, pa1, as1, st1, ck1, co1, place1, val1, nums1, nt1) ∧
    RS al1 w' n' t' a' dots' cells' sx' sy' sp' ∧ OkA al1 ∧ PostR al pa al1 pa1 s st1 fr fr1 hc1 hs hs' hs1 hh hh' hh1 w3 n3 t3 a3 d3 c3 x3 y3 p3 := by
  obtain ⟨L, rfl⟩ : ∃ q : Nat, L = q := ⟨L.toNat, by omega⟩
  have hT : TXT (fun j => (tx j).toInt) L tx := ⟨by omega, fun j hj => ⟨iz_self _, (hX j (by omega)).2⟩⟩
  have hM : TXT (fun j => (tx j).toInt) L mt := ⟨by omega, fun j hj => ⟨by rw [← (hX j (by omega)).1]; exact iz_self _, (hX j (by omega)).2⟩⟩
  obtain ⟨d3, c3, x3, y3, p3, eH, rH⟩ := hold_s h w2 n2 t2 a2 d2 c2 x2 y2 p2
  obtain ⟨u1, e1, hcase⟩ := text_all hT hM al nt oc os ol ofi ofs onm obe val le nu nums
  rcases hcase with ⟨f, hf, ⟨x, ef⟩, val', nums', em⟩ | ⟨N, le', nu', l', fi', fs', nm', be', ef, ⟨val', nums', em⟩, hTr, hN⟩
  · have nm1 : ¬ iz (f : Int) = (-1 : Int32) := by rw [iz_n, iz_neg, iz_eq (by omega) (by omega) (by omega) (by omega)]; omega
    refine ⟨(-10 : Int32) - iz f, ck, co, fr, w, n, t, a, dots, cells, sx, sy, sp, w2, n2, t2, a2, d2, c2, x2, y2, p2, iz s, hs, hh, x.1, ok, x.2.1, x.2.2.1, x.2.2.2.1, x.2.2.2.2.1, x.2.2.2.2.2.1, x.2.2.2.2.2.2.1, x.2.2.2.2.2.2.2.1, x.2.2.2.2.2.2.2.2, al, pa, aside, iz s, iz f, val', nums', nt, ?_, ?_, h, o, .inl ⟨fun _ _ => rfl, rfl, rfl, rfl, rfl, rfl, rfl⟩⟩
    · unfold fRi_reads
      rw [ef]
      simp only [Option.bind_some]
      rw [if_neg nm1]
    · unfold fMo_reads
      rw [e1]
      simp only [Option.bind_some]
      rw [em]
      simp only [Option.bind_some]
      rw [if_pos True.intro]
  · obtain ⟨as0, k1, k2⟩ := row_46 al 406 0 FU (by omega) (by omega) (by show _ < 5000; omega) aside
    have hF : FU = 5000 := rfl
    have hm1 : ¬ (1 : Int32) = 0 := by decide
    rw [← iz_l0] at k1
    rcases orders_l hM le' nu' pa as0 (iz s) ok ck co N 0 0 al w n t a dots cells sx sy sp val' 0 nums' FU FU h o hTr (by omega) (by omega) (by omega) with ⟨q, k, w', n', t', a', dots', cells', sx', sy', sp', al1, nums1, pl1, val1, b1, b2, b3, b4, b5⟩ | ⟨w', n', t', a', dots', cells', sx', sy', sp', al', nums1, pl1, val1, nt1, b1, b2, b3, b4⟩
    · rw [show iz ((0 : Nat) : Int) = (0 : Int32) from iz_l0.symm, Nat.zero_add] at b3
      rw [show iz ((0 : Nat) : Int) = (0 : Int32) from iz_l0.symm] at b4
      have hx : ∀ j, j < 406 → al1 j = al j := fun j hj => by rw [b5 j hj, k2 j (by omega) hj]
      obtain ⟨d4, c4, x4, y4, p4, eR, rR⟩ := release_s rH w' n' t' a' dots' cells' sx' sy' sp'
      have nk : ¬ iz (k : Int) = (-1 : Int32) := by rw [iz_n, iz_neg, iz_eq (by omega) (by omega) (by omega) (by omega)]; omega
      refine ⟨(-1000 : Int32) - iz k, iz (-q), iz k, fr, w, n, t, a, d4, c4, x4, y4, p4, w, n, t, a, d3, c3, x3, y3, p3, iz s, hs, hh, iz N, iz (-q), le', nu', 0, l', fi', fs', nm', be', al1, pa, as0, iz s, pl1, val1, nums1, iz q, ?_, ?_, RS_ext hx rR, OkA_ext hx o, .inl ⟨hx, rfl, rfl, rfl, rfl, rfl, rfl⟩⟩
      · have hco : fOr_carryOut w n t a dots cells sx sy sp (iz N) ok le' nu' = some (iz k, w', n', t', a', dots', cells', sx', sy', sp', iz (-q)) := by
          unfold fOr_carryOut
          rw [b3]
          rfl
        unfold fRi_reads
        rw [ef]
        simp only [Option.bind_some]
        rw [if_pos True.intro, eH]
        simp only [Option.bind_some]
        rw [hco]
        simp only [Option.bind_some]
        rw [if_neg nk, eR]
        rfl
      · unfold fMo_reads
        rw [e1]
        simp only [Option.bind_some]
        rw [em]
        simp only [Option.bind_some]
        rw [if_neg hm1, k1]
        simp only [Option.bind_some]
        rw [b4]
        rfl
    · rw [show iz ((0 : Nat) : Int) = (0 : Int32) from iz_l0.symm, Nat.zero_add] at b1 b2
      obtain ⟨x', y', r1, r2, _⟩ := row_2 406 0 FU (by omega) (by omega) (by show _ < 5000; omega) al' as0
      obtain ⟨pa', q1, q2⟩ := keep_t hs5 x' pa
      obtain ⟨al2, t1, t2, _⟩ := row_47 y' 406 0 FU (by omega) (by omega) (by show _ < 5000; omega) x'
      rw [← iz_l0] at r1 t1
      have hx : ∀ j, j < 406 → al2 j = al' j := fun j hj => by rw [t2 j (by omega) hj, (r2 j (by omega) hj).2]
      have hx2 : ∀ j, j < 406 → x' j = al j := fun j hj => by rw [(r2 j (by omega) hj).1, k2 j (by omega) hj]
      refine ⟨iz N, ck, co, iz 0, w', n', t', a', dots', cells', sx', sy', sp', w, n, t, a, d3, c3, x3, y3, p3, iz (nx s), hs', hh', iz N, ok, le', nu', 0, l', fi', fs', nm', be', al2, pa', y', iz (nx s), pl1, val1, nums1, nt1, ?_, ?_, RS_ext hx b3, OkA_ext hx b4, .inr ⟨rH, rfl, rfl, rfl, rfl, rfl, Kept_c hx2 q2⟩⟩
      · have hco : fOr_carryOut w n t a dots cells sx sy sp (iz N) ok le' nu' = some (-1, w', n', t', a', dots', cells', sx', sy', sp', ok) := by
          unfold fOr_carryOut
          rw [b1]
          rfl
        have hset := settle_ok (z := (N : Int)) (by omega) hk fr rf
        unfold fRi_reads
        rw [ef]
        simp only [Option.bind_some]
        rw [if_pos True.intro, eH]
        simp only [Option.bind_some]
        rw [hco]
        simp only [Option.bind_some]
        rw [if_pos True.intro, hset]
        rfl
      · unfold fMo_reads
        rw [e1]
        simp only [Option.bind_some]
        rw [em]
        simp only [Option.bind_some]
        rw [if_neg hm1, k1]
        simp only [Option.bind_some]
        rw [b2]
        unfold fMo_keepsAside
        simp only [Option.bind_some, Sum.elim_inr]
        rw [r1]
        simp only [Option.bind_some]
        rw [q1]
        simp only [Option.bind_some]
        rw [t1]
        rfl
