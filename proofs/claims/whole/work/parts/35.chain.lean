/-! the chain of a state -/
def z0 : Nat → Int32 := fun _ => 0
theorem fC_ex (al : Nat → Int32) : ∃ f : Int → Int, f = fw (((fMo_laysChain al z0 z0 z0 z0 z0 z0).map (fun r => r.2.2.2.2.1)).getD z0) := ⟨_, rfl⟩
theorem gC_ex (al : Nat → Int32) : ∃ f : Int → Int, f = fw (((fMo_laysChain al z0 z0 z0 z0 z0 z0).map (fun r => r.2.2.2.2.2)).getD z0) := ⟨_, rfl⟩
noncomputable def fC (al : Nat → Int32) : Int → Int := Classical.choose (fC_ex al)
noncomputable def gC (al : Nat → Int32) : Int → Int := Classical.choose (gC_ex al)
theorem fC_eq (al : Nat → Int32) : fC al = fw (((fMo_laysChain al z0 z0 z0 z0 z0 z0).map (fun r => r.2.2.2.2.1)).getD z0) := Classical.choose_spec (fC_ex al)
theorem gC_eq (al : Nat → Int32) : gC al = fw (((fMo_laysChain al z0 z0 z0 z0 z0 z0).map (fun r => r.2.2.2.2.2)).getD z0) := Classical.choose_spec (gC_ex al)
theorem lays_j {al : Nat → Int32} {w n t a : Int32} {dots cells sx sy sp : Nat → Int32} (h : RS al w n t a dots cells sx sy sp) (o : OkA al) {M E Q : Nat → Int32} (hL : LTb al M E Q) (g V0 E0 Q0 G H F A LE LF : Nat → Int32) :
    ∃ (g1 V E' Q' G9 H9 F0 A0 : Nat → Int32) (tk9 tu9 dr9 ri9 : Int32) (F9 A9 LE9 LF9 : Nat → Int32), fCh_join_L22 FU (0 : Int32) F A = some (F0, A0) ∧ fCh_join_L51 n sx sy sp M E Q FU (12 : Int32) (0 : Int32) (0 : Int32) (0 : Int32) (0 : Int32) F0 A0 LE LF = some (tk9, tu9, dr9, ri9, F9, A9, LE9, LF9) ∧
      fMo_laysChain al g V0 E0 Q0 G H = some (g1, V, E', Q', G9, H9) ∧ CF al g1 ∧ LMb al V E' Q' ∧ JI al tk9 tu9 dr9 ri9 F9 A9 LE9 LF9 G9 H9 := by
  obtain ⟨g1, V, E', Q', k1, k2, k3⟩ := sMo_laysLinks h o g V0 E0 Q0
  obtain ⟨tk9, tu9, dr9, ri9, F9, A9, LE9, LF9, G9, H9, F0, A0, G0, H0, p1, p2, p3, p4, p5⟩ := join_s h o hL k3 F A LE LF G H
  refine ⟨g1, V, E', Q', G9, H9, F0, A0, tk9, tu9, dr9, ri9, F9, A9, LE9, LF9, p1, p2, ?_, k2, k3, p5⟩
  unfold fMo_laysChain
  rw [k1]
  simp only [Option.bind_some]
  rw [p3]
  simp only [Option.bind_some]
  rw [p4]
  rfl
/-- what the join comes to, in the chain of the state -/
def JC (al : Nat → Int32) (tk tu dr ri : Int32) (F A LE LF : Nat → Int32) : Prop :=
  fw F = fC al ∧ fw A = gC al ∧ (∀ x, 0 ≤ x ∧ x < 6 → 0 ≤ fC al x → LE x.toNat = iz (eo al (fC al) x) ∧ LF x.toNat = iz (fo al (fC al) x)) ∧
  tk = iz (S6 (co (fC al))) ∧ tu = iz (S6 (fo al (fC al))) ∧ dr = iz (S6 (eo al (fC al))) ∧ ri = iz (S6 (rt al (fC al)))
theorem JI_fC {al : Nat → Int32} {w n t a : Int32} {dots cells sx sy sp : Nat → Int32} (h : RS al w n t a dots cells sx sy sp) (o : OkA al) {M E Q : Nat → Int32} (hL : LTb al M E Q) {F A LE LF F0 A0 : Nat → Int32} {tk9 tu9 dr9 ri9 : Int32} {F9 A9 LE9 LF9 : Nat → Int32}
    (e1 : fCh_join_L22 FU (0 : Int32) F A = some (F0, A0)) (e2 : fCh_join_L51 n sx sy sp M E Q FU (12 : Int32) (0 : Int32) (0 : Int32) (0 : Int32) (0 : Int32) F0 A0 LE LF = some (tk9, tu9, dr9, ri9, F9, A9, LE9, LF9)) :
    JC al tk9 tu9 dr9 ri9 F9 A9 LE9 LF9 ∧ GI (NN al) (fC al) (gC al) ∧ (∀ x, 0 ≤ x ∧ x < 6 → 0 ≤ fC al x → 0 < LV al x (fC al x)) ∧ S6 (co (gC al)) = S6 (co (fC al)) := by
  obtain ⟨g1, V, E', Q', G9, H9, F1, A1, tk8, tu8, dr8, ri8, F8, A8, LE8, LF8, p1, p2, p3, p4, p5, p6⟩ := lays_j h o hL z0 z0 z0 z0 z0 z0 F A LE LF
  rw [e1] at p1
  injection p1 with p1
  injection p1 with q1 q2
  subst q1 q2
  rw [e2] at p2
  injection p2 with p2
  injection p2 with r1 p2
  injection p2 with r2 p2
  injection p2 with r3 p2
  injection p2 with r4 p2
  injection p2 with r5 p2
  injection p2 with r6 p2
  injection p2 with r7 r8
  subst r1 r2 r3 r4 r5 r6 r7 r8
  obtain ⟨j1, j2, j3, j4, j5, j6, j7, j8⟩ := p6
  have f1 : fw F9 = fC al := by rw [fC_eq, p3]; exact fw_c (fun j hj => (j1 j hj).1)
  have f2 : fw A9 = gC al := by rw [gC_eq, p3]; exact fw_c (fun j hj => (j1 j hj).2)
  rw [f1] at j3 j4 j5 j6 j7 j8 j2
  rw [f2] at j2 j5
  exact ⟨⟨f1, f2, fun x hx hp => ⟨(j3 x hx hp).2.1, (j3 x hx hp).2.2⟩, j4, j6, j7, j8⟩, j2, fun x hx hp => (j3 x hx hp).1, j5⟩
/-- what all know of the chain of a state -/
def Cn (al : Nat → Int32) : Prop := GI (NN al) (fC al) (gC al) ∧ (∀ x, 0 ≤ x ∧ x < 6 → 0 ≤ fC al x → 0 < LV al x (fC al x)) ∧ S6 (co (gC al)) = S6 (co (fC al))
theorem Cn_i {al : Nat → Int32} {w n t a : Int32} {dots cells sx sy sp : Nat → Int32} (h : RS al w n t a dots cells sx sy sp) (o : OkA al) : Cn al := by
  obtain ⟨g1, M, E, Q, k1, k2, k3⟩ := sLi_find h o z0 z0 z0 z0
  obtain ⟨g2, V, E', Q', G9, H9, F0, A0, tk9, tu9, dr9, ri9, F9, A9, LE9, LF9, p1, p2, _⟩ := lays_j h o k3 z0 z0 z0 z0 z0 z0 z0 z0 z0 z0
  exact (JI_fC h o k3 p1 p2).2
/-- the model's chain, from whatever stood there -/
theorem lays_s {al : Nat → Int32} {w n t a : Int32} {dots cells sx sy sp : Nat → Int32} (h : RS al w n t a dots cells sx sy sp) (o : OkA al) (g V0 E0 Q0 G H : Nat → Int32) :
    ∃ (g1 V E' Q' G9 H9 : Nat → Int32), fMo_laysChain al g V0 E0 Q0 G H = some (g1, V, E', Q', G9, H9) ∧ CF al g1 ∧ LMb al V E' Q' ∧ fw G9 = fC al ∧ fw H9 = gC al := by
  obtain ⟨g0, M, E, Q, k1, k2, k3⟩ := sLi_find h o z0 z0 z0 z0
  obtain ⟨g1, V, E', Q', G9, H9, F0, A0, tk9, tu9, dr9, ri9, F9, A9, LE9, LF9, p1, p2, p3, p4, p5, p6⟩ := lays_j h o k3 g V0 E0 Q0 G H z0 z0 z0 z0
  obtain ⟨⟨j1, j2, _⟩, _⟩ := JI_fC h o k3 p1 p2
  exact ⟨g1, V, E', Q', G9, H9, p3, p4, p5, by rw [← j1]; exact (fw_c (fun j hj => (p6.1 j hj).1)).symm, by rw [← j2]; exact (fw_c (fun j hj => (p6.1 j hj).2)).symm⟩
/-! reading the chain -/
theorem Cn.gi {al : Nat → Int32} (c : Cn al) : GI (NN al) (fC al) (gC al) := c.1
theorem Cn.fr {al : Nat → Int32} (c : Cn al) (x : Int) : -1 ≤ fC al x ∧ fC al x < NN al := ⟨(c.1.2.1 x).1, (c.1.2.1 x).2.1⟩
theorem Cn.gr {al : Nat → Int32} (c : Cn al) (x : Int) : -1 ≤ gC al x ∧ gC al x < NN al := (c.1.2.1 x).2.2
theorem Cn.fN {al : Nat → Int32} (c : Cn al) {x : Int} (h : 0 ≤ fC al x) : 0 ≤ x ∧ x < NN al := by
  by_cases q : 0 ≤ x ∧ x < NN al
  · exact q
  · have := (c.1.1 x q).1; omega
theorem Cn.gN {al : Nat → Int32} (c : Cn al) {x : Int} (h : 0 ≤ gC al x) : 0 ≤ x ∧ x < NN al := by
  by_cases q : 0 ≤ x ∧ x < NN al
  · exact q
  · have := (c.1.1 x q).2; omega
theorem Cn.ne {al : Nat → Int32} (c : Cn al) (on : 0 ≤ NN al ∧ NN al ≤ 6) {x : Int} (h : 0 ≤ fC al x) : x ≠ fC al x ∧ LV al x (fC al x) = (LK al x (fC al x)).1 := by
  have hN := c.fN h
  have := LV_pos (c.2.1 x (by omega) h)
  exact ⟨this.2.2.1, this.2.2.2⟩
theorem Cn.ef {al : Nat → Int32} {w n t a : Int32} {dots cells sx sy sp : Nat → Int32} (hR : RS al w n t a dots cells sx sy sp) (o : OkA al) (c : Cn al) {x : Int} (h : 0 ≤ fC al x) : eo al (fC al) x = (LK al x (fC al x)).2.1 ∧ fo al (fC al) x = (LK al x (fC al x)).2.2 ∧ -1 ≤ eo al (fC al) x ∧ eo al (fC al) x ≤ 1 ∧ 1 ≤ fo al (fC al) x ∧ fo al (fC al) x ≤ 5 := by
  have on := o.n
  have hN := c.fN h
  have hf := c.fr x
  have hp := c.2.1 x (by omega) h
  have := LV_pos hp
  have hr := LK_r hR o (a' := x) (b := fC al x) hN (by omega)
  have h1 : eo al (fC al) x = (LK al x (fC al x)).2.1 := by unfold eo; rw [if_neg (by omega)]
  have h2 : fo al (fC al) x = (LK al x (fC al x)).2.2 := by unfold fo; rw [if_neg (by omega)]
  have h3 := hr.2.2.2.2 (by omega)
  rw [h1, h2]
  exact ⟨rfl, rfl, hr.2.2.1, hr.2.2.2.1, h3.1, h3.2⟩
theorem sMo_eOf {al : Nat → Int32} {w n t a : Int32} {dots cells sx sy sp : Nat → Int32} (hR : RS al w n t a dots cells sx sy sp) (o : OkA al) (c : Cn al) {V E' Q' G : Nat → Int32} (hV : LMb al V E' Q') (hG : fw G = fC al) {x : Int} (h : 0 ≤ fC al x) : fMo_eOf (iz x) E' G = some (iz (eo al (fC al) x)) ∧ fMo_fOf (iz x) Q' G = some (iz (fo al (fC al) x)) ∧ G x.toNat = iz (fC al x) := by
  have on := o.n
  have hN := c.fN h
  have hf := c.fr x
  have hne := c.ne on h
  have hef := Cn.ef hR o c h
  have hv := hV x (fC al x) hN (by omega) hne.1
  have hg : G x.toNat = iz (fC al x) := by rw [← hG]; exact fw_i G (by omega)
  unfold fMo_eOf fMo_fOf
  refine ⟨?_, ?_, hg⟩
  · simp (disch := omega) only [iz_n, iz_neg, iz_add, iz_sub, iz_mul, iz_lt, iz_le, iz_eq, iz_t, iz_c, Option.bind_some, bi0, bi1, bi01, bi10, bi11, if_pos, if_neg, if_true, if_false, ite_not, ite_bi, hg]
    rw [hef.1, hv.2.1]
  · simp (disch := omega) only [iz_n, iz_neg, iz_add, iz_sub, iz_mul, iz_lt, iz_le, iz_eq, iz_t, iz_c, Option.bind_some, bi0, bi1, bi01, bi10, bi11, if_pos, if_neg, if_true, if_false, ite_not, ite_bi, hg]
    rw [hef.2.1, hv.2.2]
