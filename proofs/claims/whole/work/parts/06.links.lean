
abbrev rmLi_areTwo : Room := { frames := 1, cells := 0, slots := 0, locals := 22 }
theorem wd_yX3_areTwo : wdS yX3_areTwo cX3_areTwo 2 (some .boolean) 2 := ⟨wc_yX3_areTwo, wst_yX3_areTwo, wini_X3, by decide +kernel, by decide +kernel, by decide +kernel⟩
set_option maxHeartbeats 4000000 in
set_option maxRecDepth 100000 in
theorem kLi_areTwo (l : Launch) (G : wG) (p0 : Int32) (p1 : Int32) (o : Int32) (hf : fLi_areTwo p0 p1 = some o) : Ct G l yX3_areTwo cX3_areTwo 2 (some .boolean) rmLi_areTwo [.int p0, .int p1] [] (some (.int o)) [] := by
  refine Ct.ofZ (by decide +kernel) (Nat.le_of_ble_eq_true rfl) (fun p e s m args below meth c A Q E hret => ?_)
  unfold fLi_areTwo at hf
  show V G p l e rmLi_areTwo s m args below meth c 2 A Q 0 0 [] 0 [(0, .int p0), (1, .int p1)] []
  refine V_iload_n E 0 rfl dX3_areTwo_0 ?_
  refine V_iconst E (v := (0 : Int32)) dX3_areTwo_1 (by decide) ?_
  refine V_iconst E (v := (5 : Int32)) dX3_areTwo_2 (by decide) ?_
  obtain ⟨u1, hu1, hf⟩ := bd hf
  refine V_fr0 E (Rn_N E (rest := []) 1 rfl wd_yX7_within (kRi_within l G p0 (0 : Int32) (5 : Int32) u1 hu1) ⟨rfl, rfl, Nat.le_of_ble_eq_true rfl, Nat.le_of_ble_eq_true rfl⟩ rfl rfl (Nat.le_of_ble_eq_true rfl) dX3_areTwo_3) ?_
  show V G p l e rmLi_areTwo s m args below meth c 2 A Q 0 0 [] 6 [(0, .int p0), (1, .int p1)] [.int u1]
  refine V_if_eq E (tgt := 22) dX3_areTwo_6 (by decide) (fun hc2 => ?_) (fun hc2 => ?_)
  · have hf := ip hc2 hf
    refine V_iconst E (v := (0 : Int32)) dX3_areTwo_22 (by decide) ?_
    have h9 := hret 23 [(0, .int p0), (1, .int p1)] dX3_areTwo_23
    rw [← (Option.some.inj hf)] at h9
    exact h9 (z01a (Or.inl rfl))
  · have hf := iq hc2 hf
    refine V_iload_n E 1 rfl dX3_areTwo_9 ?_
    refine V_iconst E (v := (0 : Int32)) dX3_areTwo_10 (by decide) ?_
    refine V_iconst E (v := (5 : Int32)) dX3_areTwo_11 (by decide) ?_
    obtain ⟨u3, hu3, hf⟩ := bd hf
    refine V_fr0 E (Rn_N E (rest := []) 1 rfl wd_yX7_within (kRi_within l G p1 (0 : Int32) (5 : Int32) u3 hu3) ⟨rfl, rfl, Nat.le_of_ble_eq_true rfl, Nat.le_of_ble_eq_true rfl⟩ rfl rfl (Nat.le_of_ble_eq_true rfl) dX3_areTwo_12) ?_
    show V G p l e rmLi_areTwo s m args below meth c 2 A Q 0 0 [] 15 [(0, .int p0), (1, .int p1)] [.int u3]
    refine V_if_eq E (tgt := 22) dX3_areTwo_15 (by decide) (fun hc4 => ?_) (fun hc4 => ?_)
    · have hf := ip hc4 hf
      refine V_iconst E (v := (0 : Int32)) dX3_areTwo_22 (by decide) ?_
      have h9 := hret 23 [(0, .int p0), (1, .int p1)] dX3_areTwo_23
      rw [← (Option.some.inj hf)] at h9
      exact h9 (z01a (Or.inl rfl))
    · have hf := iq hc4 hf
      refine V_iconst E (v := (1 : Int32)) dX3_areTwo_18 (by decide) ?_
      refine V_goto E (tgt := 23) dX3_areTwo_19 (by decide) ?_
      have h9 := hret 23 [(0, .int p0), (1, .int p1)] dX3_areTwo_23
      rw [← (Option.some.inj hf)] at h9
      exact h9 (z01a (Or.inr rfl))
abbrev rmLi_votesOf : Room := { frames := 2, cells := 0, slots := 0, locals := 43 }
theorem wd_yX3_votesOf : wdV yX3_votesOf cX3_votesOf 3 (some .int) 2 := ⟨wc_yX3_votesOf, wi_yX3_votesOf, wse_yX3_votesOf, wini_X3, by decide +kernel, by decide +kernel, by decide +kernel⟩
set_option maxHeartbeats 4000000 in
set_option maxRecDepth 100000 in
theorem kLi_votesOf (l : Launch) (G : wG) (qLi : Nat → Nat) (p1 : Int32) (p2 : Int32) (li_corner : Nat → Int32) (li_most : Nat → Int32) (li_bestE : Nat → Int32) (li_bestF : Nat → Int32) (o : Int32) (hf : fLi_votesOf p1 p2 li_most = some o) : Ct G l yX3_votesOf cX3_votesOf 3 (some .int) rmLi_votesOf [.ref (qLi 0), .int p1, .int p2] (gLi G qLi li_corner li_most li_bestE li_bestF) (some (.int o)) (gLi G qLi li_corner li_most li_bestE li_bestF) := by
  refine Ct.ofI (by decide +kernel) (Nat.le_of_ble_eq_true rfl) (fun p e s m args below meth c A Q E hret => ?_)
  unfold fLi_votesOf at hf
  show V G p l e rmLi_votesOf s m args below meth c 3 A Q 0 0 (gLi G qLi li_corner li_most li_bestE li_bestF) 0 [(0, .ref (qLi 0)), (1, .int p1), (2, .int p2)] []
  refine V_iload_n E 1 rfl dX3_votesOf_0 ?_
  refine V_iload_n E 2 rfl dX3_votesOf_1 ?_
  obtain ⟨u1, hu1, hf⟩ := bd hf
  refine V_fr0 E (Rn_S E (rest := []) mlX3_36 wd_yX3_areTwo (kLi_areTwo l G p1 p2 u1 hu1) ⟨rfl, rfl, Nat.le_of_ble_eq_true rfl, Nat.le_of_ble_eq_true rfl⟩ rfl rfl (Nat.le_of_ble_eq_true rfl) dX3_votesOf_2) ?_
  show V G p l e rmLi_votesOf s m args below meth c 3 A Q 0 0 (gLi G qLi li_corner li_most li_bestE li_bestF) 5 [(0, .ref (qLi 0)), (1, .int p1), (2, .int p2)] [.int u1]
  refine V_if_eq E (tgt := 22) dX3_votesOf_5 (by decide) (fun hc2 => ?_) (fun hc2 => ?_)
  · have hf := ip hc2 hf
    refine V_iconst E (v := (0 : Int32)) dX3_votesOf_22 (by decide) ?_
    have h9 := hret 23 [(0, .ref (qLi 0)), (1, .int p1), (2, .int p2)] dX3_votesOf_23
    rw [← (Option.some.inj hf)] at h9
    exact h9
  · have hf := iq hc2 hf
    refine V_aload_n E 0 rfl dX3_votesOf_8 ?_
    refine gfX3_15 E 0 rfl rfl dX3_votesOf_9 ?_
    refine V_iload_n E 1 rfl dX3_votesOf_12 ?_
    refine V_bipush E (v := (6 : Int32)) dX3_votesOf_13 (by decide) ?_
    refine V_imul E dX3_votesOf_15 ?_
    refine V_iload_n E 2 rfl dX3_votesOf_16 ?_
    refine V_iadd E dX3_votesOf_17 ?_
    obtain ⟨hi3, hf⟩ := asr_ok hf
    refine V_iald E 2 rfl hi3 dX3_votesOf_18 ?_
    refine V_goto E (tgt := 23) dX3_votesOf_19 (by decide) ?_
    have h9 := hret 23 [(0, .ref (qLi 0)), (1, .int p1), (2, .int p2)] dX3_votesOf_23
    rw [← (Option.some.inj hf)] at h9
    exact h9
abbrev rmLi_shiftE : Room := { frames := 2, cells := 0, slots := 0, locals := 43 }
theorem wd_yX3_shiftE : wdV yX3_shiftE cX3_shiftE 3 (some .int) 2 := ⟨wc_yX3_shiftE, wi_yX3_shiftE, wse_yX3_shiftE, wini_X3, by decide +kernel, by decide +kernel, by decide +kernel⟩
set_option maxHeartbeats 4000000 in
set_option maxRecDepth 100000 in
theorem kLi_shiftE (l : Launch) (G : wG) (qLi : Nat → Nat) (p1 : Int32) (p2 : Int32) (li_corner : Nat → Int32) (li_most : Nat → Int32) (li_bestE : Nat → Int32) (li_bestF : Nat → Int32) (o : Int32) (hf : fLi_shiftE p1 p2 li_bestE = some o) : Ct G l yX3_shiftE cX3_shiftE 3 (some .int) rmLi_shiftE [.ref (qLi 0), .int p1, .int p2] (gLi G qLi li_corner li_most li_bestE li_bestF) (some (.int o)) (gLi G qLi li_corner li_most li_bestE li_bestF) := by
  refine Ct.ofI (by decide +kernel) (Nat.le_of_ble_eq_true rfl) (fun p e s m args below meth c A Q E hret => ?_)
  unfold fLi_shiftE at hf
  show V G p l e rmLi_shiftE s m args below meth c 3 A Q 0 0 (gLi G qLi li_corner li_most li_bestE li_bestF) 0 [(0, .ref (qLi 0)), (1, .int p1), (2, .int p2)] []
  refine V_iload_n E 1 rfl dX3_shiftE_0 ?_
  refine V_iload_n E 2 rfl dX3_shiftE_1 ?_
  obtain ⟨u1, hu1, hf⟩ := bd hf
  refine V_fr0 E (Rn_S E (rest := []) mlX3_36 wd_yX3_areTwo (kLi_areTwo l G p1 p2 u1 hu1) ⟨rfl, rfl, Nat.le_of_ble_eq_true rfl, Nat.le_of_ble_eq_true rfl⟩ rfl rfl (Nat.le_of_ble_eq_true rfl) dX3_shiftE_2) ?_
  show V G p l e rmLi_shiftE s m args below meth c 3 A Q 0 0 (gLi G qLi li_corner li_most li_bestE li_bestF) 5 [(0, .ref (qLi 0)), (1, .int p1), (2, .int p2)] [.int u1]
  refine V_if_eq E (tgt := 22) dX3_shiftE_5 (by decide) (fun hc2 => ?_) (fun hc2 => ?_)
  · have hf := ip hc2 hf
    refine V_iconst E (v := (0 : Int32)) dX3_shiftE_22 (by decide) ?_
    have h9 := hret 23 [(0, .ref (qLi 0)), (1, .int p1), (2, .int p2)] dX3_shiftE_23
    rw [← (Option.some.inj hf)] at h9
    exact h9
  · have hf := iq hc2 hf
    refine V_aload_n E 0 rfl dX3_shiftE_8 ?_
    refine gfX3_18 E 0 rfl rfl dX3_shiftE_9 ?_
    refine V_iload_n E 1 rfl dX3_shiftE_12 ?_
    refine V_bipush E (v := (6 : Int32)) dX3_shiftE_13 (by decide) ?_
    refine V_imul E dX3_shiftE_15 ?_
    refine V_iload_n E 2 rfl dX3_shiftE_16 ?_
    refine V_iadd E dX3_shiftE_17 ?_
    obtain ⟨hi3, hf⟩ := asr_ok hf
    refine V_iald E 3 rfl hi3 dX3_shiftE_18 ?_
    refine V_goto E (tgt := 23) dX3_shiftE_19 (by decide) ?_
    have h9 := hret 23 [(0, .ref (qLi 0)), (1, .int p1), (2, .int p2)] dX3_shiftE_23
    rw [← (Option.some.inj hf)] at h9
    exact h9
abbrev rmLi_shiftF : Room := { frames := 2, cells := 0, slots := 0, locals := 43 }
theorem wd_yX3_shiftF : wdV yX3_shiftF cX3_shiftF 3 (some .int) 2 := ⟨wc_yX3_shiftF, wi_yX3_shiftF, wse_yX3_shiftF, wini_X3, by decide +kernel, by decide +kernel, by decide +kernel⟩
set_option maxHeartbeats 4000000 in
set_option maxRecDepth 100000 in
theorem kLi_shiftF (l : Launch) (G : wG) (qLi : Nat → Nat) (p1 : Int32) (p2 : Int32) (li_corner : Nat → Int32) (li_most : Nat → Int32) (li_bestE : Nat → Int32) (li_bestF : Nat → Int32) (o : Int32) (hf : fLi_shiftF p1 p2 li_bestF = some o) : Ct G l yX3_shiftF cX3_shiftF 3 (some .int) rmLi_shiftF [.ref (qLi 0), .int p1, .int p2] (gLi G qLi li_corner li_most li_bestE li_bestF) (some (.int o)) (gLi G qLi li_corner li_most li_bestE li_bestF) := by
  refine Ct.ofI (by decide +kernel) (Nat.le_of_ble_eq_true rfl) (fun p e s m args below meth c A Q E hret => ?_)
  unfold fLi_shiftF at hf
  show V G p l e rmLi_shiftF s m args below meth c 3 A Q 0 0 (gLi G qLi li_corner li_most li_bestE li_bestF) 0 [(0, .ref (qLi 0)), (1, .int p1), (2, .int p2)] []
  refine V_iload_n E 1 rfl dX3_shiftF_0 ?_
  refine V_iload_n E 2 rfl dX3_shiftF_1 ?_
  obtain ⟨u1, hu1, hf⟩ := bd hf
  refine V_fr0 E (Rn_S E (rest := []) mlX3_36 wd_yX3_areTwo (kLi_areTwo l G p1 p2 u1 hu1) ⟨rfl, rfl, Nat.le_of_ble_eq_true rfl, Nat.le_of_ble_eq_true rfl⟩ rfl rfl (Nat.le_of_ble_eq_true rfl) dX3_shiftF_2) ?_
  show V G p l e rmLi_shiftF s m args below meth c 3 A Q 0 0 (gLi G qLi li_corner li_most li_bestE li_bestF) 5 [(0, .ref (qLi 0)), (1, .int p1), (2, .int p2)] [.int u1]
  refine V_if_eq E (tgt := 22) dX3_shiftF_5 (by decide) (fun hc2 => ?_) (fun hc2 => ?_)
  · have hf := ip hc2 hf
    refine V_iconst E (v := (0 : Int32)) dX3_shiftF_22 (by decide) ?_
    have h9 := hret 23 [(0, .ref (qLi 0)), (1, .int p1), (2, .int p2)] dX3_shiftF_23
    rw [← (Option.some.inj hf)] at h9
    exact h9
  · have hf := iq hc2 hf
    refine V_aload_n E 0 rfl dX3_shiftF_8 ?_
    refine gfX3_21 E 0 rfl rfl dX3_shiftF_9 ?_
    refine V_iload_n E 1 rfl dX3_shiftF_12 ?_
    refine V_bipush E (v := (6 : Int32)) dX3_shiftF_13 (by decide) ?_
    refine V_imul E dX3_shiftF_15 ?_
    refine V_iload_n E 2 rfl dX3_shiftF_16 ?_
    refine V_iadd E dX3_shiftF_17 ?_
    obtain ⟨hi3, hf⟩ := asr_ok hf
    refine V_iald E 4 rfl hi3 dX3_shiftF_18 ?_
    refine V_goto E (tgt := 23) dX3_shiftF_19 (by decide) ?_
    have h9 := hret 23 [(0, .ref (qLi 0)), (1, .int p1), (2, .int p2)] dX3_shiftF_23
    rw [← (Option.some.inj hf)] at h9
    exact h9
abbrev rmLi_changeAlong : Room := { frames := 2, cells := 0, slots := 0, locals := 46 }
theorem wd_yX3_changeAlong : wdS yX3_changeAlong cX3_changeAlong 7 (some .int) 6 := ⟨wc_yX3_changeAlong, wst_yX3_changeAlong, wini_X3, by decide +kernel, by decide +kernel, by decide +kernel⟩
set_option maxHeartbeats 4000000 in
set_option maxRecDepth 100000 in
theorem kLi_changeAlong (l : Launch) (G : wG) (qSc : Nat → Nat) (p1 : Int32) (p2 : Int32) (p3 : Int32) (p4 : Int32) (p5 : Int32) (sc_columns : Int32) (sc_count : Int32) (sc_cornerChange : Int32) (sc_voteApart : Int32) (sc_dots : Nat → Int32) (sc_cells : Nat → Int32) (sc_shotX : Nat → Int32) (sc_shotY : Nat → Int32) (sc_shotColumns : Nat → Int32) (o : Int32) (hf : fLi_changeAlong p1 p2 p3 p4 p5 sc_count sc_cells = some o) : Ct G l yX3_changeAlong cX3_changeAlong 7 (some .int) rmLi_changeAlong [.ref (qSc 0), .int p1, .int p2, .int p3, .int p4, .int p5] (gSc G qSc sc_columns sc_count sc_cornerChange sc_voteApart sc_dots sc_cells sc_shotX sc_shotY sc_shotColumns) (some (.int o)) (gSc G qSc sc_columns sc_count sc_cornerChange sc_voteApart sc_dots sc_cells sc_shotX sc_shotY sc_shotColumns) := by
  refine Ct.ofI (by decide +kernel) (Nat.le_of_ble_eq_true rfl) (fun p e s m args below meth c A Q E hret => ?_)
  unfold fLi_changeAlong at hf
  show V G p l e rmLi_changeAlong s m args below meth c 7 A Q 0 0 (gSc G qSc sc_columns sc_count sc_cornerChange sc_voteApart sc_dots sc_cells sc_shotX sc_shotY sc_shotColumns) 0 [(0, .ref (qSc 0)), (1, .int p1), (2, .int p2), (3, .int p3), (4, .int p4), (5, .int p5)] []
  refine V_aload_n E 0 rfl dX3_changeAlong_0 ?_
  refine V_iload_n E 1 rfl dX3_changeAlong_1 ?_
  refine V_iload_n E 2 rfl dX3_changeAlong_2 ?_
  refine V_iload_n E 3 rfl dX3_changeAlong_3 ?_
  obtain ⟨u1, hu1, hf⟩ := bd hf
  refine V_frW E (Rn_V E (rest := []) mlX3_43 wd_yX5_cellAt (kSc_cellAt l G qSc p1 p2 p3 sc_columns sc_count sc_cornerChange sc_voteApart sc_dots sc_cells sc_shotX sc_shotY sc_shotColumns u1 hu1) ⟨rfl, rfl, Nat.le_of_ble_eq_true rfl, Nat.le_of_ble_eq_true rfl⟩ 0 rfl rfl rfl rfl rfl (Nat.le_of_ble_eq_true rfl) dX3_changeAlong_4) ?_
  show V G p l e rmLi_changeAlong s m args below meth c 7 A Q 0 0 (gSc G qSc sc_columns sc_count sc_cornerChange sc_voteApart sc_dots sc_cells sc_shotX sc_shotY sc_shotColumns) 7 [(0, .ref (qSc 0)), (1, .int p1), (2, .int p2), (3, .int p3), (4, .int p4), (5, .int p5)] [.int u1]
  refine V_istore E (lv' := [(0, .ref (qSc 0)), (1, .int p1), (2, .int p2), (3, .int p3), (4, .int p4), (5, .int p5), (6, .int u1)]) dX3_changeAlong_7 (by decide) rfl ?_
  refine V_iload E 6 rfl dX3_changeAlong_9 ?_
  refine V_aload_n E 0 rfl dX3_changeAlong_11 ?_
  refine V_iload_n E 1 rfl dX3_changeAlong_12 ?_
  refine V_iload_n E 2 rfl dX3_changeAlong_13 ?_
  refine V_iload E 4 rfl dX3_changeAlong_14 ?_
  refine V_isub E dX3_changeAlong_16 ?_
  refine V_iload_n E 3 rfl dX3_changeAlong_17 ?_
  refine V_iload E 5 rfl dX3_changeAlong_18 ?_
  refine V_isub E dX3_changeAlong_20 ?_
  obtain ⟨u2, hu2, hf⟩ := bd hf
  refine V_frW E (Rn_V E (rest := [.int u1]) mlX3_43 wd_yX5_cellAt (kSc_cellAt l G qSc p1 (p2 - p4) (p3 - p5) sc_columns sc_count sc_cornerChange sc_voteApart sc_dots sc_cells sc_shotX sc_shotY sc_shotColumns u2 hu2) ⟨rfl, rfl, Nat.le_of_ble_eq_true rfl, Nat.le_of_ble_eq_true rfl⟩ 0 rfl rfl rfl rfl rfl (Nat.le_of_ble_eq_true rfl) dX3_changeAlong_21) ?_
  show V G p l e rmLi_changeAlong s m args below meth c 7 A Q 0 0 (gSc G qSc sc_columns sc_count sc_cornerChange sc_voteApart sc_dots sc_cells sc_shotX sc_shotY sc_shotColumns) 24 [(0, .ref (qSc 0)), (1, .int p1), (2, .int p2), (3, .int p3), (4, .int p4), (5, .int p5), (6, .int u1)] [.int u2, .int u1]
  refine V_isub E dX3_changeAlong_24 ?_
  refine V_mabs E mlX3_49 dX3_changeAlong_25 ⟨Nat.le_of_ble_eq_true rfl, Nat.le_of_ble_eq_true rfl⟩ ?_
  refine V_iload E 6 rfl dX3_changeAlong_28 ?_
  refine V_aload_n E 0 rfl dX3_changeAlong_30 ?_
  refine V_iload_n E 1 rfl dX3_changeAlong_31 ?_
  refine V_iload_n E 2 rfl dX3_changeAlong_32 ?_
  refine V_iload E 4 rfl dX3_changeAlong_33 ?_
  refine V_iadd E dX3_changeAlong_35 ?_
  refine V_iload_n E 3 rfl dX3_changeAlong_36 ?_
  refine V_iload E 5 rfl dX3_changeAlong_37 ?_
  refine V_iadd E dX3_changeAlong_39 ?_
  obtain ⟨u3, hu3, hf⟩ := bd hf
  refine V_frW E (Rn_V E (rest := [.int u1, .int (if 0 ≤ (u1 - u2) then (u1 - u2) else 0 - (u1 - u2))]) mlX3_43 wd_yX5_cellAt (kSc_cellAt l G qSc p1 (p2 + p4) (p3 + p5) sc_columns sc_count sc_cornerChange sc_voteApart sc_dots sc_cells sc_shotX sc_shotY sc_shotColumns u3 hu3) ⟨rfl, rfl, Nat.le_of_ble_eq_true rfl, Nat.le_of_ble_eq_true rfl⟩ 0 rfl rfl rfl rfl rfl (Nat.le_of_ble_eq_true rfl) dX3_changeAlong_40) ?_
  show V G p l e rmLi_changeAlong s m args below meth c 7 A Q 0 0 (gSc G qSc sc_columns sc_count sc_cornerChange sc_voteApart sc_dots sc_cells sc_shotX sc_shotY sc_shotColumns) 43 [(0, .ref (qSc 0)), (1, .int p1), (2, .int p2), (3, .int p3), (4, .int p4), (5, .int p5), (6, .int u1)] [.int u3, .int u1, .int (if 0 ≤ (u1 - u2) then (u1 - u2) else 0 - (u1 - u2))]
  refine V_isub E dX3_changeAlong_43 ?_
  refine V_mabs E mlX3_49 dX3_changeAlong_44 ⟨Nat.le_of_ble_eq_true rfl, Nat.le_of_ble_eq_true rfl⟩ ?_
  refine V_iadd E dX3_changeAlong_47 ?_
  have h9 := hret 48 [(0, .ref (qSc 0)), (1, .int p1), (2, .int p2), (3, .int p3), (4, .int p4), (5, .int p5), (6, .int u1)] dX3_changeAlong_48
  rw [← (Option.some.inj hf)] at h9
  exact h9
abbrev rmLi_changeAt : Room := { frames := 3, cells := 0, slots := 0, locals := 72 }
theorem wd_yX3_changeAt : wdS yX3_changeAt cX3_changeAt 5 (some .int) 4 := ⟨wc_yX3_changeAt, wst_yX3_changeAt, wini_X3, by decide +kernel, by decide +kernel, by decide +kernel⟩
set_option maxHeartbeats 4000000 in
set_option maxRecDepth 100000 in
theorem kLi_changeAt (l : Launch) (G : wG) (qSc : Nat → Nat) (p1 : Int32) (p2 : Int32) (p3 : Int32) (sc_columns : Int32) (sc_count : Int32) (sc_cornerChange : Int32) (sc_voteApart : Int32) (sc_dots : Nat → Int32) (sc_cells : Nat → Int32) (sc_shotX : Nat → Int32) (sc_shotY : Nat → Int32) (sc_shotColumns : Nat → Int32) (o : Int32) (hf : fLi_changeAt p1 p2 p3 sc_count sc_cells = some o) : Ct G l yX3_changeAt cX3_changeAt 5 (some .int) rmLi_changeAt [.ref (qSc 0), .int p1, .int p2, .int p3] (gSc G qSc sc_columns sc_count sc_cornerChange sc_voteApart sc_dots sc_cells sc_shotX sc_shotY sc_shotColumns) (some (.int o)) (gSc G qSc sc_columns sc_count sc_cornerChange sc_voteApart sc_dots sc_cells sc_shotX sc_shotY sc_shotColumns) := by
  refine Ct.ofI (by decide +kernel) (Nat.le_of_ble_eq_true rfl) (fun p e s m args below meth c A Q E hret => ?_)
  unfold fLi_changeAt at hf
  show V G p l e rmLi_changeAt s m args below meth c 5 A Q 0 0 (gSc G qSc sc_columns sc_count sc_cornerChange sc_voteApart sc_dots sc_cells sc_shotX sc_shotY sc_shotColumns) 0 [(0, .ref (qSc 0)), (1, .int p1), (2, .int p2), (3, .int p3)] []
  refine V_aload_n E 0 rfl dX3_changeAt_0 ?_
  refine V_iload_n E 1 rfl dX3_changeAt_1 ?_
  refine V_iload_n E 2 rfl dX3_changeAt_2 ?_
  refine V_iload_n E 3 rfl dX3_changeAt_3 ?_
  refine V_iconst E (v := (0 : Int32)) dX3_changeAt_4 (by decide) ?_
  refine V_iconst E (v := (1 : Int32)) dX3_changeAt_5 (by decide) ?_
  obtain ⟨u1, hu1, hf⟩ := bd hf
  refine V_frW E (Rn_S E (rest := []) mlX3_59 wd_yX3_changeAlong (kLi_changeAlong l G qSc p1 p2 p3 (0 : Int32) (1 : Int32) sc_columns sc_count sc_cornerChange sc_voteApart sc_dots sc_cells sc_shotX sc_shotY sc_shotColumns u1 hu1) ⟨rfl, rfl, Nat.le_of_ble_eq_true rfl, Nat.le_of_ble_eq_true rfl⟩ rfl rfl (Nat.le_of_ble_eq_true rfl) dX3_changeAt_6) ?_
  show V G p l e rmLi_changeAt s m args below meth c 5 A Q 0 0 (gSc G qSc sc_columns sc_count sc_cornerChange sc_voteApart sc_dots sc_cells sc_shotX sc_shotY sc_shotColumns) 9 [(0, .ref (qSc 0)), (1, .int p1), (2, .int p2), (3, .int p3)] [.int u1]
  refine V_istore E (lv' := [(0, .ref (qSc 0)), (1, .int p1), (2, .int p2), (3, .int p3), (4, .int u1)]) dX3_changeAt_9 (by decide) rfl ?_
  refine V_iload E 4 rfl dX3_changeAt_11 ?_
  refine V_aload_n E 0 rfl dX3_changeAt_13 ?_
  refine V_iload_n E 1 rfl dX3_changeAt_14 ?_
  refine V_iload_n E 2 rfl dX3_changeAt_15 ?_
  refine V_iload_n E 3 rfl dX3_changeAt_16 ?_
  refine V_iconst E (v := (1 : Int32)) dX3_changeAt_17 (by decide) ?_
  refine V_iconst E (v := (0 : Int32)) dX3_changeAt_18 (by decide) ?_
  obtain ⟨u2, hu2, hf⟩ := bd hf
  refine V_frW E (Rn_S E (rest := [.int u1]) mlX3_59 wd_yX3_changeAlong (kLi_changeAlong l G qSc p1 p2 p3 (1 : Int32) (0 : Int32) sc_columns sc_count sc_cornerChange sc_voteApart sc_dots sc_cells sc_shotX sc_shotY sc_shotColumns u2 hu2) ⟨rfl, rfl, Nat.le_of_ble_eq_true rfl, Nat.le_of_ble_eq_true rfl⟩ rfl rfl (Nat.le_of_ble_eq_true rfl) dX3_changeAt_19) ?_
  show V G p l e rmLi_changeAt s m args below meth c 5 A Q 0 0 (gSc G qSc sc_columns sc_count sc_cornerChange sc_voteApart sc_dots sc_cells sc_shotX sc_shotY sc_shotColumns) 22 [(0, .ref (qSc 0)), (1, .int p1), (2, .int p2), (3, .int p3), (4, .int u1)] [.int u2, .int u1]
  refine V_mmin E mlX3_63 dX3_changeAt_22 ⟨Nat.le_of_ble_eq_true rfl, Nat.le_of_ble_eq_true rfl⟩ ?_
  refine V_istore E (lv' := [(0, .ref (qSc 0)), (1, .int p1), (2, .int p2), (3, .int p3), (4, .int (if u2 < u1 then u2 else u1))]) dX3_changeAt_25 (by decide) rfl ?_
  refine V_iload E 4 rfl dX3_changeAt_27 ?_
  refine V_aload_n E 0 rfl dX3_changeAt_29 ?_
  refine V_iload_n E 1 rfl dX3_changeAt_30 ?_
  refine V_iload_n E 2 rfl dX3_changeAt_31 ?_
  refine V_iload_n E 3 rfl dX3_changeAt_32 ?_
  refine V_iconst E (v := (1 : Int32)) dX3_changeAt_33 (by decide) ?_
  refine V_iconst E (v := (1 : Int32)) dX3_changeAt_34 (by decide) ?_
  obtain ⟨u3, hu3, hf⟩ := bd hf
  refine V_frW E (Rn_S E (rest := [.int (if u2 < u1 then u2 else u1)]) mlX3_59 wd_yX3_changeAlong (kLi_changeAlong l G qSc p1 p2 p3 (1 : Int32) (1 : Int32) sc_columns sc_count sc_cornerChange sc_voteApart sc_dots sc_cells sc_shotX sc_shotY sc_shotColumns u3 hu3) ⟨rfl, rfl, Nat.le_of_ble_eq_true rfl, Nat.le_of_ble_eq_true rfl⟩ rfl rfl (Nat.le_of_ble_eq_true rfl) dX3_changeAt_35) ?_
  show V G p l e rmLi_changeAt s m args below meth c 5 A Q 0 0 (gSc G qSc sc_columns sc_count sc_cornerChange sc_voteApart sc_dots sc_cells sc_shotX sc_shotY sc_shotColumns) 38 [(0, .ref (qSc 0)), (1, .int p1), (2, .int p2), (3, .int p3), (4, .int (if u2 < u1 then u2 else u1))] [.int u3, .int (if u2 < u1 then u2 else u1)]
  refine V_mmin E mlX3_63 dX3_changeAt_38 ⟨Nat.le_of_ble_eq_true rfl, Nat.le_of_ble_eq_true rfl⟩ ?_
  obtain ⟨t4, ht4, hf⟩ := bd hf
  have ht4 := Option.some.inj ht4
  rw [ht4]
  refine V_istore E (lv' := [(0, .ref (qSc 0)), (1, .int p1), (2, .int p2), (3, .int p3), (4, .int t4)]) dX3_changeAt_41 (by decide) rfl ?_
  refine V_iload E 4 rfl dX3_changeAt_43 ?_
  refine V_aload_n E 0 rfl dX3_changeAt_45 ?_
  refine V_iload_n E 1 rfl dX3_changeAt_46 ?_
  refine V_iload_n E 2 rfl dX3_changeAt_47 ?_
  refine V_iload_n E 3 rfl dX3_changeAt_48 ?_
  refine V_iconst E (v := (1 : Int32)) dX3_changeAt_49 (by decide) ?_
  refine V_iconst E (v := (-1 : Int32)) dX3_changeAt_50 (by decide) ?_
  obtain ⟨u5, hu5, hf⟩ := bd hf
  refine V_frW E (Rn_S E (rest := [.int t4]) mlX3_59 wd_yX3_changeAlong (kLi_changeAlong l G qSc p1 p2 p3 (1 : Int32) (-1 : Int32) sc_columns sc_count sc_cornerChange sc_voteApart sc_dots sc_cells sc_shotX sc_shotY sc_shotColumns u5 hu5) ⟨rfl, rfl, Nat.le_of_ble_eq_true rfl, Nat.le_of_ble_eq_true rfl⟩ rfl rfl (Nat.le_of_ble_eq_true rfl) dX3_changeAt_51) ?_
  show V G p l e rmLi_changeAt s m args below meth c 5 A Q 0 0 (gSc G qSc sc_columns sc_count sc_cornerChange sc_voteApart sc_dots sc_cells sc_shotX sc_shotY sc_shotColumns) 54 [(0, .ref (qSc 0)), (1, .int p1), (2, .int p2), (3, .int p3), (4, .int t4)] [.int u5, .int t4]
  refine V_mmin E mlX3_63 dX3_changeAt_54 ⟨Nat.le_of_ble_eq_true rfl, Nat.le_of_ble_eq_true rfl⟩ ?_
  have h9 := hret 57 [(0, .ref (qSc 0)), (1, .int p1), (2, .int p2), (3, .int p3), (4, .int t4)] dX3_changeAt_57
  rw [← (Option.some.inj hf)] at h9
  exact h9
abbrev rmLi_cornerBit : Room := { frames := 0, cells := 0, slots := 0, locals := 0 }
theorem wd_yX3_cornerBit : wdS yX3_cornerBit cX3_cornerBit 2 (some .int) 2 := ⟨wc_yX3_cornerBit, wst_yX3_cornerBit, wini_X3, by decide +kernel, by decide +kernel, by decide +kernel⟩
set_option maxHeartbeats 4000000 in
set_option maxRecDepth 100000 in
theorem kLi_cornerBit (l : Launch) (G : wG) (p0 : Int32) (p1 : Int32) (o : Int32) (hf : fLi_cornerBit p0 p1 = some o) : Ct G l yX3_cornerBit cX3_cornerBit 2 (some .int) rmLi_cornerBit [.int p0, .int p1] [] (some (.int o)) [] := by
  refine Ct.ofI (by decide +kernel) (Nat.le_of_ble_eq_true rfl) (fun p e s m args below meth c A Q E hret => ?_)
  unfold fLi_cornerBit at hf
  show V G p l e rmLi_cornerBit s m args below meth c 2 A Q 0 0 [] 0 [(0, .int p0), (1, .int p1)] []
  refine V_iconst E (v := (1 : Int32)) dX3_cornerBit_0 (by decide) ?_
  refine V_bipush E (v := (6 : Int32)) dX3_cornerBit_1 (by decide) ?_
  refine V_iload_n E 0 rfl dX3_cornerBit_3 ?_
  refine V_iconst E (v := (1 : Int32)) dX3_cornerBit_4 (by decide) ?_
  refine V_isub E dX3_cornerBit_5 ?_
  refine V_imul E dX3_cornerBit_6 ?_
  refine V_iload_n E 1 rfl dX3_cornerBit_7 ?_
  refine V_iadd E dX3_cornerBit_8 ?_
  refine V_iconst E (v := (1 : Int32)) dX3_cornerBit_9 (by decide) ?_
  refine V_isub E dX3_cornerBit_10 ?_
  refine V_ishl E dX3_cornerBit_11 ?_
  have h9 := hret 12 [(0, .int p0), (1, .int p1)] dX3_cornerBit_12
  rw [← (Option.some.inj hf)] at h9
  exact h9
abbrev rmLi_findCorners : Room := { frames := 4, cells := 0, slots := 0, locals := 96 }
theorem wd_yX3_findCorners : wdV yX3_findCorners cX3_findCorners 6 (some .int) 2 := ⟨wc_yX3_findCorners, wi_yX3_findCorners, wse_yX3_findCorners, wini_X3, by decide +kernel, by decide +kernel, by decide +kernel⟩
set_option maxHeartbeats 4000000 in
set_option maxRecDepth 100000 in
theorem kLi_findCorners (l : Launch) (G : wG) (qSc : Nat → Nat) (qLi : Nat → Nat) (p2 : Int32) (sc_columns : Int32) (sc_count : Int32) (sc_cornerChange : Int32) (sc_voteApart : Int32) (sc_dots : Nat → Int32) (sc_cells : Nat → Int32) (sc_shotX : Nat → Int32) (sc_shotY : Nat → Int32) (sc_shotColumns : Nat → Int32) (li_corner : Nat → Int32) (li_most : Nat → Int32) (li_bestE : Nat → Int32) (li_bestF : Nat → Int32) (o : Int32) (hf : fLi_findCorners p2 sc_count sc_cornerChange sc_cells = some o) : Ct G l yX3_findCorners cX3_findCorners 6 (some .int) rmLi_findCorners [.ref (qLi 0), .ref (qSc 0), .int p2] (gSc G qSc sc_columns sc_count sc_cornerChange sc_voteApart sc_dots sc_cells sc_shotX sc_shotY sc_shotColumns ++ (gLi G qLi li_corner li_most li_bestE li_bestF)) (some (.int o)) (gSc G qSc sc_columns sc_count sc_cornerChange sc_voteApart sc_dots sc_cells sc_shotX sc_shotY sc_shotColumns ++ (gLi G qLi li_corner li_most li_bestE li_bestF)) := by
  refine Ct.ofI (by decide +kernel) (Nat.le_of_ble_eq_true rfl) (fun p e s m args below meth c A Q E hret => ?_)
  unfold fLi_findCorners at hf
  show V G p l e rmLi_findCorners s m args below meth c 6 A Q 0 0 (gSc G qSc sc_columns sc_count sc_cornerChange sc_voteApart sc_dots sc_cells sc_shotX sc_shotY sc_shotColumns ++ (gLi G qLi li_corner li_most li_bestE li_bestF)) 0 [(0, .ref (qLi 0)), (1, .ref (qSc 0)), (2, .int p2)] []
  refine V_aload_n E 1 rfl dX3_findCorners_0 ?_
  refine V_iload_n E 2 rfl dX3_findCorners_1 ?_
  obtain ⟨u1, hu1, hf⟩ := bd hf
  refine V_frG E (wr := (gLi G qLi li_corner li_most li_bestE li_bestF)) (ws' := (gSc G qSc sc_columns sc_count sc_cornerChange sc_voteApart sc_dots sc_cells sc_shotX sc_shotY sc_shotColumns ++ (gLi G qLi li_corner li_most li_bestE li_bestF))) [0, 1, 2, 3, 4, 5] [6, 7, 8, 9, 10] [5, 6, 7, 8, 9, 10, 0, 1, 2, 3, 4] rfl rfl ⟨rfl, rfl, rfl, rfl⟩ rfl (Rn_V E (rest := []) mlX3_67 wd_yX5_hasPicture (kSc_hasPicture l G qSc p2 sc_columns sc_count sc_cornerChange sc_voteApart sc_dots sc_cells sc_shotX sc_shotY sc_shotColumns u1 hu1) ⟨rfl, rfl, Nat.le_of_ble_eq_true rfl, Nat.le_of_ble_eq_true rfl⟩ 0 rfl rfl rfl rfl rfl (Nat.le_of_ble_eq_true rfl) dX3_findCorners_2) ?_
  show V G p l e rmLi_findCorners s m args below meth c 6 A Q 0 0 (gSc G qSc sc_columns sc_count sc_cornerChange sc_voteApart sc_dots sc_cells sc_shotX sc_shotY sc_shotColumns ++ (gLi G qLi li_corner li_most li_bestE li_bestF)) 5 [(0, .ref (qLi 0)), (1, .ref (qSc 0)), (2, .int p2)] [.int u1]
  refine V_if_ne E (tgt := 10) dX3_findCorners_5 (by decide) (fun hc2 => ?_) (fun hc2 => ?_)
  · have hf := iq hc2 hf
    refine V_iconst E (v := (0 : Int32)) dX3_findCorners_10 (by decide) ?_
    refine V_istore_n E (lv' := [(0, .ref (qLi 0)), (1, .ref (qSc 0)), (2, .int p2), (3, .int (0 : Int32))]) dX3_findCorners_11 (by decide) rfl ?_
    refine V_iconst E (v := (1 : Int32)) dX3_findCorners_12 (by decide) ?_
    refine V_istore E (lv' := [(0, .ref (qLi 0)), (1, .ref (qSc 0)), (2, .int p2), (3, .int (0 : Int32)), (4, .int (1 : Int32))]) dX3_findCorners_13 (by decide) rfl ?_
    have L15 : ∀ (n : Nat) (a15_3 : Int32) (a15_4 : Int32) (u : Int32), fLi_findCorners_L15 p2 sc_count sc_cornerChange sc_cells n a15_3 a15_4 = some u → (V G p l e rmLi_findCorners s m args below meth c 6 A Q 0 0 (gSc G qSc sc_columns sc_count sc_cornerChange sc_voteApart sc_dots sc_cells sc_shotX sc_shotY sc_shotColumns ++ (gLi G qLi li_corner li_most li_bestE li_bestF)) 69 [(3, .int u)] []) → V G p l e rmLi_findCorners s m args below meth c 6 A Q 0 0 (gSc G qSc sc_columns sc_count sc_cornerChange sc_voteApart sc_dots sc_cells sc_shotX sc_shotY sc_shotColumns ++ (gLi G qLi li_corner li_most li_bestE li_bestF)) 15 [(1, .ref (qSc 0)), (2, .int p2), (3, .int a15_3), (4, .int a15_4)] [] := by
      intro n
      induction n with
      | zero =>
        intro a15_3 a15_4 u hf hk
        rw [fLi_findCorners_L15] at hf
        cases hf
      | succ n ih =>
        intro a15_3 a15_4 u hf hk
        rw [fLi_findCorners_L15] at hf
        refine V_iload E 3 rfl dX3_findCorners_15 ?_
        refine V_iconst E (v := (2 : Int32)) dX3_findCorners_17 (by decide) ?_
        refine V_icmp_gt E (tgt := 69) dX3_findCorners_18 (by decide) (fun hc4 => ?_) (fun hc4 => ?_)
        · have hf := ip hc4 hf
          refine V_sub [2] rfl ?_
          rw [← Option.some.inj hf] at hk
          exact hk
        · have hf := iq hc4 hf
          refine V_iconst E (v := (1 : Int32)) dX3_findCorners_21 (by decide) ?_
          refine V_istore E (lv' := [(1, .ref (qSc 0)), (2, .int p2), (3, .int a15_3), (4, .int a15_4), (5, .int (1 : Int32))]) dX3_findCorners_22 (by decide) rfl ?_
          have L24 : ∀ (n : Nat) (a24_3 : Int32) (a24_5 : Int32) (u : Int32), fLi_findCorners_L24 p2 a15_4 sc_count sc_cornerChange sc_cells n a24_3 a24_5 = some u → (V G p l e rmLi_findCorners s m args below meth c 6 A Q 0 0 (gSc G qSc sc_columns sc_count sc_cornerChange sc_voteApart sc_dots sc_cells sc_shotX sc_shotY sc_shotColumns ++ (gLi G qLi li_corner li_most li_bestE li_bestF)) 63 [(1, .ref (qSc 0)), (2, .int p2), (3, .int u), (4, .int a15_4)] []) → V G p l e rmLi_findCorners s m args below meth c 6 A Q 0 0 (gSc G qSc sc_columns sc_count sc_cornerChange sc_voteApart sc_dots sc_cells sc_shotX sc_shotY sc_shotColumns ++ (gLi G qLi li_corner li_most li_bestE li_bestF)) 24 [(1, .ref (qSc 0)), (2, .int p2), (3, .int a24_3), (4, .int a15_4), (5, .int a24_5)] [] := by
            intro n
            induction n with
            | zero =>
              intro a24_3 a24_5 u hf hk
              rw [fLi_findCorners_L24] at hf
              cases hf
            | succ n ih =>
              intro a24_3 a24_5 u hf hk
              rw [fLi_findCorners_L24] at hf
              refine V_iload E 4 rfl dX3_findCorners_24 ?_
              refine V_bipush E (v := (6 : Int32)) dX3_findCorners_26 (by decide) ?_
              refine V_icmp_gt E (tgt := 63) dX3_findCorners_28 (by decide) (fun hc6 => ?_) (fun hc6 => ?_)
              · have hf := ip hc6 hf
                refine V_sub [0, 1, 2, 3] rfl ?_
                rw [← Option.some.inj hf] at hk
                exact hk
              · have hf := iq hc6 hf
                refine V_aload_n E 0 rfl dX3_findCorners_31 ?_
                refine V_iload_n E 1 rfl dX3_findCorners_32 ?_
                refine V_iload E 3 rfl dX3_findCorners_33 ?_
                refine V_iload E 4 rfl dX3_findCorners_35 ?_
                obtain ⟨u7, hu7, hf⟩ := bd hf
                refine V_frG E (wr := (gLi G qLi li_corner li_most li_bestE li_bestF)) (ws' := (gSc G qSc sc_columns sc_count sc_cornerChange sc_voteApart sc_dots sc_cells sc_shotX sc_shotY sc_shotColumns ++ (gLi G qLi li_corner li_most li_bestE li_bestF))) [0, 1, 2, 3, 4, 5] [6, 7, 8, 9, 10] [5, 6, 7, 8, 9, 10, 0, 1, 2, 3, 4] rfl rfl ⟨rfl, rfl, rfl, rfl⟩ rfl (Rn_S E (rest := []) mlX3_71 wd_yX3_changeAt (kLi_changeAt l G qSc p2 a15_4 a24_5 sc_columns sc_count sc_cornerChange sc_voteApart sc_dots sc_cells sc_shotX sc_shotY sc_shotColumns u7 hu7) ⟨rfl, rfl, Nat.le_of_ble_eq_true rfl, Nat.le_of_ble_eq_true rfl⟩ rfl rfl (Nat.le_of_ble_eq_true rfl) dX3_findCorners_37) ?_
                show V G p l e rmLi_findCorners s m args below meth c 6 A Q 0 0 (gSc G qSc sc_columns sc_count sc_cornerChange sc_voteApart sc_dots sc_cells sc_shotX sc_shotY sc_shotColumns ++ (gLi G qLi li_corner li_most li_bestE li_bestF)) 40 [(1, .ref (qSc 0)), (2, .int p2), (3, .int a24_3), (4, .int a15_4), (5, .int a24_5)] [.int u7]
                refine V_aload_n E 0 rfl dX3_findCorners_40 ?_
                refine gfX3_75 E 0 rfl rfl dX3_findCorners_41 ?_
                refine V_icmp_lt E (tgt := 57) dX3_findCorners_44 (by decide) (fun hc8 => ?_) (fun hc8 => ?_)
                · have hf := ip hc8 hf
                  refine V_iinc E (v := (a24_5 + (1 : Int32))) (lv' := [(1, .ref (qSc 0)), (2, .int p2), (3, .int a24_3), (4, .int a15_4), (5, .int (a24_5 + (1 : Int32)))]) 4 rfl dX3_findCorners_57 rfl (by decide) rfl ?_
                  refine V_goto E (tgt := 24) dX3_findCorners_60 (by decide) ?_
                  exact ih a24_3 (a24_5 + (1 : Int32)) _ hf hk
                · have hf := iq hc8 hf
                  refine V_iload_n E 2 rfl dX3_findCorners_47 ?_
                  refine V_iload E 3 rfl dX3_findCorners_48 ?_
                  refine V_iload E 4 rfl dX3_findCorners_50 ?_
                  obtain ⟨u9, hu9, hf⟩ := bd hf
                  refine V_fr0 E (Rn_S E (rest := [.int a24_3]) mlX3_78 wd_yX3_cornerBit (kLi_cornerBit l G a15_4 a24_5 u9 hu9) ⟨rfl, rfl, Nat.le_of_ble_eq_true rfl, Nat.le_of_ble_eq_true rfl⟩ rfl rfl (Nat.le_of_ble_eq_true rfl) dX3_findCorners_52) ?_
                  show V G p l e rmLi_findCorners s m args below meth c 6 A Q 0 0 (gSc G qSc sc_columns sc_count sc_cornerChange sc_voteApart sc_dots sc_cells sc_shotX sc_shotY sc_shotColumns ++ (gLi G qLi li_corner li_most li_bestE li_bestF)) 55 [(1, .ref (qSc 0)), (2, .int p2), (3, .int a24_3), (4, .int a15_4), (5, .int a24_5)] [.int u9, .int a24_3]
                  refine V_ior E dX3_findCorners_55 ?_
                  refine V_istore_n E (lv' := [(1, .ref (qSc 0)), (2, .int p2), (3, .int (a24_3 ||| u9)), (4, .int a15_4), (5, .int a24_5)]) dX3_findCorners_56 (by decide) rfl ?_
                  refine V_iinc E (v := (a24_5 + (1 : Int32))) (lv' := [(1, .ref (qSc 0)), (2, .int p2), (3, .int (a24_3 ||| u9)), (4, .int a15_4), (5, .int (a24_5 + (1 : Int32)))]) 4 rfl dX3_findCorners_57 rfl (by decide) rfl ?_
                  refine V_goto E (tgt := 24) dX3_findCorners_60 (by decide) ?_
                  exact ih (a24_3 ||| u9) (a24_5 + (1 : Int32)) _ hf hk
          obtain ⟨u5, hu5, hf⟩ := bd hf
          refine L24 FU a15_3 (1 : Int32) u5 hu5 ?_
          refine V_iinc E (v := (a15_4 + (1 : Int32))) (lv' := [(1, .ref (qSc 0)), (2, .int p2), (3, .int u5), (4, .int (a15_4 + (1 : Int32)))]) 3 rfl dX3_findCorners_63 rfl (by decide) rfl ?_
          refine V_goto E (tgt := 15) dX3_findCorners_66 (by decide) ?_
          exact ih u5 (a15_4 + (1 : Int32)) _ hf hk
    refine V_sub [1, 2, 3, 4] rfl ?_
    obtain ⟨u3, hu3, hf⟩ := bd hf
    refine L15 FU (0 : Int32) (1 : Int32) u3 hu3 ?_
    refine V_iload_n E 0 rfl dX3_findCorners_69 ?_
    have h9 := hret 70 [(3, .int u3)] dX3_findCorners_70
    rw [← (Option.some.inj hf)] at h9
    exact h9
  · have hf := ip hc2 hf
    refine V_iconst E (v := (0 : Int32)) dX3_findCorners_8 (by decide) ?_
    have h9 := hret 9 [(0, .ref (qLi 0)), (1, .ref (qSc 0)), (2, .int p2)] dX3_findCorners_9
    rw [← (Option.some.inj hf)] at h9
    exact h9
abbrev rmLi_isCorner : Room := { frames := 1, cells := 0, slots := 0, locals := 21 }
theorem wd_yX3_isCorner : wdV yX3_isCorner cX3_isCorner 4 (some .boolean) 3 := ⟨wc_yX3_isCorner, wi_yX3_isCorner, wse_yX3_isCorner, wini_X3, by decide +kernel, by decide +kernel, by decide +kernel⟩
set_option maxHeartbeats 4000000 in
set_option maxRecDepth 100000 in
theorem kLi_isCorner (l : Launch) (G : wG) (qLi : Nat → Nat) (p1 : Int32) (p2 : Int32) (p3 : Int32) (li_corner : Nat → Int32) (li_most : Nat → Int32) (li_bestE : Nat → Int32) (li_bestF : Nat → Int32) (o : Int32) (hf : fLi_isCorner p1 p2 p3 li_corner = some o) : Ct G l yX3_isCorner cX3_isCorner 4 (some .boolean) rmLi_isCorner [.ref (qLi 0), .int p1, .int p2, .int p3] (gLi G qLi li_corner li_most li_bestE li_bestF) (some (.int o)) (gLi G qLi li_corner li_most li_bestE li_bestF) := by
  refine Ct.ofZ (by decide +kernel) (Nat.le_of_ble_eq_true rfl) (fun p e s m args below meth c A Q E hret => ?_)
  unfold fLi_isCorner at hf
  show V G p l e rmLi_isCorner s m args below meth c 4 A Q 0 0 (gLi G qLi li_corner li_most li_bestE li_bestF) 0 [(0, .ref (qLi 0)), (1, .int p1), (2, .int p2), (3, .int p3)] []
  refine V_iload_n E 2 rfl dX3_isCorner_0 ?_
  refine V_iload_n E 3 rfl dX3_isCorner_1 ?_
  obtain ⟨u1, hu1, hf⟩ := bd hf
  refine V_fr0 E (Rn_N E (rest := []) 2 rfl wd_yX7_isInner (kRi_isInner l G p2 p3 u1 hu1) ⟨rfl, rfl, Nat.le_of_ble_eq_true rfl, Nat.le_of_ble_eq_true rfl⟩ rfl rfl (Nat.le_of_ble_eq_true rfl) dX3_isCorner_2) ?_
  show V G p l e rmLi_isCorner s m args below meth c 4 A Q 0 0 (gLi G qLi li_corner li_most li_bestE li_bestF) 5 [(0, .ref (qLi 0)), (1, .int p1), (2, .int p2), (3, .int p3)] [.int u1]
  refine V_if_eq E (tgt := 37) dX3_isCorner_5 (by decide) (fun hc2 => ?_) (fun hc2 => ?_)
  · have hf := ip hc2 hf
    refine V_iconst E (v := (0 : Int32)) dX3_isCorner_37 (by decide) ?_
    have h9 := hret 38 [(0, .ref (qLi 0)), (1, .int p1), (2, .int p2), (3, .int p3)] dX3_isCorner_38
    rw [← (Option.some.inj hf)] at h9
    exact h9 (z01a (Or.inl rfl))
  · have hf := iq hc2 hf
    refine V_iload_n E 1 rfl dX3_isCorner_8 ?_
    refine V_if_lt E (tgt := 37) dX3_isCorner_9 (by decide) (fun hc3 => ?_) (fun hc3 => ?_)
    · have hf := ip hc3 hf
      refine V_iconst E (v := (0 : Int32)) dX3_isCorner_37 (by decide) ?_
      have h9 := hret 38 [(0, .ref (qLi 0)), (1, .int p1), (2, .int p2), (3, .int p3)] dX3_isCorner_38
      rw [← (Option.some.inj hf)] at h9
      exact h9 (z01a (Or.inl rfl))
    · have hf := iq hc3 hf
      refine V_iload_n E 1 rfl dX3_isCorner_12 ?_
      refine V_bipush E (v := (6 : Int32)) dX3_isCorner_13 (by decide) ?_
      refine V_icmp_ge E (tgt := 37) dX3_isCorner_15 (by decide) (fun hc4 => ?_) (fun hc4 => ?_)
      · have hf := ip hc4 hf
        refine V_iconst E (v := (0 : Int32)) dX3_isCorner_37 (by decide) ?_
        have h9 := hret 38 [(0, .ref (qLi 0)), (1, .int p1), (2, .int p2), (3, .int p3)] dX3_isCorner_38
        rw [← (Option.some.inj hf)] at h9
        exact h9 (z01a (Or.inl rfl))
      · have hf := iq hc4 hf
        refine V_aload_n E 0 rfl dX3_isCorner_18 ?_
        refine gfX3_9 E 0 rfl rfl dX3_isCorner_19 ?_
        refine V_iload_n E 1 rfl dX3_isCorner_22 ?_
        obtain ⟨hi5, hf⟩ := asr_ok hf
        refine V_iald E 1 rfl hi5 dX3_isCorner_23 ?_
        refine V_iload_n E 2 rfl dX3_isCorner_24 ?_
        refine V_iload_n E 3 rfl dX3_isCorner_25 ?_
        obtain ⟨u6, hu6, hf⟩ := bd hf
        refine V_fr0 E (Rn_S E (rest := [.int (li_corner p1.toNatClampNeg)]) mlX3_78 wd_yX3_cornerBit (kLi_cornerBit l G p2 p3 u6 hu6) ⟨rfl, rfl, Nat.le_of_ble_eq_true rfl, Nat.le_of_ble_eq_true rfl⟩ rfl rfl (Nat.le_of_ble_eq_true rfl) dX3_isCorner_26) ?_
        show V G p l e rmLi_isCorner s m args below meth c 4 A Q 0 0 (gLi G qLi li_corner li_most li_bestE li_bestF) 29 [(0, .ref (qLi 0)), (1, .int p1), (2, .int p2), (3, .int p3)] [.int u6, .int (li_corner p1.toNatClampNeg)]
        refine V_iand E dX3_isCorner_29 ?_
        refine V_if_eq E (tgt := 37) dX3_isCorner_30 (by decide) (fun hc7 => ?_) (fun hc7 => ?_)
        · have hf := ip hc7 hf
          refine V_iconst E (v := (0 : Int32)) dX3_isCorner_37 (by decide) ?_
          have h9 := hret 38 [(0, .ref (qLi 0)), (1, .int p1), (2, .int p2), (3, .int p3)] dX3_isCorner_38
          rw [← (Option.some.inj hf)] at h9
          exact h9 (z01a (Or.inl rfl))
        · have hf := iq hc7 hf
          refine V_iconst E (v := (1 : Int32)) dX3_isCorner_33 (by decide) ?_
          refine V_goto E (tgt := 38) dX3_isCorner_34 (by decide) ?_
          have h9 := hret 38 [(0, .ref (qLi 0)), (1, .int p1), (2, .int p2), (3, .int p3)] dX3_isCorner_38
          rw [← (Option.some.inj hf)] at h9
          exact h9 (z01a (Or.inr rfl))
abbrev rmLi_countVotes : Room := { frames := 2, cells := 0, slots := 0, locals := 46 }
theorem wd_yX3_countVotes : wdV yX3_countVotes cX3_countVotes 10 (some .int) 5 := ⟨wc_yX3_countVotes, wi_yX3_countVotes, wse_yX3_countVotes, wini_X3, by decide +kernel, by decide +kernel, by decide +kernel⟩
set_option maxHeartbeats 4000000 in
set_option maxRecDepth 100000 in
theorem kLi_countVotes (l : Launch) (G : wG) (qSc : Nat → Nat) (qLi : Nat → Nat) (p2 : Int32) (p3 : Int32) (p4 : Int32) (p5 : Int32) (sc_columns : Int32) (sc_count : Int32) (sc_cornerChange : Int32) (sc_voteApart : Int32) (sc_dots : Nat → Int32) (sc_cells : Nat → Int32) (sc_shotX : Nat → Int32) (sc_shotY : Nat → Int32) (sc_shotColumns : Nat → Int32) (li_corner : Nat → Int32) (li_most : Nat → Int32) (li_bestE : Nat → Int32) (li_bestF : Nat → Int32) (o : Int32) (hf : fLi_countVotes p2 p3 p4 p5 sc_count sc_voteApart sc_cells li_corner = some o) : Ct G l yX3_countVotes cX3_countVotes 10 (some .int) rmLi_countVotes [.ref (qLi 0), .ref (qSc 0), .int p2, .int p3, .int p4, .int p5] (gSc G qSc sc_columns sc_count sc_cornerChange sc_voteApart sc_dots sc_cells sc_shotX sc_shotY sc_shotColumns ++ (gLi G qLi li_corner li_most li_bestE li_bestF)) (some (.int o)) (gSc G qSc sc_columns sc_count sc_cornerChange sc_voteApart sc_dots sc_cells sc_shotX sc_shotY sc_shotColumns ++ (gLi G qLi li_corner li_most li_bestE li_bestF)) := by
  refine Ct.ofI (by decide +kernel) (Nat.le_of_ble_eq_true rfl) (fun p e s m args below meth c A Q E hret => ?_)
  unfold fLi_countVotes at hf
  show V G p l e rmLi_countVotes s m args below meth c 10 A Q 0 0 (gSc G qSc sc_columns sc_count sc_cornerChange sc_voteApart sc_dots sc_cells sc_shotX sc_shotY sc_shotColumns ++ (gLi G qLi li_corner li_most li_bestE li_bestF)) 0 [(0, .ref (qLi 0)), (1, .ref (qSc 0)), (2, .int p2), (3, .int p3), (4, .int p4), (5, .int p5)] []
  refine V_iconst E (v := (0 : Int32)) dX3_countVotes_0 (by decide) ?_
  refine V_istore E (lv' := [(0, .ref (qLi 0)), (1, .ref (qSc 0)), (2, .int p2), (3, .int p3), (4, .int p4), (5, .int p5), (6, .int (0 : Int32))]) dX3_countVotes_1 (by decide) rfl ?_
  refine V_iconst E (v := (1 : Int32)) dX3_countVotes_3 (by decide) ?_
  refine V_istore E (lv' := [(0, .ref (qLi 0)), (1, .ref (qSc 0)), (2, .int p2), (3, .int p3), (4, .int p4), (5, .int p5), (6, .int (0 : Int32)), (7, .int (1 : Int32))]) dX3_countVotes_4 (by decide) rfl ?_
  have L6 : ∀ (n : Nat) (a6_6 : Int32) (a6_7 : Int32) (u : Int32), fLi_countVotes_L6 p2 p3 p4 p5 sc_count sc_voteApart sc_cells li_corner n a6_6 a6_7 = some u → (V G p l e rmLi_countVotes s m args below meth c 10 A Q 0 0 (gSc G qSc sc_columns sc_count sc_cornerChange sc_voteApart sc_dots sc_cells sc_shotX sc_shotY sc_shotColumns ++ (gLi G qLi li_corner li_most li_bestE li_bestF)) 113 [(6, .int u)] []) → V G p l e rmLi_countVotes s m args below meth c 10 A Q 0 0 (gSc G qSc sc_columns sc_count sc_cornerChange sc_voteApart sc_dots sc_cells sc_shotX sc_shotY sc_shotColumns ++ (gLi G qLi li_corner li_most li_bestE li_bestF)) 6 [(0, .ref (qLi 0)), (1, .ref (qSc 0)), (2, .int p2), (3, .int p3), (4, .int p4), (5, .int p5), (6, .int a6_6), (7, .int a6_7)] [] := by
    intro n
    induction n with
    | zero =>
      intro a6_6 a6_7 u hf hk
      rw [fLi_countVotes_L6] at hf
      cases hf
    | succ n ih =>
      intro a6_6 a6_7 u hf hk
      rw [fLi_countVotes_L6] at hf
      refine V_iload E 7 rfl dX3_countVotes_6 ?_
      refine V_iconst E (v := (2 : Int32)) dX3_countVotes_8 (by decide) ?_
      refine V_icmp_gt E (tgt := 113) dX3_countVotes_9 (by decide) (fun hc2 => ?_) (fun hc2 => ?_)
      · have hf := ip hc2 hf
        refine V_sub [6] rfl ?_
        rw [← Option.some.inj hf] at hk
        exact hk
      · have hf := iq hc2 hf
        refine V_iconst E (v := (1 : Int32)) dX3_countVotes_12 (by decide) ?_
        refine V_istore E (lv' := [(0, .ref (qLi 0)), (1, .ref (qSc 0)), (2, .int p2), (3, .int p3), (4, .int p4), (5, .int p5), (6, .int a6_6), (7, .int a6_7), (8, .int (1 : Int32))]) dX3_countVotes_13 (by decide) rfl ?_
        have L15 : ∀ (n : Nat) (a15_6 : Int32) (a15_8 : Int32) (u : Int32), fLi_countVotes_L15 p2 p3 p4 p5 a6_7 sc_count sc_voteApart sc_cells li_corner n a15_6 a15_8 = some u → (V G p l e rmLi_countVotes s m args below meth c 10 A Q 0 0 (gSc G qSc sc_columns sc_count sc_cornerChange sc_voteApart sc_dots sc_cells sc_shotX sc_shotY sc_shotColumns ++ (gLi G qLi li_corner li_most li_bestE li_bestF)) 107 [(0, .ref (qLi 0)), (1, .ref (qSc 0)), (2, .int p2), (3, .int p3), (4, .int p4), (5, .int p5), (6, .int u), (7, .int a6_7)] []) → V G p l e rmLi_countVotes s m args below meth c 10 A Q 0 0 (gSc G qSc sc_columns sc_count sc_cornerChange sc_voteApart sc_dots sc_cells sc_shotX sc_shotY sc_shotColumns ++ (gLi G qLi li_corner li_most li_bestE li_bestF)) 15 [(0, .ref (qLi 0)), (1, .ref (qSc 0)), (2, .int p2), (3, .int p3), (4, .int p4), (5, .int p5), (6, .int a15_6), (7, .int a6_7), (8, .int a15_8)] [] := by
          intro n
          induction n with
          | zero =>
            intro a15_6 a15_8 u hf hk
            rw [fLi_countVotes_L15] at hf
            cases hf
          | succ n ih =>
            intro a15_6 a15_8 u hf hk
            rw [fLi_countVotes_L15] at hf
            refine V_iload E 8 rfl dX3_countVotes_15 ?_
            refine V_bipush E (v := (6 : Int32)) dX3_countVotes_17 (by decide) ?_
            refine V_icmp_gt E (tgt := 107) dX3_countVotes_19 (by decide) (fun hc4 => ?_) (fun hc4 => ?_)
            · have hf := ip hc4 hf
              refine V_sub [0, 1, 2, 3, 4, 5, 6, 7] rfl ?_
              rw [← Option.some.inj hf] at hk
              exact hk
            · have hf := iq hc4 hf
              refine V_aload_n E 0 rfl dX3_countVotes_22 ?_
              refine V_iload_n E 2 rfl dX3_countVotes_23 ?_
              refine V_iload E 7 rfl dX3_countVotes_24 ?_
              refine V_iload E 8 rfl dX3_countVotes_26 ?_
              obtain ⟨u5, hu5, hf⟩ := bd hf
              refine V_frG E (wr := (gSc G qSc sc_columns sc_count sc_cornerChange sc_voteApart sc_dots sc_cells sc_shotX sc_shotY sc_shotColumns)) (ws' := (gSc G qSc sc_columns sc_count sc_cornerChange sc_voteApart sc_dots sc_cells sc_shotX sc_shotY sc_shotColumns ++ (gLi G qLi li_corner li_most li_bestE li_bestF))) [6, 7, 8, 9, 10] [0, 1, 2, 3, 4, 5] [0, 1, 2, 3, 4, 5, 6, 7, 8, 9, 10] rfl rfl ⟨rfl, rfl, rfl, rfl⟩ rfl (Rn_V E (rest := []) mlX3_40 wd_yX3_isCorner (kLi_isCorner l G qLi p2 a6_7 a15_8 li_corner li_most li_bestE li_bestF u5 hu5) ⟨rfl, rfl, Nat.le_of_ble_eq_true rfl, Nat.le_of_ble_eq_true rfl⟩ 0 rfl rfl rfl rfl rfl (Nat.le_of_ble_eq_true rfl) dX3_countVotes_28) ?_
              show V G p l e rmLi_countVotes s m args below meth c 10 A Q 0 0 (gSc G qSc sc_columns sc_count sc_cornerChange sc_voteApart sc_dots sc_cells sc_shotX sc_shotY sc_shotColumns ++ (gLi G qLi li_corner li_most li_bestE li_bestF)) 31 [(0, .ref (qLi 0)), (1, .ref (qSc 0)), (2, .int p2), (3, .int p3), (4, .int p4), (5, .int p5), (6, .int a15_6), (7, .int a6_7), (8, .int a15_8)] [.int u5]
              refine V_if_eq E (tgt := 101) dX3_countVotes_31 (by decide) (fun hc6 => ?_) (fun hc6 => ?_)
              · have hf := ip hc6 hf
                refine V_iinc E (v := (a15_8 + (1 : Int32))) (lv' := [(0, .ref (qLi 0)), (1, .ref (qSc 0)), (2, .int p2), (3, .int p3), (4, .int p4), (5, .int p5), (6, .int a15_6), (7, .int a6_7), (8, .int (a15_8 + (1 : Int32)))]) 8 rfl dX3_countVotes_101 rfl (by decide) rfl ?_
                refine V_goto E (tgt := 15) dX3_countVotes_104 (by decide) ?_
                exact ih a15_6 (a15_8 + (1 : Int32)) _ hf hk
              · have hf := iq hc6 hf
                refine V_aload_n E 0 rfl dX3_countVotes_34 ?_
                refine V_iload_n E 3 rfl dX3_countVotes_35 ?_
                refine V_iload E 7 rfl dX3_countVotes_36 ?_
                refine V_iload E 4 rfl dX3_countVotes_38 ?_
                refine V_isub E dX3_countVotes_40 ?_
                refine V_iload E 8 rfl dX3_countVotes_41 ?_
                refine V_iload E 5 rfl dX3_countVotes_43 ?_
                refine V_isub E dX3_countVotes_45 ?_
                obtain ⟨u7, hu7, hf⟩ := bd hf
                refine V_frG E (wr := (gSc G qSc sc_columns sc_count sc_cornerChange sc_voteApart sc_dots sc_cells sc_shotX sc_shotY sc_shotColumns)) (ws' := (gSc G qSc sc_columns sc_count sc_cornerChange sc_voteApart sc_dots sc_cells sc_shotX sc_shotY sc_shotColumns ++ (gLi G qLi li_corner li_most li_bestE li_bestF))) [6, 7, 8, 9, 10] [0, 1, 2, 3, 4, 5] [0, 1, 2, 3, 4, 5, 6, 7, 8, 9, 10] rfl rfl ⟨rfl, rfl, rfl, rfl⟩ rfl (Rn_V E (rest := []) mlX3_40 wd_yX3_isCorner (kLi_isCorner l G qLi p3 (a6_7 - p4) (a15_8 - p5) li_corner li_most li_bestE li_bestF u7 hu7) ⟨rfl, rfl, Nat.le_of_ble_eq_true rfl, Nat.le_of_ble_eq_true rfl⟩ 0 rfl rfl rfl rfl rfl (Nat.le_of_ble_eq_true rfl) dX3_countVotes_46) ?_
                show V G p l e rmLi_countVotes s m args below meth c 10 A Q 0 0 (gSc G qSc sc_columns sc_count sc_cornerChange sc_voteApart sc_dots sc_cells sc_shotX sc_shotY sc_shotColumns ++ (gLi G qLi li_corner li_most li_bestE li_bestF)) 49 [(0, .ref (qLi 0)), (1, .ref (qSc 0)), (2, .int p2), (3, .int p3), (4, .int p4), (5, .int p5), (6, .int a15_6), (7, .int a6_7), (8, .int a15_8)] [.int u7]
                refine V_if_eq E (tgt := 101) dX3_countVotes_49 (by decide) (fun hc8 => ?_) (fun hc8 => ?_)
                · have hf := ip hc8 hf
                  refine V_iinc E (v := (a15_8 + (1 : Int32))) (lv' := [(0, .ref (qLi 0)), (1, .ref (qSc 0)), (2, .int p2), (3, .int p3), (4, .int p4), (5, .int p5), (6, .int a15_6), (7, .int a6_7), (8, .int (a15_8 + (1 : Int32)))]) 8 rfl dX3_countVotes_101 rfl (by decide) rfl ?_
                  refine V_goto E (tgt := 15) dX3_countVotes_104 (by decide) ?_
                  exact ih a15_6 (a15_8 + (1 : Int32)) _ hf hk
                · have hf := iq hc8 hf
                  refine V_aload_n E 1 rfl dX3_countVotes_52 ?_
                  refine V_iload_n E 2 rfl dX3_countVotes_53 ?_
                  refine V_iload E 7 rfl dX3_countVotes_54 ?_
                  refine V_iload E 8 rfl dX3_countVotes_56 ?_
                  obtain ⟨u9, hu9, hf⟩ := bd hf
                  refine V_frG E (wr := (gLi G qLi li_corner li_most li_bestE li_bestF)) (ws' := (gSc G qSc sc_columns sc_count sc_cornerChange sc_voteApart sc_dots sc_cells sc_shotX sc_shotY sc_shotColumns ++ (gLi G qLi li_corner li_most li_bestE li_bestF))) [0, 1, 2, 3, 4, 5] [6, 7, 8, 9, 10] [5, 6, 7, 8, 9, 10, 0, 1, 2, 3, 4] rfl rfl ⟨rfl, rfl, rfl, rfl⟩ rfl (Rn_V E (rest := []) mlX3_43 wd_yX5_cellAt (kSc_cellAt l G qSc p2 a6_7 a15_8 sc_columns sc_count sc_cornerChange sc_voteApart sc_dots sc_cells sc_shotX sc_shotY sc_shotColumns u9 hu9) ⟨rfl, rfl, Nat.le_of_ble_eq_true rfl, Nat.le_of_ble_eq_true rfl⟩ 0 rfl rfl rfl rfl rfl (Nat.le_of_ble_eq_true rfl) dX3_countVotes_58) ?_
                  show V G p l e rmLi_countVotes s m args below meth c 10 A Q 0 0 (gSc G qSc sc_columns sc_count sc_cornerChange sc_voteApart sc_dots sc_cells sc_shotX sc_shotY sc_shotColumns ++ (gLi G qLi li_corner li_most li_bestE li_bestF)) 61 [(0, .ref (qLi 0)), (1, .ref (qSc 0)), (2, .int p2), (3, .int p3), (4, .int p4), (5, .int p5), (6, .int a15_6), (7, .int a6_7), (8, .int a15_8)] [.int u9]
                  refine V_aload_n E 1 rfl dX3_countVotes_61 ?_
                  refine V_iload_n E 3 rfl dX3_countVotes_62 ?_
                  refine V_iload E 7 rfl dX3_countVotes_63 ?_
                  refine V_iload E 4 rfl dX3_countVotes_65 ?_
                  refine V_isub E dX3_countVotes_67 ?_
                  refine V_iload E 8 rfl dX3_countVotes_68 ?_
                  refine V_iload E 5 rfl dX3_countVotes_70 ?_
                  refine V_isub E dX3_countVotes_72 ?_
                  obtain ⟨u10, hu10, hf⟩ := bd hf
                  refine V_frG E (wr := (gLi G qLi li_corner li_most li_bestE li_bestF)) (ws' := (gSc G qSc sc_columns sc_count sc_cornerChange sc_voteApart sc_dots sc_cells sc_shotX sc_shotY sc_shotColumns ++ (gLi G qLi li_corner li_most li_bestE li_bestF))) [0, 1, 2, 3, 4, 5] [6, 7, 8, 9, 10] [5, 6, 7, 8, 9, 10, 0, 1, 2, 3, 4] rfl rfl ⟨rfl, rfl, rfl, rfl⟩ rfl (Rn_V E (rest := [.int u9]) mlX3_43 wd_yX5_cellAt (kSc_cellAt l G qSc p3 (a6_7 - p4) (a15_8 - p5) sc_columns sc_count sc_cornerChange sc_voteApart sc_dots sc_cells sc_shotX sc_shotY sc_shotColumns u10 hu10) ⟨rfl, rfl, Nat.le_of_ble_eq_true rfl, Nat.le_of_ble_eq_true rfl⟩ 0 rfl rfl rfl rfl rfl (Nat.le_of_ble_eq_true rfl) dX3_countVotes_73) ?_
                  show V G p l e rmLi_countVotes s m args below meth c 10 A Q 0 0 (gSc G qSc sc_columns sc_count sc_cornerChange sc_voteApart sc_dots sc_cells sc_shotX sc_shotY sc_shotColumns ++ (gLi G qLi li_corner li_most li_bestE li_bestF)) 76 [(0, .ref (qLi 0)), (1, .ref (qSc 0)), (2, .int p2), (3, .int p3), (4, .int p4), (5, .int p5), (6, .int a15_6), (7, .int a6_7), (8, .int a15_8)] [.int u10, .int u9]
                  refine V_isub E dX3_countVotes_76 ?_
                  refine V_istore E (lv' := [(0, .ref (qLi 0)), (1, .ref (qSc 0)), (2, .int p2), (3, .int p3), (4, .int p4), (5, .int p5), (6, .int a15_6), (7, .int a6_7), (8, .int a15_8), (9, .int (u9 - u10))]) dX3_countVotes_77 (by decide) rfl ?_
                  refine V_iload E 6 rfl dX3_countVotes_79 ?_
                  refine V_iload E 9 rfl dX3_countVotes_81 ?_
                  refine V_mabs E mlX3_49 dX3_countVotes_83 ⟨Nat.le_of_ble_eq_true rfl, Nat.le_of_ble_eq_true rfl⟩ ?_
                  refine V_aload_n E 1 rfl dX3_countVotes_86 ?_
                  refine gfX3_55 E 0 rfl rfl dX3_countVotes_87 ?_
                  refine V_icmp_gt E (tgt := 97) dX3_countVotes_90 (by decide) (fun hc11 => ?_) (fun hc11 => ?_)
                  · have hf := ip hc11 hf
                    refine V_iconst E (v := (0 : Int32)) dX3_countVotes_97 (by decide) ?_
                    refine V_iadd E dX3_countVotes_98 ?_
                    refine V_istore E (lv' := [(0, .ref (qLi 0)), (1, .ref (qSc 0)), (2, .int p2), (3, .int p3), (4, .int p4), (5, .int p5), (6, .int (a15_6 + (0 : Int32))), (7, .int a6_7), (8, .int a15_8), (9, .int (u9 - u10))]) dX3_countVotes_99 (by decide) rfl ?_
                    refine V_iinc E (v := (a15_8 + (1 : Int32))) (lv' := [(0, .ref (qLi 0)), (1, .ref (qSc 0)), (2, .int p2), (3, .int p3), (4, .int p4), (5, .int p5), (6, .int (a15_6 + (0 : Int32))), (7, .int a6_7), (8, .int (a15_8 + (1 : Int32))), (9, .int (u9 - u10))]) 8 rfl dX3_countVotes_101 rfl (by decide) rfl ?_
                    refine V_goto E (tgt := 15) dX3_countVotes_104 (by decide) ?_
                    refine V_sub [0, 1, 2, 3, 4, 5, 6, 7, 8] rfl ?_
                    exact ih (a15_6 + (0 : Int32)) (a15_8 + (1 : Int32)) _ hf hk
                  · have hf := iq hc11 hf
                    refine V_iconst E (v := (1 : Int32)) dX3_countVotes_93 (by decide) ?_
                    refine V_goto E (tgt := 98) dX3_countVotes_94 (by decide) ?_
                    refine V_iadd E dX3_countVotes_98 ?_
                    refine V_istore E (lv' := [(0, .ref (qLi 0)), (1, .ref (qSc 0)), (2, .int p2), (3, .int p3), (4, .int p4), (5, .int p5), (6, .int (a15_6 + (1 : Int32))), (7, .int a6_7), (8, .int a15_8), (9, .int (u9 - u10))]) dX3_countVotes_99 (by decide) rfl ?_
                    refine V_iinc E (v := (a15_8 + (1 : Int32))) (lv' := [(0, .ref (qLi 0)), (1, .ref (qSc 0)), (2, .int p2), (3, .int p3), (4, .int p4), (5, .int p5), (6, .int (a15_6 + (1 : Int32))), (7, .int a6_7), (8, .int (a15_8 + (1 : Int32))), (9, .int (u9 - u10))]) 8 rfl dX3_countVotes_101 rfl (by decide) rfl ?_
                    refine V_goto E (tgt := 15) dX3_countVotes_104 (by decide) ?_
                    refine V_sub [0, 1, 2, 3, 4, 5, 6, 7, 8] rfl ?_
                    exact ih (a15_6 + (1 : Int32)) (a15_8 + (1 : Int32)) _ hf hk
        obtain ⟨u3, hu3, hf⟩ := bd hf
        refine L15 FU a6_6 (1 : Int32) u3 hu3 ?_
        refine V_iinc E (v := (a6_7 + (1 : Int32))) (lv' := [(0, .ref (qLi 0)), (1, .ref (qSc 0)), (2, .int p2), (3, .int p3), (4, .int p4), (5, .int p5), (6, .int u3), (7, .int (a6_7 + (1 : Int32)))]) 7 rfl dX3_countVotes_107 rfl (by decide) rfl ?_
        refine V_goto E (tgt := 6) dX3_countVotes_110 (by decide) ?_
        exact ih u3 (a6_7 + (1 : Int32)) _ hf hk
  obtain ⟨u1, hu1, hf⟩ := bd hf
  refine L6 FU (0 : Int32) (1 : Int32) u1 hu1 ?_
  refine V_iload E 0 rfl dX3_countVotes_113 ?_
  have h9 := hret 115 [(6, .int u1)] dX3_countVotes_115
  rw [← (Option.some.inj hf)] at h9
  exact h9
abbrev rmLi_findLink : Room := { frames := 3, cells := 0, slots := 0, locals := 75 }
theorem wd_yX3_findLink : wdV yX3_findLink cX3_findLink 10 none 3 := ⟨wc_yX3_findLink, wi_yX3_findLink, wse_yX3_findLink, wini_X3, by decide +kernel, by decide +kernel, by decide +kernel⟩
set_option maxHeartbeats 4000000 in
set_option maxRecDepth 100000 in
theorem kLi_findLink (l : Launch) (G : wG) (qSc : Nat → Nat) (qLi : Nat → Nat) (p2 : Int32) (p3 : Int32) (sc_columns : Int32) (sc_count : Int32) (sc_cornerChange : Int32) (sc_voteApart : Int32) (sc_dots : Nat → Int32) (sc_cells : Nat → Int32) (sc_shotX : Nat → Int32) (sc_shotY : Nat → Int32) (sc_shotColumns : Nat → Int32) (li_corner : Nat → Int32) (li_most : Nat → Int32) (li_bestE : Nat → Int32) (li_bestF : Nat → Int32) (o : (Nat → Int32) × (Nat → Int32) × (Nat → Int32)) (hf : fLi_findLink p2 p3 sc_count sc_voteApart sc_cells li_corner li_most li_bestE li_bestF = some o) : Ct G l yX3_findLink cX3_findLink 10 none rmLi_findLink [.ref (qLi 0), .ref (qSc 0), .int p2, .int p3] (gSc G qSc sc_columns sc_count sc_cornerChange sc_voteApart sc_dots sc_cells sc_shotX sc_shotY sc_shotColumns ++ (gLi G qLi li_corner li_most li_bestE li_bestF)) none (gSc G qSc sc_columns sc_count sc_cornerChange sc_voteApart sc_dots sc_cells sc_shotX sc_shotY sc_shotColumns ++ (gLi G qLi li_corner o.1 o.2.1 o.2.2)) := by
  refine Ct.ofV (by decide +kernel) (Nat.le_of_ble_eq_true rfl) (fun p e s m args below meth c A Q E hret => ?_)
  unfold fLi_findLink at hf
  show V G p l e rmLi_findLink s m args below meth c 10 A Q 0 0 (gSc G qSc sc_columns sc_count sc_cornerChange sc_voteApart sc_dots sc_cells sc_shotX sc_shotY sc_shotColumns ++ (gLi G qLi li_corner li_most li_bestE li_bestF)) 0 [(0, .ref (qLi 0)), (1, .ref (qSc 0)), (2, .int p2), (3, .int p3)] []
  refine V_iload_n E 2 rfl dX3_findLink_0 ?_
  refine V_bipush E (v := (6 : Int32)) dX3_findLink_1 (by decide) ?_
  refine V_imul E dX3_findLink_3 ?_
  refine V_iload_n E 3 rfl dX3_findLink_4 ?_
  refine V_iadd E dX3_findLink_5 ?_
  refine V_istore E (lv' := [(0, .ref (qLi 0)), (1, .ref (qSc 0)), (2, .int p2), (3, .int p3), (4, .int ((p2 * (6 : Int32)) + p3))]) dX3_findLink_6 (by decide) rfl ?_
  refine V_iload_n E 2 rfl dX3_findLink_8 ?_
  refine V_iload_n E 3 rfl dX3_findLink_9 ?_
  obtain ⟨u1, hu1, hf⟩ := bd hf
  refine V_fr0 E (Rn_S E (rest := []) mlX3_36 wd_yX3_areTwo (kLi_areTwo l G p2 p3 u1 hu1) ⟨rfl, rfl, Nat.le_of_ble_eq_true rfl, Nat.le_of_ble_eq_true rfl⟩ rfl rfl (Nat.le_of_ble_eq_true rfl) dX3_findLink_10) ?_
  show V G p l e rmLi_findLink s m args below meth c 10 A Q 0 0 (gSc G qSc sc_columns sc_count sc_cornerChange sc_voteApart sc_dots sc_cells sc_shotX sc_shotY sc_shotColumns ++ (gLi G qLi li_corner li_most li_bestE li_bestF)) 13 [(0, .ref (qLi 0)), (1, .ref (qSc 0)), (2, .int p2), (3, .int p3), (4, .int ((p2 * (6 : Int32)) + p3))] [.int u1]
  refine V_if_ne E (tgt := 17) dX3_findLink_13 (by decide) (fun hc2 => ?_) (fun hc2 => ?_)
  · have hf := iq hc2 hf
    refine V_aload_n E 0 rfl dX3_findLink_17 ?_
    refine gfX3_15 E 6 rfl rfl dX3_findLink_18 ?_
    refine V_iload E 4 rfl dX3_findLink_21 ?_
    refine V_iconst E (v := (0 : Int32)) dX3_findLink_23 (by decide) ?_
    obtain ⟨hi3, hf⟩ := asr_ok hf
    refine V_iast E (ws' := (gSc G qSc sc_columns sc_count sc_cornerChange sc_voteApart sc_dots sc_cells sc_shotX sc_shotY sc_shotColumns ++ (gLi G qLi li_corner (upd li_most ((p2 * (6 : Int32)) + p3).toNatClampNeg (0 : Int32)) li_bestE li_bestF))) 8 rfl hi3 dX3_findLink_24 rfl ?_
    refine V_iload_n E 2 rfl dX3_findLink_25 ?_
    refine V_iload_n E 3 rfl dX3_findLink_26 ?_
    refine V_icmp_eq E (tgt := 46) dX3_findLink_27 (by decide) (fun hc4 => ?_) (fun hc4 => ?_)
    · have hf := ip hc4 hf
      have h9 := hret 46 [(0, .ref (qLi 0)), (1, .ref (qSc 0)), (2, .int p2), (3, .int p3), (4, .int ((p2 * (6 : Int32)) + p3))] dX3_findLink_46
      rw [← (Option.some.inj hf)] at h9
      exact h9
    · have hf := iq hc4 hf
      refine V_aload_n E 1 rfl dX3_findLink_30 ?_
      refine V_iload_n E 2 rfl dX3_findLink_31 ?_
      obtain ⟨u5, hu5, hf⟩ := bd hf
      refine V_frG E (wr := (gLi G qLi li_corner (upd li_most ((p2 * (6 : Int32)) + p3).toNatClampNeg (0 : Int32)) li_bestE li_bestF)) (ws' := (gSc G qSc sc_columns sc_count sc_cornerChange sc_voteApart sc_dots sc_cells sc_shotX sc_shotY sc_shotColumns ++ (gLi G qLi li_corner (upd li_most ((p2 * (6 : Int32)) + p3).toNatClampNeg (0 : Int32)) li_bestE li_bestF))) [0, 1, 2, 3, 4, 5] [6, 7, 8, 9, 10] [5, 6, 7, 8, 9, 10, 0, 1, 2, 3, 4] rfl rfl ⟨rfl, rfl, rfl, rfl⟩ rfl (Rn_V E (rest := []) mlX3_67 wd_yX5_hasPicture (kSc_hasPicture l G qSc p2 sc_columns sc_count sc_cornerChange sc_voteApart sc_dots sc_cells sc_shotX sc_shotY sc_shotColumns u5 hu5) ⟨rfl, rfl, Nat.le_of_ble_eq_true rfl, Nat.le_of_ble_eq_true rfl⟩ 0 rfl rfl rfl rfl rfl (Nat.le_of_ble_eq_true rfl) dX3_findLink_32) ?_
      show V G p l e rmLi_findLink s m args below meth c 10 A Q 0 0 (gSc G qSc sc_columns sc_count sc_cornerChange sc_voteApart sc_dots sc_cells sc_shotX sc_shotY sc_shotColumns ++ (gLi G qLi li_corner (upd li_most ((p2 * (6 : Int32)) + p3).toNatClampNeg (0 : Int32)) li_bestE li_bestF)) 35 [(0, .ref (qLi 0)), (1, .ref (qSc 0)), (2, .int p2), (3, .int p3), (4, .int ((p2 * (6 : Int32)) + p3))] [.int u5]
      refine V_if_eq E (tgt := 46) dX3_findLink_35 (by decide) (fun hc6 => ?_) (fun hc6 => ?_)
      · have hf := ip hc6 hf
        have h9 := hret 46 [(0, .ref (qLi 0)), (1, .ref (qSc 0)), (2, .int p2), (3, .int p3), (4, .int ((p2 * (6 : Int32)) + p3))] dX3_findLink_46
        rw [← (Option.some.inj hf)] at h9
        exact h9
      · have hf := iq hc6 hf
        refine V_aload_n E 1 rfl dX3_findLink_38 ?_
        refine V_iload_n E 3 rfl dX3_findLink_39 ?_
        obtain ⟨u7, hu7, hf⟩ := bd hf
        refine V_frG E (wr := (gLi G qLi li_corner (upd li_most ((p2 * (6 : Int32)) + p3).toNatClampNeg (0 : Int32)) li_bestE li_bestF)) (ws' := (gSc G qSc sc_columns sc_count sc_cornerChange sc_voteApart sc_dots sc_cells sc_shotX sc_shotY sc_shotColumns ++ (gLi G qLi li_corner (upd li_most ((p2 * (6 : Int32)) + p3).toNatClampNeg (0 : Int32)) li_bestE li_bestF))) [0, 1, 2, 3, 4, 5] [6, 7, 8, 9, 10] [5, 6, 7, 8, 9, 10, 0, 1, 2, 3, 4] rfl rfl ⟨rfl, rfl, rfl, rfl⟩ rfl (Rn_V E (rest := []) mlX3_67 wd_yX5_hasPicture (kSc_hasPicture l G qSc p3 sc_columns sc_count sc_cornerChange sc_voteApart sc_dots sc_cells sc_shotX sc_shotY sc_shotColumns u7 hu7) ⟨rfl, rfl, Nat.le_of_ble_eq_true rfl, Nat.le_of_ble_eq_true rfl⟩ 0 rfl rfl rfl rfl rfl (Nat.le_of_ble_eq_true rfl) dX3_findLink_40) ?_
        show V G p l e rmLi_findLink s m args below meth c 10 A Q 0 0 (gSc G qSc sc_columns sc_count sc_cornerChange sc_voteApart sc_dots sc_cells sc_shotX sc_shotY sc_shotColumns ++ (gLi G qLi li_corner (upd li_most ((p2 * (6 : Int32)) + p3).toNatClampNeg (0 : Int32)) li_bestE li_bestF)) 43 [(0, .ref (qLi 0)), (1, .ref (qSc 0)), (2, .int p2), (3, .int p3), (4, .int ((p2 * (6 : Int32)) + p3))] [.int u7]
        refine V_if_ne E (tgt := 47) dX3_findLink_43 (by decide) (fun hc8 => ?_) (fun hc8 => ?_)
        · have hf := iq hc8 hf
          refine V_iconst E (v := (0 : Int32)) dX3_findLink_47 (by decide) ?_
          refine V_istore E (lv' := [(0, .ref (qLi 0)), (1, .ref (qSc 0)), (2, .int p2), (3, .int p3), (4, .int ((p2 * (6 : Int32)) + p3)), (5, .int (0 : Int32))]) dX3_findLink_48 (by decide) rfl ?_
          have L50 : ∀ (n : Nat) (a50_5 : Int32) (c50_li_most : Nat → Int32) (c50_li_bestE : Nat → Int32) (c50_li_bestF : Nat → Int32) (u : (Nat → Int32) × (Nat → Int32) × (Nat → Int32)), fLi_findLink_L50 p2 p3 ((p2 * (6 : Int32)) + p3) sc_count sc_voteApart sc_cells li_corner n a50_5 c50_li_most c50_li_bestE c50_li_bestF = some u → (V G p l e rmLi_findLink s m args below meth c 10 A Q 0 0 (gSc G qSc sc_columns sc_count sc_cornerChange sc_voteApart sc_dots sc_cells sc_shotX sc_shotY sc_shotColumns ++ (gLi G qLi li_corner u.1 u.2.1 u.2.2)) 155 [] []) → V G p l e rmLi_findLink s m args below meth c 10 A Q 0 0 (gSc G qSc sc_columns sc_count sc_cornerChange sc_voteApart sc_dots sc_cells sc_shotX sc_shotY sc_shotColumns ++ (gLi G qLi li_corner c50_li_most c50_li_bestE c50_li_bestF)) 50 [(0, .ref (qLi 0)), (1, .ref (qSc 0)), (2, .int p2), (3, .int p3), (4, .int ((p2 * (6 : Int32)) + p3)), (5, .int a50_5)] [] := by
            intro n
            induction n with
            | zero =>
              intro a50_5 c50_li_most c50_li_bestE c50_li_bestF u hf hk
              rw [fLi_findLink_L50] at hf
              cases hf
            | succ n ih =>
              intro a50_5 c50_li_most c50_li_bestE c50_li_bestF u hf hk
              rw [fLi_findLink_L50] at hf
              refine V_iload E 5 rfl dX3_findLink_50 ?_
              refine V_iconst E (v := (1 : Int32)) dX3_findLink_52 (by decide) ?_
              refine V_icmp_gt E (tgt := 155) dX3_findLink_53 (by decide) (fun hc10 => ?_) (fun hc10 => ?_)
              · have hf := ip hc10 hf
                refine V_sub [] rfl ?_
                rw [← Option.some.inj hf] at hk
                exact hk
              · have hf := iq hc10 hf
                refine V_iconst E (v := (0 : Int32)) dX3_findLink_56 (by decide) ?_
                refine V_istore E (lv' := [(0, .ref (qLi 0)), (1, .ref (qSc 0)), (2, .int p2), (3, .int p3), (4, .int ((p2 * (6 : Int32)) + p3)), (5, .int a50_5), (6, .int (0 : Int32))]) dX3_findLink_57 (by decide) rfl ?_
                have L59 : ∀ (n : Nat) (a59_6 : Int32) (c59_li_most : Nat → Int32) (c59_li_bestE : Nat → Int32) (c59_li_bestF : Nat → Int32) (u : (Nat → Int32) × (Nat → Int32) × (Nat → Int32)), fLi_findLink_L59 p2 p3 ((p2 * (6 : Int32)) + p3) a50_5 sc_count sc_voteApart sc_cells li_corner n a59_6 c59_li_most c59_li_bestE c59_li_bestF = some u → (V G p l e rmLi_findLink s m args below meth c 10 A Q 0 0 (gSc G qSc sc_columns sc_count sc_cornerChange sc_voteApart sc_dots sc_cells sc_shotX sc_shotY sc_shotColumns ++ (gLi G qLi li_corner u.1 u.2.1 u.2.2)) 149 [(0, .ref (qLi 0)), (1, .ref (qSc 0)), (2, .int p2), (3, .int p3), (4, .int ((p2 * (6 : Int32)) + p3)), (5, .int a50_5)] []) → V G p l e rmLi_findLink s m args below meth c 10 A Q 0 0 (gSc G qSc sc_columns sc_count sc_cornerChange sc_voteApart sc_dots sc_cells sc_shotX sc_shotY sc_shotColumns ++ (gLi G qLi li_corner c59_li_most c59_li_bestE c59_li_bestF)) 59 [(0, .ref (qLi 0)), (1, .ref (qSc 0)), (2, .int p2), (3, .int p3), (4, .int ((p2 * (6 : Int32)) + p3)), (5, .int a50_5), (6, .int a59_6)] [] := by
                  intro n
                  induction n with
                  | zero =>
                    intro a59_6 c59_li_most c59_li_bestE c59_li_bestF u hf hk
                    rw [fLi_findLink_L59] at hf
                    cases hf
                  | succ n ih =>
                    intro a59_6 c59_li_most c59_li_bestE c59_li_bestF u hf hk
                    rw [fLi_findLink_L59] at hf
                    refine V_iload E 6 rfl dX3_findLink_59 ?_
                    refine V_bipush E (v := (10 : Int32)) dX3_findLink_61 (by decide) ?_
                    refine V_icmp_ge E (tgt := 149) dX3_findLink_63 (by decide) (fun hc12 => ?_) (fun hc12 => ?_)
                    · have hf := ip hc12 hf
                      refine V_sub [0, 1, 2, 3, 4, 5] rfl ?_
                      rw [← Option.some.inj hf] at hk
                      exact hk
                    · have hf := iq hc12 hf
                      refine V_iload E 6 rfl dX3_findLink_66 ?_
                      refine V_iconst E (v := (2 : Int32)) dX3_findLink_68 (by decide) ?_
                      obtain ⟨hz13, hf⟩ := asr_ok hf
                      refine V_irem E dX3_findLink_69 hz13 ?_
                      obtain ⟨u15, hu15, hf⟩ := bd hf
                      have J81 : V G p l e rmLi_findLink s m args below meth c 10 A Q 0 0 (gSc G qSc sc_columns sc_count sc_cornerChange sc_voteApart sc_dots sc_cells sc_shotX sc_shotY sc_shotColumns ++ (gLi G qLi li_corner c59_li_most c59_li_bestE c59_li_bestF)) 81 [(0, .ref (qLi 0)), (1, .ref (qSc 0)), (2, .int p2), (3, .int p3), (4, .int ((p2 * (6 : Int32)) + p3)), (5, .int a50_5), (6, .int a59_6)] [.int u15] := by
                        refine V_istore E (lv' := [(0, .ref (qLi 0)), (1, .ref (qSc 0)), (2, .int p2), (3, .int p3), (4, .int ((p2 * (6 : Int32)) + p3)), (5, .int a50_5), (6, .int a59_6), (7, .int u15)]) dX3_findLink_81 (by decide) rfl ?_
                        refine V_iconst E (v := (1 : Int32)) dX3_findLink_83 (by decide) ?_
                        refine V_iload E 6 rfl dX3_findLink_84 ?_
                        refine V_iconst E (v := (2 : Int32)) dX3_findLink_86 (by decide) ?_
                        obtain ⟨hz16, hf⟩ := asr_ok hf
                        refine V_idiv E dX3_findLink_87 hz16 ?_
                        refine V_iadd E dX3_findLink_88 ?_
                        obtain ⟨t17, ht17, hf⟩ := bd hf
                        have ht17 := Option.some.inj ht17
                        rw [ht17]
                        refine V_istore E (lv' := [(0, .ref (qLi 0)), (1, .ref (qSc 0)), (2, .int p2), (3, .int p3), (4, .int ((p2 * (6 : Int32)) + p3)), (5, .int a50_5), (6, .int a59_6), (7, .int u15), (8, .int t17)]) dX3_findLink_89 (by decide) rfl ?_
                        refine V_aload_n E 0 rfl dX3_findLink_91 ?_
                        refine V_aload_n E 1 rfl dX3_findLink_92 ?_
                        refine V_iload_n E 2 rfl dX3_findLink_93 ?_
                        refine V_iload_n E 3 rfl dX3_findLink_94 ?_
                        refine V_iload E 7 rfl dX3_findLink_95 ?_
                        refine V_iload E 8 rfl dX3_findLink_97 ?_
                        obtain ⟨u18, hu18, hf⟩ := bd hf
                        refine V_frW E (Rn_V E (rest := []) mlX3_84 wd_yX3_countVotes (kLi_countVotes l G qSc qLi p2 p3 u15 t17 sc_columns sc_count sc_cornerChange sc_voteApart sc_dots sc_cells sc_shotX sc_shotY sc_shotColumns li_corner c59_li_most c59_li_bestE c59_li_bestF u18 hu18) ⟨rfl, rfl, Nat.le_of_ble_eq_true rfl, Nat.le_of_ble_eq_true rfl⟩ 6 rfl rfl rfl rfl rfl (Nat.le_of_ble_eq_true rfl) dX3_findLink_99) ?_
                        show V G p l e rmLi_findLink s m args below meth c 10 A Q 0 0 (gSc G qSc sc_columns sc_count sc_cornerChange sc_voteApart sc_dots sc_cells sc_shotX sc_shotY sc_shotColumns ++ (gLi G qLi li_corner c59_li_most c59_li_bestE c59_li_bestF)) 102 [(0, .ref (qLi 0)), (1, .ref (qSc 0)), (2, .int p2), (3, .int p3), (4, .int ((p2 * (6 : Int32)) + p3)), (5, .int a50_5), (6, .int a59_6), (7, .int u15), (8, .int t17)] [.int u18]
                        refine V_istore E (lv' := [(0, .ref (qLi 0)), (1, .ref (qSc 0)), (2, .int p2), (3, .int p3), (4, .int ((p2 * (6 : Int32)) + p3)), (5, .int a50_5), (6, .int a59_6), (7, .int u15), (8, .int t17), (9, .int u18)]) dX3_findLink_102 (by decide) rfl ?_
                        refine V_iload E 9 rfl dX3_findLink_104 ?_
                        refine V_aload_n E 0 rfl dX3_findLink_106 ?_
                        refine gfX3_15 E 6 rfl rfl dX3_findLink_107 ?_
                        refine V_iload E 4 rfl dX3_findLink_110 ?_
                        obtain ⟨hi19, hf⟩ := asr_ok hf
                        refine V_iald E 8 rfl hi19 dX3_findLink_112 ?_
                        refine V_icmp_le E (tgt := 143) dX3_findLink_113 (by decide) (fun hc20 => ?_) (fun hc20 => ?_)
                        · have hf := ip hc20 hf
                          refine V_iinc E (v := (a59_6 + (1 : Int32))) (lv' := [(0, .ref (qLi 0)), (1, .ref (qSc 0)), (2, .int p2), (3, .int p3), (4, .int ((p2 * (6 : Int32)) + p3)), (5, .int a50_5), (6, .int (a59_6 + (1 : Int32))), (7, .int u15), (8, .int t17), (9, .int u18)]) 6 rfl dX3_findLink_143 rfl (by decide) rfl ?_
                          refine V_goto E (tgt := 59) dX3_findLink_146 (by decide) ?_
                          refine V_sub [0, 1, 2, 3, 4, 5, 6] rfl ?_
                          exact ih (a59_6 + (1 : Int32)) c59_li_most c59_li_bestE c59_li_bestF _ hf hk
                        · have hf := iq hc20 hf
                          refine V_aload_n E 0 rfl dX3_findLink_116 ?_
                          refine gfX3_15 E 6 rfl rfl dX3_findLink_117 ?_
                          refine V_iload E 4 rfl dX3_findLink_120 ?_
                          refine V_iload E 9 rfl dX3_findLink_122 ?_
                          obtain ⟨hi21, hf⟩ := asr_ok hf
                          refine V_iast E (ws' := (gSc G qSc sc_columns sc_count sc_cornerChange sc_voteApart sc_dots sc_cells sc_shotX sc_shotY sc_shotColumns ++ (gLi G qLi li_corner (upd c59_li_most ((p2 * (6 : Int32)) + p3).toNatClampNeg u18) c59_li_bestE c59_li_bestF))) 8 rfl hi21 dX3_findLink_124 rfl ?_
                          refine V_aload_n E 0 rfl dX3_findLink_125 ?_
                          refine gfX3_18 E 6 rfl rfl dX3_findLink_126 ?_
                          refine V_iload E 4 rfl dX3_findLink_129 ?_
                          refine V_iload E 7 rfl dX3_findLink_131 ?_
                          obtain ⟨hi22, hf⟩ := asr_ok hf
                          refine V_iast E (ws' := (gSc G qSc sc_columns sc_count sc_cornerChange sc_voteApart sc_dots sc_cells sc_shotX sc_shotY sc_shotColumns ++ (gLi G qLi li_corner (upd c59_li_most ((p2 * (6 : Int32)) + p3).toNatClampNeg u18) (upd c59_li_bestE ((p2 * (6 : Int32)) + p3).toNatClampNeg u15) c59_li_bestF))) 9 rfl hi22 dX3_findLink_133 rfl ?_
                          refine V_aload_n E 0 rfl dX3_findLink_134 ?_
                          refine gfX3_21 E 6 rfl rfl dX3_findLink_135 ?_
                          refine V_iload E 4 rfl dX3_findLink_138 ?_
                          refine V_iload E 8 rfl dX3_findLink_140 ?_
                          obtain ⟨hi23, hf⟩ := asr_ok hf
                          refine V_iast E (ws' := (gSc G qSc sc_columns sc_count sc_cornerChange sc_voteApart sc_dots sc_cells sc_shotX sc_shotY sc_shotColumns ++ (gLi G qLi li_corner (upd c59_li_most ((p2 * (6 : Int32)) + p3).toNatClampNeg u18) (upd c59_li_bestE ((p2 * (6 : Int32)) + p3).toNatClampNeg u15) (upd c59_li_bestF ((p2 * (6 : Int32)) + p3).toNatClampNeg t17)))) 10 rfl hi23 dX3_findLink_142 rfl ?_
                          refine V_iinc E (v := (a59_6 + (1 : Int32))) (lv' := [(0, .ref (qLi 0)), (1, .ref (qSc 0)), (2, .int p2), (3, .int p3), (4, .int ((p2 * (6 : Int32)) + p3)), (5, .int a50_5), (6, .int (a59_6 + (1 : Int32))), (7, .int u15), (8, .int t17), (9, .int u18)]) 6 rfl dX3_findLink_143 rfl (by decide) rfl ?_
                          refine V_goto E (tgt := 59) dX3_findLink_146 (by decide) ?_
                          refine V_sub [0, 1, 2, 3, 4, 5, 6] rfl ?_
                          exact ih (a59_6 + (1 : Int32)) (upd c59_li_most ((p2 * (6 : Int32)) + p3).toNatClampNeg u18) (upd c59_li_bestE ((p2 * (6 : Int32)) + p3).toNatClampNeg u15) (upd c59_li_bestF ((p2 * (6 : Int32)) + p3).toNatClampNeg t17) _ hf hk
                      clear hf
                      have hf := hu15
                      refine V_if_ne E (tgt := 79) dX3_findLink_70 (by decide) (fun hc14 => ?_) (fun hc14 => ?_)
                      · have hf := iq hc14 hf
                        refine V_iload E 5 rfl dX3_findLink_79 ?_
                        rw [← Option.some.inj hf] at J81
                        exact J81
                      · have hf := ip hc14 hf
                        refine V_iload E 5 rfl dX3_findLink_73 ?_
                        refine V_ineg E dX3_findLink_75 ?_
                        refine V_goto E (tgt := 81) dX3_findLink_76 (by decide) ?_
                        rw [← Option.some.inj hf] at J81
                        exact J81
                obtain ⟨u11, hu11, hf⟩ := bd hf
                refine L59 FU (0 : Int32) c50_li_most c50_li_bestE c50_li_bestF u11 hu11 ?_
                refine V_iinc E (v := (a50_5 + (1 : Int32))) (lv' := [(0, .ref (qLi 0)), (1, .ref (qSc 0)), (2, .int p2), (3, .int p3), (4, .int ((p2 * (6 : Int32)) + p3)), (5, .int (a50_5 + (1 : Int32)))]) 5 rfl dX3_findLink_149 rfl (by decide) rfl ?_
                refine V_goto E (tgt := 50) dX3_findLink_152 (by decide) ?_
                exact ih (a50_5 + (1 : Int32)) u11.1 u11.2.1 u11.2.2 _ hf hk
          obtain ⟨u9, hu9, hf⟩ := bd hf
          refine L50 FU (0 : Int32) (upd li_most ((p2 * (6 : Int32)) + p3).toNatClampNeg (0 : Int32)) li_bestE li_bestF u9 hu9 ?_
          have h9 := hret 155 [] dX3_findLink_155
          rw [← (Option.some.inj hf)] at h9
          exact h9
        · have hf := ip hc8 hf
          have h9 := hret 46 [(0, .ref (qLi 0)), (1, .ref (qSc 0)), (2, .int p2), (3, .int p3), (4, .int ((p2 * (6 : Int32)) + p3))] dX3_findLink_46
          rw [← (Option.some.inj hf)] at h9
          exact h9
  · have hf := ip hc2 hf
    have h9 := hret 16 [(0, .ref (qLi 0)), (1, .ref (qSc 0)), (2, .int p2), (3, .int p3), (4, .int ((p2 * (6 : Int32)) + p3))] dX3_findLink_16
    rw [← (Option.some.inj hf)] at h9
    exact h9
abbrev rmLi_find : Room := { frames := 5, cells := 0, slots := 0, locals := 121 }
theorem wd_yX3_find : wdV yX3_find cX3_find 4 none 1 := ⟨wc_yX3_find, wi_yX3_find, wse_yX3_find, wini_X3, by decide +kernel, by decide +kernel, by decide +kernel⟩
set_option maxHeartbeats 4000000 in
set_option maxRecDepth 100000 in
theorem kLi_find (l : Launch) (G : wG) (qSc : Nat → Nat) (qLi : Nat → Nat) (sc_columns : Int32) (sc_count : Int32) (sc_cornerChange : Int32) (sc_voteApart : Int32) (sc_dots : Nat → Int32) (sc_cells : Nat → Int32) (sc_shotX : Nat → Int32) (sc_shotY : Nat → Int32) (sc_shotColumns : Nat → Int32) (li_corner : Nat → Int32) (li_most : Nat → Int32) (li_bestE : Nat → Int32) (li_bestF : Nat → Int32) (o : (Nat → Int32) × (Nat → Int32) × (Nat → Int32) × (Nat → Int32)) (hf : fLi_find sc_count sc_cornerChange sc_voteApart sc_cells li_corner li_most li_bestE li_bestF = some o) : Ct G l yX3_find cX3_find 4 none rmLi_find [.ref (qLi 0), .ref (qSc 0)] (gSc G qSc sc_columns sc_count sc_cornerChange sc_voteApart sc_dots sc_cells sc_shotX sc_shotY sc_shotColumns ++ (gLi G qLi li_corner li_most li_bestE li_bestF)) none (gSc G qSc sc_columns sc_count sc_cornerChange sc_voteApart sc_dots sc_cells sc_shotX sc_shotY sc_shotColumns ++ (gLi G qLi o.1 o.2.1 o.2.2.1 o.2.2.2)) := by
  refine Ct.ofV (by decide +kernel) (Nat.le_of_ble_eq_true rfl) (fun p e s m args below meth c A Q E hret => ?_)
  unfold fLi_find at hf
  show V G p l e rmLi_find s m args below meth c 4 A Q 0 0 (gSc G qSc sc_columns sc_count sc_cornerChange sc_voteApart sc_dots sc_cells sc_shotX sc_shotY sc_shotColumns ++ (gLi G qLi li_corner li_most li_bestE li_bestF)) 0 [(0, .ref (qLi 0)), (1, .ref (qSc 0))] []
  refine V_iconst E (v := (0 : Int32)) dX3_find_0 (by decide) ?_
  refine V_istore_n E (lv' := [(0, .ref (qLi 0)), (1, .ref (qSc 0)), (2, .int (0 : Int32))]) dX3_find_1 (by decide) rfl ?_
  have L2 : ∀ (n : Nat) (a2_2 : Int32) (c2_li_corner : Nat → Int32) (u : (Nat → Int32)), fLi_find_L2 sc_count sc_cornerChange sc_cells n a2_2 c2_li_corner = some u → (V G p l e rmLi_find s m args below meth c 4 A Q 0 0 (gSc G qSc sc_columns sc_count sc_cornerChange sc_voteApart sc_dots sc_cells sc_shotX sc_shotY sc_shotColumns ++ (gLi G qLi u li_most li_bestE li_bestF)) 26 [(0, .ref (qLi 0)), (1, .ref (qSc 0))] []) → V G p l e rmLi_find s m args below meth c 4 A Q 0 0 (gSc G qSc sc_columns sc_count sc_cornerChange sc_voteApart sc_dots sc_cells sc_shotX sc_shotY sc_shotColumns ++ (gLi G qLi c2_li_corner li_most li_bestE li_bestF)) 2 [(0, .ref (qLi 0)), (1, .ref (qSc 0)), (2, .int a2_2)] [] := by
    intro n
    induction n with
    | zero =>
      intro a2_2 c2_li_corner u hf hk
      rw [fLi_find_L2] at hf
      cases hf
    | succ n ih =>
      intro a2_2 c2_li_corner u hf hk
      rw [fLi_find_L2] at hf
      refine V_iload_n E 2 rfl dX3_find_2 ?_
      refine V_bipush E (v := (6 : Int32)) dX3_find_3 (by decide) ?_
      refine V_icmp_ge E (tgt := 26) dX3_find_5 (by decide) (fun hc2 => ?_) (fun hc2 => ?_)
      · have hf := ip hc2 hf
        refine V_sub [0, 1] rfl ?_
        rw [← Option.some.inj hf] at hk
        exact hk
      · have hf := iq hc2 hf
        refine V_aload_n E 0 rfl dX3_find_8 ?_
        refine gfX3_9 E 6 rfl rfl dX3_find_9 ?_
        refine V_iload_n E 2 rfl dX3_find_12 ?_
        refine V_aload_n E 0 rfl dX3_find_13 ?_
        refine V_aload_n E 1 rfl dX3_find_14 ?_
        refine V_iload_n E 2 rfl dX3_find_15 ?_
        obtain ⟨u3, hu3, hf⟩ := bd hf
        refine V_frW E (Rn_V E (rest := [.int a2_2, .ref (qLi 1)]) mlX3_24 wd_yX3_findCorners (kLi_findCorners l G qSc qLi a2_2 sc_columns sc_count sc_cornerChange sc_voteApart sc_dots sc_cells sc_shotX sc_shotY sc_shotColumns c2_li_corner li_most li_bestE li_bestF u3 hu3) ⟨rfl, rfl, Nat.le_of_ble_eq_true rfl, Nat.le_of_ble_eq_true rfl⟩ 6 rfl rfl rfl rfl rfl (Nat.le_of_ble_eq_true rfl) dX3_find_16) ?_
        show V G p l e rmLi_find s m args below meth c 4 A Q 0 0 (gSc G qSc sc_columns sc_count sc_cornerChange sc_voteApart sc_dots sc_cells sc_shotX sc_shotY sc_shotColumns ++ (gLi G qLi c2_li_corner li_most li_bestE li_bestF)) 19 [(0, .ref (qLi 0)), (1, .ref (qSc 0)), (2, .int a2_2)] [.int u3, .int a2_2, .ref (qLi 1)]
        obtain ⟨hi4, hf⟩ := asr_ok hf
        refine V_iast E (ws' := (gSc G qSc sc_columns sc_count sc_cornerChange sc_voteApart sc_dots sc_cells sc_shotX sc_shotY sc_shotColumns ++ (gLi G qLi (upd c2_li_corner a2_2.toNatClampNeg u3) li_most li_bestE li_bestF))) 7 rfl hi4 dX3_find_19 rfl ?_
        refine V_iinc E (v := (a2_2 + (1 : Int32))) (lv' := [(0, .ref (qLi 0)), (1, .ref (qSc 0)), (2, .int (a2_2 + (1 : Int32)))]) 2 rfl dX3_find_20 rfl (by decide) rfl ?_
        refine V_goto E (tgt := 2) dX3_find_23 (by decide) ?_
        exact ih (a2_2 + (1 : Int32)) (upd c2_li_corner a2_2.toNatClampNeg u3) _ hf hk
  obtain ⟨u1, hu1, hf⟩ := bd hf
  refine L2 FU (0 : Int32) li_corner u1 hu1 ?_
  refine V_iconst E (v := (0 : Int32)) dX3_find_26 (by decide) ?_
  refine V_istore_n E (lv' := [(0, .ref (qLi 0)), (1, .ref (qSc 0)), (2, .int (0 : Int32))]) dX3_find_27 (by decide) rfl ?_
  have L28 : ∀ (n : Nat) (a28_2 : Int32) (c28_li_most : Nat → Int32) (c28_li_bestE : Nat → Int32) (c28_li_bestF : Nat → Int32) (u : (Nat → Int32) × (Nat → Int32) × (Nat → Int32)), fLi_find_L28 sc_count sc_voteApart sc_cells u1 n a28_2 c28_li_most c28_li_bestE c28_li_bestF = some u → (V G p l e rmLi_find s m args below meth c 4 A Q 0 0 (gSc G qSc sc_columns sc_count sc_cornerChange sc_voteApart sc_dots sc_cells sc_shotX sc_shotY sc_shotColumns ++ (gLi G qLi u1 u.1 u.2.1 u.2.2)) 61 [] []) → V G p l e rmLi_find s m args below meth c 4 A Q 0 0 (gSc G qSc sc_columns sc_count sc_cornerChange sc_voteApart sc_dots sc_cells sc_shotX sc_shotY sc_shotColumns ++ (gLi G qLi u1 c28_li_most c28_li_bestE c28_li_bestF)) 28 [(0, .ref (qLi 0)), (1, .ref (qSc 0)), (2, .int a28_2)] [] := by
    intro n
    induction n with
    | zero =>
      intro a28_2 c28_li_most c28_li_bestE c28_li_bestF u hf hk
      rw [fLi_find_L28] at hf
      cases hf
    | succ n ih =>
      intro a28_2 c28_li_most c28_li_bestE c28_li_bestF u hf hk
      rw [fLi_find_L28] at hf
      refine V_iload_n E 2 rfl dX3_find_28 ?_
      refine V_bipush E (v := (6 : Int32)) dX3_find_29 (by decide) ?_
      refine V_icmp_ge E (tgt := 61) dX3_find_31 (by decide) (fun hc6 => ?_) (fun hc6 => ?_)
      · have hf := ip hc6 hf
        refine V_sub [] rfl ?_
        rw [← Option.some.inj hf] at hk
        exact hk
      · have hf := iq hc6 hf
        refine V_iconst E (v := (0 : Int32)) dX3_find_34 (by decide) ?_
        refine V_istore_n E (lv' := [(0, .ref (qLi 0)), (1, .ref (qSc 0)), (2, .int a28_2), (3, .int (0 : Int32))]) dX3_find_35 (by decide) rfl ?_
        have L36 : ∀ (n : Nat) (a36_3 : Int32) (c36_li_most : Nat → Int32) (c36_li_bestE : Nat → Int32) (c36_li_bestF : Nat → Int32) (u : (Nat → Int32) × (Nat → Int32) × (Nat → Int32)), fLi_find_L36 a28_2 sc_count sc_voteApart sc_cells u1 n a36_3 c36_li_most c36_li_bestE c36_li_bestF = some u → (V G p l e rmLi_find s m args below meth c 4 A Q 0 0 (gSc G qSc sc_columns sc_count sc_cornerChange sc_voteApart sc_dots sc_cells sc_shotX sc_shotY sc_shotColumns ++ (gLi G qLi u1 u.1 u.2.1 u.2.2)) 55 [(0, .ref (qLi 0)), (1, .ref (qSc 0)), (2, .int a28_2)] []) → V G p l e rmLi_find s m args below meth c 4 A Q 0 0 (gSc G qSc sc_columns sc_count sc_cornerChange sc_voteApart sc_dots sc_cells sc_shotX sc_shotY sc_shotColumns ++ (gLi G qLi u1 c36_li_most c36_li_bestE c36_li_bestF)) 36 [(0, .ref (qLi 0)), (1, .ref (qSc 0)), (2, .int a28_2), (3, .int a36_3)] [] := by
          intro n
          induction n with
          | zero =>
            intro a36_3 c36_li_most c36_li_bestE c36_li_bestF u hf hk
            rw [fLi_find_L36] at hf
            cases hf
          | succ n ih =>
            intro a36_3 c36_li_most c36_li_bestE c36_li_bestF u hf hk
            rw [fLi_find_L36] at hf
            refine V_iload_n E 3 rfl dX3_find_36 ?_
            refine V_bipush E (v := (6 : Int32)) dX3_find_37 (by decide) ?_
            refine V_icmp_ge E (tgt := 55) dX3_find_39 (by decide) (fun hc8 => ?_) (fun hc8 => ?_)
            · have hf := ip hc8 hf
              refine V_sub [0, 1, 2] rfl ?_
              rw [← Option.some.inj hf] at hk
              exact hk
            · have hf := iq hc8 hf
              refine V_aload_n E 0 rfl dX3_find_42 ?_
              refine V_aload_n E 1 rfl dX3_find_43 ?_
              refine V_iload_n E 2 rfl dX3_find_44 ?_
              refine V_iload_n E 3 rfl dX3_find_45 ?_
              obtain ⟨u9, hu9, hf⟩ := bd hf
              refine V_frW E (Rn_V E (rest := []) mlX3_28 wd_yX3_findLink (kLi_findLink l G qSc qLi a28_2 a36_3 sc_columns sc_count sc_cornerChange sc_voteApart sc_dots sc_cells sc_shotX sc_shotY sc_shotColumns u1 c36_li_most c36_li_bestE c36_li_bestF u9 hu9) ⟨rfl, rfl, Nat.le_of_ble_eq_true rfl, Nat.le_of_ble_eq_true rfl⟩ 6 rfl rfl rfl rfl rfl (Nat.le_of_ble_eq_true rfl) dX3_find_46) ?_
              show V G p l e rmLi_find s m args below meth c 4 A Q 0 0 (gSc G qSc sc_columns sc_count sc_cornerChange sc_voteApart sc_dots sc_cells sc_shotX sc_shotY sc_shotColumns ++ (gLi G qLi u1 u9.1 u9.2.1 u9.2.2)) 49 [(0, .ref (qLi 0)), (1, .ref (qSc 0)), (2, .int a28_2), (3, .int a36_3)] []
              refine V_iinc E (v := (a36_3 + (1 : Int32))) (lv' := [(0, .ref (qLi 0)), (1, .ref (qSc 0)), (2, .int a28_2), (3, .int (a36_3 + (1 : Int32)))]) 3 rfl dX3_find_49 rfl (by decide) rfl ?_
              refine V_goto E (tgt := 36) dX3_find_52 (by decide) ?_
              exact ih (a36_3 + (1 : Int32)) u9.1 u9.2.1 u9.2.2 _ hf hk
        obtain ⟨u7, hu7, hf⟩ := bd hf
        refine L36 FU (0 : Int32) c28_li_most c28_li_bestE c28_li_bestF u7 hu7 ?_
        refine V_iinc E (v := (a28_2 + (1 : Int32))) (lv' := [(0, .ref (qLi 0)), (1, .ref (qSc 0)), (2, .int (a28_2 + (1 : Int32)))]) 2 rfl dX3_find_55 rfl (by decide) rfl ?_
        refine V_goto E (tgt := 28) dX3_find_58 (by decide) ?_
        exact ih (a28_2 + (1 : Int32)) u7.1 u7.2.1 u7.2.2 _ hf hk
  obtain ⟨u5, hu5, hf⟩ := bd hf
  refine L28 FU (0 : Int32) li_most li_bestE li_bestF u5 hu5 ?_
  have h9 := hret 61 [] dX3_find_61
  rw [← (Option.some.inj hf)] at h9
  exact h9
abbrev rmLi_cornerBits : Room := { frames := 1, cells := 0, slots := 0, locals := 22 }
theorem wd_yX3_cornerBits : wdV yX3_cornerBits cX3_cornerBits 2 (some .int) 1 := ⟨wc_yX3_cornerBits, wi_yX3_cornerBits, wse_yX3_cornerBits, wini_X3, by decide +kernel, by decide +kernel, by decide +kernel⟩
set_option maxHeartbeats 4000000 in
set_option maxRecDepth 100000 in
theorem kLi_cornerBits (l : Launch) (G : wG) (qLi : Nat → Nat) (p1 : Int32) (li_corner : Nat → Int32) (li_most : Nat → Int32) (li_bestE : Nat → Int32) (li_bestF : Nat → Int32) (o : Int32) (hf : fLi_cornerBits p1 li_corner = some o) : Ct G l yX3_cornerBits cX3_cornerBits 2 (some .int) rmLi_cornerBits [.ref (qLi 0), .int p1] (gLi G qLi li_corner li_most li_bestE li_bestF) (some (.int o)) (gLi G qLi li_corner li_most li_bestE li_bestF) := by
  refine Ct.ofI (by decide +kernel) (Nat.le_of_ble_eq_true rfl) (fun p e s m args below meth c A Q E hret => ?_)
  unfold fLi_cornerBits at hf
  show V G p l e rmLi_cornerBits s m args below meth c 2 A Q 0 0 (gLi G qLi li_corner li_most li_bestE li_bestF) 0 [(0, .ref (qLi 0)), (1, .int p1)] []
  refine V_iload_n E 1 rfl dX3_cornerBits_0 ?_
  refine V_iconst E (v := (0 : Int32)) dX3_cornerBits_1 (by decide) ?_
  refine V_iconst E (v := (5 : Int32)) dX3_cornerBits_2 (by decide) ?_
  obtain ⟨u1, hu1, hf⟩ := bd hf
  refine V_fr0 E (Rn_N E (rest := []) 1 rfl wd_yX7_within (kRi_within l G p1 (0 : Int32) (5 : Int32) u1 hu1) ⟨rfl, rfl, Nat.le_of_ble_eq_true rfl, Nat.le_of_ble_eq_true rfl⟩ rfl rfl (Nat.le_of_ble_eq_true rfl) dX3_cornerBits_3) ?_
  show V G p l e rmLi_cornerBits s m args below meth c 2 A Q 0 0 (gLi G qLi li_corner li_most li_bestE li_bestF) 6 [(0, .ref (qLi 0)), (1, .int p1)] [.int u1]
  refine V_if_eq E (tgt := 18) dX3_cornerBits_6 (by decide) (fun hc2 => ?_) (fun hc2 => ?_)
  · have hf := ip hc2 hf
    refine V_iconst E (v := (0 : Int32)) dX3_cornerBits_18 (by decide) ?_
    have h9 := hret 19 [(0, .ref (qLi 0)), (1, .int p1)] dX3_cornerBits_19
    rw [← (Option.some.inj hf)] at h9
    exact h9
  · have hf := iq hc2 hf
    refine V_aload_n E 0 rfl dX3_cornerBits_9 ?_
    refine gfX3_9 E 0 rfl rfl dX3_cornerBits_10 ?_
    refine V_iload_n E 1 rfl dX3_cornerBits_13 ?_
    obtain ⟨hi3, hf⟩ := asr_ok hf
    refine V_iald E 1 rfl hi3 dX3_cornerBits_14 ?_
    refine V_goto E (tgt := 19) dX3_cornerBits_15 (by decide) ?_
    have h9 := hret 19 [(0, .ref (qLi 0)), (1, .int p1)] dX3_cornerBits_19
    rw [← (Option.some.inj hf)] at h9
    exact h9
