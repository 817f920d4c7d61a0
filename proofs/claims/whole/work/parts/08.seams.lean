
abbrev rmSe_surplusOf : Room := { frames := 1, cells := 0, slots := 0, locals := 22 }
theorem wd_yX6_surplusOf : wdV yX6_surplusOf cX6_surplusOf 2 (some .int) 1 := ⟨wc_yX6_surplusOf, wi_yX6_surplusOf, wse_yX6_surplusOf, wini_X6, by decide +kernel, by decide +kernel, by decide +kernel⟩
set_option maxHeartbeats 4000000 in
set_option maxRecDepth 100000 in
theorem kSe_surplusOf (l : Launch) (G : wG) (qSe : Nat → Nat) (p1 : Int32) (se_cells : Nat → Int32) (se_apart : Nat → Int32) (se_surplus : Nat → Int32) (se_seamCost : Nat → Int32) (se_column : Nat → Int32) (se_gap : Nat → Int32) (se_cost : Nat → Int32) (o : Int32) (hf : fSe_surplusOf p1 se_surplus = some o) : Ct G l yX6_surplusOf cX6_surplusOf 2 (some .int) rmSe_surplusOf [.ref (qSe 0), .int p1] (gSe G qSe se_cells se_apart se_surplus se_seamCost se_column se_gap se_cost) (some (.int o)) (gSe G qSe se_cells se_apart se_surplus se_seamCost se_column se_gap se_cost) := by
  refine Ct.ofI (by decide +kernel) (Nat.le_of_ble_eq_true rfl) (fun p e s m args below meth c A Q E hret => ?_)
  unfold fSe_surplusOf at hf
  show V G p l e rmSe_surplusOf s m args below meth c 2 A Q 0 0 (gSe G qSe se_cells se_apart se_surplus se_seamCost se_column se_gap se_cost) 0 [(0, .ref (qSe 0)), (1, .int p1)] []
  refine V_iload_n E 1 rfl dX6_surplusOf_0 ?_
  refine V_iconst E (v := (0 : Int32)) dX6_surplusOf_1 (by decide) ?_
  refine V_iconst E (v := (5 : Int32)) dX6_surplusOf_2 (by decide) ?_
  obtain ⟨u1, hu1, hf⟩ := bd hf
  refine V_fr0 E (Rn_N E (rest := []) 5 rfl wd_yX7_within (kRi_within l G p1 (0 : Int32) (5 : Int32) u1 hu1) ⟨rfl, rfl, Nat.le_of_ble_eq_true rfl, Nat.le_of_ble_eq_true rfl⟩ rfl rfl (Nat.le_of_ble_eq_true rfl) dX6_surplusOf_3) ?_
  show V G p l e rmSe_surplusOf s m args below meth c 2 A Q 0 0 (gSe G qSe se_cells se_apart se_surplus se_seamCost se_column se_gap se_cost) 6 [(0, .ref (qSe 0)), (1, .int p1)] [.int u1]
  refine V_if_eq E (tgt := 18) dX6_surplusOf_6 (by decide) (fun hc2 => ?_) (fun hc2 => ?_)
  · have hf := ip hc2 hf
    refine V_iconst E (v := (0 : Int32)) dX6_surplusOf_18 (by decide) ?_
    have h9 := hret 19 [(0, .ref (qSe 0)), (1, .int p1)] dX6_surplusOf_19
    rw [← (Option.some.inj hf)] at h9
    exact h9
  · have hf := iq hc2 hf
    refine V_aload_n E 0 rfl dX6_surplusOf_9 ?_
    refine gfX6_18 E 0 rfl rfl dX6_surplusOf_10 ?_
    refine V_iload_n E 1 rfl dX6_surplusOf_13 ?_
    obtain ⟨hi3, hf⟩ := asr_ok hf
    refine V_iald E 3 rfl hi3 dX6_surplusOf_14 ?_
    refine V_goto E (tgt := 19) dX6_surplusOf_15 (by decide) ?_
    have h9 := hret 19 [(0, .ref (qSe 0)), (1, .int p1)] dX6_surplusOf_19
    rw [← (Option.some.inj hf)] at h9
    exact h9
abbrev rmSe_cellsOf : Room := { frames := 1, cells := 0, slots := 0, locals := 22 }
theorem wd_yX6_cellsOf : wdV yX6_cellsOf cX6_cellsOf 2 (some .int) 1 := ⟨wc_yX6_cellsOf, wi_yX6_cellsOf, wse_yX6_cellsOf, wini_X6, by decide +kernel, by decide +kernel, by decide +kernel⟩
set_option maxHeartbeats 4000000 in
set_option maxRecDepth 100000 in
theorem kSe_cellsOf (l : Launch) (G : wG) (qSe : Nat → Nat) (p1 : Int32) (se_cells : Nat → Int32) (se_apart : Nat → Int32) (se_surplus : Nat → Int32) (se_seamCost : Nat → Int32) (se_column : Nat → Int32) (se_gap : Nat → Int32) (se_cost : Nat → Int32) (o : Int32) (hf : fSe_cellsOf p1 se_cells = some o) : Ct G l yX6_cellsOf cX6_cellsOf 2 (some .int) rmSe_cellsOf [.ref (qSe 0), .int p1] (gSe G qSe se_cells se_apart se_surplus se_seamCost se_column se_gap se_cost) (some (.int o)) (gSe G qSe se_cells se_apart se_surplus se_seamCost se_column se_gap se_cost) := by
  refine Ct.ofI (by decide +kernel) (Nat.le_of_ble_eq_true rfl) (fun p e s m args below meth c A Q E hret => ?_)
  unfold fSe_cellsOf at hf
  show V G p l e rmSe_cellsOf s m args below meth c 2 A Q 0 0 (gSe G qSe se_cells se_apart se_surplus se_seamCost se_column se_gap se_cost) 0 [(0, .ref (qSe 0)), (1, .int p1)] []
  refine V_iload_n E 1 rfl dX6_cellsOf_0 ?_
  refine V_iconst E (v := (0 : Int32)) dX6_cellsOf_1 (by decide) ?_
  refine V_iconst E (v := (5 : Int32)) dX6_cellsOf_2 (by decide) ?_
  obtain ⟨u1, hu1, hf⟩ := bd hf
  refine V_fr0 E (Rn_N E (rest := []) 5 rfl wd_yX7_within (kRi_within l G p1 (0 : Int32) (5 : Int32) u1 hu1) ⟨rfl, rfl, Nat.le_of_ble_eq_true rfl, Nat.le_of_ble_eq_true rfl⟩ rfl rfl (Nat.le_of_ble_eq_true rfl) dX6_cellsOf_3) ?_
  show V G p l e rmSe_cellsOf s m args below meth c 2 A Q 0 0 (gSe G qSe se_cells se_apart se_surplus se_seamCost se_column se_gap se_cost) 6 [(0, .ref (qSe 0)), (1, .int p1)] [.int u1]
  refine V_if_eq E (tgt := 18) dX6_cellsOf_6 (by decide) (fun hc2 => ?_) (fun hc2 => ?_)
  · have hf := ip hc2 hf
    refine V_iconst E (v := (0 : Int32)) dX6_cellsOf_18 (by decide) ?_
    have h9 := hret 19 [(0, .ref (qSe 0)), (1, .int p1)] dX6_cellsOf_19
    rw [← (Option.some.inj hf)] at h9
    exact h9
  · have hf := iq hc2 hf
    refine V_aload_n E 0 rfl dX6_cellsOf_9 ?_
    refine gfX6_9 E 0 rfl rfl dX6_cellsOf_10 ?_
    refine V_iload_n E 1 rfl dX6_cellsOf_13 ?_
    obtain ⟨hi3, hf⟩ := asr_ok hf
    refine V_iald E 1 rfl hi3 dX6_cellsOf_14 ?_
    refine V_goto E (tgt := 19) dX6_cellsOf_15 (by decide) ?_
    have h9 := hret 19 [(0, .ref (qSe 0)), (1, .int p1)] dX6_cellsOf_19
    rw [← (Option.some.inj hf)] at h9
    exact h9
abbrev rmSe_apartOf : Room := { frames := 1, cells := 0, slots := 0, locals := 22 }
theorem wd_yX6_apartOf : wdV yX6_apartOf cX6_apartOf 2 (some .int) 1 := ⟨wc_yX6_apartOf, wi_yX6_apartOf, wse_yX6_apartOf, wini_X6, by decide +kernel, by decide +kernel, by decide +kernel⟩
set_option maxHeartbeats 4000000 in
set_option maxRecDepth 100000 in
theorem kSe_apartOf (l : Launch) (G : wG) (qSe : Nat → Nat) (p1 : Int32) (se_cells : Nat → Int32) (se_apart : Nat → Int32) (se_surplus : Nat → Int32) (se_seamCost : Nat → Int32) (se_column : Nat → Int32) (se_gap : Nat → Int32) (se_cost : Nat → Int32) (o : Int32) (hf : fSe_apartOf p1 se_apart = some o) : Ct G l yX6_apartOf cX6_apartOf 2 (some .int) rmSe_apartOf [.ref (qSe 0), .int p1] (gSe G qSe se_cells se_apart se_surplus se_seamCost se_column se_gap se_cost) (some (.int o)) (gSe G qSe se_cells se_apart se_surplus se_seamCost se_column se_gap se_cost) := by
  refine Ct.ofI (by decide +kernel) (Nat.le_of_ble_eq_true rfl) (fun p e s m args below meth c A Q E hret => ?_)
  unfold fSe_apartOf at hf
  show V G p l e rmSe_apartOf s m args below meth c 2 A Q 0 0 (gSe G qSe se_cells se_apart se_surplus se_seamCost se_column se_gap se_cost) 0 [(0, .ref (qSe 0)), (1, .int p1)] []
  refine V_iload_n E 1 rfl dX6_apartOf_0 ?_
  refine V_iconst E (v := (0 : Int32)) dX6_apartOf_1 (by decide) ?_
  refine V_iconst E (v := (5 : Int32)) dX6_apartOf_2 (by decide) ?_
  obtain ⟨u1, hu1, hf⟩ := bd hf
  refine V_fr0 E (Rn_N E (rest := []) 5 rfl wd_yX7_within (kRi_within l G p1 (0 : Int32) (5 : Int32) u1 hu1) ⟨rfl, rfl, Nat.le_of_ble_eq_true rfl, Nat.le_of_ble_eq_true rfl⟩ rfl rfl (Nat.le_of_ble_eq_true rfl) dX6_apartOf_3) ?_
  show V G p l e rmSe_apartOf s m args below meth c 2 A Q 0 0 (gSe G qSe se_cells se_apart se_surplus se_seamCost se_column se_gap se_cost) 6 [(0, .ref (qSe 0)), (1, .int p1)] [.int u1]
  refine V_if_eq E (tgt := 18) dX6_apartOf_6 (by decide) (fun hc2 => ?_) (fun hc2 => ?_)
  · have hf := ip hc2 hf
    refine V_iconst E (v := (0 : Int32)) dX6_apartOf_18 (by decide) ?_
    have h9 := hret 19 [(0, .ref (qSe 0)), (1, .int p1)] dX6_apartOf_19
    rw [← (Option.some.inj hf)] at h9
    exact h9
  · have hf := iq hc2 hf
    refine V_aload_n E 0 rfl dX6_apartOf_9 ?_
    refine gfX6_15 E 0 rfl rfl dX6_apartOf_10 ?_
    refine V_iload_n E 1 rfl dX6_apartOf_13 ?_
    obtain ⟨hi3, hf⟩ := asr_ok hf
    refine V_iald E 2 rfl hi3 dX6_apartOf_14 ?_
    refine V_goto E (tgt := 19) dX6_apartOf_15 (by decide) ?_
    have h9 := hret 19 [(0, .ref (qSe 0)), (1, .int p1)] dX6_apartOf_19
    rw [← (Option.some.inj hf)] at h9
    exact h9
abbrev rmSe_seamCostOf : Room := { frames := 1, cells := 0, slots := 0, locals := 22 }
theorem wd_yX6_seamCostOf : wdV yX6_seamCostOf cX6_seamCostOf 2 (some .int) 1 := ⟨wc_yX6_seamCostOf, wi_yX6_seamCostOf, wse_yX6_seamCostOf, wini_X6, by decide +kernel, by decide +kernel, by decide +kernel⟩
set_option maxHeartbeats 4000000 in
set_option maxRecDepth 100000 in
theorem kSe_seamCostOf (l : Launch) (G : wG) (qSe : Nat → Nat) (p1 : Int32) (se_cells : Nat → Int32) (se_apart : Nat → Int32) (se_surplus : Nat → Int32) (se_seamCost : Nat → Int32) (se_column : Nat → Int32) (se_gap : Nat → Int32) (se_cost : Nat → Int32) (o : Int32) (hf : fSe_seamCostOf p1 se_seamCost = some o) : Ct G l yX6_seamCostOf cX6_seamCostOf 2 (some .int) rmSe_seamCostOf [.ref (qSe 0), .int p1] (gSe G qSe se_cells se_apart se_surplus se_seamCost se_column se_gap se_cost) (some (.int o)) (gSe G qSe se_cells se_apart se_surplus se_seamCost se_column se_gap se_cost) := by
  refine Ct.ofI (by decide +kernel) (Nat.le_of_ble_eq_true rfl) (fun p e s m args below meth c A Q E hret => ?_)
  unfold fSe_seamCostOf at hf
  show V G p l e rmSe_seamCostOf s m args below meth c 2 A Q 0 0 (gSe G qSe se_cells se_apart se_surplus se_seamCost se_column se_gap se_cost) 0 [(0, .ref (qSe 0)), (1, .int p1)] []
  refine V_iload_n E 1 rfl dX6_seamCostOf_0 ?_
  refine V_iconst E (v := (0 : Int32)) dX6_seamCostOf_1 (by decide) ?_
  refine V_iconst E (v := (5 : Int32)) dX6_seamCostOf_2 (by decide) ?_
  obtain ⟨u1, hu1, hf⟩ := bd hf
  refine V_fr0 E (Rn_N E (rest := []) 5 rfl wd_yX7_within (kRi_within l G p1 (0 : Int32) (5 : Int32) u1 hu1) ⟨rfl, rfl, Nat.le_of_ble_eq_true rfl, Nat.le_of_ble_eq_true rfl⟩ rfl rfl (Nat.le_of_ble_eq_true rfl) dX6_seamCostOf_3) ?_
  show V G p l e rmSe_seamCostOf s m args below meth c 2 A Q 0 0 (gSe G qSe se_cells se_apart se_surplus se_seamCost se_column se_gap se_cost) 6 [(0, .ref (qSe 0)), (1, .int p1)] [.int u1]
  refine V_if_eq E (tgt := 18) dX6_seamCostOf_6 (by decide) (fun hc2 => ?_) (fun hc2 => ?_)
  · have hf := ip hc2 hf
    refine V_iconst E (v := (0 : Int32)) dX6_seamCostOf_18 (by decide) ?_
    have h9 := hret 19 [(0, .ref (qSe 0)), (1, .int p1)] dX6_seamCostOf_19
    rw [← (Option.some.inj hf)] at h9
    exact h9
  · have hf := iq hc2 hf
    refine V_aload_n E 0 rfl dX6_seamCostOf_9 ?_
    refine gfX6_21 E 0 rfl rfl dX6_seamCostOf_10 ?_
    refine V_iload_n E 1 rfl dX6_seamCostOf_13 ?_
    obtain ⟨hi3, hf⟩ := asr_ok hf
    refine V_iald E 4 rfl hi3 dX6_seamCostOf_14 ?_
    refine V_goto E (tgt := 19) dX6_seamCostOf_15 (by decide) ?_
    have h9 := hret 19 [(0, .ref (qSe 0)), (1, .int p1)] dX6_seamCostOf_19
    rw [← (Option.some.inj hf)] at h9
    exact h9
abbrev rmSe_columnAt : Room := { frames := 1, cells := 0, slots := 0, locals := 22 }
theorem wd_yX6_columnAt : wdV yX6_columnAt cX6_columnAt 3 (some .int) 2 := ⟨wc_yX6_columnAt, wi_yX6_columnAt, wse_yX6_columnAt, wini_X6, by decide +kernel, by decide +kernel, by decide +kernel⟩
set_option maxHeartbeats 4000000 in
set_option maxRecDepth 100000 in
theorem kSe_columnAt (l : Launch) (G : wG) (qSe : Nat → Nat) (p1 : Int32) (p2 : Int32) (se_cells : Nat → Int32) (se_apart : Nat → Int32) (se_surplus : Nat → Int32) (se_seamCost : Nat → Int32) (se_column : Nat → Int32) (se_gap : Nat → Int32) (se_cost : Nat → Int32) (o : Int32) (hf : fSe_columnAt p1 p2 se_column = some o) : Ct G l yX6_columnAt cX6_columnAt 3 (some .int) rmSe_columnAt [.ref (qSe 0), .int p1, .int p2] (gSe G qSe se_cells se_apart se_surplus se_seamCost se_column se_gap se_cost) (some (.int o)) (gSe G qSe se_cells se_apart se_surplus se_seamCost se_column se_gap se_cost) := by
  refine Ct.ofI (by decide +kernel) (Nat.le_of_ble_eq_true rfl) (fun p e s m args below meth c A Q E hret => ?_)
  unfold fSe_columnAt at hf
  show V G p l e rmSe_columnAt s m args below meth c 3 A Q 0 0 (gSe G qSe se_cells se_apart se_surplus se_seamCost se_column se_gap se_cost) 0 [(0, .ref (qSe 0)), (1, .int p1), (2, .int p2)] []
  refine V_iload_n E 1 rfl dX6_columnAt_0 ?_
  refine V_iconst E (v := (0 : Int32)) dX6_columnAt_1 (by decide) ?_
  refine V_iconst E (v := (5 : Int32)) dX6_columnAt_2 (by decide) ?_
  obtain ⟨u1, hu1, hf⟩ := bd hf
  refine V_fr0 E (Rn_N E (rest := []) 5 rfl wd_yX7_within (kRi_within l G p1 (0 : Int32) (5 : Int32) u1 hu1) ⟨rfl, rfl, Nat.le_of_ble_eq_true rfl, Nat.le_of_ble_eq_true rfl⟩ rfl rfl (Nat.le_of_ble_eq_true rfl) dX6_columnAt_3) ?_
  show V G p l e rmSe_columnAt s m args below meth c 3 A Q 0 0 (gSe G qSe se_cells se_apart se_surplus se_seamCost se_column se_gap se_cost) 6 [(0, .ref (qSe 0)), (1, .int p1), (2, .int p2)] [.int u1]
  refine V_if_eq E (tgt := 31) dX6_columnAt_6 (by decide) (fun hc2 => ?_) (fun hc2 => ?_)
  · have hf := ip hc2 hf
    refine V_iconst E (v := (-1 : Int32)) dX6_columnAt_31 (by decide) ?_
    have h9 := hret 32 [(0, .ref (qSe 0)), (1, .int p1), (2, .int p2)] dX6_columnAt_32
    rw [← (Option.some.inj hf)] at h9
    exact h9
  · have hf := iq hc2 hf
    refine V_iload_n E 2 rfl dX6_columnAt_9 ?_
    refine V_iconst E (v := (0 : Int32)) dX6_columnAt_10 (by decide) ?_
    refine V_iconst E (v := (3 : Int32)) dX6_columnAt_11 (by decide) ?_
    obtain ⟨u3, hu3, hf⟩ := bd hf
    refine V_fr0 E (Rn_N E (rest := []) 5 rfl wd_yX7_within (kRi_within l G p2 (0 : Int32) (3 : Int32) u3 hu3) ⟨rfl, rfl, Nat.le_of_ble_eq_true rfl, Nat.le_of_ble_eq_true rfl⟩ rfl rfl (Nat.le_of_ble_eq_true rfl) dX6_columnAt_12) ?_
    show V G p l e rmSe_columnAt s m args below meth c 3 A Q 0 0 (gSe G qSe se_cells se_apart se_surplus se_seamCost se_column se_gap se_cost) 15 [(0, .ref (qSe 0)), (1, .int p1), (2, .int p2)] [.int u3]
    refine V_if_eq E (tgt := 31) dX6_columnAt_15 (by decide) (fun hc4 => ?_) (fun hc4 => ?_)
    · have hf := ip hc4 hf
      refine V_iconst E (v := (-1 : Int32)) dX6_columnAt_31 (by decide) ?_
      have h9 := hret 32 [(0, .ref (qSe 0)), (1, .int p1), (2, .int p2)] dX6_columnAt_32
      rw [← (Option.some.inj hf)] at h9
      exact h9
    · have hf := iq hc4 hf
      refine V_aload_n E 0 rfl dX6_columnAt_18 ?_
      refine gfX6_24 E 0 rfl rfl dX6_columnAt_19 ?_
      refine V_iload_n E 1 rfl dX6_columnAt_22 ?_
      refine V_iconst E (v := (4 : Int32)) dX6_columnAt_23 (by decide) ?_
      refine V_imul E dX6_columnAt_24 ?_
      refine V_iload_n E 2 rfl dX6_columnAt_25 ?_
      refine V_iadd E dX6_columnAt_26 ?_
      obtain ⟨hi5, hf⟩ := asr_ok hf
      refine V_iald E 5 rfl hi5 dX6_columnAt_27 ?_
      refine V_goto E (tgt := 32) dX6_columnAt_28 (by decide) ?_
      have h9 := hret 32 [(0, .ref (qSe 0)), (1, .int p1), (2, .int p2)] dX6_columnAt_32
      rw [← (Option.some.inj hf)] at h9
      exact h9
abbrev rmSe_compare : Room := { frames := 2, cells := 0, slots := 0, locals := 46 }
theorem wd_yX6_compare : wdV yX6_compare cX6_compare 10 none 3 := ⟨wc_yX6_compare, wi_yX6_compare, wse_yX6_compare, wini_X6, by decide +kernel, by decide +kernel, by decide +kernel⟩
set_option maxHeartbeats 4000000 in
set_option maxRecDepth 100000 in
theorem kSe_compare (l : Launch) (G : wG) (qSc : Nat → Nat) (qCh : Nat → Nat) (qSe : Nat → Nat) (p3 : Int32) (sc_columns : Int32) (sc_count : Int32) (sc_cornerChange : Int32) (sc_voteApart : Int32) (sc_dots : Nat → Int32) (sc_cells : Nat → Int32) (sc_shotX : Nat → Int32) (sc_shotY : Nat → Int32) (sc_shotColumns : Nat → Int32) (ch_taken : Int32) (ch_turn : Int32) (ch_drift : Int32) (ch_right : Int32) (ch_closed : Int32) (ch_follower : Nat → Int32) (ch_ahead : Nat → Int32) (ch_linkE : Nat → Int32) (ch_linkF : Nat → Int32) (ch_placeRight : Nat → Int32) (ch_placeLower : Nat → Int32) (se_cells : Nat → Int32) (se_apart : Nat → Int32) (se_surplus : Nat → Int32) (se_seamCost : Nat → Int32) (se_column : Nat → Int32) (se_gap : Nat → Int32) (se_cost : Nat → Int32) (o : (Nat → Int32) × (Nat → Int32) × (Nat → Int32) × (Nat → Int32)) (hf : fSe_compare p3 sc_count sc_cells ch_follower ch_linkE ch_linkF se_cells se_apart se_surplus se_gap = some o) : Ct G l yX6_compare cX6_compare 10 none rmSe_compare [.ref (qSe 0), .ref (qSc 0), .ref (qCh 0), .int p3] (gSc G qSc sc_columns sc_count sc_cornerChange sc_voteApart sc_dots sc_cells sc_shotX sc_shotY sc_shotColumns ++ (gCh G qCh ch_taken ch_turn ch_drift ch_right ch_closed ch_follower ch_ahead ch_linkE ch_linkF ch_placeRight ch_placeLower ++ (gSe G qSe se_cells se_apart se_surplus se_seamCost se_column se_gap se_cost))) none (gSc G qSc sc_columns sc_count sc_cornerChange sc_voteApart sc_dots sc_cells sc_shotX sc_shotY sc_shotColumns ++ (gCh G qCh ch_taken ch_turn ch_drift ch_right ch_closed ch_follower ch_ahead ch_linkE ch_linkF ch_placeRight ch_placeLower ++ (gSe G qSe o.1 o.2.1 o.2.2.1 se_seamCost se_column o.2.2.2 se_cost))) := by
  refine Ct.ofV (by decide +kernel) (Nat.le_of_ble_eq_true rfl) (fun p e s m args below meth c A Q E hret => ?_)
  unfold fSe_compare at hf
  show V G p l e rmSe_compare s m args below meth c 10 A Q 0 0 (gSc G qSc sc_columns sc_count sc_cornerChange sc_voteApart sc_dots sc_cells sc_shotX sc_shotY sc_shotColumns ++ (gCh G qCh ch_taken ch_turn ch_drift ch_right ch_closed ch_follower ch_ahead ch_linkE ch_linkF ch_placeRight ch_placeLower ++ (gSe G qSe se_cells se_apart se_surplus se_seamCost se_column se_gap se_cost))) 0 [(0, .ref (qSe 0)), (1, .ref (qSc 0)), (2, .ref (qCh 0)), (3, .int p3)] []
  refine V_aload_n E 2 rfl dX6_compare_0 ?_
  refine V_iload_n E 3 rfl dX6_compare_1 ?_
  obtain ⟨u1, hu1, hf⟩ := bd hf
  refine V_frG E (wr := (gSc G qSc sc_columns sc_count sc_cornerChange sc_voteApart sc_dots sc_cells sc_shotX sc_shotY sc_shotColumns ++ (gSe G qSe se_cells se_apart se_surplus se_seamCost se_column se_gap se_cost))) (ws' := (gSc G qSc sc_columns sc_count sc_cornerChange sc_voteApart sc_dots sc_cells sc_shotX sc_shotY sc_shotColumns ++ (gCh G qCh ch_taken ch_turn ch_drift ch_right ch_closed ch_follower ch_ahead ch_linkE ch_linkF ch_placeRight ch_placeLower ++ (gSe G qSe se_cells se_apart se_surplus se_seamCost se_column se_gap se_cost)))) [6, 7, 8, 9, 10, 11, 12] [0, 1, 2, 3, 4, 5, 13, 14, 15, 16, 17, 18, 19, 20] [0, 1, 2, 3, 4, 5, 14, 15, 16, 17, 18, 19, 20, 6, 7, 8, 9, 10, 11, 12, 13] rfl rfl ⟨rfl, rfl, rfl, rfl⟩ rfl (Rn_V E (rest := []) mlX6_37 wd_yX0_followerOf (kCh_followerOf l G qCh p3 ch_taken ch_turn ch_drift ch_right ch_closed ch_follower ch_ahead ch_linkE ch_linkF ch_placeRight ch_placeLower u1 hu1) ⟨rfl, rfl, Nat.le_of_ble_eq_true rfl, Nat.le_of_ble_eq_true rfl⟩ 0 rfl rfl rfl rfl rfl (Nat.le_of_ble_eq_true rfl) dX6_compare_2) ?_
  show V G p l e rmSe_compare s m args below meth c 10 A Q 0 0 (gSc G qSc sc_columns sc_count sc_cornerChange sc_voteApart sc_dots sc_cells sc_shotX sc_shotY sc_shotColumns ++ (gCh G qCh ch_taken ch_turn ch_drift ch_right ch_closed ch_follower ch_ahead ch_linkE ch_linkF ch_placeRight ch_placeLower ++ (gSe G qSe se_cells se_apart se_surplus se_seamCost se_column se_gap se_cost))) 5 [(0, .ref (qSe 0)), (1, .ref (qSc 0)), (2, .ref (qCh 0)), (3, .int p3)] [.int u1]
  refine V_istore E (lv' := [(0, .ref (qSe 0)), (1, .ref (qSc 0)), (2, .ref (qCh 0)), (3, .int p3), (4, .int u1)]) dX6_compare_5 (by decide) rfl ?_
  refine V_aload_n E 2 rfl dX6_compare_7 ?_
  refine V_iload_n E 3 rfl dX6_compare_8 ?_
  obtain ⟨u2, hu2, hf⟩ := bd hf
  refine V_frG E (wr := (gSc G qSc sc_columns sc_count sc_cornerChange sc_voteApart sc_dots sc_cells sc_shotX sc_shotY sc_shotColumns ++ (gSe G qSe se_cells se_apart se_surplus se_seamCost se_column se_gap se_cost))) (ws' := (gSc G qSc sc_columns sc_count sc_cornerChange sc_voteApart sc_dots sc_cells sc_shotX sc_shotY sc_shotColumns ++ (gCh G qCh ch_taken ch_turn ch_drift ch_right ch_closed ch_follower ch_ahead ch_linkE ch_linkF ch_placeRight ch_placeLower ++ (gSe G qSe se_cells se_apart se_surplus se_seamCost se_column se_gap se_cost)))) [6, 7, 8, 9, 10, 11, 12] [0, 1, 2, 3, 4, 5, 13, 14, 15, 16, 17, 18, 19, 20] [0, 1, 2, 3, 4, 5, 14, 15, 16, 17, 18, 19, 20, 6, 7, 8, 9, 10, 11, 12, 13] rfl rfl ⟨rfl, rfl, rfl, rfl⟩ rfl (Rn_V E (rest := []) mlX6_47 wd_yX0_shiftE (kCh_shiftE l G qCh p3 ch_taken ch_turn ch_drift ch_right ch_closed ch_follower ch_ahead ch_linkE ch_linkF ch_placeRight ch_placeLower u2 hu2) ⟨rfl, rfl, Nat.le_of_ble_eq_true rfl, Nat.le_of_ble_eq_true rfl⟩ 0 rfl rfl rfl rfl rfl (Nat.le_of_ble_eq_true rfl) dX6_compare_9) ?_
  show V G p l e rmSe_compare s m args below meth c 10 A Q 0 0 (gSc G qSc sc_columns sc_count sc_cornerChange sc_voteApart sc_dots sc_cells sc_shotX sc_shotY sc_shotColumns ++ (gCh G qCh ch_taken ch_turn ch_drift ch_right ch_closed ch_follower ch_ahead ch_linkE ch_linkF ch_placeRight ch_placeLower ++ (gSe G qSe se_cells se_apart se_surplus se_seamCost se_column se_gap se_cost))) 12 [(0, .ref (qSe 0)), (1, .ref (qSc 0)), (2, .ref (qCh 0)), (3, .int p3), (4, .int u1)] [.int u2]
  refine V_istore E (lv' := [(0, .ref (qSe 0)), (1, .ref (qSc 0)), (2, .ref (qCh 0)), (3, .int p3), (4, .int u1), (5, .int u2)]) dX6_compare_12 (by decide) rfl ?_
  refine V_aload_n E 2 rfl dX6_compare_14 ?_
  refine V_iload_n E 3 rfl dX6_compare_15 ?_
  obtain ⟨u3, hu3, hf⟩ := bd hf
  refine V_frG E (wr := (gSc G qSc sc_columns sc_count sc_cornerChange sc_voteApart sc_dots sc_cells sc_shotX sc_shotY sc_shotColumns ++ (gSe G qSe se_cells se_apart se_surplus se_seamCost se_column se_gap se_cost))) (ws' := (gSc G qSc sc_columns sc_count sc_cornerChange sc_voteApart sc_dots sc_cells sc_shotX sc_shotY sc_shotColumns ++ (gCh G qCh ch_taken ch_turn ch_drift ch_right ch_closed ch_follower ch_ahead ch_linkE ch_linkF ch_placeRight ch_placeLower ++ (gSe G qSe se_cells se_apart se_surplus se_seamCost se_column se_gap se_cost)))) [6, 7, 8, 9, 10, 11, 12] [0, 1, 2, 3, 4, 5, 13, 14, 15, 16, 17, 18, 19, 20] [0, 1, 2, 3, 4, 5, 14, 15, 16, 17, 18, 19, 20, 6, 7, 8, 9, 10, 11, 12, 13] rfl rfl ⟨rfl, rfl, rfl, rfl⟩ rfl (Rn_V E (rest := []) mlX6_50 wd_yX0_shiftF (kCh_shiftF l G qCh p3 ch_taken ch_turn ch_drift ch_right ch_closed ch_follower ch_ahead ch_linkE ch_linkF ch_placeRight ch_placeLower u3 hu3) ⟨rfl, rfl, Nat.le_of_ble_eq_true rfl, Nat.le_of_ble_eq_true rfl⟩ 0 rfl rfl rfl rfl rfl (Nat.le_of_ble_eq_true rfl) dX6_compare_16) ?_
  show V G p l e rmSe_compare s m args below meth c 10 A Q 0 0 (gSc G qSc sc_columns sc_count sc_cornerChange sc_voteApart sc_dots sc_cells sc_shotX sc_shotY sc_shotColumns ++ (gCh G qCh ch_taken ch_turn ch_drift ch_right ch_closed ch_follower ch_ahead ch_linkE ch_linkF ch_placeRight ch_placeLower ++ (gSe G qSe se_cells se_apart se_surplus se_seamCost se_column se_gap se_cost))) 19 [(0, .ref (qSe 0)), (1, .ref (qSc 0)), (2, .ref (qCh 0)), (3, .int p3), (4, .int u1), (5, .int u2)] [.int u3]
  refine V_istore E (lv' := [(0, .ref (qSe 0)), (1, .ref (qSc 0)), (2, .ref (qCh 0)), (3, .int p3), (4, .int u1), (5, .int u2), (6, .int u3)]) dX6_compare_19 (by decide) rfl ?_
  refine V_aload_n E 0 rfl dX6_compare_21 ?_
  refine gfX6_9 E 13 rfl rfl dX6_compare_22 ?_
  refine V_iload_n E 3 rfl dX6_compare_25 ?_
  refine V_iconst E (v := (0 : Int32)) dX6_compare_26 (by decide) ?_
  obtain ⟨hi4, hf⟩ := asr_ok hf
  refine V_iast E (ws' := (gSc G qSc sc_columns sc_count sc_cornerChange sc_voteApart sc_dots sc_cells sc_shotX sc_shotY sc_shotColumns ++ (gCh G qCh ch_taken ch_turn ch_drift ch_right ch_closed ch_follower ch_ahead ch_linkE ch_linkF ch_placeRight ch_placeLower ++ (gSe G qSe (upd se_cells p3.toNatClampNeg (0 : Int32)) se_apart se_surplus se_seamCost se_column se_gap se_cost)))) 14 rfl hi4 dX6_compare_27 rfl ?_
  refine V_aload_n E 0 rfl dX6_compare_28 ?_
  refine gfX6_15 E 13 rfl rfl dX6_compare_29 ?_
  refine V_iload_n E 3 rfl dX6_compare_32 ?_
  refine V_iconst E (v := (0 : Int32)) dX6_compare_33 (by decide) ?_
  obtain ⟨hi5, hf⟩ := asr_ok hf
  refine V_iast E (ws' := (gSc G qSc sc_columns sc_count sc_cornerChange sc_voteApart sc_dots sc_cells sc_shotX sc_shotY sc_shotColumns ++ (gCh G qCh ch_taken ch_turn ch_drift ch_right ch_closed ch_follower ch_ahead ch_linkE ch_linkF ch_placeRight ch_placeLower ++ (gSe G qSe (upd se_cells p3.toNatClampNeg (0 : Int32)) (upd se_apart p3.toNatClampNeg (0 : Int32)) se_surplus se_seamCost se_column se_gap se_cost)))) 15 rfl hi5 dX6_compare_34 rfl ?_
  refine V_aload_n E 0 rfl dX6_compare_35 ?_
  refine gfX6_18 E 13 rfl rfl dX6_compare_36 ?_
  refine V_iload_n E 3 rfl dX6_compare_39 ?_
  refine V_iconst E (v := (0 : Int32)) dX6_compare_40 (by decide) ?_
  obtain ⟨hi6, hf⟩ := asr_ok hf
  refine V_iast E (ws' := (gSc G qSc sc_columns sc_count sc_cornerChange sc_voteApart sc_dots sc_cells sc_shotX sc_shotY sc_shotColumns ++ (gCh G qCh ch_taken ch_turn ch_drift ch_right ch_closed ch_follower ch_ahead ch_linkE ch_linkF ch_placeRight ch_placeLower ++ (gSe G qSe (upd se_cells p3.toNatClampNeg (0 : Int32)) (upd se_apart p3.toNatClampNeg (0 : Int32)) (upd se_surplus p3.toNatClampNeg (0 : Int32)) se_seamCost se_column se_gap se_cost)))) 16 rfl hi6 dX6_compare_41 rfl ?_
  refine V_iconst E (v := (0 : Int32)) dX6_compare_42 (by decide) ?_
  refine V_istore E (lv' := [(0, .ref (qSe 0)), (1, .ref (qSc 0)), (2, .ref (qCh 0)), (3, .int p3), (4, .int u1), (5, .int u2), (6, .int u3), (7, .int (0 : Int32))]) dX6_compare_43 (by decide) rfl ?_
  have L45 : ∀ (n : Nat) (a45_7 : Int32) (c45_se_cells : Nat → Int32) (c45_se_apart : Nat → Int32) (c45_se_surplus : Nat → Int32) (c45_se_gap : Nat → Int32) (u : (Nat → Int32) × (Nat → Int32) × (Nat → Int32) × (Nat → Int32)), fSe_compare_L45 p3 u1 u2 u3 sc_count sc_cells n a45_7 c45_se_cells c45_se_apart c45_se_surplus c45_se_gap = some u → (V G p l e rmSe_compare s m args below meth c 10 A Q 0 0 (gSc G qSc sc_columns sc_count sc_cornerChange sc_voteApart sc_dots sc_cells sc_shotX sc_shotY sc_shotColumns ++ (gCh G qCh ch_taken ch_turn ch_drift ch_right ch_closed ch_follower ch_ahead ch_linkE ch_linkF ch_placeRight ch_placeLower ++ (gSe G qSe u.1 u.2.1 u.2.2.1 se_seamCost se_column u.2.2.2 se_cost))) 173 [] []) → V G p l e rmSe_compare s m args below meth c 10 A Q 0 0 (gSc G qSc sc_columns sc_count sc_cornerChange sc_voteApart sc_dots sc_cells sc_shotX sc_shotY sc_shotColumns ++ (gCh G qCh ch_taken ch_turn ch_drift ch_right ch_closed ch_follower ch_ahead ch_linkE ch_linkF ch_placeRight ch_placeLower ++ (gSe G qSe c45_se_cells c45_se_apart c45_se_surplus se_seamCost se_column c45_se_gap se_cost))) 45 [(0, .ref (qSe 0)), (1, .ref (qSc 0)), (3, .int p3), (4, .int u1), (5, .int u2), (6, .int u3), (7, .int a45_7)] [] := by
    intro n
    induction n with
    | zero =>
      intro a45_7 c45_se_cells c45_se_apart c45_se_surplus c45_se_gap u hf hk
      rw [fSe_compare_L45] at hf
      cases hf
    | succ n ih =>
      intro a45_7 c45_se_cells c45_se_apart c45_se_surplus c45_se_gap u hf hk
      rw [fSe_compare_L45] at hf
      refine V_iload E 6 rfl dX6_compare_45 ?_
      refine V_iconst E (v := (4 : Int32)) dX6_compare_47 (by decide) ?_
      refine V_icmp_ge E (tgt := 173) dX6_compare_48 (by decide) (fun hc8 => ?_) (fun hc8 => ?_)
      · have hf := ip hc8 hf
        refine V_sub [] rfl ?_
        rw [← Option.some.inj hf] at hk
        exact hk
      · have hf := iq hc8 hf
        refine V_iconst E (v := (0 : Int32)) dX6_compare_51 (by decide) ?_
        refine V_istore E (lv' := [(0, .ref (qSe 0)), (1, .ref (qSc 0)), (3, .int p3), (4, .int u1), (5, .int u2), (6, .int u3), (7, .int a45_7), (8, .int (0 : Int32))]) dX6_compare_52 (by decide) rfl ?_
        have L54 : ∀ (n : Nat) (a54_8 : Int32) (c54_se_cells : Nat → Int32) (c54_se_apart : Nat → Int32) (c54_se_surplus : Nat → Int32) (c54_se_gap : Nat → Int32) (u : (Nat → Int32) × (Nat → Int32) × (Nat → Int32) × (Nat → Int32)), fSe_compare_L54 p3 u1 u2 u3 a45_7 sc_count sc_cells n a54_8 c54_se_cells c54_se_apart c54_se_surplus c54_se_gap = some u → (V G p l e rmSe_compare s m args below meth c 10 A Q 0 0 (gSc G qSc sc_columns sc_count sc_cornerChange sc_voteApart sc_dots sc_cells sc_shotX sc_shotY sc_shotColumns ++ (gCh G qCh ch_taken ch_turn ch_drift ch_right ch_closed ch_follower ch_ahead ch_linkE ch_linkF ch_placeRight ch_placeLower ++ (gSe G qSe u.1 u.2.1 u.2.2.1 se_seamCost se_column u.2.2.2 se_cost))) 167 [(0, .ref (qSe 0)), (1, .ref (qSc 0)), (3, .int p3), (4, .int u1), (5, .int u2), (6, .int u3), (7, .int a45_7)] []) → V G p l e rmSe_compare s m args below meth c 10 A Q 0 0 (gSc G qSc sc_columns sc_count sc_cornerChange sc_voteApart sc_dots sc_cells sc_shotX sc_shotY sc_shotColumns ++ (gCh G qCh ch_taken ch_turn ch_drift ch_right ch_closed ch_follower ch_ahead ch_linkE ch_linkF ch_placeRight ch_placeLower ++ (gSe G qSe c54_se_cells c54_se_apart c54_se_surplus se_seamCost se_column c54_se_gap se_cost))) 54 [(0, .ref (qSe 0)), (1, .ref (qSc 0)), (3, .int p3), (4, .int u1), (5, .int u2), (6, .int u3), (7, .int a45_7), (8, .int a54_8)] [] := by
          intro n
          induction n with
          | zero =>
            intro a54_8 c54_se_cells c54_se_apart c54_se_surplus c54_se_gap u hf hk
            rw [fSe_compare_L54] at hf
            cases hf
          | succ n ih =>
            intro a54_8 c54_se_cells c54_se_apart c54_se_surplus c54_se_gap u hf hk
            rw [fSe_compare_L54] at hf
            refine V_iload E 7 rfl dX6_compare_54 ?_
            refine V_bipush E (v := (8 : Int32)) dX6_compare_56 (by decide) ?_
            refine V_icmp_ge E (tgt := 167) dX6_compare_58 (by decide) (fun hc10 => ?_) (fun hc10 => ?_)
            · have hf := ip hc10 hf
              refine V_sub [0, 1, 2, 3, 4, 5, 6] rfl ?_
              rw [← Option.some.inj hf] at hk
              exact hk
            · have hf := iq hc10 hf
              refine V_aload_n E 1 rfl dX6_compare_61 ?_
              refine V_iload E 3 rfl dX6_compare_62 ?_
              refine V_iload E 6 rfl dX6_compare_64 ?_
              refine V_iload E 4 rfl dX6_compare_66 ?_
              refine V_isub E dX6_compare_68 ?_
              refine V_iload E 7 rfl dX6_compare_69 ?_
              refine V_iload E 5 rfl dX6_compare_71 ?_
              refine V_isub E dX6_compare_73 ?_
              obtain ⟨u11, hu11, hf⟩ := bd hf
              refine V_frG E (wr := (gCh G qCh ch_taken ch_turn ch_drift ch_right ch_closed ch_follower ch_ahead ch_linkE ch_linkF ch_placeRight ch_placeLower ++ (gSe G qSe c54_se_cells c54_se_apart c54_se_surplus se_seamCost se_column c54_se_gap se_cost))) (ws' := (gSc G qSc sc_columns sc_count sc_cornerChange sc_voteApart sc_dots sc_cells sc_shotX sc_shotY sc_shotColumns ++ (gCh G qCh ch_taken ch_turn ch_drift ch_right ch_closed ch_follower ch_ahead ch_linkE ch_linkF ch_placeRight ch_placeLower ++ (gSe G qSe c54_se_cells c54_se_apart c54_se_surplus se_seamCost se_column c54_se_gap se_cost)))) [0, 1, 2, 3, 4, 5] [6, 7, 8, 9, 10, 11, 12, 13, 14, 15, 16, 17, 18, 19, 20] [15, 16, 17, 18, 19, 20, 0, 1, 2, 3, 4, 5, 6, 7, 8, 9, 10, 11, 12, 13, 14] rfl rfl ⟨rfl, rfl, rfl, rfl⟩ rfl (Rn_V E (rest := []) mlX6_73 wd_yX5_hasCell (kSc_hasCell l G qSc u1 (a45_7 - u2) (a54_8 - u3) sc_columns sc_count sc_cornerChange sc_voteApart sc_dots sc_cells sc_shotX sc_shotY sc_shotColumns u11 hu11) ⟨rfl, rfl, Nat.le_of_ble_eq_true rfl, Nat.le_of_ble_eq_true rfl⟩ 0 rfl rfl rfl rfl rfl (Nat.le_of_ble_eq_true rfl) dX6_compare_74) ?_
              show V G p l e rmSe_compare s m args below meth c 10 A Q 0 0 (gSc G qSc sc_columns sc_count sc_cornerChange sc_voteApart sc_dots sc_cells sc_shotX sc_shotY sc_shotColumns ++ (gCh G qCh ch_taken ch_turn ch_drift ch_right ch_closed ch_follower ch_ahead ch_linkE ch_linkF ch_placeRight ch_placeLower ++ (gSe G qSe c54_se_cells c54_se_apart c54_se_surplus se_seamCost se_column c54_se_gap se_cost))) 77 [(0, .ref (qSe 0)), (1, .ref (qSc 0)), (3, .int p3), (4, .int u1), (5, .int u2), (6, .int u3), (7, .int a45_7), (8, .int a54_8)] [.int u11]
              refine V_if_eq E (tgt := 161) dX6_compare_77 (by decide) (fun hc12 => ?_) (fun hc12 => ?_)
              · have hf := ip hc12 hf
                refine V_iinc E (v := (a54_8 + (1 : Int32))) (lv' := [(0, .ref (qSe 0)), (1, .ref (qSc 0)), (3, .int p3), (4, .int u1), (5, .int u2), (6, .int u3), (7, .int a45_7), (8, .int (a54_8 + (1 : Int32)))]) 7 rfl dX6_compare_161 rfl (by decide) rfl ?_
                refine V_goto E (tgt := 54) dX6_compare_164 (by decide) ?_
                exact ih (a54_8 + (1 : Int32)) c54_se_cells c54_se_apart c54_se_surplus c54_se_gap _ hf hk
              · have hf := iq hc12 hf
                refine V_aload_n E 1 rfl dX6_compare_80 ?_
                refine V_iload_n E 2 rfl dX6_compare_81 ?_
                refine V_iload E 6 rfl dX6_compare_82 ?_
                refine V_iload E 7 rfl dX6_compare_84 ?_
                obtain ⟨u13, hu13, hf⟩ := bd hf
                refine V_frG E (wr := (gCh G qCh ch_taken ch_turn ch_drift ch_right ch_closed ch_follower ch_ahead ch_linkE ch_linkF ch_placeRight ch_placeLower ++ (gSe G qSe c54_se_cells c54_se_apart c54_se_surplus se_seamCost se_column c54_se_gap se_cost))) (ws' := (gSc G qSc sc_columns sc_count sc_cornerChange sc_voteApart sc_dots sc_cells sc_shotX sc_shotY sc_shotColumns ++ (gCh G qCh ch_taken ch_turn ch_drift ch_right ch_closed ch_follower ch_ahead ch_linkE ch_linkF ch_placeRight ch_placeLower ++ (gSe G qSe c54_se_cells c54_se_apart c54_se_surplus se_seamCost se_column c54_se_gap se_cost)))) [0, 1, 2, 3, 4, 5] [6, 7, 8, 9, 10, 11, 12, 13, 14, 15, 16, 17, 18, 19, 20] [15, 16, 17, 18, 19, 20, 0, 1, 2, 3, 4, 5, 6, 7, 8, 9, 10, 11, 12, 13, 14] rfl rfl ⟨rfl, rfl, rfl, rfl⟩ rfl (Rn_V E (rest := []) mlX6_78 wd_yX5_cellAt (kSc_cellAt l G qSc p3 a45_7 a54_8 sc_columns sc_count sc_cornerChange sc_voteApart sc_dots sc_cells sc_shotX sc_shotY sc_shotColumns u13 hu13) ⟨rfl, rfl, Nat.le_of_ble_eq_true rfl, Nat.le_of_ble_eq_true rfl⟩ 0 rfl rfl rfl rfl rfl (Nat.le_of_ble_eq_true rfl) dX6_compare_86) ?_
                show V G p l e rmSe_compare s m args below meth c 10 A Q 0 0 (gSc G qSc sc_columns sc_count sc_cornerChange sc_voteApart sc_dots sc_cells sc_shotX sc_shotY sc_shotColumns ++ (gCh G qCh ch_taken ch_turn ch_drift ch_right ch_closed ch_follower ch_ahead ch_linkE ch_linkF ch_placeRight ch_placeLower ++ (gSe G qSe c54_se_cells c54_se_apart c54_se_surplus se_seamCost se_column c54_se_gap se_cost))) 89 [(0, .ref (qSe 0)), (1, .ref (qSc 0)), (3, .int p3), (4, .int u1), (5, .int u2), (6, .int u3), (7, .int a45_7), (8, .int a54_8)] [.int u13]
                refine V_aload_n E 1 rfl dX6_compare_89 ?_
                refine V_iload E 3 rfl dX6_compare_90 ?_
                refine V_iload E 6 rfl dX6_compare_92 ?_
                refine V_iload E 4 rfl dX6_compare_94 ?_
                refine V_isub E dX6_compare_96 ?_
                refine V_iload E 7 rfl dX6_compare_97 ?_
                refine V_iload E 5 rfl dX6_compare_99 ?_
                refine V_isub E dX6_compare_101 ?_
                obtain ⟨u14, hu14, hf⟩ := bd hf
                refine V_frG E (wr := (gCh G qCh ch_taken ch_turn ch_drift ch_right ch_closed ch_follower ch_ahead ch_linkE ch_linkF ch_placeRight ch_placeLower ++ (gSe G qSe c54_se_cells c54_se_apart c54_se_surplus se_seamCost se_column c54_se_gap se_cost))) (ws' := (gSc G qSc sc_columns sc_count sc_cornerChange sc_voteApart sc_dots sc_cells sc_shotX sc_shotY sc_shotColumns ++ (gCh G qCh ch_taken ch_turn ch_drift ch_right ch_closed ch_follower ch_ahead ch_linkE ch_linkF ch_placeRight ch_placeLower ++ (gSe G qSe c54_se_cells c54_se_apart c54_se_surplus se_seamCost se_column c54_se_gap se_cost)))) [0, 1, 2, 3, 4, 5] [6, 7, 8, 9, 10, 11, 12, 13, 14, 15, 16, 17, 18, 19, 20] [15, 16, 17, 18, 19, 20, 0, 1, 2, 3, 4, 5, 6, 7, 8, 9, 10, 11, 12, 13, 14] rfl rfl ⟨rfl, rfl, rfl, rfl⟩ rfl (Rn_V E (rest := [.int u13]) mlX6_78 wd_yX5_cellAt (kSc_cellAt l G qSc u1 (a45_7 - u2) (a54_8 - u3) sc_columns sc_count sc_cornerChange sc_voteApart sc_dots sc_cells sc_shotX sc_shotY sc_shotColumns u14 hu14) ⟨rfl, rfl, Nat.le_of_ble_eq_true rfl, Nat.le_of_ble_eq_true rfl⟩ 0 rfl rfl rfl rfl rfl (Nat.le_of_ble_eq_true rfl) dX6_compare_102) ?_
                show V G p l e rmSe_compare s m args below meth c 10 A Q 0 0 (gSc G qSc sc_columns sc_count sc_cornerChange sc_voteApart sc_dots sc_cells sc_shotX sc_shotY sc_shotColumns ++ (gCh G qCh ch_taken ch_turn ch_drift ch_right ch_closed ch_follower ch_ahead ch_linkE ch_linkF ch_placeRight ch_placeLower ++ (gSe G qSe c54_se_cells c54_se_apart c54_se_surplus se_seamCost se_column c54_se_gap se_cost))) 105 [(0, .ref (qSe 0)), (1, .ref (qSc 0)), (3, .int p3), (4, .int u1), (5, .int u2), (6, .int u3), (7, .int a45_7), (8, .int a54_8)] [.int u14, .int u13]
                refine V_isub E dX6_compare_105 ?_
                refine V_istore E (lv' := [(0, .ref (qSe 0)), (1, .ref (qSc 0)), (3, .int p3), (4, .int u1), (5, .int u2), (6, .int u3), (7, .int a45_7), (8, .int a54_8), (9, .int (u13 - u14))]) dX6_compare_106 (by decide) rfl ?_
                refine V_aload_n E 0 rfl dX6_compare_108 ?_
                refine gfX6_27 E 13 rfl rfl dX6_compare_109 ?_
                refine V_iload E 6 rfl dX6_compare_112 ?_
                refine V_bipush E (v := (8 : Int32)) dX6_compare_114 (by decide) ?_
                refine V_imul E dX6_compare_116 ?_
                refine V_iload E 7 rfl dX6_compare_117 ?_
                refine V_iadd E dX6_compare_119 ?_
                refine V_iload E 8 rfl dX6_compare_120 ?_
                refine V_mabs E mlX6_81 dX6_compare_122 ⟨Nat.le_of_ble_eq_true rfl, Nat.le_of_ble_eq_true rfl⟩ ?_
                obtain ⟨hi15, hf⟩ := asr_ok hf
                refine V_iast E (ws' := (gSc G qSc sc_columns sc_count sc_cornerChange sc_voteApart sc_dots sc_cells sc_shotX sc_shotY sc_shotColumns ++ (gCh G qCh ch_taken ch_turn ch_drift ch_right ch_closed ch_follower ch_ahead ch_linkE ch_linkF ch_placeRight ch_placeLower ++ (gSe G qSe c54_se_cells c54_se_apart c54_se_surplus se_seamCost se_column (upd c54_se_gap ((a45_7 * (8 : Int32)) + a54_8).toNatClampNeg (if 0 ≤ (u13 - u14) then (u13 - u14) else 0 - (u13 - u14))) se_cost)))) 19 rfl hi15 dX6_compare_125 rfl ?_
                refine V_aload_n E 0 rfl dX6_compare_126 ?_
                refine gfX6_9 E 13 rfl rfl dX6_compare_127 ?_
                refine V_iload_n E 2 rfl dX6_compare_130 ?_
                refine V_dup2 E dX6_compare_131 rfl rfl ?_
                obtain ⟨hi16, hf⟩ := asr_ok hf
                refine V_iald E 14 rfl hi16 dX6_compare_132 ?_
                refine V_iconst E (v := (1 : Int32)) dX6_compare_133 (by decide) ?_
                refine V_iadd E dX6_compare_134 ?_
                obtain ⟨hi17, hf⟩ := asr_ok hf
                refine V_iast E (ws' := (gSc G qSc sc_columns sc_count sc_cornerChange sc_voteApart sc_dots sc_cells sc_shotX sc_shotY sc_shotColumns ++ (gCh G qCh ch_taken ch_turn ch_drift ch_right ch_closed ch_follower ch_ahead ch_linkE ch_linkF ch_placeRight ch_placeLower ++ (gSe G qSe (upd c54_se_cells p3.toNatClampNeg ((c54_se_cells p3.toNatClampNeg) + (1 : Int32))) c54_se_apart c54_se_surplus se_seamCost se_column (upd c54_se_gap ((a45_7 * (8 : Int32)) + a54_8).toNatClampNeg (if 0 ≤ (u13 - u14) then (u13 - u14) else 0 - (u13 - u14))) se_cost)))) 14 rfl hi17 dX6_compare_135 rfl ?_
                refine V_aload_n E 0 rfl dX6_compare_136 ?_
                refine gfX6_15 E 13 rfl rfl dX6_compare_137 ?_
                refine V_iload_n E 2 rfl dX6_compare_140 ?_
                refine V_dup2 E dX6_compare_141 rfl rfl ?_
                obtain ⟨hi18, hf⟩ := asr_ok hf
                refine V_iald E 15 rfl hi18 dX6_compare_142 ?_
                refine V_iload E 8 rfl dX6_compare_143 ?_
                refine V_mabs E mlX6_81 dX6_compare_145 ⟨Nat.le_of_ble_eq_true rfl, Nat.le_of_ble_eq_true rfl⟩ ?_
                refine V_iadd E dX6_compare_148 ?_
                obtain ⟨hi19, hf⟩ := asr_ok hf
                refine V_iast E (ws' := (gSc G qSc sc_columns sc_count sc_cornerChange sc_voteApart sc_dots sc_cells sc_shotX sc_shotY sc_shotColumns ++ (gCh G qCh ch_taken ch_turn ch_drift ch_right ch_closed ch_follower ch_ahead ch_linkE ch_linkF ch_placeRight ch_placeLower ++ (gSe G qSe (upd c54_se_cells p3.toNatClampNeg ((c54_se_cells p3.toNatClampNeg) + (1 : Int32))) (upd c54_se_apart p3.toNatClampNeg ((c54_se_apart p3.toNatClampNeg) + (if 0 ≤ (u13 - u14) then (u13 - u14) else 0 - (u13 - u14)))) c54_se_surplus se_seamCost se_column (upd c54_se_gap ((a45_7 * (8 : Int32)) + a54_8).toNatClampNeg (if 0 ≤ (u13 - u14) then (u13 - u14) else 0 - (u13 - u14))) se_cost)))) 15 rfl hi19 dX6_compare_149 rfl ?_
                refine V_aload_n E 0 rfl dX6_compare_150 ?_
                refine gfX6_18 E 13 rfl rfl dX6_compare_151 ?_
                refine V_iload_n E 2 rfl dX6_compare_154 ?_
                refine V_dup2 E dX6_compare_155 rfl rfl ?_
                obtain ⟨hi20, hf⟩ := asr_ok hf
                refine V_iald E 16 rfl hi20 dX6_compare_156 ?_
                refine V_iload E 8 rfl dX6_compare_157 ?_
                refine V_iadd E dX6_compare_159 ?_
                obtain ⟨hi21, hf⟩ := asr_ok hf
                refine V_iast E (ws' := (gSc G qSc sc_columns sc_count sc_cornerChange sc_voteApart sc_dots sc_cells sc_shotX sc_shotY sc_shotColumns ++ (gCh G qCh ch_taken ch_turn ch_drift ch_right ch_closed ch_follower ch_ahead ch_linkE ch_linkF ch_placeRight ch_placeLower ++ (gSe G qSe (upd c54_se_cells p3.toNatClampNeg ((c54_se_cells p3.toNatClampNeg) + (1 : Int32))) (upd c54_se_apart p3.toNatClampNeg ((c54_se_apart p3.toNatClampNeg) + (if 0 ≤ (u13 - u14) then (u13 - u14) else 0 - (u13 - u14)))) (upd c54_se_surplus p3.toNatClampNeg ((c54_se_surplus p3.toNatClampNeg) + (u13 - u14))) se_seamCost se_column (upd c54_se_gap ((a45_7 * (8 : Int32)) + a54_8).toNatClampNeg (if 0 ≤ (u13 - u14) then (u13 - u14) else 0 - (u13 - u14))) se_cost)))) 16 rfl hi21 dX6_compare_160 rfl ?_
                refine V_iinc E (v := (a54_8 + (1 : Int32))) (lv' := [(0, .ref (qSe 0)), (1, .ref (qSc 0)), (3, .int p3), (4, .int u1), (5, .int u2), (6, .int u3), (7, .int a45_7), (8, .int (a54_8 + (1 : Int32))), (9, .int (u13 - u14))]) 7 rfl dX6_compare_161 rfl (by decide) rfl ?_
                refine V_goto E (tgt := 54) dX6_compare_164 (by decide) ?_
                refine V_sub [0, 1, 2, 3, 4, 5, 6, 7] rfl ?_
                exact ih (a54_8 + (1 : Int32)) (upd c54_se_cells p3.toNatClampNeg ((c54_se_cells p3.toNatClampNeg) + (1 : Int32))) (upd c54_se_apart p3.toNatClampNeg ((c54_se_apart p3.toNatClampNeg) + (if 0 ≤ (u13 - u14) then (u13 - u14) else 0 - (u13 - u14)))) (upd c54_se_surplus p3.toNatClampNeg ((c54_se_surplus p3.toNatClampNeg) + (u13 - u14))) (upd c54_se_gap ((a45_7 * (8 : Int32)) + a54_8).toNatClampNeg (if 0 ≤ (u13 - u14) then (u13 - u14) else 0 - (u13 - u14))) _ hf hk
        obtain ⟨u9, hu9, hf⟩ := bd hf
        refine L54 FU (0 : Int32) c45_se_cells c45_se_apart c45_se_surplus c45_se_gap u9 hu9 ?_
        refine V_iinc E (v := (a45_7 + (1 : Int32))) (lv' := [(0, .ref (qSe 0)), (1, .ref (qSc 0)), (3, .int p3), (4, .int u1), (5, .int u2), (6, .int u3), (7, .int (a45_7 + (1 : Int32)))]) 6 rfl dX6_compare_167 rfl (by decide) rfl ?_
        refine V_goto E (tgt := 45) dX6_compare_170 (by decide) ?_
        exact ih (a45_7 + (1 : Int32)) u9.1 u9.2.1 u9.2.2.1 u9.2.2.2 _ hf hk
  refine V_sub [0, 1, 3, 4, 5, 6, 7] rfl ?_
  obtain ⟨u7, hu7, hf⟩ := bd hf
  refine L45 FU (0 : Int32) (upd se_cells p3.toNatClampNeg (0 : Int32)) (upd se_apart p3.toNatClampNeg (0 : Int32)) (upd se_surplus p3.toNatClampNeg (0 : Int32)) se_gap u7 hu7 ?_
  have h9 := hret 173 [] dX6_compare_173
  rw [← (Option.some.inj hf)] at h9
  exact h9
abbrev rmSe_cheapest : Room := { frames := 1, cells := 0, slots := 0, locals := 25 }
theorem wd_yX6_cheapest : wdV yX6_cheapest cX6_cheapest 6 (some .int) 3 := ⟨wc_yX6_cheapest, wi_yX6_cheapest, wse_yX6_cheapest, wini_X6, by decide +kernel, by decide +kernel, by decide +kernel⟩
set_option maxHeartbeats 4000000 in
set_option maxRecDepth 100000 in
theorem kSe_cheapest (l : Launch) (G : wG) (qSe : Nat → Nat) (p1 : Int32) (p2 : Int32) (p3 : Int32) (se_cells : Nat → Int32) (se_apart : Nat → Int32) (se_surplus : Nat → Int32) (se_seamCost : Nat → Int32) (se_column : Nat → Int32) (se_gap : Nat → Int32) (se_cost : Nat → Int32) (o : Int32) (hf : fSe_cheapest p1 p2 p3 se_cost = some o) : Ct G l yX6_cheapest cX6_cheapest 6 (some .int) rmSe_cheapest [.ref (qSe 0), .int p1, .int p2, .int p3] (gSe G qSe se_cells se_apart se_surplus se_seamCost se_column se_gap se_cost) (some (.int o)) (gSe G qSe se_cells se_apart se_surplus se_seamCost se_column se_gap se_cost) := by
  refine Ct.ofI (by decide +kernel) (Nat.le_of_ble_eq_true rfl) (fun p e s m args below meth c A Q E hret => ?_)
  unfold fSe_cheapest at hf
  show V G p l e rmSe_cheapest s m args below meth c 6 A Q 0 0 (gSe G qSe se_cells se_apart se_surplus se_seamCost se_column se_gap se_cost) 0 [(0, .ref (qSe 0)), (1, .int p1), (2, .int p2), (3, .int p3)] []
  refine V_iconst E (v := (0 : Int32)) dX6_cheapest_0 (by decide) ?_
  refine V_bipush E (v := (7 : Int32)) dX6_cheapest_1 (by decide) ?_
  refine V_iload_n E 2 rfl dX6_cheapest_3 ?_
  refine V_mmin E mlX6_59 dX6_cheapest_4 ⟨Nat.le_of_ble_eq_true rfl, Nat.le_of_ble_eq_true rfl⟩ ?_
  refine V_mmax E mlX6_53 dX6_cheapest_7 ⟨Nat.le_of_ble_eq_true rfl, Nat.le_of_ble_eq_true rfl⟩ ?_
  obtain ⟨t1, ht1, hf⟩ := bd hf
  have ht1 := Option.some.inj ht1
  rw [ht1]
  refine V_istore E (lv' := [(0, .ref (qSe 0)), (1, .int p1), (2, .int p2), (3, .int p3), (4, .int t1)]) dX6_cheapest_10 (by decide) rfl ?_
  refine V_iload_n E 1 rfl dX6_cheapest_12 ?_
  refine V_iconst E (v := (0 : Int32)) dX6_cheapest_13 (by decide) ?_
  refine V_iconst E (v := (3 : Int32)) dX6_cheapest_14 (by decide) ?_
  obtain ⟨u2, hu2, hf⟩ := bd hf
  refine V_fr0 E (Rn_N E (rest := []) 5 rfl wd_yX7_within (kRi_within l G p1 (0 : Int32) (3 : Int32) u2 hu2) ⟨rfl, rfl, Nat.le_of_ble_eq_true rfl, Nat.le_of_ble_eq_true rfl⟩ rfl rfl (Nat.le_of_ble_eq_true rfl) dX6_cheapest_15) ?_
  show V G p l e rmSe_cheapest s m args below meth c 6 A Q 0 0 (gSe G qSe se_cells se_apart se_surplus se_seamCost se_column se_gap se_cost) 18 [(0, .ref (qSe 0)), (1, .int p1), (2, .int p2), (3, .int p3), (4, .int t1)] [.int u2]
  refine V_if_ne E (tgt := 24) dX6_cheapest_18 (by decide) (fun hc3 => ?_) (fun hc3 => ?_)
  · have hf := iq hc3 hf
    refine V_iload E 4 rfl dX6_cheapest_24 ?_
    refine V_iconst E (v := (1 : Int32)) dX6_cheapest_26 (by decide) ?_
    refine V_iadd E dX6_cheapest_27 ?_
    refine V_istore E (lv' := [(0, .ref (qSe 0)), (1, .int p1), (2, .int p2), (3, .int p3), (4, .int t1), (5, .int (t1 + (1 : Int32)))]) dX6_cheapest_28 (by decide) rfl ?_
    have L30 : ∀ (n : Nat) (a30_4 : Int32) (a30_5 : Int32) (u : Int32), fSe_cheapest_L30 p1 p3 se_cost n a30_4 a30_5 = some u → (V G p l e rmSe_cheapest s m args below meth c 6 A Q 0 0 (gSe G qSe se_cells se_apart se_surplus se_seamCost se_column se_gap se_cost) 80 [(4, .int u)] []) → V G p l e rmSe_cheapest s m args below meth c 6 A Q 0 0 (gSe G qSe se_cells se_apart se_surplus se_seamCost se_column se_gap se_cost) 30 [(0, .ref (qSe 0)), (1, .int p1), (3, .int p3), (4, .int a30_4), (5, .int a30_5)] [] := by
      intro n
      induction n with
      | zero =>
        intro a30_4 a30_5 u hf hk
        rw [fSe_cheapest_L30] at hf
        cases hf
      | succ n ih =>
        intro a30_4 a30_5 u hf hk
        rw [fSe_cheapest_L30] at hf
        refine V_iload E 4 rfl dX6_cheapest_30 ?_
        refine V_iload_n E 2 rfl dX6_cheapest_32 ?_
        refine V_icmp_gt E (tgt := 80) dX6_cheapest_33 (by decide) (fun hc5 => ?_) (fun hc5 => ?_)
        · have hf := ip hc5 hf
          refine V_sub [3] rfl ?_
          rw [← Option.some.inj hf] at hk
          exact hk
        · have hf := iq hc5 hf
          refine V_iload E 4 rfl dX6_cheapest_36 ?_
          refine V_bipush E (v := (8 : Int32)) dX6_cheapest_38 (by decide) ?_
          refine V_icmp_ge E (tgt := 80) dX6_cheapest_40 (by decide) (fun hc6 => ?_) (fun hc6 => ?_)
          · have hf := ip hc6 hf
            refine V_sub [3] rfl ?_
            rw [← Option.some.inj hf] at hk
            exact hk
          · have hf := iq hc6 hf
            refine V_aload_n E 0 rfl dX6_cheapest_43 ?_
            refine gfX6_30 E 0 rfl rfl dX6_cheapest_44 ?_
            refine V_iload_n E 1 rfl dX6_cheapest_47 ?_
            refine V_bipush E (v := (8 : Int32)) dX6_cheapest_48 (by decide) ?_
            refine V_imul E dX6_cheapest_50 ?_
            refine V_iload E 4 rfl dX6_cheapest_51 ?_
            refine V_iadd E dX6_cheapest_53 ?_
            obtain ⟨hi7, hf⟩ := asr_ok hf
            refine V_iald E 7 rfl hi7 dX6_cheapest_54 ?_
            refine V_aload_n E 0 rfl dX6_cheapest_55 ?_
            refine gfX6_30 E 0 rfl rfl dX6_cheapest_56 ?_
            refine V_iload_n E 1 rfl dX6_cheapest_59 ?_
            refine V_bipush E (v := (8 : Int32)) dX6_cheapest_60 (by decide) ?_
            refine V_imul E dX6_cheapest_62 ?_
            refine V_iload E 3 rfl dX6_cheapest_63 ?_
            refine V_iadd E dX6_cheapest_65 ?_
            obtain ⟨hi8, hf⟩ := asr_ok hf
            refine V_iald E 7 rfl hi8 dX6_cheapest_66 ?_
            refine V_icmp_ge E (tgt := 74) dX6_cheapest_67 (by decide) (fun hc9 => ?_) (fun hc9 => ?_)
            · have hf := ip hc9 hf
              refine V_iinc E (v := (a30_5 + (1 : Int32))) (lv' := [(0, .ref (qSe 0)), (1, .int p1), (3, .int p3), (4, .int a30_4), (5, .int (a30_5 + (1 : Int32)))]) 4 rfl dX6_cheapest_74 rfl (by decide) rfl ?_
              refine V_goto E (tgt := 30) dX6_cheapest_77 (by decide) ?_
              exact ih a30_4 (a30_5 + (1 : Int32)) _ hf hk
            · have hf := iq hc9 hf
              refine V_iload E 4 rfl dX6_cheapest_70 ?_
              refine V_istore E (lv' := [(0, .ref (qSe 0)), (1, .int p1), (3, .int p3), (4, .int a30_5), (5, .int a30_5)]) dX6_cheapest_72 (by decide) rfl ?_
              refine V_iinc E (v := (a30_5 + (1 : Int32))) (lv' := [(0, .ref (qSe 0)), (1, .int p1), (3, .int p3), (4, .int a30_5), (5, .int (a30_5 + (1 : Int32)))]) 4 rfl dX6_cheapest_74 rfl (by decide) rfl ?_
              refine V_goto E (tgt := 30) dX6_cheapest_77 (by decide) ?_
              exact ih a30_5 (a30_5 + (1 : Int32)) _ hf hk
    refine V_sub [0, 1, 3, 4, 5] rfl ?_
    obtain ⟨u4, hu4, hf⟩ := bd hf
    refine L30 FU t1 (t1 + (1 : Int32)) u4 hu4 ?_
    refine V_iload E 0 rfl dX6_cheapest_80 ?_
    have h9 := hret 82 [(4, .int u4)] dX6_cheapest_82
    rw [← (Option.some.inj hf)] at h9
    exact h9
  · have hf := ip hc3 hf
    refine V_iload E 4 rfl dX6_cheapest_21 ?_
    have h9 := hret 23 [(0, .ref (qSe 0)), (1, .int p1), (2, .int p2), (3, .int p3), (4, .int t1)] dX6_cheapest_23
    rw [← (Option.some.inj hf)] at h9
    exact h9
abbrev rmSe_follow : Room := { frames := 2, cells := 0, slots := 0, locals := 50 }
theorem wd_yX6_follow : wdV yX6_follow cX6_follow 9 none 4 := ⟨wc_yX6_follow, wi_yX6_follow, wse_yX6_follow, wini_X6, by decide +kernel, by decide +kernel, by decide +kernel⟩
set_option maxHeartbeats 4000000 in
set_option maxRecDepth 100000 in
theorem kSe_follow (l : Launch) (G : wG) (qSe : Nat → Nat) (p1 : Int32) (p2 : Int32) (p3 : Int32) (p4 : Int32) (se_cells : Nat → Int32) (se_apart : Nat → Int32) (se_surplus : Nat → Int32) (se_seamCost : Nat → Int32) (se_column : Nat → Int32) (se_gap : Nat → Int32) (se_cost : Nat → Int32) (o : (Nat → Int32) × (Nat → Int32)) (hf : fSe_follow p1 p2 p3 p4 se_seamCost se_column se_gap se_cost = some o) : Ct G l yX6_follow cX6_follow 9 none rmSe_follow [.ref (qSe 0), .int p1, .int p2, .int p3, .int p4] (gSe G qSe se_cells se_apart se_surplus se_seamCost se_column se_gap se_cost) none (gSe G qSe se_cells se_apart se_surplus o.1 o.2 se_gap se_cost) := by
  refine Ct.ofV (by decide +kernel) (Nat.le_of_ble_eq_true rfl) (fun p e s m args below meth c A Q E hret => ?_)
  unfold fSe_follow at hf
  show V G p l e rmSe_follow s m args below meth c 9 A Q 0 0 (gSe G qSe se_cells se_apart se_surplus se_seamCost se_column se_gap se_cost) 0 [(0, .ref (qSe 0)), (1, .int p1), (2, .int p2), (3, .int p3), (4, .int p4)] []
  refine V_aload_n E 0 rfl dX6_follow_0 ?_
  refine gfX6_21 E 0 rfl rfl dX6_follow_1 ?_
  refine V_iload_n E 1 rfl dX6_follow_4 ?_
  refine V_iconst E (v := (0 : Int32)) dX6_follow_5 (by decide) ?_
  obtain ⟨hi1, hf⟩ := asr_ok hf
  refine V_iast E (ws' := (gSe G qSe se_cells se_apart se_surplus (upd se_seamCost p1.toNatClampNeg (0 : Int32)) se_column se_gap se_cost)) 4 rfl hi1 dX6_follow_6 rfl ?_
  refine V_iload_n E 2 rfl dX6_follow_7 ?_
  refine V_istore E (lv' := [(0, .ref (qSe 0)), (1, .int p1), (2, .int p2), (3, .int p3), (4, .int p4), (5, .int p2)]) dX6_follow_8 (by decide) rfl ?_
  refine V_bipush E (v := (7 : Int32)) dX6_follow_10 (by decide) ?_
  refine V_istore E (lv' := [(0, .ref (qSe 0)), (1, .int p1), (2, .int p2), (3, .int p3), (4, .int p4), (5, .int p2), (6, .int (7 : Int32))]) dX6_follow_12 (by decide) rfl ?_
  refine V_iload_n E 3 rfl dX6_follow_14 ?_
  refine V_istore E (lv' := [(0, .ref (qSe 0)), (1, .int p1), (2, .int p2), (3, .int p3), (4, .int p4), (5, .int p2), (6, .int (7 : Int32)), (7, .int p3)]) dX6_follow_15 (by decide) rfl ?_
  have L17 : ∀ (n : Nat) (a17_5 : Int32) (a17_6 : Int32) (a17_7 : Int32) (c17_se_seamCost : Nat → Int32) (c17_se_column : Nat → Int32) (u : (Nat → Int32) × (Nat → Int32)), fSe_follow_L17 p1 p2 p4 se_gap se_cost n a17_5 a17_6 a17_7 c17_se_seamCost c17_se_column = some u → (V G p l e rmSe_follow s m args below meth c 9 A Q 0 0 (gSe G qSe se_cells se_apart se_surplus u.1 u.2 se_gap se_cost) 93 [] []) → V G p l e rmSe_follow s m args below meth c 9 A Q 0 0 (gSe G qSe se_cells se_apart se_surplus c17_se_seamCost c17_se_column se_gap se_cost) 17 [(0, .ref (qSe 0)), (1, .int p1), (2, .int p2), (4, .int p4), (5, .int a17_5), (6, .int a17_6), (7, .int a17_7)] [] := by
    intro n
    induction n with
    | zero =>
      intro a17_5 a17_6 a17_7 c17_se_seamCost c17_se_column u hf hk
      rw [fSe_follow_L17] at hf
      cases hf
    | succ n ih =>
      intro a17_5 a17_6 a17_7 c17_se_seamCost c17_se_column u hf hk
      rw [fSe_follow_L17] at hf
      refine V_iload E 6 rfl dX6_follow_17 ?_
      refine V_iload E 3 rfl dX6_follow_19 ?_
      refine V_icmp_gt E (tgt := 93) dX6_follow_21 (by decide) (fun hc3 => ?_) (fun hc3 => ?_)
      · have hf := ip hc3 hf
        refine V_sub [] rfl ?_
        rw [← Option.some.inj hf] at hk
        exact hk
      · have hf := iq hc3 hf
        refine V_aload_n E 0 rfl dX6_follow_24 ?_
        refine V_iload E 6 rfl dX6_follow_25 ?_
        refine V_iload E 4 rfl dX6_follow_27 ?_
        refine V_iload E 5 rfl dX6_follow_29 ?_
        obtain ⟨u4, hu4, hf⟩ := bd hf
        refine V_frW E (Rn_V E (rest := []) mlX6_65 wd_yX6_cheapest (kSe_cheapest l G qSe a17_7 a17_5 a17_6 se_cells se_apart se_surplus c17_se_seamCost c17_se_column se_gap se_cost u4 hu4) ⟨rfl, rfl, Nat.le_of_ble_eq_true rfl, Nat.le_of_ble_eq_true rfl⟩ 0 rfl rfl rfl rfl rfl (Nat.le_of_ble_eq_true rfl) dX6_follow_31) ?_
        show V G p l e rmSe_follow s m args below meth c 9 A Q 0 0 (gSe G qSe se_cells se_apart se_surplus c17_se_seamCost c17_se_column se_gap se_cost) 34 [(0, .ref (qSe 0)), (1, .int p1), (2, .int p2), (4, .int p4), (5, .int a17_5), (6, .int a17_6), (7, .int a17_7)] [.int u4]
        refine V_istore E (lv' := [(0, .ref (qSe 0)), (1, .int p1), (2, .int p2), (4, .int p4), (5, .int a17_5), (6, .int a17_6), (7, .int a17_7), (8, .int u4)]) dX6_follow_34 (by decide) rfl ?_
        refine V_aload_n E 0 rfl dX6_follow_36 ?_
        refine gfX6_24 E 0 rfl rfl dX6_follow_37 ?_
        refine V_iload_n E 1 rfl dX6_follow_40 ?_
        refine V_iconst E (v := (4 : Int32)) dX6_follow_41 (by decide) ?_
        refine V_imul E dX6_follow_42 ?_
        refine V_iload E 6 rfl dX6_follow_43 ?_
        refine V_iadd E dX6_follow_45 ?_
        refine V_iload E 7 rfl dX6_follow_46 ?_
        obtain ⟨hi5, hf⟩ := asr_ok hf
        refine V_iast E (ws' := (gSe G qSe se_cells se_apart se_surplus c17_se_seamCost (upd c17_se_column ((p1 * (4 : Int32)) + a17_7).toNatClampNeg u4) se_gap se_cost)) 5 rfl hi5 dX6_follow_48 rfl ?_
        refine V_aload_n E 0 rfl dX6_follow_49 ?_
        refine gfX6_21 E 0 rfl rfl dX6_follow_50 ?_
        refine V_iload_n E 1 rfl dX6_follow_53 ?_
        refine V_dup2 E dX6_follow_54 rfl rfl ?_
        obtain ⟨hi6, hf⟩ := asr_ok hf
        refine V_iald E 4 rfl hi6 dX6_follow_55 ?_
        refine V_aload_n E 0 rfl dX6_follow_56 ?_
        refine gfX6_27 E 0 rfl rfl dX6_follow_57 ?_
        refine V_iload E 6 rfl dX6_follow_60 ?_
        refine V_bipush E (v := (8 : Int32)) dX6_follow_62 (by decide) ?_
        refine V_imul E dX6_follow_64 ?_
        refine V_iload E 7 rfl dX6_follow_65 ?_
        refine V_iadd E dX6_follow_67 ?_
        obtain ⟨hi7, hf⟩ := asr_ok hf
        refine V_iald E 6 rfl hi7 dX6_follow_68 ?_
        refine V_iadd E dX6_follow_69 ?_
        obtain ⟨hi8, hf⟩ := asr_ok hf
        refine V_iast E (ws' := (gSe G qSe se_cells se_apart se_surplus (upd c17_se_seamCost p1.toNatClampNeg ((c17_se_seamCost p1.toNatClampNeg) + (se_gap ((a17_7 * (8 : Int32)) + u4).toNatClampNeg))) (upd c17_se_column ((p1 * (4 : Int32)) + a17_7).toNatClampNeg u4) se_gap se_cost)) 4 rfl hi8 dX6_follow_70 rfl ?_
        refine V_iload_n E 2 rfl dX6_follow_71 ?_
        refine V_iload E 7 rfl dX6_follow_72 ?_
        refine V_iconst E (v := (1 : Int32)) dX6_follow_74 (by decide) ?_
        refine V_isub E dX6_follow_75 ?_
        refine V_mmax E mlX6_53 dX6_follow_76 ⟨Nat.le_of_ble_eq_true rfl, Nat.le_of_ble_eq_true rfl⟩ ?_
        obtain ⟨t9, ht9, hf⟩ := bd hf
        have ht9 := Option.some.inj ht9
        rw [ht9]
        refine V_istore E (lv' := [(0, .ref (qSe 0)), (1, .int p1), (2, .int p2), (4, .int p4), (5, .int t9), (6, .int a17_6), (7, .int a17_7), (8, .int u4)]) dX6_follow_79 (by decide) rfl ?_
        refine V_iload E 7 rfl dX6_follow_81 ?_
        refine V_iconst E (v := (1 : Int32)) dX6_follow_83 (by decide) ?_
        refine V_iadd E dX6_follow_84 ?_
        refine V_istore E (lv' := [(0, .ref (qSe 0)), (1, .int p1), (2, .int p2), (4, .int p4), (5, .int t9), (6, .int (u4 + (1 : Int32))), (7, .int a17_7), (8, .int u4)]) dX6_follow_85 (by decide) rfl ?_
        refine V_iinc E (v := (a17_7 + (1 : Int32))) (lv' := [(0, .ref (qSe 0)), (1, .int p1), (2, .int p2), (4, .int p4), (5, .int t9), (6, .int (u4 + (1 : Int32))), (7, .int (a17_7 + (1 : Int32))), (8, .int u4)]) 6 rfl dX6_follow_87 rfl (by decide) rfl ?_
        refine V_goto E (tgt := 17) dX6_follow_90 (by decide) ?_
        refine V_sub [0, 1, 2, 3, 4, 5, 6] rfl ?_
        exact ih t9 (u4 + (1 : Int32)) (a17_7 + (1 : Int32)) (upd c17_se_seamCost p1.toNatClampNeg ((c17_se_seamCost p1.toNatClampNeg) + (se_gap ((a17_7 * (8 : Int32)) + u4).toNatClampNeg))) (upd c17_se_column ((p1 * (4 : Int32)) + a17_7).toNatClampNeg u4) _ hf hk
  refine V_sub [0, 1, 2, 4, 5, 6, 7] rfl ?_
  obtain ⟨u2, hu2, hf⟩ := bd hf
  refine L17 FU p2 (7 : Int32) p3 (upd se_seamCost p1.toNatClampNeg (0 : Int32)) se_column u2 hu2 ?_
  have h9 := hret 93 [] dX6_follow_93
  rw [← (Option.some.inj hf)] at h9
  exact h9
abbrev rmSe_cutOne : Room := { frames := 3, cells := 0, slots := 0, locals := 78 }
theorem wd_yX6_cutOne : wdV yX6_cutOne cX6_cutOne 11 none 3 := ⟨wc_yX6_cutOne, wi_yX6_cutOne, wse_yX6_cutOne, wini_X6, by decide +kernel, by decide +kernel, by decide +kernel⟩
set_option maxHeartbeats 4000000 in
set_option maxRecDepth 100000 in
theorem kSe_cutOne (l : Launch) (G : wG) (qSc : Nat → Nat) (qCh : Nat → Nat) (qSe : Nat → Nat) (p3 : Int32) (sc_columns : Int32) (sc_count : Int32) (sc_cornerChange : Int32) (sc_voteApart : Int32) (sc_dots : Nat → Int32) (sc_cells : Nat → Int32) (sc_shotX : Nat → Int32) (sc_shotY : Nat → Int32) (sc_shotColumns : Nat → Int32) (ch_taken : Int32) (ch_turn : Int32) (ch_drift : Int32) (ch_right : Int32) (ch_closed : Int32) (ch_follower : Nat → Int32) (ch_ahead : Nat → Int32) (ch_linkE : Nat → Int32) (ch_linkF : Nat → Int32) (ch_placeRight : Nat → Int32) (ch_placeLower : Nat → Int32) (se_cells : Nat → Int32) (se_apart : Nat → Int32) (se_surplus : Nat → Int32) (se_seamCost : Nat → Int32) (se_column : Nat → Int32) (se_gap : Nat → Int32) (se_cost : Nat → Int32) (o : (Nat → Int32) × (Nat → Int32) × (Nat → Int32) × (Nat → Int32) × (Nat → Int32) × (Nat → Int32) × (Nat → Int32)) (hf : fSe_cutOne p3 sc_count sc_cells ch_follower ch_linkE ch_linkF se_cells se_apart se_surplus se_seamCost se_column se_gap se_cost = some o) : Ct G l yX6_cutOne cX6_cutOne 11 none rmSe_cutOne [.ref (qSe 0), .ref (qSc 0), .ref (qCh 0), .int p3] (gSc G qSc sc_columns sc_count sc_cornerChange sc_voteApart sc_dots sc_cells sc_shotX sc_shotY sc_shotColumns ++ (gCh G qCh ch_taken ch_turn ch_drift ch_right ch_closed ch_follower ch_ahead ch_linkE ch_linkF ch_placeRight ch_placeLower ++ (gSe G qSe se_cells se_apart se_surplus se_seamCost se_column se_gap se_cost))) none (gSc G qSc sc_columns sc_count sc_cornerChange sc_voteApart sc_dots sc_cells sc_shotX sc_shotY sc_shotColumns ++ (gCh G qCh ch_taken ch_turn ch_drift ch_right ch_closed ch_follower ch_ahead ch_linkE ch_linkF ch_placeRight ch_placeLower ++ (gSe G qSe o.1 o.2.1 o.2.2.1 o.2.2.2.1 o.2.2.2.2.1 o.2.2.2.2.2.1 o.2.2.2.2.2.2))) := by
  refine Ct.ofV (by decide +kernel) (Nat.le_of_ble_eq_true rfl) (fun p e s m args below meth c A Q E hret => ?_)
  unfold fSe_cutOne at hf
  show V G p l e rmSe_cutOne s m args below meth c 11 A Q 0 0 (gSc G qSc sc_columns sc_count sc_cornerChange sc_voteApart sc_dots sc_cells sc_shotX sc_shotY sc_shotColumns ++ (gCh G qCh ch_taken ch_turn ch_drift ch_right ch_closed ch_follower ch_ahead ch_linkE ch_linkF ch_placeRight ch_placeLower ++ (gSe G qSe se_cells se_apart se_surplus se_seamCost se_column se_gap se_cost))) 0 [(0, .ref (qSe 0)), (1, .ref (qSc 0)), (2, .ref (qCh 0)), (3, .int p3)] []
  refine V_aload_n E 2 rfl dX6_cutOne_0 ?_
  refine V_iload_n E 3 rfl dX6_cutOne_1 ?_
  obtain ⟨u1, hu1, hf⟩ := bd hf
  refine V_frG E (wr := (gSc G qSc sc_columns sc_count sc_cornerChange sc_voteApart sc_dots sc_cells sc_shotX sc_shotY sc_shotColumns ++ (gSe G qSe se_cells se_apart se_surplus se_seamCost se_column se_gap se_cost))) (ws' := (gSc G qSc sc_columns sc_count sc_cornerChange sc_voteApart sc_dots sc_cells sc_shotX sc_shotY sc_shotColumns ++ (gCh G qCh ch_taken ch_turn ch_drift ch_right ch_closed ch_follower ch_ahead ch_linkE ch_linkF ch_placeRight ch_placeLower ++ (gSe G qSe se_cells se_apart se_surplus se_seamCost se_column se_gap se_cost)))) [6, 7, 8, 9, 10, 11, 12] [0, 1, 2, 3, 4, 5, 13, 14, 15, 16, 17, 18, 19, 20] [0, 1, 2, 3, 4, 5, 14, 15, 16, 17, 18, 19, 20, 6, 7, 8, 9, 10, 11, 12, 13] rfl rfl ⟨rfl, rfl, rfl, rfl⟩ rfl (Rn_V E (rest := []) mlX6_47 wd_yX0_shiftE (kCh_shiftE l G qCh p3 ch_taken ch_turn ch_drift ch_right ch_closed ch_follower ch_ahead ch_linkE ch_linkF ch_placeRight ch_placeLower u1 hu1) ⟨rfl, rfl, Nat.le_of_ble_eq_true rfl, Nat.le_of_ble_eq_true rfl⟩ 0 rfl rfl rfl rfl rfl (Nat.le_of_ble_eq_true rfl) dX6_cutOne_2) ?_
  show V G p l e rmSe_cutOne s m args below meth c 11 A Q 0 0 (gSc G qSc sc_columns sc_count sc_cornerChange sc_voteApart sc_dots sc_cells sc_shotX sc_shotY sc_shotColumns ++ (gCh G qCh ch_taken ch_turn ch_drift ch_right ch_closed ch_follower ch_ahead ch_linkE ch_linkF ch_placeRight ch_placeLower ++ (gSe G qSe se_cells se_apart se_surplus se_seamCost se_column se_gap se_cost))) 5 [(0, .ref (qSe 0)), (1, .ref (qSc 0)), (2, .ref (qCh 0)), (3, .int p3)] [.int u1]
  refine V_istore E (lv' := [(0, .ref (qSe 0)), (1, .ref (qSc 0)), (2, .ref (qCh 0)), (3, .int p3), (4, .int u1)]) dX6_cutOne_5 (by decide) rfl ?_
  refine V_aload_n E 2 rfl dX6_cutOne_7 ?_
  refine V_iload_n E 3 rfl dX6_cutOne_8 ?_
  obtain ⟨u2, hu2, hf⟩ := bd hf
  refine V_frG E (wr := (gSc G qSc sc_columns sc_count sc_cornerChange sc_voteApart sc_dots sc_cells sc_shotX sc_shotY sc_shotColumns ++ (gSe G qSe se_cells se_apart se_surplus se_seamCost se_column se_gap se_cost))) (ws' := (gSc G qSc sc_columns sc_count sc_cornerChange sc_voteApart sc_dots sc_cells sc_shotX sc_shotY sc_shotColumns ++ (gCh G qCh ch_taken ch_turn ch_drift ch_right ch_closed ch_follower ch_ahead ch_linkE ch_linkF ch_placeRight ch_placeLower ++ (gSe G qSe se_cells se_apart se_surplus se_seamCost se_column se_gap se_cost)))) [6, 7, 8, 9, 10, 11, 12] [0, 1, 2, 3, 4, 5, 13, 14, 15, 16, 17, 18, 19, 20] [0, 1, 2, 3, 4, 5, 14, 15, 16, 17, 18, 19, 20, 6, 7, 8, 9, 10, 11, 12, 13] rfl rfl ⟨rfl, rfl, rfl, rfl⟩ rfl (Rn_V E (rest := []) mlX6_50 wd_yX0_shiftF (kCh_shiftF l G qCh p3 ch_taken ch_turn ch_drift ch_right ch_closed ch_follower ch_ahead ch_linkE ch_linkF ch_placeRight ch_placeLower u2 hu2) ⟨rfl, rfl, Nat.le_of_ble_eq_true rfl, Nat.le_of_ble_eq_true rfl⟩ 0 rfl rfl rfl rfl rfl (Nat.le_of_ble_eq_true rfl) dX6_cutOne_9) ?_
  show V G p l e rmSe_cutOne s m args below meth c 11 A Q 0 0 (gSc G qSc sc_columns sc_count sc_cornerChange sc_voteApart sc_dots sc_cells sc_shotX sc_shotY sc_shotColumns ++ (gCh G qCh ch_taken ch_turn ch_drift ch_right ch_closed ch_follower ch_ahead ch_linkE ch_linkF ch_placeRight ch_placeLower ++ (gSe G qSe se_cells se_apart se_surplus se_seamCost se_column se_gap se_cost))) 12 [(0, .ref (qSe 0)), (1, .ref (qSc 0)), (2, .ref (qCh 0)), (3, .int p3), (4, .int u1)] [.int u2]
  refine V_istore E (lv' := [(0, .ref (qSe 0)), (1, .ref (qSc 0)), (2, .ref (qCh 0)), (3, .int p3), (4, .int u1), (5, .int u2)]) dX6_cutOne_12 (by decide) rfl ?_
  refine V_iconst E (v := (0 : Int32)) dX6_cutOne_14 (by decide) ?_
  refine V_iload E 4 rfl dX6_cutOne_15 ?_
  refine V_mmax E mlX6_53 dX6_cutOne_17 ⟨Nat.le_of_ble_eq_true rfl, Nat.le_of_ble_eq_true rfl⟩ ?_
  obtain ⟨t3, ht3, hf⟩ := bd hf
  have ht3 := Option.some.inj ht3
  rw [ht3]
  refine V_istore E (lv' := [(0, .ref (qSe 0)), (1, .ref (qSc 0)), (2, .ref (qCh 0)), (3, .int p3), (4, .int u1), (5, .int u2), (6, .int t3)]) dX6_cutOne_20 (by decide) rfl ?_
  refine V_iconst E (v := (3 : Int32)) dX6_cutOne_22 (by decide) ?_
  refine V_iconst E (v := (3 : Int32)) dX6_cutOne_23 (by decide) ?_
  refine V_iload E 4 rfl dX6_cutOne_24 ?_
  refine V_iadd E dX6_cutOne_26 ?_
  refine V_mmin E mlX6_59 dX6_cutOne_27 ⟨Nat.le_of_ble_eq_true rfl, Nat.le_of_ble_eq_true rfl⟩ ?_
  obtain ⟨t4, ht4, hf⟩ := bd hf
  have ht4 := Option.some.inj ht4
  rw [ht4]
  refine V_istore E (lv' := [(0, .ref (qSe 0)), (1, .ref (qSc 0)), (2, .ref (qCh 0)), (3, .int p3), (4, .int u1), (5, .int u2), (6, .int t3), (7, .int t4)]) dX6_cutOne_30 (by decide) rfl ?_
  refine V_aload_n E 0 rfl dX6_cutOne_32 ?_
  refine V_aload_n E 1 rfl dX6_cutOne_33 ?_
  refine V_aload_n E 2 rfl dX6_cutOne_34 ?_
  refine V_iload_n E 3 rfl dX6_cutOne_35 ?_
  obtain ⟨u5, hu5, hf⟩ := bd hf
  refine V_frW E (Rn_V E (rest := []) mlX6_62 wd_yX6_compare (kSe_compare l G qSc qCh qSe p3 sc_columns sc_count sc_cornerChange sc_voteApart sc_dots sc_cells sc_shotX sc_shotY sc_shotColumns ch_taken ch_turn ch_drift ch_right ch_closed ch_follower ch_ahead ch_linkE ch_linkF ch_placeRight ch_placeLower se_cells se_apart se_surplus se_seamCost se_column se_gap se_cost u5 hu5) ⟨rfl, rfl, Nat.le_of_ble_eq_true rfl, Nat.le_of_ble_eq_true rfl⟩ 13 rfl rfl rfl rfl rfl (Nat.le_of_ble_eq_true rfl) dX6_cutOne_36) ?_
  show V G p l e rmSe_cutOne s m args below meth c 11 A Q 0 0 (gSc G qSc sc_columns sc_count sc_cornerChange sc_voteApart sc_dots sc_cells sc_shotX sc_shotY sc_shotColumns ++ (gCh G qCh ch_taken ch_turn ch_drift ch_right ch_closed ch_follower ch_ahead ch_linkE ch_linkF ch_placeRight ch_placeLower ++ (gSe G qSe u5.1 u5.2.1 u5.2.2.1 se_seamCost se_column u5.2.2.2 se_cost))) 39 [(0, .ref (qSe 0)), (1, .ref (qSc 0)), (2, .ref (qCh 0)), (3, .int p3), (4, .int u1), (5, .int u2), (6, .int t3), (7, .int t4)] []
  refine V_iload E 7 rfl dX6_cutOne_39 ?_
  refine V_istore E (lv' := [(0, .ref (qSe 0)), (1, .ref (qSc 0)), (2, .ref (qCh 0)), (3, .int p3), (4, .int u1), (5, .int u2), (6, .int t3), (7, .int t4), (8, .int t4)]) dX6_cutOne_41 (by decide) rfl ?_
  have L43 : ∀ (n : Nat) (a43_8 : Int32) (c43_se_cost : Nat → Int32) (u : (Nat → Int32)), fSe_cutOne_L43 u2 t3 t4 u5.2.2.2 n a43_8 c43_se_cost = some u → (V G p l e rmSe_cutOne s m args below meth c 11 A Q 0 0 (gSc G qSc sc_columns sc_count sc_cornerChange sc_voteApart sc_dots sc_cells sc_shotX sc_shotY sc_shotColumns ++ (gCh G qCh ch_taken ch_turn ch_drift ch_right ch_closed ch_follower ch_ahead ch_linkE ch_linkF ch_placeRight ch_placeLower ++ (gSe G qSe u5.1 u5.2.1 u5.2.2.1 se_seamCost se_column u5.2.2.2 u))) 164 [(0, .ref (qSe 0)), (3, .int p3), (5, .int u2), (6, .int t3), (7, .int t4)] []) → V G p l e rmSe_cutOne s m args below meth c 11 A Q 0 0 (gSc G qSc sc_columns sc_count sc_cornerChange sc_voteApart sc_dots sc_cells sc_shotX sc_shotY sc_shotColumns ++ (gCh G qCh ch_taken ch_turn ch_drift ch_right ch_closed ch_follower ch_ahead ch_linkE ch_linkF ch_placeRight ch_placeLower ++ (gSe G qSe u5.1 u5.2.1 u5.2.2.1 se_seamCost se_column u5.2.2.2 c43_se_cost))) 43 [(0, .ref (qSe 0)), (3, .int p3), (5, .int u2), (6, .int t3), (7, .int t4), (8, .int a43_8)] [] := by
    intro n
    induction n with
    | zero =>
      intro a43_8 c43_se_cost u hf hk
      rw [fSe_cutOne_L43] at hf
      cases hf
    | succ n ih =>
      intro a43_8 c43_se_cost u hf hk
      rw [fSe_cutOne_L43] at hf
      refine V_iload E 5 rfl dX6_cutOne_43 ?_
      refine V_iload E 3 rfl dX6_cutOne_45 ?_
      refine V_icmp_lt E (tgt := 164) dX6_cutOne_47 (by decide) (fun hc7 => ?_) (fun hc7 => ?_)
      · have hf := ip hc7 hf
        refine V_sub [0, 1, 2, 3, 4] rfl ?_
        rw [← Option.some.inj hf] at hk
        exact hk
      · have hf := iq hc7 hf
        refine V_iload E 2 rfl dX6_cutOne_50 ?_
        refine V_iconst E (v := (0 : Int32)) dX6_cutOne_52 (by decide) ?_
        refine V_mmax E mlX6_53 dX6_cutOne_53 ⟨Nat.le_of_ble_eq_true rfl, Nat.le_of_ble_eq_true rfl⟩ ?_
        obtain ⟨t8, ht8, hf⟩ := bd hf
        have ht8 := Option.some.inj ht8
        rw [ht8]
        refine V_istore E (lv' := [(0, .ref (qSe 0)), (3, .int p3), (5, .int u2), (6, .int t3), (7, .int t4), (8, .int a43_8), (9, .int t8)]) dX6_cutOne_56 (by decide) rfl ?_
        have L58 : ∀ (n : Nat) (a58_9 : Int32) (c58_se_cost : Nat → Int32) (u : (Nat → Int32)), fSe_cutOne_L58 u2 t4 a43_8 u5.2.2.2 n a58_9 c58_se_cost = some u → (V G p l e rmSe_cutOne s m args below meth c 11 A Q 0 0 (gSc G qSc sc_columns sc_count sc_cornerChange sc_voteApart sc_dots sc_cells sc_shotX sc_shotY sc_shotColumns ++ (gCh G qCh ch_taken ch_turn ch_drift ch_right ch_closed ch_follower ch_ahead ch_linkE ch_linkF ch_placeRight ch_placeLower ++ (gSe G qSe u5.1 u5.2.1 u5.2.2.1 se_seamCost se_column u5.2.2.2 u))) 158 [(0, .ref (qSe 0)), (3, .int p3), (5, .int u2), (6, .int t3), (7, .int t4), (8, .int a43_8)] []) → V G p l e rmSe_cutOne s m args below meth c 11 A Q 0 0 (gSc G qSc sc_columns sc_count sc_cornerChange sc_voteApart sc_dots sc_cells sc_shotX sc_shotY sc_shotColumns ++ (gCh G qCh ch_taken ch_turn ch_drift ch_right ch_closed ch_follower ch_ahead ch_linkE ch_linkF ch_placeRight ch_placeLower ++ (gSe G qSe u5.1 u5.2.1 u5.2.2.1 se_seamCost se_column u5.2.2.2 c58_se_cost))) 58 [(0, .ref (qSe 0)), (3, .int p3), (5, .int u2), (6, .int t3), (7, .int t4), (8, .int a43_8), (9, .int a58_9)] [] := by
          intro n
          induction n with
          | zero =>
            intro a58_9 c58_se_cost u hf hk
            rw [fSe_cutOne_L58] at hf
            cases hf
          | succ n ih =>
            intro a58_9 c58_se_cost u hf hk
            rw [fSe_cutOne_L58] at hf
            refine V_iload E 6 rfl dX6_cutOne_58 ?_
            refine V_bipush E (v := (8 : Int32)) dX6_cutOne_60 (by decide) ?_
            refine V_icmp_ge E (tgt := 158) dX6_cutOne_62 (by decide) (fun hc10 => ?_) (fun hc10 => ?_)
            · have hf := ip hc10 hf
              refine V_sub [0, 1, 2, 3, 4, 5] rfl ?_
              rw [← Option.some.inj hf] at hk
              exact hk
            · have hf := iq hc10 hf
              refine V_aload_n E 0 rfl dX6_cutOne_65 ?_
              refine gfX6_30 E 13 rfl rfl dX6_cutOne_66 ?_
              refine V_iload E 5 rfl dX6_cutOne_69 ?_
              refine V_bipush E (v := (8 : Int32)) dX6_cutOne_71 (by decide) ?_
              refine V_imul E dX6_cutOne_73 ?_
              refine V_iload E 6 rfl dX6_cutOne_74 ?_
              refine V_iadd E dX6_cutOne_76 ?_
              refine V_aload_n E 0 rfl dX6_cutOne_77 ?_
              refine gfX6_27 E 13 rfl rfl dX6_cutOne_78 ?_
              refine V_iload E 5 rfl dX6_cutOne_81 ?_
              refine V_bipush E (v := (8 : Int32)) dX6_cutOne_83 (by decide) ?_
              refine V_imul E dX6_cutOne_85 ?_
              refine V_iload E 6 rfl dX6_cutOne_86 ?_
              refine V_iadd E dX6_cutOne_88 ?_
              obtain ⟨hi11, hf⟩ := asr_ok hf
              refine V_iald E 19 rfl hi11 dX6_cutOne_89 ?_
              obtain ⟨hi12, hf⟩ := asr_ok hf
              refine V_iast E (ws' := (gSc G qSc sc_columns sc_count sc_cornerChange sc_voteApart sc_dots sc_cells sc_shotX sc_shotY sc_shotColumns ++ (gCh G qCh ch_taken ch_turn ch_drift ch_right ch_closed ch_follower ch_ahead ch_linkE ch_linkF ch_placeRight ch_placeLower ++ (gSe G qSe u5.1 u5.2.1 u5.2.2.1 se_seamCost se_column u5.2.2.2 (upd c58_se_cost ((a43_8 * (8 : Int32)) + a58_9).toNatClampNeg (u5.2.2.2 ((a43_8 * (8 : Int32)) + a58_9).toNatClampNeg)))))) 20 rfl hi12 dX6_cutOne_90 rfl ?_
              refine V_iload E 5 rfl dX6_cutOne_91 ?_
              refine V_iload E 4 rfl dX6_cutOne_93 ?_
              refine V_icmp_ge E (tgt := 152) dX6_cutOne_95 (by decide) (fun hc13 => ?_) (fun hc13 => ?_)
              · have hf := ip hc13 hf
                refine V_iinc E (v := (a58_9 + (1 : Int32))) (lv' := [(0, .ref (qSe 0)), (3, .int p3), (5, .int u2), (6, .int t3), (7, .int t4), (8, .int a43_8), (9, .int (a58_9 + (1 : Int32)))]) 6 rfl dX6_cutOne_152 rfl (by decide) rfl ?_
                refine V_goto E (tgt := 58) dX6_cutOne_155 (by decide) ?_
                exact ih (a58_9 + (1 : Int32)) (upd c58_se_cost ((a43_8 * (8 : Int32)) + a58_9).toNatClampNeg (u5.2.2.2 ((a43_8 * (8 : Int32)) + a58_9).toNatClampNeg)) _ hf hk
              · have hf := iq hc13 hf
                refine V_aload_n E 0 rfl dX6_cutOne_98 ?_
                refine V_iload E 5 rfl dX6_cutOne_99 ?_
                refine V_iconst E (v := (1 : Int32)) dX6_cutOne_101 (by decide) ?_
                refine V_iadd E dX6_cutOne_102 ?_
                refine V_iload E 2 rfl dX6_cutOne_103 ?_
                refine V_iload E 6 rfl dX6_cutOne_105 ?_
                refine V_iconst E (v := (1 : Int32)) dX6_cutOne_107 (by decide) ?_
                refine V_isub E dX6_cutOne_108 ?_
                refine V_mmax E mlX6_53 dX6_cutOne_109 ⟨Nat.le_of_ble_eq_true rfl, Nat.le_of_ble_eq_true rfl⟩ ?_
                refine V_iload E 6 rfl dX6_cutOne_112 ?_
                refine V_iconst E (v := (1 : Int32)) dX6_cutOne_114 (by decide) ?_
                refine V_iadd E dX6_cutOne_115 ?_
                obtain ⟨u14, hu14, hf⟩ := bd hf
                refine V_frG E (wr := (gSc G qSc sc_columns sc_count sc_cornerChange sc_voteApart sc_dots sc_cells sc_shotX sc_shotY sc_shotColumns ++ (gCh G qCh ch_taken ch_turn ch_drift ch_right ch_closed ch_follower ch_ahead ch_linkE ch_linkF ch_placeRight ch_placeLower))) (ws' := (gSc G qSc sc_columns sc_count sc_cornerChange sc_voteApart sc_dots sc_cells sc_shotX sc_shotY sc_shotColumns ++ (gCh G qCh ch_taken ch_turn ch_drift ch_right ch_closed ch_follower ch_ahead ch_linkE ch_linkF ch_placeRight ch_placeLower ++ (gSe G qSe u5.1 u5.2.1 u5.2.2.1 se_seamCost se_column u5.2.2.2 (upd c58_se_cost ((a43_8 * (8 : Int32)) + a58_9).toNatClampNeg (u5.2.2.2 ((a43_8 * (8 : Int32)) + a58_9).toNatClampNeg)))))) [13, 14, 15, 16, 17, 18, 19, 20] [0, 1, 2, 3, 4, 5, 6, 7, 8, 9, 10, 11, 12] [0, 1, 2, 3, 4, 5, 6, 7, 8, 9, 10, 11, 12, 13, 14, 15, 16, 17, 18, 19, 20] rfl rfl ⟨rfl, rfl, rfl, rfl⟩ rfl (Rn_V E (rest := []) mlX6_65 wd_yX6_cheapest (kSe_cheapest l G qSe (a43_8 + (1 : Int32)) (if u2 < (a58_9 - (1 : Int32)) then (a58_9 - (1 : Int32)) else u2) (a58_9 + (1 : Int32)) u5.1 u5.2.1 u5.2.2.1 se_seamCost se_column u5.2.2.2 (upd c58_se_cost ((a43_8 * (8 : Int32)) + a58_9).toNatClampNeg (u5.2.2.2 ((a43_8 * (8 : Int32)) + a58_9).toNatClampNeg)) u14 hu14) ⟨rfl, rfl, Nat.le_of_ble_eq_true rfl, Nat.le_of_ble_eq_true rfl⟩ 0 rfl rfl rfl rfl rfl (Nat.le_of_ble_eq_true rfl) dX6_cutOne_116) ?_
                show V G p l e rmSe_cutOne s m args below meth c 11 A Q 0 0 (gSc G qSc sc_columns sc_count sc_cornerChange sc_voteApart sc_dots sc_cells sc_shotX sc_shotY sc_shotColumns ++ (gCh G qCh ch_taken ch_turn ch_drift ch_right ch_closed ch_follower ch_ahead ch_linkE ch_linkF ch_placeRight ch_placeLower ++ (gSe G qSe u5.1 u5.2.1 u5.2.2.1 se_seamCost se_column u5.2.2.2 (upd c58_se_cost ((a43_8 * (8 : Int32)) + a58_9).toNatClampNeg (u5.2.2.2 ((a43_8 * (8 : Int32)) + a58_9).toNatClampNeg))))) 119 [(0, .ref (qSe 0)), (3, .int p3), (5, .int u2), (6, .int t3), (7, .int t4), (8, .int a43_8), (9, .int a58_9)] [.int u14]
                refine V_istore E (lv' := [(0, .ref (qSe 0)), (3, .int p3), (5, .int u2), (6, .int t3), (7, .int t4), (8, .int a43_8), (9, .int a58_9), (10, .int u14)]) dX6_cutOne_119 (by decide) rfl ?_
                refine V_aload_n E 0 rfl dX6_cutOne_121 ?_
                refine gfX6_30 E 13 rfl rfl dX6_cutOne_122 ?_
                refine V_iload E 5 rfl dX6_cutOne_125 ?_
                refine V_bipush E (v := (8 : Int32)) dX6_cutOne_127 (by decide) ?_
                refine V_imul E dX6_cutOne_129 ?_
                refine V_iload E 6 rfl dX6_cutOne_130 ?_
                refine V_iadd E dX6_cutOne_132 ?_
                refine V_dup2 E dX6_cutOne_133 rfl rfl ?_
                obtain ⟨hi15, hf⟩ := asr_ok hf
                refine V_iald E 20 rfl hi15 dX6_cutOne_134 ?_
                refine V_aload_n E 0 rfl dX6_cutOne_135 ?_
                refine gfX6_30 E 13 rfl rfl dX6_cutOne_136 ?_
                refine V_iload E 5 rfl dX6_cutOne_139 ?_
                refine V_iconst E (v := (1 : Int32)) dX6_cutOne_141 (by decide) ?_
                refine V_iadd E dX6_cutOne_142 ?_
                refine V_bipush E (v := (8 : Int32)) dX6_cutOne_143 (by decide) ?_
                refine V_imul E dX6_cutOne_145 ?_
                refine V_iload E 7 rfl dX6_cutOne_146 ?_
                refine V_iadd E dX6_cutOne_148 ?_
                obtain ⟨hi16, hf⟩ := asr_ok hf
                refine V_iald E 20 rfl hi16 dX6_cutOne_149 ?_
                refine V_iadd E dX6_cutOne_150 ?_
                obtain ⟨hi17, hf⟩ := asr_ok hf
                refine V_iast E (ws' := (gSc G qSc sc_columns sc_count sc_cornerChange sc_voteApart sc_dots sc_cells sc_shotX sc_shotY sc_shotColumns ++ (gCh G qCh ch_taken ch_turn ch_drift ch_right ch_closed ch_follower ch_ahead ch_linkE ch_linkF ch_placeRight ch_placeLower ++ (gSe G qSe u5.1 u5.2.1 u5.2.2.1 se_seamCost se_column u5.2.2.2 (upd (upd c58_se_cost ((a43_8 * (8 : Int32)) + a58_9).toNatClampNeg (u5.2.2.2 ((a43_8 * (8 : Int32)) + a58_9).toNatClampNeg)) ((a43_8 * (8 : Int32)) + a58_9).toNatClampNeg (((upd c58_se_cost ((a43_8 * (8 : Int32)) + a58_9).toNatClampNeg (u5.2.2.2 ((a43_8 * (8 : Int32)) + a58_9).toNatClampNeg)) ((a43_8 * (8 : Int32)) + a58_9).toNatClampNeg) + ((upd c58_se_cost ((a43_8 * (8 : Int32)) + a58_9).toNatClampNeg (u5.2.2.2 ((a43_8 * (8 : Int32)) + a58_9).toNatClampNeg)) (((a43_8 + (1 : Int32)) * (8 : Int32)) + u14).toNatClampNeg))))))) 20 rfl hi17 dX6_cutOne_151 rfl ?_
                refine V_iinc E (v := (a58_9 + (1 : Int32))) (lv' := [(0, .ref (qSe 0)), (3, .int p3), (5, .int u2), (6, .int t3), (7, .int t4), (8, .int a43_8), (9, .int (a58_9 + (1 : Int32))), (10, .int u14)]) 6 rfl dX6_cutOne_152 rfl (by decide) rfl ?_
                refine V_goto E (tgt := 58) dX6_cutOne_155 (by decide) ?_
                refine V_sub [0, 1, 2, 3, 4, 5, 6] rfl ?_
                exact ih (a58_9 + (1 : Int32)) (upd (upd c58_se_cost ((a43_8 * (8 : Int32)) + a58_9).toNatClampNeg (u5.2.2.2 ((a43_8 * (8 : Int32)) + a58_9).toNatClampNeg)) ((a43_8 * (8 : Int32)) + a58_9).toNatClampNeg (((upd c58_se_cost ((a43_8 * (8 : Int32)) + a58_9).toNatClampNeg (u5.2.2.2 ((a43_8 * (8 : Int32)) + a58_9).toNatClampNeg)) ((a43_8 * (8 : Int32)) + a58_9).toNatClampNeg) + ((upd c58_se_cost ((a43_8 * (8 : Int32)) + a58_9).toNatClampNeg (u5.2.2.2 ((a43_8 * (8 : Int32)) + a58_9).toNatClampNeg)) (((a43_8 + (1 : Int32)) * (8 : Int32)) + u14).toNatClampNeg))) _ hf hk
        obtain ⟨u9, hu9, hf⟩ := bd hf
        refine L58 FU t8 c43_se_cost u9 hu9 ?_
        refine V_iinc E (v := (a43_8 + (-1 : Int32))) (lv' := [(0, .ref (qSe 0)), (3, .int p3), (5, .int u2), (6, .int t3), (7, .int t4), (8, .int (a43_8 + (-1 : Int32)))]) 5 rfl dX6_cutOne_158 rfl (by decide) rfl ?_
        refine V_goto E (tgt := 43) dX6_cutOne_161 (by decide) ?_
        exact ih (a43_8 + (-1 : Int32)) u9 _ hf hk
  refine V_sub [0, 3, 5, 6, 7, 8] rfl ?_
  obtain ⟨u6, hu6, hf⟩ := bd hf
  refine L43 FU t4 se_cost u6 hu6 ?_
  refine V_aload_n E 0 rfl dX6_cutOne_164 ?_
  refine V_iload_n E 1 rfl dX6_cutOne_165 ?_
  refine V_iload E 2 rfl dX6_cutOne_166 ?_
  refine V_iload E 3 rfl dX6_cutOne_168 ?_
  refine V_iload E 4 rfl dX6_cutOne_170 ?_
  obtain ⟨u18, hu18, hf⟩ := bd hf
  refine V_frG E (wr := (gSc G qSc sc_columns sc_count sc_cornerChange sc_voteApart sc_dots sc_cells sc_shotX sc_shotY sc_shotColumns ++ (gCh G qCh ch_taken ch_turn ch_drift ch_right ch_closed ch_follower ch_ahead ch_linkE ch_linkF ch_placeRight ch_placeLower))) (ws' := (gSc G qSc sc_columns sc_count sc_cornerChange sc_voteApart sc_dots sc_cells sc_shotX sc_shotY sc_shotColumns ++ (gCh G qCh ch_taken ch_turn ch_drift ch_right ch_closed ch_follower ch_ahead ch_linkE ch_linkF ch_placeRight ch_placeLower ++ (gSe G qSe u5.1 u5.2.1 u5.2.2.1 u18.1 u18.2 u5.2.2.2 u6)))) [13, 14, 15, 16, 17, 18, 19, 20] [0, 1, 2, 3, 4, 5, 6, 7, 8, 9, 10, 11, 12] [0, 1, 2, 3, 4, 5, 6, 7, 8, 9, 10, 11, 12, 13, 14, 15, 16, 17, 18, 19, 20] rfl rfl ⟨rfl, rfl, rfl, rfl⟩ rfl (Rn_V E (rest := []) mlX6_69 wd_yX6_follow (kSe_follow l G qSe p3 u2 t3 t4 u5.1 u5.2.1 u5.2.2.1 se_seamCost se_column u5.2.2.2 u6 u18 hu18) ⟨rfl, rfl, Nat.le_of_ble_eq_true rfl, Nat.le_of_ble_eq_true rfl⟩ 0 rfl rfl rfl rfl rfl (Nat.le_of_ble_eq_true rfl) dX6_cutOne_172) ?_
  show V G p l e rmSe_cutOne s m args below meth c 11 A Q 0 0 (gSc G qSc sc_columns sc_count sc_cornerChange sc_voteApart sc_dots sc_cells sc_shotX sc_shotY sc_shotColumns ++ (gCh G qCh ch_taken ch_turn ch_drift ch_right ch_closed ch_follower ch_ahead ch_linkE ch_linkF ch_placeRight ch_placeLower ++ (gSe G qSe u5.1 u5.2.1 u5.2.2.1 u18.1 u18.2 u5.2.2.2 u6))) 175 [(0, .ref (qSe 0)), (3, .int p3), (5, .int u2), (6, .int t3), (7, .int t4)] []
  have h9 := hret 175 [(0, .ref (qSe 0)), (3, .int p3), (5, .int u2), (6, .int t3), (7, .int t4)] dX6_cutOne_175
  rw [← (Option.some.inj hf)] at h9
  exact h9
abbrev rmSe_cut : Room := { frames := 4, cells := 0, slots := 0, locals := 108 }
theorem wd_yX6_cut : wdV yX6_cut cX6_cut 4 none 2 := ⟨wc_yX6_cut, wi_yX6_cut, wse_yX6_cut, wini_X6, by decide +kernel, by decide +kernel, by decide +kernel⟩
set_option maxHeartbeats 4000000 in
set_option maxRecDepth 100000 in
theorem kSe_cut (l : Launch) (G : wG) (qSc : Nat → Nat) (qCh : Nat → Nat) (qSe : Nat → Nat) (sc_columns : Int32) (sc_count : Int32) (sc_cornerChange : Int32) (sc_voteApart : Int32) (sc_dots : Nat → Int32) (sc_cells : Nat → Int32) (sc_shotX : Nat → Int32) (sc_shotY : Nat → Int32) (sc_shotColumns : Nat → Int32) (ch_taken : Int32) (ch_turn : Int32) (ch_drift : Int32) (ch_right : Int32) (ch_closed : Int32) (ch_follower : Nat → Int32) (ch_ahead : Nat → Int32) (ch_linkE : Nat → Int32) (ch_linkF : Nat → Int32) (ch_placeRight : Nat → Int32) (ch_placeLower : Nat → Int32) (se_cells : Nat → Int32) (se_apart : Nat → Int32) (se_surplus : Nat → Int32) (se_seamCost : Nat → Int32) (se_column : Nat → Int32) (se_gap : Nat → Int32) (se_cost : Nat → Int32) (o : (Nat → Int32) × (Nat → Int32) × (Nat → Int32) × (Nat → Int32) × (Nat → Int32) × (Nat → Int32) × (Nat → Int32)) (hf : fSe_cut sc_count sc_cells ch_follower ch_linkE ch_linkF se_cells se_apart se_surplus se_seamCost se_column se_gap se_cost = some o) : Ct G l yX6_cut cX6_cut 4 none rmSe_cut [.ref (qSe 0), .ref (qSc 0), .ref (qCh 0)] (gSc G qSc sc_columns sc_count sc_cornerChange sc_voteApart sc_dots sc_cells sc_shotX sc_shotY sc_shotColumns ++ (gCh G qCh ch_taken ch_turn ch_drift ch_right ch_closed ch_follower ch_ahead ch_linkE ch_linkF ch_placeRight ch_placeLower ++ (gSe G qSe se_cells se_apart se_surplus se_seamCost se_column se_gap se_cost))) none (gSc G qSc sc_columns sc_count sc_cornerChange sc_voteApart sc_dots sc_cells sc_shotX sc_shotY sc_shotColumns ++ (gCh G qCh ch_taken ch_turn ch_drift ch_right ch_closed ch_follower ch_ahead ch_linkE ch_linkF ch_placeRight ch_placeLower ++ (gSe G qSe o.1 o.2.1 o.2.2.1 o.2.2.2.1 o.2.2.2.2.1 o.2.2.2.2.2.1 o.2.2.2.2.2.2))) := by
  refine Ct.ofV (by decide +kernel) (Nat.le_of_ble_eq_true rfl) (fun p e s m args below meth c A Q E hret => ?_)
  unfold fSe_cut at hf
  show V G p l e rmSe_cut s m args below meth c 4 A Q 0 0 (gSc G qSc sc_columns sc_count sc_cornerChange sc_voteApart sc_dots sc_cells sc_shotX sc_shotY sc_shotColumns ++ (gCh G qCh ch_taken ch_turn ch_drift ch_right ch_closed ch_follower ch_ahead ch_linkE ch_linkF ch_placeRight ch_placeLower ++ (gSe G qSe se_cells se_apart se_surplus se_seamCost se_column se_gap se_cost))) 0 [(0, .ref (qSe 0)), (1, .ref (qSc 0)), (2, .ref (qCh 0))] []
  refine V_iconst E (v := (0 : Int32)) dX6_cut_0 (by decide) ?_
  refine V_istore_n E (lv' := [(0, .ref (qSe 0)), (1, .ref (qSc 0)), (2, .ref (qCh 0)), (3, .int (0 : Int32))]) dX6_cut_1 (by decide) rfl ?_
  have L2 : ∀ (n : Nat) (a2_3 : Int32) (c2_se_column : Nat → Int32) (u : (Nat → Int32)), fSe_cut_L2 n a2_3 c2_se_column = some u → (V G p l e rmSe_cut s m args below meth c 4 A Q 0 0 (gSc G qSc sc_columns sc_count sc_cornerChange sc_voteApart sc_dots sc_cells sc_shotX sc_shotY sc_shotColumns ++ (gCh G qCh ch_taken ch_turn ch_drift ch_right ch_closed ch_follower ch_ahead ch_linkE ch_linkF ch_placeRight ch_placeLower ++ (gSe G qSe se_cells se_apart se_surplus se_seamCost u se_gap se_cost))) 21 [(0, .ref (qSe 0)), (1, .ref (qSc 0)), (2, .ref (qCh 0))] []) → V G p l e rmSe_cut s m args below meth c 4 A Q 0 0 (gSc G qSc sc_columns sc_count sc_cornerChange sc_voteApart sc_dots sc_cells sc_shotX sc_shotY sc_shotColumns ++ (gCh G qCh ch_taken ch_turn ch_drift ch_right ch_closed ch_follower ch_ahead ch_linkE ch_linkF ch_placeRight ch_placeLower ++ (gSe G qSe se_cells se_apart se_surplus se_seamCost c2_se_column se_gap se_cost))) 2 [(0, .ref (qSe 0)), (1, .ref (qSc 0)), (2, .ref (qCh 0)), (3, .int a2_3)] [] := by
    intro n
    induction n with
    | zero =>
      intro a2_3 c2_se_column u hf hk
      rw [fSe_cut_L2] at hf
      cases hf
    | succ n ih =>
      intro a2_3 c2_se_column u hf hk
      rw [fSe_cut_L2] at hf
      refine V_iload_n E 3 rfl dX6_cut_2 ?_
      refine V_bipush E (v := (24 : Int32)) dX6_cut_3 (by decide) ?_
      refine V_icmp_ge E (tgt := 21) dX6_cut_5 (by decide) (fun hc2 => ?_) (fun hc2 => ?_)
      · have hf := ip hc2 hf
        refine V_sub [0, 1, 2] rfl ?_
        rw [← Option.some.inj hf] at hk
        exact hk
      · have hf := iq hc2 hf
        refine V_aload_n E 0 rfl dX6_cut_8 ?_
        refine gfX6_24 E 13 rfl rfl dX6_cut_9 ?_
        refine V_iload_n E 3 rfl dX6_cut_12 ?_
        refine V_iconst E (v := (-1 : Int32)) dX6_cut_13 (by decide) ?_
        obtain ⟨hi3, hf⟩ := asr_ok hf
        refine V_iast E (ws' := (gSc G qSc sc_columns sc_count sc_cornerChange sc_voteApart sc_dots sc_cells sc_shotX sc_shotY sc_shotColumns ++ (gCh G qCh ch_taken ch_turn ch_drift ch_right ch_closed ch_follower ch_ahead ch_linkE ch_linkF ch_placeRight ch_placeLower ++ (gSe G qSe se_cells se_apart se_surplus se_seamCost (upd c2_se_column a2_3.toNatClampNeg (-1 : Int32)) se_gap se_cost)))) 18 rfl hi3 dX6_cut_14 rfl ?_
        refine V_iinc E (v := (a2_3 + (1 : Int32))) (lv' := [(0, .ref (qSe 0)), (1, .ref (qSc 0)), (2, .ref (qCh 0)), (3, .int (a2_3 + (1 : Int32)))]) 3 rfl dX6_cut_15 rfl (by decide) rfl ?_
        refine V_goto E (tgt := 2) dX6_cut_18 (by decide) ?_
        exact ih (a2_3 + (1 : Int32)) (upd c2_se_column a2_3.toNatClampNeg (-1 : Int32)) _ hf hk
  obtain ⟨u1, hu1, hf⟩ := bd hf
  refine L2 FU (0 : Int32) se_column u1 hu1 ?_
  refine V_iconst E (v := (0 : Int32)) dX6_cut_21 (by decide) ?_
  refine V_istore_n E (lv' := [(0, .ref (qSe 0)), (1, .ref (qSc 0)), (2, .ref (qCh 0)), (3, .int (0 : Int32))]) dX6_cut_22 (by decide) rfl ?_
  have L23 : ∀ (n : Nat) (a23_3 : Int32) (c23_se_cells : Nat → Int32) (c23_se_apart : Nat → Int32) (c23_se_surplus : Nat → Int32) (c23_se_seamCost : Nat → Int32) (c23_se_column : Nat → Int32) (c23_se_gap : Nat → Int32) (c23_se_cost : Nat → Int32) (u : (Nat → Int32) × (Nat → Int32) × (Nat → Int32) × (Nat → Int32) × (Nat → Int32) × (Nat → Int32) × (Nat → Int32)), fSe_cut_L23 sc_count sc_cells ch_follower ch_linkE ch_linkF n a23_3 c23_se_cells c23_se_apart c23_se_surplus c23_se_seamCost c23_se_column c23_se_gap c23_se_cost = some u → (V G p l e rmSe_cut s m args below meth c 4 A Q 0 0 (gSc G qSc sc_columns sc_count sc_cornerChange sc_voteApart sc_dots sc_cells sc_shotX sc_shotY sc_shotColumns ++ (gCh G qCh ch_taken ch_turn ch_drift ch_right ch_closed ch_follower ch_ahead ch_linkE ch_linkF ch_placeRight ch_placeLower ++ (gSe G qSe u.1 u.2.1 u.2.2.1 u.2.2.2.1 u.2.2.2.2.1 u.2.2.2.2.2.1 u.2.2.2.2.2.2))) 51 [] []) → V G p l e rmSe_cut s m args below meth c 4 A Q 0 0 (gSc G qSc sc_columns sc_count sc_cornerChange sc_voteApart sc_dots sc_cells sc_shotX sc_shotY sc_shotColumns ++ (gCh G qCh ch_taken ch_turn ch_drift ch_right ch_closed ch_follower ch_ahead ch_linkE ch_linkF ch_placeRight ch_placeLower ++ (gSe G qSe c23_se_cells c23_se_apart c23_se_surplus c23_se_seamCost c23_se_column c23_se_gap c23_se_cost))) 23 [(0, .ref (qSe 0)), (1, .ref (qSc 0)), (2, .ref (qCh 0)), (3, .int a23_3)] [] := by
    intro n
    induction n with
    | zero =>
      intro a23_3 c23_se_cells c23_se_apart c23_se_surplus c23_se_seamCost c23_se_column c23_se_gap c23_se_cost u hf hk
      rw [fSe_cut_L23] at hf
      cases hf
    | succ n ih =>
      intro a23_3 c23_se_cells c23_se_apart c23_se_surplus c23_se_seamCost c23_se_column c23_se_gap c23_se_cost u hf hk
      rw [fSe_cut_L23] at hf
      refine V_iload_n E 3 rfl dX6_cut_23 ?_
      refine V_bipush E (v := (6 : Int32)) dX6_cut_24 (by decide) ?_
      refine V_icmp_ge E (tgt := 51) dX6_cut_26 (by decide) (fun hc5 => ?_) (fun hc5 => ?_)
      · have hf := ip hc5 hf
        refine V_sub [] rfl ?_
        rw [← Option.some.inj hf] at hk
        exact hk
      · have hf := iq hc5 hf
        refine V_aload_n E 2 rfl dX6_cut_29 ?_
        refine V_iload_n E 3 rfl dX6_cut_30 ?_
        obtain ⟨u6, hu6, hf⟩ := bd hf
        refine V_frG E (wr := (gSc G qSc sc_columns sc_count sc_cornerChange sc_voteApart sc_dots sc_cells sc_shotX sc_shotY sc_shotColumns ++ (gSe G qSe c23_se_cells c23_se_apart c23_se_surplus c23_se_seamCost c23_se_column c23_se_gap c23_se_cost))) (ws' := (gSc G qSc sc_columns sc_count sc_cornerChange sc_voteApart sc_dots sc_cells sc_shotX sc_shotY sc_shotColumns ++ (gCh G qCh ch_taken ch_turn ch_drift ch_right ch_closed ch_follower ch_ahead ch_linkE ch_linkF ch_placeRight ch_placeLower ++ (gSe G qSe c23_se_cells c23_se_apart c23_se_surplus c23_se_seamCost c23_se_column c23_se_gap c23_se_cost)))) [6, 7, 8, 9, 10, 11, 12] [0, 1, 2, 3, 4, 5, 13, 14, 15, 16, 17, 18, 19, 20] [0, 1, 2, 3, 4, 5, 14, 15, 16, 17, 18, 19, 20, 6, 7, 8, 9, 10, 11, 12, 13] rfl rfl ⟨rfl, rfl, rfl, rfl⟩ rfl (Rn_V E (rest := []) mlX6_37 wd_yX0_followerOf (kCh_followerOf l G qCh a23_3 ch_taken ch_turn ch_drift ch_right ch_closed ch_follower ch_ahead ch_linkE ch_linkF ch_placeRight ch_placeLower u6 hu6) ⟨rfl, rfl, Nat.le_of_ble_eq_true rfl, Nat.le_of_ble_eq_true rfl⟩ 0 rfl rfl rfl rfl rfl (Nat.le_of_ble_eq_true rfl) dX6_cut_31) ?_
        show V G p l e rmSe_cut s m args below meth c 4 A Q 0 0 (gSc G qSc sc_columns sc_count sc_cornerChange sc_voteApart sc_dots sc_cells sc_shotX sc_shotY sc_shotColumns ++ (gCh G qCh ch_taken ch_turn ch_drift ch_right ch_closed ch_follower ch_ahead ch_linkE ch_linkF ch_placeRight ch_placeLower ++ (gSe G qSe c23_se_cells c23_se_apart c23_se_surplus c23_se_seamCost c23_se_column c23_se_gap c23_se_cost))) 34 [(0, .ref (qSe 0)), (1, .ref (qSc 0)), (2, .ref (qCh 0)), (3, .int a23_3)] [.int u6]
        refine V_iconst E (v := (-1 : Int32)) dX6_cut_34 (by decide) ?_
        refine V_icmp_eq E (tgt := 45) dX6_cut_35 (by decide) (fun hc7 => ?_) (fun hc7 => ?_)
        · have hf := ip hc7 hf
          refine V_iinc E (v := (a23_3 + (1 : Int32))) (lv' := [(0, .ref (qSe 0)), (1, .ref (qSc 0)), (2, .ref (qCh 0)), (3, .int (a23_3 + (1 : Int32)))]) 3 rfl dX6_cut_45 rfl (by decide) rfl ?_
          refine V_goto E (tgt := 23) dX6_cut_48 (by decide) ?_
          exact ih (a23_3 + (1 : Int32)) c23_se_cells c23_se_apart c23_se_surplus c23_se_seamCost c23_se_column c23_se_gap c23_se_cost _ hf hk
        · have hf := iq hc7 hf
          refine V_aload_n E 0 rfl dX6_cut_38 ?_
          refine V_aload_n E 1 rfl dX6_cut_39 ?_
          refine V_aload_n E 2 rfl dX6_cut_40 ?_
          refine V_iload_n E 3 rfl dX6_cut_41 ?_
          obtain ⟨u8, hu8, hf⟩ := bd hf
          refine V_frW E (Rn_V E (rest := []) mlX6_43 wd_yX6_cutOne (kSe_cutOne l G qSc qCh qSe a23_3 sc_columns sc_count sc_cornerChange sc_voteApart sc_dots sc_cells sc_shotX sc_shotY sc_shotColumns ch_taken ch_turn ch_drift ch_right ch_closed ch_follower ch_ahead ch_linkE ch_linkF ch_placeRight ch_placeLower c23_se_cells c23_se_apart c23_se_surplus c23_se_seamCost c23_se_column c23_se_gap c23_se_cost u8 hu8) ⟨rfl, rfl, Nat.le_of_ble_eq_true rfl, Nat.le_of_ble_eq_true rfl⟩ 13 rfl rfl rfl rfl rfl (Nat.le_of_ble_eq_true rfl) dX6_cut_42) ?_
          show V G p l e rmSe_cut s m args below meth c 4 A Q 0 0 (gSc G qSc sc_columns sc_count sc_cornerChange sc_voteApart sc_dots sc_cells sc_shotX sc_shotY sc_shotColumns ++ (gCh G qCh ch_taken ch_turn ch_drift ch_right ch_closed ch_follower ch_ahead ch_linkE ch_linkF ch_placeRight ch_placeLower ++ (gSe G qSe u8.1 u8.2.1 u8.2.2.1 u8.2.2.2.1 u8.2.2.2.2.1 u8.2.2.2.2.2.1 u8.2.2.2.2.2.2))) 45 [(0, .ref (qSe 0)), (1, .ref (qSc 0)), (2, .ref (qCh 0)), (3, .int a23_3)] []
          refine V_iinc E (v := (a23_3 + (1 : Int32))) (lv' := [(0, .ref (qSe 0)), (1, .ref (qSc 0)), (2, .ref (qCh 0)), (3, .int (a23_3 + (1 : Int32)))]) 3 rfl dX6_cut_45 rfl (by decide) rfl ?_
          refine V_goto E (tgt := 23) dX6_cut_48 (by decide) ?_
          exact ih (a23_3 + (1 : Int32)) u8.1 u8.2.1 u8.2.2.1 u8.2.2.2.1 u8.2.2.2.2.1 u8.2.2.2.2.2.1 u8.2.2.2.2.2.2 _ hf hk
  obtain ⟨u4, hu4, hf⟩ := bd hf
  refine L23 FU (0 : Int32) se_cells se_apart se_surplus se_seamCost u1 se_gap se_cost u4 hu4 ?_
  have h9 := hret 51 [] dX6_cut_51
  rw [← (Option.some.inj hf)] at h9
  exact h9
