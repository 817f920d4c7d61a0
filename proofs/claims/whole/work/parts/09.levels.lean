
abbrev rmLe_aboveOf : Room := { frames := 1, cells := 0, slots := 0, locals := 22 }
theorem wd_yX2_aboveOf : wdV yX2_aboveOf cX2_aboveOf 2 (some .long) 1 := ⟨wc_yX2_aboveOf, wi_yX2_aboveOf, wse_yX2_aboveOf, wini_X2, by decide +kernel, by decide +kernel, by decide +kernel⟩
set_option maxHeartbeats 4000000 in
set_option maxRecDepth 100000 in
theorem kLe_aboveOf (l : Launch) (G : wG) (qLe : Nat → Nat) (p1 : Int32) (le_restAbove : Int64) (le_restBelow : Int64) (le_above : Nat → Int64) (le_below : Nat → Int64) (o : Int64) (hf : fLe_aboveOf p1 le_above = some o) : Ct G l yX2_aboveOf cX2_aboveOf 2 (some .long) rmLe_aboveOf [.ref (qLe 0), .int p1] (gLe G qLe le_restAbove le_restBelow le_above le_below) (some (.long o)) (gLe G qLe le_restAbove le_restBelow le_above le_below) := by
  refine Ct.ofJ (by decide +kernel) (Nat.le_of_ble_eq_true rfl) (fun p e s m args below meth c A Q E hret => ?_)
  unfold fLe_aboveOf at hf
  show V G p l e rmLe_aboveOf s m args below meth c 2 A Q 0 0 (gLe G qLe le_restAbove le_restBelow le_above le_below) 0 [(0, .ref (qLe 0)), (1, .int p1)] []
  refine V_iload_n E 1 rfl dX2_aboveOf_0 ?_
  refine V_iconst E (v := (0 : Int32)) dX2_aboveOf_1 (by decide) ?_
  refine V_iconst E (v := (5 : Int32)) dX2_aboveOf_2 (by decide) ?_
  obtain ⟨u1, hu1, hf⟩ := bd hf
  refine V_fr0 E (Rn_N E (rest := []) 6 rfl wd_yX7_within (kRi_within l G p1 (0 : Int32) (5 : Int32) u1 hu1) ⟨rfl, rfl, Nat.le_of_ble_eq_true rfl, Nat.le_of_ble_eq_true rfl⟩ rfl rfl (Nat.le_of_ble_eq_true rfl) dX2_aboveOf_3) ?_
  show V G p l e rmLe_aboveOf s m args below meth c 2 A Q 0 0 (gLe G qLe le_restAbove le_restBelow le_above le_below) 6 [(0, .ref (qLe 0)), (1, .int p1)] [.int u1]
  refine V_if_eq E (tgt := 18) dX2_aboveOf_6 (by decide) (fun hc2 => ?_) (fun hc2 => ?_)
  · have hf := ip hc2 hf
    refine V_lconst E (v := (0 : Int64)) dX2_aboveOf_18 (by decide) ?_
    have h9 := hret 19 [(0, .ref (qLe 0)), (1, .int p1)] dX2_aboveOf_19
    rw [← (Option.some.inj hf)] at h9
    exact h9
  · have hf := iq hc2 hf
    refine V_aload_n E 0 rfl dX2_aboveOf_9 ?_
    refine gfX2_9 E 0 rfl rfl dX2_aboveOf_10 ?_
    refine V_iload_n E 1 rfl dX2_aboveOf_13 ?_
    obtain ⟨hi3, hf⟩ := asr_ok hf
    refine V_lald E 1 rfl hi3 dX2_aboveOf_14 ?_
    refine V_goto E (tgt := 19) dX2_aboveOf_15 (by decide) ?_
    have h9 := hret 19 [(0, .ref (qLe 0)), (1, .int p1)] dX2_aboveOf_19
    rw [← (Option.some.inj hf)] at h9
    exact h9
abbrev rmLe_belowOf : Room := { frames := 1, cells := 0, slots := 0, locals := 22 }
theorem wd_yX2_belowOf : wdV yX2_belowOf cX2_belowOf 2 (some .long) 1 := ⟨wc_yX2_belowOf, wi_yX2_belowOf, wse_yX2_belowOf, wini_X2, by decide +kernel, by decide +kernel, by decide +kernel⟩
set_option maxHeartbeats 4000000 in
set_option maxRecDepth 100000 in
theorem kLe_belowOf (l : Launch) (G : wG) (qLe : Nat → Nat) (p1 : Int32) (le_restAbove : Int64) (le_restBelow : Int64) (le_above : Nat → Int64) (le_below : Nat → Int64) (o : Int64) (hf : fLe_belowOf p1 le_below = some o) : Ct G l yX2_belowOf cX2_belowOf 2 (some .long) rmLe_belowOf [.ref (qLe 0), .int p1] (gLe G qLe le_restAbove le_restBelow le_above le_below) (some (.long o)) (gLe G qLe le_restAbove le_restBelow le_above le_below) := by
  refine Ct.ofJ (by decide +kernel) (Nat.le_of_ble_eq_true rfl) (fun p e s m args below meth c A Q E hret => ?_)
  unfold fLe_belowOf at hf
  show V G p l e rmLe_belowOf s m args below meth c 2 A Q 0 0 (gLe G qLe le_restAbove le_restBelow le_above le_below) 0 [(0, .ref (qLe 0)), (1, .int p1)] []
  refine V_iload_n E 1 rfl dX2_belowOf_0 ?_
  refine V_iconst E (v := (0 : Int32)) dX2_belowOf_1 (by decide) ?_
  refine V_iconst E (v := (5 : Int32)) dX2_belowOf_2 (by decide) ?_
  obtain ⟨u1, hu1, hf⟩ := bd hf
  refine V_fr0 E (Rn_N E (rest := []) 6 rfl wd_yX7_within (kRi_within l G p1 (0 : Int32) (5 : Int32) u1 hu1) ⟨rfl, rfl, Nat.le_of_ble_eq_true rfl, Nat.le_of_ble_eq_true rfl⟩ rfl rfl (Nat.le_of_ble_eq_true rfl) dX2_belowOf_3) ?_
  show V G p l e rmLe_belowOf s m args below meth c 2 A Q 0 0 (gLe G qLe le_restAbove le_restBelow le_above le_below) 6 [(0, .ref (qLe 0)), (1, .int p1)] [.int u1]
  refine V_if_eq E (tgt := 18) dX2_belowOf_6 (by decide) (fun hc2 => ?_) (fun hc2 => ?_)
  · have hf := ip hc2 hf
    refine V_lconst E (v := (1 : Int64)) dX2_belowOf_18 (by decide) ?_
    have h9 := hret 19 [(0, .ref (qLe 0)), (1, .int p1)] dX2_belowOf_19
    rw [← (Option.some.inj hf)] at h9
    exact h9
  · have hf := iq hc2 hf
    refine V_aload_n E 0 rfl dX2_belowOf_9 ?_
    refine gfX2_15 E 0 rfl rfl dX2_belowOf_10 ?_
    refine V_iload_n E 1 rfl dX2_belowOf_13 ?_
    obtain ⟨hi3, hf⟩ := asr_ok hf
    refine V_lald E 2 rfl hi3 dX2_belowOf_14 ?_
    refine V_goto E (tgt := 19) dX2_belowOf_15 (by decide) ?_
    have h9 := hret 19 [(0, .ref (qLe 0)), (1, .int p1)] dX2_belowOf_19
    rw [← (Option.some.inj hf)] at h9
    exact h9
abbrev rmLe_share : Room := { frames := 0, cells := 0, slots := 0, locals := 0 }
theorem wd_yX2_share : wdS yX2_share cX2_share 1 (some .long) 1 := ⟨wc_yX2_share, wst_yX2_share, wini_X2, by decide +kernel, by decide +kernel, by decide +kernel⟩
set_option maxHeartbeats 4000000 in
set_option maxRecDepth 100000 in
theorem kLe_share (l : Launch) (G : wG) (p0 : Int32) (o : Int64) (hf : fLe_share p0 = some o) : Ct G l yX2_share cX2_share 1 (some .long) rmLe_share [.int p0] [] (some (.long o)) [] := by
  refine Ct.ofJ (by decide +kernel) (Nat.le_of_ble_eq_true rfl) (fun p e s m args below meth c A Q E hret => ?_)
  unfold fLe_share at hf
  show V G p l e rmLe_share s m args below meth c 1 A Q 0 0 [] 0 [(0, .int p0)] []
  refine V_iload_n E 0 rfl dX2_share_0 ?_
  refine V_if_le E (tgt := 13) dX2_share_1 (by decide) (fun hc1 => ?_) (fun hc1 => ?_)
  · have hf := ip hc1 hf
    refine V_lconst E (v := (0 : Int64)) dX2_share_13 (by decide) ?_
    have h9 := hret 14 [(0, .int p0)] dX2_share_14
    rw [← (Option.some.inj hf)] at h9
    exact h9
  · have hf := iq hc1 hf
    refine V_sipush E (v := (5040 : Int32)) dX2_share_4 (by decide) ?_
    refine V_iload_n E 0 rfl dX2_share_7 ?_
    obtain ⟨hz2, hf⟩ := asr_ok hf
    refine V_idiv E dX2_share_8 hz2 ?_
    refine V_i2l E dX2_share_9 ?_
    refine V_goto E (tgt := 14) dX2_share_10 (by decide) ?_
    have h9 := hret 14 [(0, .int p0)] dX2_share_14
    rw [← (Option.some.inj hf)] at h9
    exact h9
abbrev rmLe_setLevel : Room := { frames := 1, cells := 0, slots := 0, locals := 30 }
theorem wd_yX2_setLevel : wdV yX2_setLevel cX2_setLevel 8 none 3 := ⟨wc_yX2_setLevel, wi_yX2_setLevel, wse_yX2_setLevel, wini_X2, by decide +kernel, by decide +kernel, by decide +kernel⟩
set_option maxHeartbeats 4000000 in
set_option maxRecDepth 100000 in
theorem kLe_setLevel (l : Launch) (G : wG) (qLe : Nat → Nat) (p1 : Int32) (p2 : Int64) (p4 : Int64) (le_restAbove : Int64) (le_restBelow : Int64) (le_above : Nat → Int64) (le_below : Nat → Int64) (o : (Nat → Int64) × (Nat → Int64)) (hf : fLe_setLevel p1 p2 p4 le_above le_below = some o) : Ct G l yX2_setLevel cX2_setLevel 8 none rmLe_setLevel [.ref (qLe 0), .int p1, .long p2, .long p4] (gLe G qLe le_restAbove le_restBelow le_above le_below) none (gLe G qLe le_restAbove le_restBelow o.1 o.2) := by
  refine Ct.ofV (by decide +kernel) (Nat.le_of_ble_eq_true rfl) (fun p e s m args below meth c A Q E hret => ?_)
  unfold fLe_setLevel at hf
  show V G p l e rmLe_setLevel s m args below meth c 8 A Q 0 0 (gLe G qLe le_restAbove le_restBelow le_above le_below) 0 [(0, .ref (qLe 0)), (1, .int p1), (2, .long p2), (4, .long p4)] []
  refine V_lload_n E 2 rfl dX2_setLevel_0 ?_
  refine V_lload E 3 rfl dX2_setLevel_1 ?_
  obtain ⟨u1, hu1, hf⟩ := bd hf
  refine V_fr0 E (Rn_N E (rest := []) 7 rfl wd_yX7_greatestDivisor (kRi_greatestDivisor l G p2 p4 u1 hu1) ⟨rfl, rfl, Nat.le_of_ble_eq_true rfl, Nat.le_of_ble_eq_true rfl⟩ rfl rfl (Nat.le_of_ble_eq_true rfl) dX2_setLevel_3) ?_
  show V G p l e rmLe_setLevel s m args below meth c 8 A Q 0 0 (gLe G qLe le_restAbove le_restBelow le_above le_below) 6 [(0, .ref (qLe 0)), (1, .int p1), (2, .long p2), (4, .long p4)] [.long u1]
  refine V_lstore E (lv' := [(0, .ref (qLe 0)), (1, .int p1), (2, .long p2), (4, .long p4), (6, .long u1)]) dX2_setLevel_6 (by decide) rfl ?_
  refine V_iload_n E 1 rfl dX2_setLevel_8 ?_
  refine V_iconst E (v := (0 : Int32)) dX2_setLevel_9 (by decide) ?_
  refine V_iconst E (v := (5 : Int32)) dX2_setLevel_10 (by decide) ?_
  obtain ⟨u2, hu2, hf⟩ := bd hf
  refine V_fr0 E (Rn_N E (rest := []) 6 rfl wd_yX7_within (kRi_within l G p1 (0 : Int32) (5 : Int32) u2 hu2) ⟨rfl, rfl, Nat.le_of_ble_eq_true rfl, Nat.le_of_ble_eq_true rfl⟩ rfl rfl (Nat.le_of_ble_eq_true rfl) dX2_setLevel_11) ?_
  show V G p l e rmLe_setLevel s m args below meth c 8 A Q 0 0 (gLe G qLe le_restAbove le_restBelow le_above le_below) 14 [(0, .ref (qLe 0)), (1, .int p1), (2, .long p2), (4, .long p4), (6, .long u1)] [.int u2]
  refine V_if_eq E (tgt := 45) dX2_setLevel_14 (by decide) (fun hc3 => ?_) (fun hc3 => ?_)
  · have hf := ip hc3 hf
    have h9 := hret 45 [(0, .ref (qLe 0)), (1, .int p1), (2, .long p2), (4, .long p4), (6, .long u1)] dX2_setLevel_45
    rw [← (Option.some.inj hf)] at h9
    exact h9
  · have hf := iq hc3 hf
    refine V_lload E 4 rfl dX2_setLevel_17 ?_
    refine V_lconst E (v := (0 : Int64)) dX2_setLevel_19 (by decide) ?_
    refine V_lcmp E dX2_setLevel_20 ?_
    refine V_if_le E (tgt := 45) dX2_setLevel_21 (by decide) (fun hc4 => ?_) (fun hc4 => ?_)
    · have hf := ip hc4 hf
      have h9 := hret 45 [(0, .ref (qLe 0)), (1, .int p1), (2, .long p2), (4, .long p4), (6, .long u1)] dX2_setLevel_45
      rw [← (Option.some.inj hf)] at h9
      exact h9
    · have hf := iq hc4 hf
      refine V_aload_n E 0 rfl dX2_setLevel_24 ?_
      refine gfX2_9 E 0 rfl rfl dX2_setLevel_25 ?_
      refine V_iload_n E 1 rfl dX2_setLevel_28 ?_
      refine V_lload_n E 2 rfl dX2_setLevel_29 ?_
      refine V_lload E 4 rfl dX2_setLevel_30 ?_
      obtain ⟨hz5, hf⟩ := asr_ok hf
      refine V_ldiv E dX2_setLevel_32 hz5 ?_
      obtain ⟨hi6, hf⟩ := asr_ok hf
      refine V_last E (ws' := (gLe G qLe le_restAbove le_restBelow (vp_updL le_above p1.toNatClampNeg (p2 / u1)) le_below)) 1 rfl hi6 dX2_setLevel_33 rfl ?_
      refine V_aload_n E 0 rfl dX2_setLevel_34 ?_
      refine gfX2_15 E 0 rfl rfl dX2_setLevel_35 ?_
      refine V_iload_n E 1 rfl dX2_setLevel_38 ?_
      refine V_lload E 3 rfl dX2_setLevel_39 ?_
      refine V_lload E 4 rfl dX2_setLevel_41 ?_
      obtain ⟨hz7, hf⟩ := asr_ok hf
      refine V_ldiv E dX2_setLevel_43 hz7 ?_
      obtain ⟨hi8, hf⟩ := asr_ok hf
      refine V_last E (ws' := (gLe G qLe le_restAbove le_restBelow (vp_updL le_above p1.toNatClampNeg (p2 / u1)) (vp_updL le_below p1.toNatClampNeg (p4 / u1)))) 2 rfl hi8 dX2_setLevel_44 rfl ?_
      have h9 := hret 45 [(0, .ref (qLe 0)), (1, .int p1), (2, .long p2), (4, .long p4), (6, .long u1)] dX2_setLevel_45
      rw [← (Option.some.inj hf)] at h9
      exact h9
abbrev rmLe_walk : Room := { frames := 2, cells := 0, slots := 0, locals := 57 }
theorem wd_yX2_walk : wdV yX2_walk cX2_walk 12 none 5 := ⟨wc_yX2_walk, wi_yX2_walk, wse_yX2_walk, wini_X2, by decide +kernel, by decide +kernel, by decide +kernel⟩
set_option maxHeartbeats 4000000 in
set_option maxRecDepth 100000 in
theorem kLe_walk (l : Launch) (G : wG) (qCh : Nat → Nat) (qSe : Nat → Nat) (qLe : Nat → Nat) (p3 : Int32) (p4 : Int64) (p6 : Int64) (ch_taken : Int32) (ch_turn : Int32) (ch_drift : Int32) (ch_right : Int32) (ch_closed : Int32) (ch_follower : Nat → Int32) (ch_ahead : Nat → Int32) (ch_linkE : Nat → Int32) (ch_linkF : Nat → Int32) (ch_placeRight : Nat → Int32) (ch_placeLower : Nat → Int32) (se_cells : Nat → Int32) (se_apart : Nat → Int32) (se_surplus : Nat → Int32) (se_seamCost : Nat → Int32) (se_column : Nat → Int32) (se_gap : Nat → Int32) (se_cost : Nat → Int32) (le_restAbove : Int64) (le_restBelow : Int64) (le_above : Nat → Int64) (le_below : Nat → Int64) (o : (Nat → Int64) × (Nat → Int64)) (hf : fLe_walk p3 p4 p6 ch_follower se_cells se_surplus le_above le_below = some o) : Ct G l yX2_walk cX2_walk 12 none rmLe_walk [.ref (qLe 0), .ref (qCh 0), .ref (qSe 0), .int p3, .long p4, .long p6] (gCh G qCh ch_taken ch_turn ch_drift ch_right ch_closed ch_follower ch_ahead ch_linkE ch_linkF ch_placeRight ch_placeLower ++ (gSe G qSe se_cells se_apart se_surplus se_seamCost se_column se_gap se_cost ++ (gLe G qLe le_restAbove le_restBelow le_above le_below))) none (gCh G qCh ch_taken ch_turn ch_drift ch_right ch_closed ch_follower ch_ahead ch_linkE ch_linkF ch_placeRight ch_placeLower ++ (gSe G qSe se_cells se_apart se_surplus se_seamCost se_column se_gap se_cost ++ (gLe G qLe le_restAbove le_restBelow o.1 o.2))) := by
  refine Ct.ofV (by decide +kernel) (Nat.le_of_ble_eq_true rfl) (fun p e s m args below meth c A Q E hret => ?_)
  unfold fLe_walk at hf
  show V G p l e rmLe_walk s m args below meth c 12 A Q 0 0 (gCh G qCh ch_taken ch_turn ch_drift ch_right ch_closed ch_follower ch_ahead ch_linkE ch_linkF ch_placeRight ch_placeLower ++ (gSe G qSe se_cells se_apart se_surplus se_seamCost se_column se_gap se_cost ++ (gLe G qLe le_restAbove le_restBelow le_above le_below))) 0 [(0, .ref (qLe 0)), (1, .ref (qCh 0)), (2, .ref (qSe 0)), (3, .int p3), (4, .long p4), (6, .long p6)] []
  refine V_iload_n E 3 rfl dX2_walk_0 ?_
  refine V_istore E (lv' := [(0, .ref (qLe 0)), (1, .ref (qCh 0)), (2, .ref (qSe 0)), (3, .int p3), (4, .long p4), (6, .long p6), (8, .int p3)]) dX2_walk_1 (by decide) rfl ?_
  refine V_lconst E (v := (0 : Int64)) dX2_walk_3 (by decide) ?_
  refine V_lstore E (lv' := [(0, .ref (qLe 0)), (1, .ref (qCh 0)), (2, .ref (qSe 0)), (3, .int p3), (4, .long p4), (6, .long p6), (8, .int p3), (9, .long (0 : Int64))]) dX2_walk_4 (by decide) rfl ?_
  refine V_iconst E (v := (0 : Int32)) dX2_walk_6 (by decide) ?_
  refine V_istore E (lv' := [(0, .ref (qLe 0)), (1, .ref (qCh 0)), (2, .ref (qSe 0)), (3, .int p3), (4, .long p4), (6, .long p6), (8, .int p3), (9, .long (0 : Int64)), (11, .int (0 : Int32))]) dX2_walk_7 (by decide) rfl ?_
  have L9 : ∀ (n : Nat) (a9_8 : Int32) (a9_9 : Int64) (a9_11 : Int32) (c9_le_above : Nat → Int64) (c9_le_below : Nat → Int64) (u : Sum ((Nat → Int64) × (Nat → Int64)) ((Nat → Int64) × (Nat → Int64))), fLe_walk_L9 p3 p4 p6 ch_follower se_cells se_surplus n a9_8 a9_9 a9_11 c9_le_above c9_le_below = some u → (∀ x, u = .inr x → V G p l e rmLe_walk s m args below meth c 12 A Q 0 0 (gCh G qCh ch_taken ch_turn ch_drift ch_right ch_closed ch_follower ch_ahead ch_linkE ch_linkF ch_placeRight ch_placeLower ++ (gSe G qSe se_cells se_apart se_surplus se_seamCost se_column se_gap se_cost ++ (gLe G qLe le_restAbove le_restBelow x.1 x.2))) 94 [] []) → (∀ r, u = .inl r → r = o) → V G p l e rmLe_walk s m args below meth c 12 A Q 0 0 (gCh G qCh ch_taken ch_turn ch_drift ch_right ch_closed ch_follower ch_ahead ch_linkE ch_linkF ch_placeRight ch_placeLower ++ (gSe G qSe se_cells se_apart se_surplus se_seamCost se_column se_gap se_cost ++ (gLe G qLe le_restAbove le_restBelow c9_le_above c9_le_below))) 9 [(0, .ref (qLe 0)), (1, .ref (qCh 0)), (2, .ref (qSe 0)), (3, .int p3), (4, .long p4), (6, .long p6), (8, .int a9_8), (9, .long a9_9), (11, .int a9_11)] [] := by
    intro n
    induction n with
    | zero =>
      intro a9_8 a9_9 a9_11 c9_le_above c9_le_below u hf hk hr
      rw [fLe_walk_L9] at hf
      cases hf
    | succ n ih =>
      intro a9_8 a9_9 a9_11 c9_le_above c9_le_below u hf hk hr
      rw [fLe_walk_L9] at hf
      refine V_iload E 8 rfl dX2_walk_9 ?_
      refine V_bipush E (v := (6 : Int32)) dX2_walk_11 (by decide) ?_
      refine V_icmp_ge E (tgt := 94) dX2_walk_13 (by decide) (fun hc2 => ?_) (fun hc2 => ?_)
      · have hf := ip hc2 hf
        refine V_sub [] rfl ?_
        exact hk _ (Option.some.inj hf).symm
      · have hf := iq hc2 hf
        refine V_iload E 6 rfl dX2_walk_16 ?_
        refine V_iconst E (v := (0 : Int32)) dX2_walk_18 (by decide) ?_
        refine V_iconst E (v := (5 : Int32)) dX2_walk_19 (by decide) ?_
        obtain ⟨u3, hu3, hf⟩ := bd hf
        refine V_fr0 E (Rn_N E (rest := []) 6 rfl wd_yX7_within (kRi_within l G a9_8 (0 : Int32) (5 : Int32) u3 hu3) ⟨rfl, rfl, Nat.le_of_ble_eq_true rfl, Nat.le_of_ble_eq_true rfl⟩ rfl rfl (Nat.le_of_ble_eq_true rfl) dX2_walk_20) ?_
        show V G p l e rmLe_walk s m args below meth c 12 A Q 0 0 (gCh G qCh ch_taken ch_turn ch_drift ch_right ch_closed ch_follower ch_ahead ch_linkE ch_linkF ch_placeRight ch_placeLower ++ (gSe G qSe se_cells se_apart se_surplus se_seamCost se_column se_gap se_cost ++ (gLe G qLe le_restAbove le_restBelow c9_le_above c9_le_below))) 23 [(0, .ref (qLe 0)), (1, .ref (qCh 0)), (2, .ref (qSe 0)), (3, .int p3), (4, .long p4), (6, .long p6), (8, .int a9_8), (9, .long a9_9), (11, .int a9_11)] [.int u3]
        refine V_if_eq E (tgt := 94) dX2_walk_23 (by decide) (fun hc4 => ?_) (fun hc4 => ?_)
        · have hf := ip hc4 hf
          refine V_sub [] rfl ?_
          exact hk _ (Option.some.inj hf).symm
        · have hf := iq hc4 hf
          refine V_iload E 8 rfl dX2_walk_26 ?_
          refine V_if_le E (tgt := 38) dX2_walk_28 (by decide) (fun hc5 => ?_) (fun hc5 => ?_)
          · have hf := ip hc5 hf
            refine V_aload_n E 0 rfl dX2_walk_38 ?_
            refine V_iload E 6 rfl dX2_walk_39 ?_
            refine V_lload E 7 rfl dX2_walk_41 ?_
            refine V_ldc2 E (v := (5040 : Int64)) dX2_walk_43 kX2_62 ?_
            refine V_lload E 4 rfl dX2_walk_46 ?_
            refine V_lmul E dX2_walk_48 ?_
            obtain ⟨u6, hu6, hf⟩ := bd hf
            refine V_frG E (wr := (gCh G qCh ch_taken ch_turn ch_drift ch_right ch_closed ch_follower ch_ahead ch_linkE ch_linkF ch_placeRight ch_placeLower ++ (gSe G qSe se_cells se_apart se_surplus se_seamCost se_column se_gap se_cost))) (ws' := (gCh G qCh ch_taken ch_turn ch_drift ch_right ch_closed ch_follower ch_ahead ch_linkE ch_linkF ch_placeRight ch_placeLower ++ (gSe G qSe se_cells se_apart se_surplus se_seamCost se_column se_gap se_cost ++ (gLe G qLe le_restAbove le_restBelow u6.1 u6.2)))) [15, 16, 17] [0, 1, 2, 3, 4, 5, 6, 7, 8, 9, 10, 11, 12, 13, 14] [0, 1, 2, 3, 4, 5, 6, 7, 8, 9, 10, 11, 12, 13, 14, 15, 16, 17] rfl rfl ⟨rfl, rfl, rfl, rfl⟩ rfl (Rn_V E (rest := []) mlX2_68 wd_yX2_setLevel (kLe_setLevel l G qLe a9_8 a9_9 ((5040 : Int64) * p4) le_restAbove le_restBelow c9_le_above c9_le_below u6 hu6) ⟨rfl, rfl, Nat.le_of_ble_eq_true rfl, Nat.le_of_ble_eq_true rfl⟩ 0 rfl rfl rfl rfl rfl (Nat.le_of_ble_eq_true rfl) dX2_walk_49) ?_
            show V G p l e rmLe_walk s m args below meth c 12 A Q 0 0 (gCh G qCh ch_taken ch_turn ch_drift ch_right ch_closed ch_follower ch_ahead ch_linkE ch_linkF ch_placeRight ch_placeLower ++ (gSe G qSe se_cells se_apart se_surplus se_seamCost se_column se_gap se_cost ++ (gLe G qLe le_restAbove le_restBelow u6.1 u6.2))) 52 [(0, .ref (qLe 0)), (1, .ref (qCh 0)), (2, .ref (qSe 0)), (3, .int p3), (4, .long p4), (6, .long p6), (8, .int a9_8), (9, .long a9_9), (11, .int a9_11)] []
            refine V_lload E 7 rfl dX2_walk_52 ?_
            refine V_aload_n E 2 rfl dX2_walk_54 ?_
            refine V_iload E 6 rfl dX2_walk_55 ?_
            obtain ⟨u7, hu7, hf⟩ := bd hf
            refine V_frG E (wr := (gCh G qCh ch_taken ch_turn ch_drift ch_right ch_closed ch_follower ch_ahead ch_linkE ch_linkF ch_placeRight ch_placeLower ++ (gLe G qLe le_restAbove le_restBelow u6.1 u6.2))) (ws' := (gCh G qCh ch_taken ch_turn ch_drift ch_right ch_closed ch_follower ch_ahead ch_linkE ch_linkF ch_placeRight ch_placeLower ++ (gSe G qSe se_cells se_apart se_surplus se_seamCost se_column se_gap se_cost ++ (gLe G qLe le_restAbove le_restBelow u6.1 u6.2)))) [7, 8, 9, 10, 11, 12, 13, 14] [0, 1, 2, 3, 4, 5, 6, 15, 16, 17] [0, 1, 2, 3, 4, 5, 6, 10, 11, 12, 13, 14, 15, 16, 17, 7, 8, 9] rfl rfl ⟨rfl, rfl, rfl, rfl⟩ rfl (Rn_V E (rest := [.long a9_9]) mlX2_50 wd_yX6_surplusOf (kSe_surplusOf l G qSe a9_8 se_cells se_apart se_surplus se_seamCost se_column se_gap se_cost u7 hu7) ⟨rfl, rfl, Nat.le_of_ble_eq_true rfl, Nat.le_of_ble_eq_true rfl⟩ 0 rfl rfl rfl rfl rfl (Nat.le_of_ble_eq_true rfl) dX2_walk_57) ?_
            show V G p l e rmLe_walk s m args below meth c 12 A Q 0 0 (gCh G qCh ch_taken ch_turn ch_drift ch_right ch_closed ch_follower ch_ahead ch_linkE ch_linkF ch_placeRight ch_placeLower ++ (gSe G qSe se_cells se_apart se_surplus se_seamCost se_column se_gap se_cost ++ (gLe G qLe le_restAbove le_restBelow u6.1 u6.2))) 60 [(0, .ref (qLe 0)), (1, .ref (qCh 0)), (2, .ref (qSe 0)), (3, .int p3), (4, .long p4), (6, .long p6), (8, .int a9_8), (9, .long a9_9), (11, .int a9_11)] [.int u7, .long a9_9]
            refine V_i2l E dX2_walk_60 ?_
            refine V_lload E 4 rfl dX2_walk_61 ?_
            refine V_lmul E dX2_walk_63 ?_
            refine V_lload E 5 rfl dX2_walk_64 ?_
            refine V_lsub E dX2_walk_66 ?_
            refine V_aload_n E 2 rfl dX2_walk_67 ?_
            refine V_iload E 6 rfl dX2_walk_68 ?_
            obtain ⟨u8, hu8, hf⟩ := bd hf
            refine V_frG E (wr := (gCh G qCh ch_taken ch_turn ch_drift ch_right ch_closed ch_follower ch_ahead ch_linkE ch_linkF ch_placeRight ch_placeLower ++ (gLe G qLe le_restAbove le_restBelow u6.1 u6.2))) (ws' := (gCh G qCh ch_taken ch_turn ch_drift ch_right ch_closed ch_follower ch_ahead ch_linkE ch_linkF ch_placeRight ch_placeLower ++ (gSe G qSe se_cells se_apart se_surplus se_seamCost se_column se_gap se_cost ++ (gLe G qLe le_restAbove le_restBelow u6.1 u6.2)))) [7, 8, 9, 10, 11, 12, 13, 14] [0, 1, 2, 3, 4, 5, 6, 15, 16, 17] [0, 1, 2, 3, 4, 5, 6, 10, 11, 12, 13, 14, 15, 16, 17, 7, 8, 9] rfl rfl ⟨rfl, rfl, rfl, rfl⟩ rfl (Rn_V E (rest := [.long ((u7.toInt64 * p4) - p6), .long a9_9]) mlX2_55 wd_yX6_cellsOf (kSe_cellsOf l G qSe a9_8 se_cells se_apart se_surplus se_seamCost se_column se_gap se_cost u8 hu8) ⟨rfl, rfl, Nat.le_of_ble_eq_true rfl, Nat.le_of_ble_eq_true rfl⟩ 0 rfl rfl rfl rfl rfl (Nat.le_of_ble_eq_true rfl) dX2_walk_70) ?_
            show V G p l e rmLe_walk s m args below meth c 12 A Q 0 0 (gCh G qCh ch_taken ch_turn ch_drift ch_right ch_closed ch_follower ch_ahead ch_linkE ch_linkF ch_placeRight ch_placeLower ++ (gSe G qSe se_cells se_apart se_surplus se_seamCost se_column se_gap se_cost ++ (gLe G qLe le_restAbove le_restBelow u6.1 u6.2))) 73 [(0, .ref (qLe 0)), (1, .ref (qCh 0)), (2, .ref (qSe 0)), (3, .int p3), (4, .long p4), (6, .long p6), (8, .int a9_8), (9, .long a9_9), (11, .int a9_11)] [.int u8, .long ((u7.toInt64 * p4) - p6), .long a9_9]
            obtain ⟨u9, hu9, hf⟩ := bd hf
            refine V_fr0 E (Rn_S E (rest := [.long ((u7.toInt64 * p4) - p6), .long a9_9]) mlX2_58 wd_yX2_share (kLe_share l G u8 u9 hu9) ⟨rfl, rfl, Nat.le_of_ble_eq_true rfl, Nat.le_of_ble_eq_true rfl⟩ rfl rfl (Nat.le_of_ble_eq_true rfl) dX2_walk_73) ?_
            show V G p l e rmLe_walk s m args below meth c 12 A Q 0 0 (gCh G qCh ch_taken ch_turn ch_drift ch_right ch_closed ch_follower ch_ahead ch_linkE ch_linkF ch_placeRight ch_placeLower ++ (gSe G qSe se_cells se_apart se_surplus se_seamCost se_column se_gap se_cost ++ (gLe G qLe le_restAbove le_restBelow u6.1 u6.2))) 76 [(0, .ref (qLe 0)), (1, .ref (qCh 0)), (2, .ref (qSe 0)), (3, .int p3), (4, .long p4), (6, .long p6), (8, .int a9_8), (9, .long a9_9), (11, .int a9_11)] [.long u9, .long ((u7.toInt64 * p4) - p6), .long a9_9]
            refine V_lmul E dX2_walk_76 ?_
            refine V_ladd E dX2_walk_77 ?_
            obtain ⟨t10, ht10, hf⟩ := bd hf
            have ht10 := Option.some.inj ht10
            rw [ht10]
            refine V_lstore E (lv' := [(0, .ref (qLe 0)), (1, .ref (qCh 0)), (2, .ref (qSe 0)), (3, .int p3), (4, .long p4), (6, .long p6), (8, .int a9_8), (9, .long t10), (11, .int a9_11)]) dX2_walk_78 (by decide) rfl ?_
            refine V_aload_n E 1 rfl dX2_walk_80 ?_
            refine V_iload E 6 rfl dX2_walk_81 ?_
            obtain ⟨u11, hu11, hf⟩ := bd hf
            refine V_frG E (wr := (gSe G qSe se_cells se_apart se_surplus se_seamCost se_column se_gap se_cost ++ (gLe G qLe le_restAbove le_restBelow u6.1 u6.2))) (ws' := (gCh G qCh ch_taken ch_turn ch_drift ch_right ch_closed ch_follower ch_ahead ch_linkE ch_linkF ch_placeRight ch_placeLower ++ (gSe G qSe se_cells se_apart se_surplus se_seamCost se_column se_gap se_cost ++ (gLe G qLe le_restAbove le_restBelow u6.1 u6.2)))) [0, 1, 2, 3, 4, 5, 6] [7, 8, 9, 10, 11, 12, 13, 14, 15, 16, 17] [11, 12, 13, 14, 15, 16, 17, 0, 1, 2, 3, 4, 5, 6, 7, 8, 9, 10] rfl rfl ⟨rfl, rfl, rfl, rfl⟩ rfl (Rn_V E (rest := []) mlX2_47 wd_yX0_followerOf (kCh_followerOf l G qCh a9_8 ch_taken ch_turn ch_drift ch_right ch_closed ch_follower ch_ahead ch_linkE ch_linkF ch_placeRight ch_placeLower u11 hu11) ⟨rfl, rfl, Nat.le_of_ble_eq_true rfl, Nat.le_of_ble_eq_true rfl⟩ 0 rfl rfl rfl rfl rfl (Nat.le_of_ble_eq_true rfl) dX2_walk_83) ?_
            show V G p l e rmLe_walk s m args below meth c 12 A Q 0 0 (gCh G qCh ch_taken ch_turn ch_drift ch_right ch_closed ch_follower ch_ahead ch_linkE ch_linkF ch_placeRight ch_placeLower ++ (gSe G qSe se_cells se_apart se_surplus se_seamCost se_column se_gap se_cost ++ (gLe G qLe le_restAbove le_restBelow u6.1 u6.2))) 86 [(0, .ref (qLe 0)), (1, .ref (qCh 0)), (2, .ref (qSe 0)), (3, .int p3), (4, .long p4), (6, .long p6), (8, .int a9_8), (9, .long t10), (11, .int a9_11)] [.int u11]
            refine V_istore E (lv' := [(0, .ref (qLe 0)), (1, .ref (qCh 0)), (2, .ref (qSe 0)), (3, .int p3), (4, .long p4), (6, .long p6), (8, .int u11), (9, .long t10), (11, .int a9_11)]) dX2_walk_86 (by decide) rfl ?_
            refine V_iinc E (v := (a9_11 + (1 : Int32))) (lv' := [(0, .ref (qLe 0)), (1, .ref (qCh 0)), (2, .ref (qSe 0)), (3, .int p3), (4, .long p4), (6, .long p6), (8, .int u11), (9, .long t10), (11, .int (a9_11 + (1 : Int32)))]) 8 rfl dX2_walk_88 rfl (by decide) rfl ?_
            refine V_goto E (tgt := 9) dX2_walk_91 (by decide) ?_
            exact ih u11 t10 (a9_11 + (1 : Int32)) u6.1 u6.2 _ hf hk hr
          · have hf := iq hc5 hf
            refine V_iload E 6 rfl dX2_walk_31 ?_
            refine V_iload_n E 3 rfl dX2_walk_33 ?_
            refine V_icmp_ne E (tgt := 38) dX2_walk_34 (by decide) (fun hc12 => ?_) (fun hc12 => ?_)
            · have hf := iq hc12 hf
              refine V_aload_n E 0 rfl dX2_walk_38 ?_
              refine V_iload E 6 rfl dX2_walk_39 ?_
              refine V_lload E 7 rfl dX2_walk_41 ?_
              refine V_ldc2 E (v := (5040 : Int64)) dX2_walk_43 kX2_62 ?_
              refine V_lload E 4 rfl dX2_walk_46 ?_
              refine V_lmul E dX2_walk_48 ?_
              obtain ⟨u13, hu13, hf⟩ := bd hf
              refine V_frG E (wr := (gCh G qCh ch_taken ch_turn ch_drift ch_right ch_closed ch_follower ch_ahead ch_linkE ch_linkF ch_placeRight ch_placeLower ++ (gSe G qSe se_cells se_apart se_surplus se_seamCost se_column se_gap se_cost))) (ws' := (gCh G qCh ch_taken ch_turn ch_drift ch_right ch_closed ch_follower ch_ahead ch_linkE ch_linkF ch_placeRight ch_placeLower ++ (gSe G qSe se_cells se_apart se_surplus se_seamCost se_column se_gap se_cost ++ (gLe G qLe le_restAbove le_restBelow u13.1 u13.2)))) [15, 16, 17] [0, 1, 2, 3, 4, 5, 6, 7, 8, 9, 10, 11, 12, 13, 14] [0, 1, 2, 3, 4, 5, 6, 7, 8, 9, 10, 11, 12, 13, 14, 15, 16, 17] rfl rfl ⟨rfl, rfl, rfl, rfl⟩ rfl (Rn_V E (rest := []) mlX2_68 wd_yX2_setLevel (kLe_setLevel l G qLe a9_8 a9_9 ((5040 : Int64) * p4) le_restAbove le_restBelow c9_le_above c9_le_below u13 hu13) ⟨rfl, rfl, Nat.le_of_ble_eq_true rfl, Nat.le_of_ble_eq_true rfl⟩ 0 rfl rfl rfl rfl rfl (Nat.le_of_ble_eq_true rfl) dX2_walk_49) ?_
              show V G p l e rmLe_walk s m args below meth c 12 A Q 0 0 (gCh G qCh ch_taken ch_turn ch_drift ch_right ch_closed ch_follower ch_ahead ch_linkE ch_linkF ch_placeRight ch_placeLower ++ (gSe G qSe se_cells se_apart se_surplus se_seamCost se_column se_gap se_cost ++ (gLe G qLe le_restAbove le_restBelow u13.1 u13.2))) 52 [(0, .ref (qLe 0)), (1, .ref (qCh 0)), (2, .ref (qSe 0)), (3, .int p3), (4, .long p4), (6, .long p6), (8, .int a9_8), (9, .long a9_9), (11, .int a9_11)] []
              refine V_lload E 7 rfl dX2_walk_52 ?_
              refine V_aload_n E 2 rfl dX2_walk_54 ?_
              refine V_iload E 6 rfl dX2_walk_55 ?_
              obtain ⟨u14, hu14, hf⟩ := bd hf
              refine V_frG E (wr := (gCh G qCh ch_taken ch_turn ch_drift ch_right ch_closed ch_follower ch_ahead ch_linkE ch_linkF ch_placeRight ch_placeLower ++ (gLe G qLe le_restAbove le_restBelow u13.1 u13.2))) (ws' := (gCh G qCh ch_taken ch_turn ch_drift ch_right ch_closed ch_follower ch_ahead ch_linkE ch_linkF ch_placeRight ch_placeLower ++ (gSe G qSe se_cells se_apart se_surplus se_seamCost se_column se_gap se_cost ++ (gLe G qLe le_restAbove le_restBelow u13.1 u13.2)))) [7, 8, 9, 10, 11, 12, 13, 14] [0, 1, 2, 3, 4, 5, 6, 15, 16, 17] [0, 1, 2, 3, 4, 5, 6, 10, 11, 12, 13, 14, 15, 16, 17, 7, 8, 9] rfl rfl ⟨rfl, rfl, rfl, rfl⟩ rfl (Rn_V E (rest := [.long a9_9]) mlX2_50 wd_yX6_surplusOf (kSe_surplusOf l G qSe a9_8 se_cells se_apart se_surplus se_seamCost se_column se_gap se_cost u14 hu14) ⟨rfl, rfl, Nat.le_of_ble_eq_true rfl, Nat.le_of_ble_eq_true rfl⟩ 0 rfl rfl rfl rfl rfl (Nat.le_of_ble_eq_true rfl) dX2_walk_57) ?_
              show V G p l e rmLe_walk s m args below meth c 12 A Q 0 0 (gCh G qCh ch_taken ch_turn ch_drift ch_right ch_closed ch_follower ch_ahead ch_linkE ch_linkF ch_placeRight ch_placeLower ++ (gSe G qSe se_cells se_apart se_surplus se_seamCost se_column se_gap se_cost ++ (gLe G qLe le_restAbove le_restBelow u13.1 u13.2))) 60 [(0, .ref (qLe 0)), (1, .ref (qCh 0)), (2, .ref (qSe 0)), (3, .int p3), (4, .long p4), (6, .long p6), (8, .int a9_8), (9, .long a9_9), (11, .int a9_11)] [.int u14, .long a9_9]
              refine V_i2l E dX2_walk_60 ?_
              refine V_lload E 4 rfl dX2_walk_61 ?_
              refine V_lmul E dX2_walk_63 ?_
              refine V_lload E 5 rfl dX2_walk_64 ?_
              refine V_lsub E dX2_walk_66 ?_
              refine V_aload_n E 2 rfl dX2_walk_67 ?_
              refine V_iload E 6 rfl dX2_walk_68 ?_
              obtain ⟨u15, hu15, hf⟩ := bd hf
              refine V_frG E (wr := (gCh G qCh ch_taken ch_turn ch_drift ch_right ch_closed ch_follower ch_ahead ch_linkE ch_linkF ch_placeRight ch_placeLower ++ (gLe G qLe le_restAbove le_restBelow u13.1 u13.2))) (ws' := (gCh G qCh ch_taken ch_turn ch_drift ch_right ch_closed ch_follower ch_ahead ch_linkE ch_linkF ch_placeRight ch_placeLower ++ (gSe G qSe se_cells se_apart se_surplus se_seamCost se_column se_gap se_cost ++ (gLe G qLe le_restAbove le_restBelow u13.1 u13.2)))) [7, 8, 9, 10, 11, 12, 13, 14] [0, 1, 2, 3, 4, 5, 6, 15, 16, 17] [0, 1, 2, 3, 4, 5, 6, 10, 11, 12, 13, 14, 15, 16, 17, 7, 8, 9] rfl rfl ⟨rfl, rfl, rfl, rfl⟩ rfl (Rn_V E (rest := [.long ((u14.toInt64 * p4) - p6), .long a9_9]) mlX2_55 wd_yX6_cellsOf (kSe_cellsOf l G qSe a9_8 se_cells se_apart se_surplus se_seamCost se_column se_gap se_cost u15 hu15) ⟨rfl, rfl, Nat.le_of_ble_eq_true rfl, Nat.le_of_ble_eq_true rfl⟩ 0 rfl rfl rfl rfl rfl (Nat.le_of_ble_eq_true rfl) dX2_walk_70) ?_
              show V G p l e rmLe_walk s m args below meth c 12 A Q 0 0 (gCh G qCh ch_taken ch_turn ch_drift ch_right ch_closed ch_follower ch_ahead ch_linkE ch_linkF ch_placeRight ch_placeLower ++ (gSe G qSe se_cells se_apart se_surplus se_seamCost se_column se_gap se_cost ++ (gLe G qLe le_restAbove le_restBelow u13.1 u13.2))) 73 [(0, .ref (qLe 0)), (1, .ref (qCh 0)), (2, .ref (qSe 0)), (3, .int p3), (4, .long p4), (6, .long p6), (8, .int a9_8), (9, .long a9_9), (11, .int a9_11)] [.int u15, .long ((u14.toInt64 * p4) - p6), .long a9_9]
              obtain ⟨u16, hu16, hf⟩ := bd hf
              refine V_fr0 E (Rn_S E (rest := [.long ((u14.toInt64 * p4) - p6), .long a9_9]) mlX2_58 wd_yX2_share (kLe_share l G u15 u16 hu16) ⟨rfl, rfl, Nat.le_of_ble_eq_true rfl, Nat.le_of_ble_eq_true rfl⟩ rfl rfl (Nat.le_of_ble_eq_true rfl) dX2_walk_73) ?_
              show V G p l e rmLe_walk s m args below meth c 12 A Q 0 0 (gCh G qCh ch_taken ch_turn ch_drift ch_right ch_closed ch_follower ch_ahead ch_linkE ch_linkF ch_placeRight ch_placeLower ++ (gSe G qSe se_cells se_apart se_surplus se_seamCost se_column se_gap se_cost ++ (gLe G qLe le_restAbove le_restBelow u13.1 u13.2))) 76 [(0, .ref (qLe 0)), (1, .ref (qCh 0)), (2, .ref (qSe 0)), (3, .int p3), (4, .long p4), (6, .long p6), (8, .int a9_8), (9, .long a9_9), (11, .int a9_11)] [.long u16, .long ((u14.toInt64 * p4) - p6), .long a9_9]
              refine V_lmul E dX2_walk_76 ?_
              refine V_ladd E dX2_walk_77 ?_
              obtain ⟨t17, ht17, hf⟩ := bd hf
              have ht17 := Option.some.inj ht17
              rw [ht17]
              refine V_lstore E (lv' := [(0, .ref (qLe 0)), (1, .ref (qCh 0)), (2, .ref (qSe 0)), (3, .int p3), (4, .long p4), (6, .long p6), (8, .int a9_8), (9, .long t17), (11, .int a9_11)]) dX2_walk_78 (by decide) rfl ?_
              refine V_aload_n E 1 rfl dX2_walk_80 ?_
              refine V_iload E 6 rfl dX2_walk_81 ?_
              obtain ⟨u18, hu18, hf⟩ := bd hf
              refine V_frG E (wr := (gSe G qSe se_cells se_apart se_surplus se_seamCost se_column se_gap se_cost ++ (gLe G qLe le_restAbove le_restBelow u13.1 u13.2))) (ws' := (gCh G qCh ch_taken ch_turn ch_drift ch_right ch_closed ch_follower ch_ahead ch_linkE ch_linkF ch_placeRight ch_placeLower ++ (gSe G qSe se_cells se_apart se_surplus se_seamCost se_column se_gap se_cost ++ (gLe G qLe le_restAbove le_restBelow u13.1 u13.2)))) [0, 1, 2, 3, 4, 5, 6] [7, 8, 9, 10, 11, 12, 13, 14, 15, 16, 17] [11, 12, 13, 14, 15, 16, 17, 0, 1, 2, 3, 4, 5, 6, 7, 8, 9, 10] rfl rfl ⟨rfl, rfl, rfl, rfl⟩ rfl (Rn_V E (rest := []) mlX2_47 wd_yX0_followerOf (kCh_followerOf l G qCh a9_8 ch_taken ch_turn ch_drift ch_right ch_closed ch_follower ch_ahead ch_linkE ch_linkF ch_placeRight ch_placeLower u18 hu18) ⟨rfl, rfl, Nat.le_of_ble_eq_true rfl, Nat.le_of_ble_eq_true rfl⟩ 0 rfl rfl rfl rfl rfl (Nat.le_of_ble_eq_true rfl) dX2_walk_83) ?_
              show V G p l e rmLe_walk s m args below meth c 12 A Q 0 0 (gCh G qCh ch_taken ch_turn ch_drift ch_right ch_closed ch_follower ch_ahead ch_linkE ch_linkF ch_placeRight ch_placeLower ++ (gSe G qSe se_cells se_apart se_surplus se_seamCost se_column se_gap se_cost ++ (gLe G qLe le_restAbove le_restBelow u13.1 u13.2))) 86 [(0, .ref (qLe 0)), (1, .ref (qCh 0)), (2, .ref (qSe 0)), (3, .int p3), (4, .long p4), (6, .long p6), (8, .int a9_8), (9, .long t17), (11, .int a9_11)] [.int u18]
              refine V_istore E (lv' := [(0, .ref (qLe 0)), (1, .ref (qCh 0)), (2, .ref (qSe 0)), (3, .int p3), (4, .long p4), (6, .long p6), (8, .int u18), (9, .long t17), (11, .int a9_11)]) dX2_walk_86 (by decide) rfl ?_
              refine V_iinc E (v := (a9_11 + (1 : Int32))) (lv' := [(0, .ref (qLe 0)), (1, .ref (qCh 0)), (2, .ref (qSe 0)), (3, .int p3), (4, .long p4), (6, .long p6), (8, .int u18), (9, .long t17), (11, .int (a9_11 + (1 : Int32)))]) 8 rfl dX2_walk_88 rfl (by decide) rfl ?_
              refine V_goto E (tgt := 9) dX2_walk_91 (by decide) ?_
              exact ih u18 t17 (a9_11 + (1 : Int32)) u13.1 u13.2 _ hf hk hr
            · have hf := ip hc12 hf
              have h9 := hret 37 [(0, .ref (qLe 0)), (1, .ref (qCh 0)), (2, .ref (qSe 0)), (3, .int p3), (4, .long p4), (6, .long p6), (8, .int a9_8), (9, .long a9_9), (11, .int a9_11)] dX2_walk_37
              rw [← (hr _ (Option.some.inj hf).symm)] at h9
              exact h9
  obtain ⟨u1, hu1, hf⟩ := bd hf
  refine L9 FU p3 (0 : Int64) (0 : Int32) le_above le_below u1 hu1 (fun x19 hx => ?_) (fun r hx => ?_)
  · rw [hx, Sum.elim_inr] at hf
    have h9 := hret 94 [] dX2_walk_94
    rw [← (Option.some.inj hf)] at h9
    exact h9
  · rw [hx, Sum.elim_inl] at hf
    exact Option.some.inj hf
abbrev rmLe_agreeRound : Room := { frames := 3, cells := 0, slots := 0, locals := 88 }
theorem wd_yX2_agreeRound : wdV yX2_agreeRound cX2_agreeRound 9 none 2 := ⟨wc_yX2_agreeRound, wi_yX2_agreeRound, wse_yX2_agreeRound, wini_X2, by decide +kernel, by decide +kernel, by decide +kernel⟩
set_option maxHeartbeats 4000000 in
set_option maxRecDepth 100000 in
theorem kLe_agreeRound (l : Launch) (G : wG) (qCh : Nat → Nat) (qSe : Nat → Nat) (qLe : Nat → Nat) (ch_taken : Int32) (ch_turn : Int32) (ch_drift : Int32) (ch_right : Int32) (ch_closed : Int32) (ch_follower : Nat → Int32) (ch_ahead : Nat → Int32) (ch_linkE : Nat → Int32) (ch_linkF : Nat → Int32) (ch_placeRight : Nat → Int32) (ch_placeLower : Nat → Int32) (se_cells : Nat → Int32) (se_apart : Nat → Int32) (se_surplus : Nat → Int32) (se_seamCost : Nat → Int32) (se_column : Nat → Int32) (se_gap : Nat → Int32) (se_cost : Nat → Int32) (le_restAbove : Int64) (le_restBelow : Int64) (le_above : Nat → Int64) (le_below : Nat → Int64) (o : Int64 × Int64 × (Nat → Int64) × (Nat → Int64)) (hf : fLe_agreeRound ch_follower se_cells se_surplus le_restAbove le_restBelow le_above le_below = some o) : Ct G l yX2_agreeRound cX2_agreeRound 9 none rmLe_agreeRound [.ref (qLe 0), .ref (qCh 0), .ref (qSe 0)] (gCh G qCh ch_taken ch_turn ch_drift ch_right ch_closed ch_follower ch_ahead ch_linkE ch_linkF ch_placeRight ch_placeLower ++ (gSe G qSe se_cells se_apart se_surplus se_seamCost se_column se_gap se_cost ++ (gLe G qLe le_restAbove le_restBelow le_above le_below))) none (gCh G qCh ch_taken ch_turn ch_drift ch_right ch_closed ch_follower ch_ahead ch_linkE ch_linkF ch_placeRight ch_placeLower ++ (gSe G qSe se_cells se_apart se_surplus se_seamCost se_column se_gap se_cost ++ (gLe G qLe o.1 o.2.1 o.2.2.1 o.2.2.2))) := by
  refine Ct.ofV (by decide +kernel) (Nat.le_of_ble_eq_true rfl) (fun p e s m args below meth c A Q E hret => ?_)
  unfold fLe_agreeRound at hf
  show V G p l e rmLe_agreeRound s m args below meth c 9 A Q 0 0 (gCh G qCh ch_taken ch_turn ch_drift ch_right ch_closed ch_follower ch_ahead ch_linkE ch_linkF ch_placeRight ch_placeLower ++ (gSe G qSe se_cells se_apart se_surplus se_seamCost se_column se_gap se_cost ++ (gLe G qLe le_restAbove le_restBelow le_above le_below))) 0 [(0, .ref (qLe 0)), (1, .ref (qCh 0)), (2, .ref (qSe 0))] []
  refine V_lconst E (v := (0 : Int64)) dX2_agreeRound_0 (by decide) ?_
  refine V_lstore_n E (lv' := [(0, .ref (qLe 0)), (1, .ref (qCh 0)), (2, .ref (qSe 0)), (3, .long (0 : Int64))]) dX2_agreeRound_1 (by decide) rfl ?_
  refine V_lconst E (v := (0 : Int64)) dX2_agreeRound_2 (by decide) ?_
  refine V_lstore E (lv' := [(0, .ref (qLe 0)), (1, .ref (qCh 0)), (2, .ref (qSe 0)), (3, .long (0 : Int64)), (5, .long (0 : Int64))]) dX2_agreeRound_3 (by decide) rfl ?_
  refine V_iconst E (v := (0 : Int32)) dX2_agreeRound_5 (by decide) ?_
  refine V_istore E (lv' := [(0, .ref (qLe 0)), (1, .ref (qCh 0)), (2, .ref (qSe 0)), (3, .long (0 : Int64)), (5, .long (0 : Int64)), (7, .int (0 : Int32))]) dX2_agreeRound_6 (by decide) rfl ?_
  have L8 : ∀ (n : Nat) (a8_3 : Int64) (a8_5 : Int64) (a8_7 : Int32) (u : Int64 × Int64), fLe_agreeRound_L8 ch_follower se_cells se_surplus n a8_3 a8_5 a8_7 = some u → (V G p l e rmLe_agreeRound s m args below meth c 9 A Q 0 0 (gCh G qCh ch_taken ch_turn ch_drift ch_right ch_closed ch_follower ch_ahead ch_linkE ch_linkF ch_placeRight ch_placeLower ++ (gSe G qSe se_cells se_apart se_surplus se_seamCost se_column se_gap se_cost ++ (gLe G qLe le_restAbove le_restBelow le_above le_below))) 65 [(0, .ref (qLe 0)), (1, .ref (qCh 0)), (2, .ref (qSe 0)), (3, .long u.1), (5, .long u.2)] []) → V G p l e rmLe_agreeRound s m args below meth c 9 A Q 0 0 (gCh G qCh ch_taken ch_turn ch_drift ch_right ch_closed ch_follower ch_ahead ch_linkE ch_linkF ch_placeRight ch_placeLower ++ (gSe G qSe se_cells se_apart se_surplus se_seamCost se_column se_gap se_cost ++ (gLe G qLe le_restAbove le_restBelow le_above le_below))) 8 [(0, .ref (qLe 0)), (1, .ref (qCh 0)), (2, .ref (qSe 0)), (3, .long a8_3), (5, .long a8_5), (7, .int a8_7)] [] := by
    intro n
    induction n with
    | zero =>
      intro a8_3 a8_5 a8_7 u hf hk
      rw [fLe_agreeRound_L8] at hf
      cases hf
    | succ n ih =>
      intro a8_3 a8_5 a8_7 u hf hk
      rw [fLe_agreeRound_L8] at hf
      refine V_iload E 5 rfl dX2_agreeRound_8 ?_
      refine V_bipush E (v := (6 : Int32)) dX2_agreeRound_10 (by decide) ?_
      refine V_icmp_ge E (tgt := 65) dX2_agreeRound_12 (by decide) (fun hc2 => ?_) (fun hc2 => ?_)
      · have hf := ip hc2 hf
        refine V_sub [0, 1, 2, 3, 4] rfl ?_
        rw [← Option.some.inj hf] at hk
        exact hk
      · have hf := iq hc2 hf
        refine V_aload_n E 1 rfl dX2_agreeRound_15 ?_
        refine V_iload E 5 rfl dX2_agreeRound_16 ?_
        obtain ⟨u3, hu3, hf⟩ := bd hf
        refine V_frG E (wr := (gSe G qSe se_cells se_apart se_surplus se_seamCost se_column se_gap se_cost ++ (gLe G qLe le_restAbove le_restBelow le_above le_below))) (ws' := (gCh G qCh ch_taken ch_turn ch_drift ch_right ch_closed ch_follower ch_ahead ch_linkE ch_linkF ch_placeRight ch_placeLower ++ (gSe G qSe se_cells se_apart se_surplus se_seamCost se_column se_gap se_cost ++ (gLe G qLe le_restAbove le_restBelow le_above le_below)))) [0, 1, 2, 3, 4, 5, 6] [7, 8, 9, 10, 11, 12, 13, 14, 15, 16, 17] [11, 12, 13, 14, 15, 16, 17, 0, 1, 2, 3, 4, 5, 6, 7, 8, 9, 10] rfl rfl ⟨rfl, rfl, rfl, rfl⟩ rfl (Rn_V E (rest := []) mlX2_47 wd_yX0_followerOf (kCh_followerOf l G qCh a8_7 ch_taken ch_turn ch_drift ch_right ch_closed ch_follower ch_ahead ch_linkE ch_linkF ch_placeRight ch_placeLower u3 hu3) ⟨rfl, rfl, Nat.le_of_ble_eq_true rfl, Nat.le_of_ble_eq_true rfl⟩ 0 rfl rfl rfl rfl rfl (Nat.le_of_ble_eq_true rfl) dX2_agreeRound_18) ?_
        show V G p l e rmLe_agreeRound s m args below meth c 9 A Q 0 0 (gCh G qCh ch_taken ch_turn ch_drift ch_right ch_closed ch_follower ch_ahead ch_linkE ch_linkF ch_placeRight ch_placeLower ++ (gSe G qSe se_cells se_apart se_surplus se_seamCost se_column se_gap se_cost ++ (gLe G qLe le_restAbove le_restBelow le_above le_below))) 21 [(0, .ref (qLe 0)), (1, .ref (qCh 0)), (2, .ref (qSe 0)), (3, .long a8_3), (5, .long a8_5), (7, .int a8_7)] [.int u3]
        refine V_iconst E (v := (-1 : Int32)) dX2_agreeRound_21 (by decide) ?_
        refine V_icmp_eq E (tgt := 59) dX2_agreeRound_22 (by decide) (fun hc4 => ?_) (fun hc4 => ?_)
        · have hf := ip hc4 hf
          refine V_iinc E (v := (a8_7 + (1 : Int32))) (lv' := [(0, .ref (qLe 0)), (1, .ref (qCh 0)), (2, .ref (qSe 0)), (3, .long a8_3), (5, .long a8_5), (7, .int (a8_7 + (1 : Int32)))]) 5 rfl dX2_agreeRound_59 rfl (by decide) rfl ?_
          refine V_goto E (tgt := 8) dX2_agreeRound_62 (by decide) ?_
          exact ih a8_3 a8_5 (a8_7 + (1 : Int32)) _ hf hk
        · have hf := iq hc4 hf
          refine V_lload_n E 3 rfl dX2_agreeRound_25 ?_
          refine V_aload_n E 2 rfl dX2_agreeRound_26 ?_
          refine V_iload E 5 rfl dX2_agreeRound_27 ?_
          obtain ⟨u5, hu5, hf⟩ := bd hf
          refine V_frG E (wr := (gCh G qCh ch_taken ch_turn ch_drift ch_right ch_closed ch_follower ch_ahead ch_linkE ch_linkF ch_placeRight ch_placeLower ++ (gLe G qLe le_restAbove le_restBelow le_above le_below))) (ws' := (gCh G qCh ch_taken ch_turn ch_drift ch_right ch_closed ch_follower ch_ahead ch_linkE ch_linkF ch_placeRight ch_placeLower ++ (gSe G qSe se_cells se_apart se_surplus se_seamCost se_column se_gap se_cost ++ (gLe G qLe le_restAbove le_restBelow le_above le_below)))) [7, 8, 9, 10, 11, 12, 13, 14] [0, 1, 2, 3, 4, 5, 6, 15, 16, 17] [0, 1, 2, 3, 4, 5, 6, 10, 11, 12, 13, 14, 15, 16, 17, 7, 8, 9] rfl rfl ⟨rfl, rfl, rfl, rfl⟩ rfl (Rn_V E (rest := [.long a8_3]) mlX2_50 wd_yX6_surplusOf (kSe_surplusOf l G qSe a8_7 se_cells se_apart se_surplus se_seamCost se_column se_gap se_cost u5 hu5) ⟨rfl, rfl, Nat.le_of_ble_eq_true rfl, Nat.le_of_ble_eq_true rfl⟩ 0 rfl rfl rfl rfl rfl (Nat.le_of_ble_eq_true rfl) dX2_agreeRound_29) ?_
          show V G p l e rmLe_agreeRound s m args below meth c 9 A Q 0 0 (gCh G qCh ch_taken ch_turn ch_drift ch_right ch_closed ch_follower ch_ahead ch_linkE ch_linkF ch_placeRight ch_placeLower ++ (gSe G qSe se_cells se_apart se_surplus se_seamCost se_column se_gap se_cost ++ (gLe G qLe le_restAbove le_restBelow le_above le_below))) 32 [(0, .ref (qLe 0)), (1, .ref (qCh 0)), (2, .ref (qSe 0)), (3, .long a8_3), (5, .long a8_5), (7, .int a8_7)] [.int u5, .long a8_3]
          refine V_i2l E dX2_agreeRound_32 ?_
          refine V_aload_n E 2 rfl dX2_agreeRound_33 ?_
          refine V_iload E 5 rfl dX2_agreeRound_34 ?_
          obtain ⟨u6, hu6, hf⟩ := bd hf
          refine V_frG E (wr := (gCh G qCh ch_taken ch_turn ch_drift ch_right ch_closed ch_follower ch_ahead ch_linkE ch_linkF ch_placeRight ch_placeLower ++ (gLe G qLe le_restAbove le_restBelow le_above le_below))) (ws' := (gCh G qCh ch_taken ch_turn ch_drift ch_right ch_closed ch_follower ch_ahead ch_linkE ch_linkF ch_placeRight ch_placeLower ++ (gSe G qSe se_cells se_apart se_surplus se_seamCost se_column se_gap se_cost ++ (gLe G qLe le_restAbove le_restBelow le_above le_below)))) [7, 8, 9, 10, 11, 12, 13, 14] [0, 1, 2, 3, 4, 5, 6, 15, 16, 17] [0, 1, 2, 3, 4, 5, 6, 10, 11, 12, 13, 14, 15, 16, 17, 7, 8, 9] rfl rfl ⟨rfl, rfl, rfl, rfl⟩ rfl (Rn_V E (rest := [.long u5.toInt64, .long a8_3]) mlX2_55 wd_yX6_cellsOf (kSe_cellsOf l G qSe a8_7 se_cells se_apart se_surplus se_seamCost se_column se_gap se_cost u6 hu6) ⟨rfl, rfl, Nat.le_of_ble_eq_true rfl, Nat.le_of_ble_eq_true rfl⟩ 0 rfl rfl rfl rfl rfl (Nat.le_of_ble_eq_true rfl) dX2_agreeRound_36) ?_
          show V G p l e rmLe_agreeRound s m args below meth c 9 A Q 0 0 (gCh G qCh ch_taken ch_turn ch_drift ch_right ch_closed ch_follower ch_ahead ch_linkE ch_linkF ch_placeRight ch_placeLower ++ (gSe G qSe se_cells se_apart se_surplus se_seamCost se_column se_gap se_cost ++ (gLe G qLe le_restAbove le_restBelow le_above le_below))) 39 [(0, .ref (qLe 0)), (1, .ref (qCh 0)), (2, .ref (qSe 0)), (3, .long a8_3), (5, .long a8_5), (7, .int a8_7)] [.int u6, .long u5.toInt64, .long a8_3]
          obtain ⟨u7, hu7, hf⟩ := bd hf
          refine V_fr0 E (Rn_S E (rest := [.long u5.toInt64, .long a8_3]) mlX2_58 wd_yX2_share (kLe_share l G u6 u7 hu7) ⟨rfl, rfl, Nat.le_of_ble_eq_true rfl, Nat.le_of_ble_eq_true rfl⟩ rfl rfl (Nat.le_of_ble_eq_true rfl) dX2_agreeRound_39) ?_
          show V G p l e rmLe_agreeRound s m args below meth c 9 A Q 0 0 (gCh G qCh ch_taken ch_turn ch_drift ch_right ch_closed ch_follower ch_ahead ch_linkE ch_linkF ch_placeRight ch_placeLower ++ (gSe G qSe se_cells se_apart se_surplus se_seamCost se_column se_gap se_cost ++ (gLe G qLe le_restAbove le_restBelow le_above le_below))) 42 [(0, .ref (qLe 0)), (1, .ref (qCh 0)), (2, .ref (qSe 0)), (3, .long a8_3), (5, .long a8_5), (7, .int a8_7)] [.long u7, .long u5.toInt64, .long a8_3]
          refine V_lmul E dX2_agreeRound_42 ?_
          refine V_ladd E dX2_agreeRound_43 ?_
          refine V_lstore_n E (lv' := [(0, .ref (qLe 0)), (1, .ref (qCh 0)), (2, .ref (qSe 0)), (3, .long (a8_3 + (u5.toInt64 * u7))), (5, .long a8_5), (7, .int a8_7)]) dX2_agreeRound_44 (by decide) rfl ?_
          refine V_lload E 4 rfl dX2_agreeRound_45 ?_
          refine V_aload_n E 2 rfl dX2_agreeRound_47 ?_
          refine V_iload E 5 rfl dX2_agreeRound_48 ?_
          obtain ⟨u8, hu8, hf⟩ := bd hf
          refine V_frG E (wr := (gCh G qCh ch_taken ch_turn ch_drift ch_right ch_closed ch_follower ch_ahead ch_linkE ch_linkF ch_placeRight ch_placeLower ++ (gLe G qLe le_restAbove le_restBelow le_above le_below))) (ws' := (gCh G qCh ch_taken ch_turn ch_drift ch_right ch_closed ch_follower ch_ahead ch_linkE ch_linkF ch_placeRight ch_placeLower ++ (gSe G qSe se_cells se_apart se_surplus se_seamCost se_column se_gap se_cost ++ (gLe G qLe le_restAbove le_restBelow le_above le_below)))) [7, 8, 9, 10, 11, 12, 13, 14] [0, 1, 2, 3, 4, 5, 6, 15, 16, 17] [0, 1, 2, 3, 4, 5, 6, 10, 11, 12, 13, 14, 15, 16, 17, 7, 8, 9] rfl rfl ⟨rfl, rfl, rfl, rfl⟩ rfl (Rn_V E (rest := [.long a8_5]) mlX2_55 wd_yX6_cellsOf (kSe_cellsOf l G qSe a8_7 se_cells se_apart se_surplus se_seamCost se_column se_gap se_cost u8 hu8) ⟨rfl, rfl, Nat.le_of_ble_eq_true rfl, Nat.le_of_ble_eq_true rfl⟩ 0 rfl rfl rfl rfl rfl (Nat.le_of_ble_eq_true rfl) dX2_agreeRound_50) ?_
          show V G p l e rmLe_agreeRound s m args below meth c 9 A Q 0 0 (gCh G qCh ch_taken ch_turn ch_drift ch_right ch_closed ch_follower ch_ahead ch_linkE ch_linkF ch_placeRight ch_placeLower ++ (gSe G qSe se_cells se_apart se_surplus se_seamCost se_column se_gap se_cost ++ (gLe G qLe le_restAbove le_restBelow le_above le_below))) 53 [(0, .ref (qLe 0)), (1, .ref (qCh 0)), (2, .ref (qSe 0)), (3, .long (a8_3 + (u5.toInt64 * u7))), (5, .long a8_5), (7, .int a8_7)] [.int u8, .long a8_5]
          obtain ⟨u9, hu9, hf⟩ := bd hf
          refine V_fr0 E (Rn_S E (rest := [.long a8_5]) mlX2_58 wd_yX2_share (kLe_share l G u8 u9 hu9) ⟨rfl, rfl, Nat.le_of_ble_eq_true rfl, Nat.le_of_ble_eq_true rfl⟩ rfl rfl (Nat.le_of_ble_eq_true rfl) dX2_agreeRound_53) ?_
          show V G p l e rmLe_agreeRound s m args below meth c 9 A Q 0 0 (gCh G qCh ch_taken ch_turn ch_drift ch_right ch_closed ch_follower ch_ahead ch_linkE ch_linkF ch_placeRight ch_placeLower ++ (gSe G qSe se_cells se_apart se_surplus se_seamCost se_column se_gap se_cost ++ (gLe G qLe le_restAbove le_restBelow le_above le_below))) 56 [(0, .ref (qLe 0)), (1, .ref (qCh 0)), (2, .ref (qSe 0)), (3, .long (a8_3 + (u5.toInt64 * u7))), (5, .long a8_5), (7, .int a8_7)] [.long u9, .long a8_5]
          refine V_ladd E dX2_agreeRound_56 ?_
          refine V_lstore E (lv' := [(0, .ref (qLe 0)), (1, .ref (qCh 0)), (2, .ref (qSe 0)), (3, .long (a8_3 + (u5.toInt64 * u7))), (5, .long (a8_5 + u9)), (7, .int a8_7)]) dX2_agreeRound_57 (by decide) rfl ?_
          refine V_iinc E (v := (a8_7 + (1 : Int32))) (lv' := [(0, .ref (qLe 0)), (1, .ref (qCh 0)), (2, .ref (qSe 0)), (3, .long (a8_3 + (u5.toInt64 * u7))), (5, .long (a8_5 + u9)), (7, .int (a8_7 + (1 : Int32)))]) 5 rfl dX2_agreeRound_59 rfl (by decide) rfl ?_
          refine V_goto E (tgt := 8) dX2_agreeRound_62 (by decide) ?_
          exact ih (a8_3 + (u5.toInt64 * u7)) (a8_5 + u9) (a8_7 + (1 : Int32)) _ hf hk
  obtain ⟨u1, hu1, hf⟩ := bd hf
  refine L8 FU (0 : Int64) (0 : Int64) (0 : Int32) u1 hu1 ?_
  refine V_aload_n E 0 rfl dX2_agreeRound_65 ?_
  refine V_aload_n E 1 rfl dX2_agreeRound_66 ?_
  refine V_aload_n E 2 rfl dX2_agreeRound_67 ?_
  refine V_iconst E (v := (0 : Int32)) dX2_agreeRound_68 (by decide) ?_
  refine V_lload E 4 rfl dX2_agreeRound_69 ?_
  refine V_lload_n E 3 rfl dX2_agreeRound_71 ?_
  obtain ⟨u10, hu10, hf⟩ := bd hf
  refine V_frW E (Rn_V E (rest := []) mlX2_43 wd_yX2_walk (kLe_walk l G qCh qSe qLe (0 : Int32) u1.2 u1.1 ch_taken ch_turn ch_drift ch_right ch_closed ch_follower ch_ahead ch_linkE ch_linkF ch_placeRight ch_placeLower se_cells se_apart se_surplus se_seamCost se_column se_gap se_cost le_restAbove le_restBelow le_above le_below u10 hu10) ⟨rfl, rfl, Nat.le_of_ble_eq_true rfl, Nat.le_of_ble_eq_true rfl⟩ 15 rfl rfl rfl rfl rfl (Nat.le_of_ble_eq_true rfl) dX2_agreeRound_72) ?_
  show V G p l e rmLe_agreeRound s m args below meth c 9 A Q 0 0 (gCh G qCh ch_taken ch_turn ch_drift ch_right ch_closed ch_follower ch_ahead ch_linkE ch_linkF ch_placeRight ch_placeLower ++ (gSe G qSe se_cells se_apart se_surplus se_seamCost se_column se_gap se_cost ++ (gLe G qLe le_restAbove le_restBelow u10.1 u10.2))) 75 [(0, .ref (qLe 0)), (1, .ref (qCh 0)), (2, .ref (qSe 0)), (3, .long u1.1), (5, .long u1.2)] []
  refine V_lload_n E 3 rfl dX2_agreeRound_75 ?_
  refine V_lload_n E 3 rfl dX2_agreeRound_76 ?_
  refine V_lmul E dX2_agreeRound_77 ?_
  refine V_ldc2 E (v := (5040 : Int64)) dX2_agreeRound_78 kX2_62 ?_
  refine V_lload E 4 rfl dX2_agreeRound_81 ?_
  refine V_lmul E dX2_agreeRound_83 ?_
  obtain ⟨u11, hu11, hf⟩ := bd hf
  refine V_fr0 E (Rn_N E (rest := []) 7 rfl wd_yX7_greatestDivisor (kRi_greatestDivisor l G (u1.1 * u1.1) ((5040 : Int64) * u1.2) u11 hu11) ⟨rfl, rfl, Nat.le_of_ble_eq_true rfl, Nat.le_of_ble_eq_true rfl⟩ rfl rfl (Nat.le_of_ble_eq_true rfl) dX2_agreeRound_84) ?_
  show V G p l e rmLe_agreeRound s m args below meth c 9 A Q 0 0 (gCh G qCh ch_taken ch_turn ch_drift ch_right ch_closed ch_follower ch_ahead ch_linkE ch_linkF ch_placeRight ch_placeLower ++ (gSe G qSe se_cells se_apart se_surplus se_seamCost se_column se_gap se_cost ++ (gLe G qLe le_restAbove le_restBelow u10.1 u10.2))) 87 [(0, .ref (qLe 0)), (1, .ref (qCh 0)), (2, .ref (qSe 0)), (3, .long u1.1), (5, .long u1.2)] [.long u11]
  refine V_lstore E (lv' := [(0, .ref (qLe 0)), (1, .ref (qCh 0)), (2, .ref (qSe 0)), (3, .long u1.1), (5, .long u1.2), (7, .long u11)]) dX2_agreeRound_87 (by decide) rfl ?_
  refine V_lload E 5 rfl dX2_agreeRound_89 ?_
  refine V_lconst E (v := (0 : Int64)) dX2_agreeRound_91 (by decide) ?_
  refine V_lcmp E dX2_agreeRound_92 ?_
  refine V_if_le E (tgt := 119) dX2_agreeRound_93 (by decide) (fun hc12 => ?_) (fun hc12 => ?_)
  · have hf := ip hc12 hf
    have h9 := hret 119 [(0, .ref (qLe 0)), (1, .ref (qCh 0)), (2, .ref (qSe 0)), (3, .long u1.1), (5, .long u1.2), (7, .long u11)] dX2_agreeRound_119
    rw [← (Option.some.inj hf)] at h9
    exact h9
  · have hf := iq hc12 hf
    refine V_aload_n E 0 rfl dX2_agreeRound_96 ?_
    refine V_lload_n E 3 rfl dX2_agreeRound_97 ?_
    refine V_lload_n E 3 rfl dX2_agreeRound_98 ?_
    refine V_lmul E dX2_agreeRound_99 ?_
    refine V_lload E 5 rfl dX2_agreeRound_100 ?_
    obtain ⟨hz13, hf⟩ := asr_ok hf
    refine V_ldiv E dX2_agreeRound_102 hz13 ?_
    refine pfX2_22 E (ws' := (gCh G qCh ch_taken ch_turn ch_drift ch_right ch_closed ch_follower ch_ahead ch_linkE ch_linkF ch_placeRight ch_placeLower ++ (gSe G qSe se_cells se_apart se_surplus se_seamCost se_column se_gap se_cost ++ (gLe G qLe ((u1.1 * u1.1) / u11) le_restBelow u10.1 u10.2)))) 15 rfl (Nat.le_of_ble_eq_true rfl) rfl rfl dX2_agreeRound_103 rfl ?_
    refine V_aload_n E 0 rfl dX2_agreeRound_106 ?_
    refine V_ldc2 E (v := (5040 : Int64)) dX2_agreeRound_107 kX2_62 ?_
    refine V_lload E 4 rfl dX2_agreeRound_110 ?_
    refine V_lmul E dX2_agreeRound_112 ?_
    refine V_lload E 5 rfl dX2_agreeRound_113 ?_
    obtain ⟨hz14, hf⟩ := asr_ok hf
    refine V_ldiv E dX2_agreeRound_115 hz14 ?_
    refine pfX2_26 E (ws' := (gCh G qCh ch_taken ch_turn ch_drift ch_right ch_closed ch_follower ch_ahead ch_linkE ch_linkF ch_placeRight ch_placeLower ++ (gSe G qSe se_cells se_apart se_surplus se_seamCost se_column se_gap se_cost ++ (gLe G qLe ((u1.1 * u1.1) / u11) (((5040 : Int64) * u1.2) / u11) u10.1 u10.2)))) 15 rfl (Nat.le_of_ble_eq_true rfl) rfl rfl dX2_agreeRound_116 rfl ?_
    have h9 := hret 119 [(0, .ref (qLe 0)), (1, .ref (qCh 0)), (2, .ref (qSe 0)), (3, .long u1.1), (5, .long u1.2), (7, .long u11)] dX2_agreeRound_119
    rw [← (Option.some.inj hf)] at h9
    exact h9
abbrev rmLe_agree : Room := { frames := 4, cells := 0, slots := 0, locals := 116 }
theorem wd_yX2_agree : wdV yX2_agree cX2_agree 5 none 3 := ⟨wc_yX2_agree, wi_yX2_agree, wse_yX2_agree, wini_X2, by decide +kernel, by decide +kernel, by decide +kernel⟩
set_option maxHeartbeats 4000000 in
set_option maxRecDepth 100000 in
theorem kLe_agree (l : Launch) (G : wG) (qCh : Nat → Nat) (qSe : Nat → Nat) (qLe : Nat → Nat) (p1 : Int32) (ch_taken : Int32) (ch_turn : Int32) (ch_drift : Int32) (ch_right : Int32) (ch_closed : Int32) (ch_follower : Nat → Int32) (ch_ahead : Nat → Int32) (ch_linkE : Nat → Int32) (ch_linkF : Nat → Int32) (ch_placeRight : Nat → Int32) (ch_placeLower : Nat → Int32) (se_cells : Nat → Int32) (se_apart : Nat → Int32) (se_surplus : Nat → Int32) (se_seamCost : Nat → Int32) (se_column : Nat → Int32) (se_gap : Nat → Int32) (se_cost : Nat → Int32) (le_restAbove : Int64) (le_restBelow : Int64) (le_above : Nat → Int64) (le_below : Nat → Int64) (o : Int64 × Int64 × (Nat → Int64) × (Nat → Int64)) (hf : fLe_agree p1 ch_closed ch_follower ch_ahead se_cells se_surplus le_restAbove le_restBelow le_above le_below = some o) : Ct G l yX2_agree cX2_agree 5 none rmLe_agree [.ref (qLe 0), .int p1, .ref (qCh 0), .ref (qSe 0)] (gCh G qCh ch_taken ch_turn ch_drift ch_right ch_closed ch_follower ch_ahead ch_linkE ch_linkF ch_placeRight ch_placeLower ++ (gSe G qSe se_cells se_apart se_surplus se_seamCost se_column se_gap se_cost ++ (gLe G qLe le_restAbove le_restBelow le_above le_below))) none (gCh G qCh ch_taken ch_turn ch_drift ch_right ch_closed ch_follower ch_ahead ch_linkE ch_linkF ch_placeRight ch_placeLower ++ (gSe G qSe se_cells se_apart se_surplus se_seamCost se_column se_gap se_cost ++ (gLe G qLe o.1 o.2.1 o.2.2.1 o.2.2.2))) := by
  refine Ct.ofV (by decide +kernel) (Nat.le_of_ble_eq_true rfl) (fun p e s m args below meth c A Q E hret => ?_)
  unfold fLe_agree at hf
  show V G p l e rmLe_agree s m args below meth c 5 A Q 0 0 (gCh G qCh ch_taken ch_turn ch_drift ch_right ch_closed ch_follower ch_ahead ch_linkE ch_linkF ch_placeRight ch_placeLower ++ (gSe G qSe se_cells se_apart se_surplus se_seamCost se_column se_gap se_cost ++ (gLe G qLe le_restAbove le_restBelow le_above le_below))) 0 [(0, .ref (qLe 0)), (1, .int p1), (2, .ref (qCh 0)), (3, .ref (qSe 0))] []
  refine V_aload_n E 0 rfl dX2_agree_0 ?_
  refine V_lconst E (v := (0 : Int64)) dX2_agree_1 (by decide) ?_
  refine pfX2_22 E (ws' := (gCh G qCh ch_taken ch_turn ch_drift ch_right ch_closed ch_follower ch_ahead ch_linkE ch_linkF ch_placeRight ch_placeLower ++ (gSe G qSe se_cells se_apart se_surplus se_seamCost se_column se_gap se_cost ++ (gLe G qLe (0 : Int64) le_restBelow le_above le_below)))) 15 rfl (Nat.le_of_ble_eq_true rfl) rfl rfl dX2_agree_2 rfl ?_
  refine V_aload_n E 0 rfl dX2_agree_5 ?_
  refine V_lconst E (v := (1 : Int64)) dX2_agree_6 (by decide) ?_
  refine pfX2_26 E (ws' := (gCh G qCh ch_taken ch_turn ch_drift ch_right ch_closed ch_follower ch_ahead ch_linkE ch_linkF ch_placeRight ch_placeLower ++ (gSe G qSe se_cells se_apart se_surplus se_seamCost se_column se_gap se_cost ++ (gLe G qLe (0 : Int64) (1 : Int64) le_above le_below)))) 15 rfl (Nat.le_of_ble_eq_true rfl) rfl rfl dX2_agree_7 rfl ?_
  refine V_aload_n E 2 rfl dX2_agree_10 ?_
  refine gfX2_29 E 0 rfl rfl dX2_agree_11 ?_
  refine V_if_eq E (tgt := 24) dX2_agree_14 (by decide) (fun hc1 => ?_) (fun hc1 => ?_)
  · have hf := ip hc1 hf
    refine V_iconst E (v := (0 : Int32)) dX2_agree_24 (by decide) ?_
    refine V_istore E (lv' := [(0, .ref (qLe 0)), (1, .int p1), (2, .ref (qCh 0)), (3, .ref (qSe 0)), (4, .int (0 : Int32))]) dX2_agree_25 (by decide) rfl ?_
    have L27 : ∀ (n : Nat) (a27_4 : Int32) (c27_le_above : Nat → Int64) (c27_le_below : Nat → Int64) (u : (Nat → Int64) × (Nat → Int64)), fLe_agree_L27 p1 ch_follower ch_ahead se_cells se_surplus n a27_4 c27_le_above c27_le_below = some u → (V G p l e rmLe_agree s m args below meth c 5 A Q 0 0 (gCh G qCh ch_taken ch_turn ch_drift ch_right ch_closed ch_follower ch_ahead ch_linkE ch_linkF ch_placeRight ch_placeLower ++ (gSe G qSe se_cells se_apart se_surplus se_seamCost se_column se_gap se_cost ++ (gLe G qLe (0 : Int64) (1 : Int64) u.1 u.2))) 66 [] []) → V G p l e rmLe_agree s m args below meth c 5 A Q 0 0 (gCh G qCh ch_taken ch_turn ch_drift ch_right ch_closed ch_follower ch_ahead ch_linkE ch_linkF ch_placeRight ch_placeLower ++ (gSe G qSe se_cells se_apart se_surplus se_seamCost se_column se_gap se_cost ++ (gLe G qLe (0 : Int64) (1 : Int64) c27_le_above c27_le_below))) 27 [(0, .ref (qLe 0)), (1, .int p1), (2, .ref (qCh 0)), (3, .ref (qSe 0)), (4, .int a27_4)] [] := by
      intro n
      induction n with
      | zero =>
        intro a27_4 c27_le_above c27_le_below u hf hk
        rw [fLe_agree_L27] at hf
        cases hf
      | succ n ih =>
        intro a27_4 c27_le_above c27_le_below u hf hk
        rw [fLe_agree_L27] at hf
        refine V_iload E 4 rfl dX2_agree_27 ?_
        refine V_bipush E (v := (6 : Int32)) dX2_agree_29 (by decide) ?_
        refine V_icmp_ge E (tgt := 66) dX2_agree_31 (by decide) (fun hc3 => ?_) (fun hc3 => ?_)
        · have hf := ip hc3 hf
          refine V_sub [] rfl ?_
          rw [← Option.some.inj hf] at hk
          exact hk
        · have hf := iq hc3 hf
          refine V_iload E 4 rfl dX2_agree_34 ?_
          refine V_iload_n E 1 rfl dX2_agree_36 ?_
          refine V_icmp_ge E (tgt := 66) dX2_agree_37 (by decide) (fun hc4 => ?_) (fun hc4 => ?_)
          · have hf := ip hc4 hf
            refine V_sub [] rfl ?_
            rw [← Option.some.inj hf] at hk
            exact hk
          · have hf := iq hc4 hf
            refine V_aload_n E 2 rfl dX2_agree_40 ?_
            refine V_iload E 4 rfl dX2_agree_41 ?_
            obtain ⟨u5, hu5, hf⟩ := bd hf
            refine V_frG E (wr := (gSe G qSe se_cells se_apart se_surplus se_seamCost se_column se_gap se_cost ++ (gLe G qLe (0 : Int64) (1 : Int64) c27_le_above c27_le_below))) (ws' := (gCh G qCh ch_taken ch_turn ch_drift ch_right ch_closed ch_follower ch_ahead ch_linkE ch_linkF ch_placeRight ch_placeLower ++ (gSe G qSe se_cells se_apart se_surplus se_seamCost se_column se_gap se_cost ++ (gLe G qLe (0 : Int64) (1 : Int64) c27_le_above c27_le_below)))) [0, 1, 2, 3, 4, 5, 6] [7, 8, 9, 10, 11, 12, 13, 14, 15, 16, 17] [11, 12, 13, 14, 15, 16, 17, 0, 1, 2, 3, 4, 5, 6, 7, 8, 9, 10] rfl rfl ⟨rfl, rfl, rfl, rfl⟩ rfl (Rn_V E (rest := []) mlX2_39 wd_yX0_aheadOf (kCh_aheadOf l G qCh a27_4 ch_taken ch_turn ch_drift ch_right ch_closed ch_follower ch_ahead ch_linkE ch_linkF ch_placeRight ch_placeLower u5 hu5) ⟨rfl, rfl, Nat.le_of_ble_eq_true rfl, Nat.le_of_ble_eq_true rfl⟩ 0 rfl rfl rfl rfl rfl (Nat.le_of_ble_eq_true rfl) dX2_agree_43) ?_
            show V G p l e rmLe_agree s m args below meth c 5 A Q 0 0 (gCh G qCh ch_taken ch_turn ch_drift ch_right ch_closed ch_follower ch_ahead ch_linkE ch_linkF ch_placeRight ch_placeLower ++ (gSe G qSe se_cells se_apart se_surplus se_seamCost se_column se_gap se_cost ++ (gLe G qLe (0 : Int64) (1 : Int64) c27_le_above c27_le_below))) 46 [(0, .ref (qLe 0)), (1, .int p1), (2, .ref (qCh 0)), (3, .ref (qSe 0)), (4, .int a27_4)] [.int u5]
            refine V_iconst E (v := (-1 : Int32)) dX2_agree_46 (by decide) ?_
            refine V_icmp_ne E (tgt := 60) dX2_agree_47 (by decide) (fun hc6 => ?_) (fun hc6 => ?_)
            · have hf := iq hc6 hf
              refine V_iinc E (v := (a27_4 + (1 : Int32))) (lv' := [(0, .ref (qLe 0)), (1, .int p1), (2, .ref (qCh 0)), (3, .ref (qSe 0)), (4, .int (a27_4 + (1 : Int32)))]) 4 rfl dX2_agree_60 rfl (by decide) rfl ?_
              refine V_goto E (tgt := 27) dX2_agree_63 (by decide) ?_
              exact ih (a27_4 + (1 : Int32)) c27_le_above c27_le_below _ hf hk
            · have hf := ip hc6 hf
              refine V_aload_n E 0 rfl dX2_agree_50 ?_
              refine V_aload_n E 2 rfl dX2_agree_51 ?_
              refine V_aload_n E 3 rfl dX2_agree_52 ?_
              refine V_iload E 4 rfl dX2_agree_53 ?_
              refine V_lconst E (v := (1 : Int64)) dX2_agree_55 (by decide) ?_
              refine V_lconst E (v := (0 : Int64)) dX2_agree_56 (by decide) ?_
              obtain ⟨u7, hu7, hf⟩ := bd hf
              refine V_frW E (Rn_V E (rest := []) mlX2_43 wd_yX2_walk (kLe_walk l G qCh qSe qLe a27_4 (1 : Int64) (0 : Int64) ch_taken ch_turn ch_drift ch_right ch_closed ch_follower ch_ahead ch_linkE ch_linkF ch_placeRight ch_placeLower se_cells se_apart se_surplus se_seamCost se_column se_gap se_cost (0 : Int64) (1 : Int64) c27_le_above c27_le_below u7 hu7) ⟨rfl, rfl, Nat.le_of_ble_eq_true rfl, Nat.le_of_ble_eq_true rfl⟩ 15 rfl rfl rfl rfl rfl (Nat.le_of_ble_eq_true rfl) dX2_agree_57) ?_
              show V G p l e rmLe_agree s m args below meth c 5 A Q 0 0 (gCh G qCh ch_taken ch_turn ch_drift ch_right ch_closed ch_follower ch_ahead ch_linkE ch_linkF ch_placeRight ch_placeLower ++ (gSe G qSe se_cells se_apart se_surplus se_seamCost se_column se_gap se_cost ++ (gLe G qLe (0 : Int64) (1 : Int64) u7.1 u7.2))) 60 [(0, .ref (qLe 0)), (1, .int p1), (2, .ref (qCh 0)), (3, .ref (qSe 0)), (4, .int a27_4)] []
              refine V_iinc E (v := (a27_4 + (1 : Int32))) (lv' := [(0, .ref (qLe 0)), (1, .int p1), (2, .ref (qCh 0)), (3, .ref (qSe 0)), (4, .int (a27_4 + (1 : Int32)))]) 4 rfl dX2_agree_60 rfl (by decide) rfl ?_
              refine V_goto E (tgt := 27) dX2_agree_63 (by decide) ?_
              exact ih (a27_4 + (1 : Int32)) u7.1 u7.2 _ hf hk
    obtain ⟨u2, hu2, hf⟩ := bd hf
    refine L27 FU (0 : Int32) le_above le_below u2 hu2 ?_
    have h9 := hret 66 [] dX2_agree_66
    rw [← (Option.some.inj hf)] at h9
    exact h9
  · have hf := iq hc1 hf
    refine V_aload_n E 0 rfl dX2_agree_17 ?_
    refine V_aload_n E 2 rfl dX2_agree_18 ?_
    refine V_aload_n E 3 rfl dX2_agree_19 ?_
    obtain ⟨u8, hu8, hf⟩ := bd hf
    refine V_frW E (Rn_V E (rest := []) mlX2_35 wd_yX2_agreeRound (kLe_agreeRound l G qCh qSe qLe ch_taken ch_turn ch_drift ch_right ch_closed ch_follower ch_ahead ch_linkE ch_linkF ch_placeRight ch_placeLower se_cells se_apart se_surplus se_seamCost se_column se_gap se_cost (0 : Int64) (1 : Int64) le_above le_below u8 hu8) ⟨rfl, rfl, Nat.le_of_ble_eq_true rfl, Nat.le_of_ble_eq_true rfl⟩ 15 rfl rfl rfl rfl rfl (Nat.le_of_ble_eq_true rfl) dX2_agree_20) ?_
    show V G p l e rmLe_agree s m args below meth c 5 A Q 0 0 (gCh G qCh ch_taken ch_turn ch_drift ch_right ch_closed ch_follower ch_ahead ch_linkE ch_linkF ch_placeRight ch_placeLower ++ (gSe G qSe se_cells se_apart se_surplus se_seamCost se_column se_gap se_cost ++ (gLe G qLe u8.1 u8.2.1 u8.2.2.1 u8.2.2.2))) 23 [(0, .ref (qLe 0)), (1, .int p1), (2, .ref (qCh 0)), (3, .ref (qSe 0))] []
    have h9 := hret 23 [(0, .ref (qLe 0)), (1, .int p1), (2, .ref (qCh 0)), (3, .ref (qSe 0))] dX2_agree_23
    rw [← (Option.some.inj hf)] at h9
    exact h9
