
abbrev rmCh_followerOf : Room := { frames := 1, cells := 0, slots := 0, locals := 22 }
theorem wd_yX0_followerOf : wdV yX0_followerOf cX0_followerOf 2 (some .int) 1 := ⟨wc_yX0_followerOf, wi_yX0_followerOf, wse_yX0_followerOf, wini_X0, by decide +kernel, by decide +kernel, by decide +kernel⟩
set_option maxHeartbeats 4000000 in
set_option maxRecDepth 100000 in
theorem kCh_followerOf (l : Launch) (G : wG) (qCh : Nat → Nat) (p1 : Int32) (ch_taken : Int32) (ch_turn : Int32) (ch_drift : Int32) (ch_right : Int32) (ch_closed : Int32) (ch_follower : Nat → Int32) (ch_ahead : Nat → Int32) (ch_linkE : Nat → Int32) (ch_linkF : Nat → Int32) (ch_placeRight : Nat → Int32) (ch_placeLower : Nat → Int32) (o : Int32) (hf : fCh_followerOf p1 ch_follower = some o) : Ct G l yX0_followerOf cX0_followerOf 2 (some .int) rmCh_followerOf [.ref (qCh 0), .int p1] (gCh G qCh ch_taken ch_turn ch_drift ch_right ch_closed ch_follower ch_ahead ch_linkE ch_linkF ch_placeRight ch_placeLower) (some (.int o)) (gCh G qCh ch_taken ch_turn ch_drift ch_right ch_closed ch_follower ch_ahead ch_linkE ch_linkF ch_placeRight ch_placeLower) := by
  refine Ct.ofI (by decide +kernel) (Nat.le_of_ble_eq_true rfl) (fun p e s m args below meth c A Q E hret => ?_)
  unfold fCh_followerOf at hf
  show V G p l e rmCh_followerOf s m args below meth c 2 A Q 0 0 (gCh G qCh ch_taken ch_turn ch_drift ch_right ch_closed ch_follower ch_ahead ch_linkE ch_linkF ch_placeRight ch_placeLower) 0 [(0, .ref (qCh 0)), (1, .int p1)] []
  refine V_iload_n E 1 rfl dX0_followerOf_0 ?_
  refine V_iconst E (v := (0 : Int32)) dX0_followerOf_1 (by decide) ?_
  refine V_iconst E (v := (5 : Int32)) dX0_followerOf_2 (by decide) ?_
  obtain ⟨u1, hu1, hf⟩ := bd hf
  refine V_fr0 E (Rn_N E (rest := []) 3 rfl wd_yX7_within (kRi_within l G p1 (0 : Int32) (5 : Int32) u1 hu1) ⟨rfl, rfl, Nat.le_of_ble_eq_true rfl, Nat.le_of_ble_eq_true rfl⟩ rfl rfl (Nat.le_of_ble_eq_true rfl) dX0_followerOf_3) ?_
  show V G p l e rmCh_followerOf s m args below meth c 2 A Q 0 0 (gCh G qCh ch_taken ch_turn ch_drift ch_right ch_closed ch_follower ch_ahead ch_linkE ch_linkF ch_placeRight ch_placeLower) 6 [(0, .ref (qCh 0)), (1, .int p1)] [.int u1]
  refine V_if_eq E (tgt := 18) dX0_followerOf_6 (by decide) (fun hc2 => ?_) (fun hc2 => ?_)
  · have hf := ip hc2 hf
    refine V_iconst E (v := (-1 : Int32)) dX0_followerOf_18 (by decide) ?_
    have h9 := hret 19 [(0, .ref (qCh 0)), (1, .int p1)] dX0_followerOf_19
    rw [← (Option.some.inj hf)] at h9
    exact h9
  · have hf := iq hc2 hf
    refine V_aload_n E 0 rfl dX0_followerOf_9 ?_
    refine gfX0_9 E 0 rfl rfl dX0_followerOf_10 ?_
    refine V_iload_n E 1 rfl dX0_followerOf_13 ?_
    obtain ⟨hi3, hf⟩ := asr_ok hf
    refine V_iald E 1 rfl hi3 dX0_followerOf_14 ?_
    refine V_goto E (tgt := 19) dX0_followerOf_15 (by decide) ?_
    have h9 := hret 19 [(0, .ref (qCh 0)), (1, .int p1)] dX0_followerOf_19
    rw [← (Option.some.inj hf)] at h9
    exact h9
abbrev rmCh_aheadOf : Room := { frames := 1, cells := 0, slots := 0, locals := 22 }
theorem wd_yX0_aheadOf : wdV yX0_aheadOf cX0_aheadOf 2 (some .int) 1 := ⟨wc_yX0_aheadOf, wi_yX0_aheadOf, wse_yX0_aheadOf, wini_X0, by decide +kernel, by decide +kernel, by decide +kernel⟩
set_option maxHeartbeats 4000000 in
set_option maxRecDepth 100000 in
theorem kCh_aheadOf (l : Launch) (G : wG) (qCh : Nat → Nat) (p1 : Int32) (ch_taken : Int32) (ch_turn : Int32) (ch_drift : Int32) (ch_right : Int32) (ch_closed : Int32) (ch_follower : Nat → Int32) (ch_ahead : Nat → Int32) (ch_linkE : Nat → Int32) (ch_linkF : Nat → Int32) (ch_placeRight : Nat → Int32) (ch_placeLower : Nat → Int32) (o : Int32) (hf : fCh_aheadOf p1 ch_ahead = some o) : Ct G l yX0_aheadOf cX0_aheadOf 2 (some .int) rmCh_aheadOf [.ref (qCh 0), .int p1] (gCh G qCh ch_taken ch_turn ch_drift ch_right ch_closed ch_follower ch_ahead ch_linkE ch_linkF ch_placeRight ch_placeLower) (some (.int o)) (gCh G qCh ch_taken ch_turn ch_drift ch_right ch_closed ch_follower ch_ahead ch_linkE ch_linkF ch_placeRight ch_placeLower) := by
  refine Ct.ofI (by decide +kernel) (Nat.le_of_ble_eq_true rfl) (fun p e s m args below meth c A Q E hret => ?_)
  unfold fCh_aheadOf at hf
  show V G p l e rmCh_aheadOf s m args below meth c 2 A Q 0 0 (gCh G qCh ch_taken ch_turn ch_drift ch_right ch_closed ch_follower ch_ahead ch_linkE ch_linkF ch_placeRight ch_placeLower) 0 [(0, .ref (qCh 0)), (1, .int p1)] []
  refine V_iload_n E 1 rfl dX0_aheadOf_0 ?_
  refine V_iconst E (v := (0 : Int32)) dX0_aheadOf_1 (by decide) ?_
  refine V_iconst E (v := (5 : Int32)) dX0_aheadOf_2 (by decide) ?_
  obtain ⟨u1, hu1, hf⟩ := bd hf
  refine V_fr0 E (Rn_N E (rest := []) 3 rfl wd_yX7_within (kRi_within l G p1 (0 : Int32) (5 : Int32) u1 hu1) ⟨rfl, rfl, Nat.le_of_ble_eq_true rfl, Nat.le_of_ble_eq_true rfl⟩ rfl rfl (Nat.le_of_ble_eq_true rfl) dX0_aheadOf_3) ?_
  show V G p l e rmCh_aheadOf s m args below meth c 2 A Q 0 0 (gCh G qCh ch_taken ch_turn ch_drift ch_right ch_closed ch_follower ch_ahead ch_linkE ch_linkF ch_placeRight ch_placeLower) 6 [(0, .ref (qCh 0)), (1, .int p1)] [.int u1]
  refine V_if_eq E (tgt := 18) dX0_aheadOf_6 (by decide) (fun hc2 => ?_) (fun hc2 => ?_)
  · have hf := ip hc2 hf
    refine V_iconst E (v := (-1 : Int32)) dX0_aheadOf_18 (by decide) ?_
    have h9 := hret 19 [(0, .ref (qCh 0)), (1, .int p1)] dX0_aheadOf_19
    rw [← (Option.some.inj hf)] at h9
    exact h9
  · have hf := iq hc2 hf
    refine V_aload_n E 0 rfl dX0_aheadOf_9 ?_
    refine gfX0_15 E 0 rfl rfl dX0_aheadOf_10 ?_
    refine V_iload_n E 1 rfl dX0_aheadOf_13 ?_
    obtain ⟨hi3, hf⟩ := asr_ok hf
    refine V_iald E 2 rfl hi3 dX0_aheadOf_14 ?_
    refine V_goto E (tgt := 19) dX0_aheadOf_15 (by decide) ?_
    have h9 := hret 19 [(0, .ref (qCh 0)), (1, .int p1)] dX0_aheadOf_19
    rw [← (Option.some.inj hf)] at h9
    exact h9
abbrev rmCh_shiftE : Room := { frames := 1, cells := 0, slots := 0, locals := 22 }
theorem wd_yX0_shiftE : wdV yX0_shiftE cX0_shiftE 2 (some .int) 1 := ⟨wc_yX0_shiftE, wi_yX0_shiftE, wse_yX0_shiftE, wini_X0, by decide +kernel, by decide +kernel, by decide +kernel⟩
set_option maxHeartbeats 4000000 in
set_option maxRecDepth 100000 in
theorem kCh_shiftE (l : Launch) (G : wG) (qCh : Nat → Nat) (p1 : Int32) (ch_taken : Int32) (ch_turn : Int32) (ch_drift : Int32) (ch_right : Int32) (ch_closed : Int32) (ch_follower : Nat → Int32) (ch_ahead : Nat → Int32) (ch_linkE : Nat → Int32) (ch_linkF : Nat → Int32) (ch_placeRight : Nat → Int32) (ch_placeLower : Nat → Int32) (o : Int32) (hf : fCh_shiftE p1 ch_linkE = some o) : Ct G l yX0_shiftE cX0_shiftE 2 (some .int) rmCh_shiftE [.ref (qCh 0), .int p1] (gCh G qCh ch_taken ch_turn ch_drift ch_right ch_closed ch_follower ch_ahead ch_linkE ch_linkF ch_placeRight ch_placeLower) (some (.int o)) (gCh G qCh ch_taken ch_turn ch_drift ch_right ch_closed ch_follower ch_ahead ch_linkE ch_linkF ch_placeRight ch_placeLower) := by
  refine Ct.ofI (by decide +kernel) (Nat.le_of_ble_eq_true rfl) (fun p e s m args below meth c A Q E hret => ?_)
  unfold fCh_shiftE at hf
  show V G p l e rmCh_shiftE s m args below meth c 2 A Q 0 0 (gCh G qCh ch_taken ch_turn ch_drift ch_right ch_closed ch_follower ch_ahead ch_linkE ch_linkF ch_placeRight ch_placeLower) 0 [(0, .ref (qCh 0)), (1, .int p1)] []
  refine V_iload_n E 1 rfl dX0_shiftE_0 ?_
  refine V_iconst E (v := (0 : Int32)) dX0_shiftE_1 (by decide) ?_
  refine V_iconst E (v := (5 : Int32)) dX0_shiftE_2 (by decide) ?_
  obtain ⟨u1, hu1, hf⟩ := bd hf
  refine V_fr0 E (Rn_N E (rest := []) 3 rfl wd_yX7_within (kRi_within l G p1 (0 : Int32) (5 : Int32) u1 hu1) ⟨rfl, rfl, Nat.le_of_ble_eq_true rfl, Nat.le_of_ble_eq_true rfl⟩ rfl rfl (Nat.le_of_ble_eq_true rfl) dX0_shiftE_3) ?_
  show V G p l e rmCh_shiftE s m args below meth c 2 A Q 0 0 (gCh G qCh ch_taken ch_turn ch_drift ch_right ch_closed ch_follower ch_ahead ch_linkE ch_linkF ch_placeRight ch_placeLower) 6 [(0, .ref (qCh 0)), (1, .int p1)] [.int u1]
  refine V_if_eq E (tgt := 18) dX0_shiftE_6 (by decide) (fun hc2 => ?_) (fun hc2 => ?_)
  · have hf := ip hc2 hf
    refine V_iconst E (v := (0 : Int32)) dX0_shiftE_18 (by decide) ?_
    have h9 := hret 19 [(0, .ref (qCh 0)), (1, .int p1)] dX0_shiftE_19
    rw [← (Option.some.inj hf)] at h9
    exact h9
  · have hf := iq hc2 hf
    refine V_aload_n E 0 rfl dX0_shiftE_9 ?_
    refine gfX0_18 E 0 rfl rfl dX0_shiftE_10 ?_
    refine V_iload_n E 1 rfl dX0_shiftE_13 ?_
    obtain ⟨hi3, hf⟩ := asr_ok hf
    refine V_iald E 3 rfl hi3 dX0_shiftE_14 ?_
    refine V_goto E (tgt := 19) dX0_shiftE_15 (by decide) ?_
    have h9 := hret 19 [(0, .ref (qCh 0)), (1, .int p1)] dX0_shiftE_19
    rw [← (Option.some.inj hf)] at h9
    exact h9
abbrev rmCh_shiftF : Room := { frames := 1, cells := 0, slots := 0, locals := 22 }
theorem wd_yX0_shiftF : wdV yX0_shiftF cX0_shiftF 2 (some .int) 1 := ⟨wc_yX0_shiftF, wi_yX0_shiftF, wse_yX0_shiftF, wini_X0, by decide +kernel, by decide +kernel, by decide +kernel⟩
set_option maxHeartbeats 4000000 in
set_option maxRecDepth 100000 in
theorem kCh_shiftF (l : Launch) (G : wG) (qCh : Nat → Nat) (p1 : Int32) (ch_taken : Int32) (ch_turn : Int32) (ch_drift : Int32) (ch_right : Int32) (ch_closed : Int32) (ch_follower : Nat → Int32) (ch_ahead : Nat → Int32) (ch_linkE : Nat → Int32) (ch_linkF : Nat → Int32) (ch_placeRight : Nat → Int32) (ch_placeLower : Nat → Int32) (o : Int32) (hf : fCh_shiftF p1 ch_linkF = some o) : Ct G l yX0_shiftF cX0_shiftF 2 (some .int) rmCh_shiftF [.ref (qCh 0), .int p1] (gCh G qCh ch_taken ch_turn ch_drift ch_right ch_closed ch_follower ch_ahead ch_linkE ch_linkF ch_placeRight ch_placeLower) (some (.int o)) (gCh G qCh ch_taken ch_turn ch_drift ch_right ch_closed ch_follower ch_ahead ch_linkE ch_linkF ch_placeRight ch_placeLower) := by
  refine Ct.ofI (by decide +kernel) (Nat.le_of_ble_eq_true rfl) (fun p e s m args below meth c A Q E hret => ?_)
  unfold fCh_shiftF at hf
  show V G p l e rmCh_shiftF s m args below meth c 2 A Q 0 0 (gCh G qCh ch_taken ch_turn ch_drift ch_right ch_closed ch_follower ch_ahead ch_linkE ch_linkF ch_placeRight ch_placeLower) 0 [(0, .ref (qCh 0)), (1, .int p1)] []
  refine V_iload_n E 1 rfl dX0_shiftF_0 ?_
  refine V_iconst E (v := (0 : Int32)) dX0_shiftF_1 (by decide) ?_
  refine V_iconst E (v := (5 : Int32)) dX0_shiftF_2 (by decide) ?_
  obtain ⟨u1, hu1, hf⟩ := bd hf
  refine V_fr0 E (Rn_N E (rest := []) 3 rfl wd_yX7_within (kRi_within l G p1 (0 : Int32) (5 : Int32) u1 hu1) ⟨rfl, rfl, Nat.le_of_ble_eq_true rfl, Nat.le_of_ble_eq_true rfl⟩ rfl rfl (Nat.le_of_ble_eq_true rfl) dX0_shiftF_3) ?_
  show V G p l e rmCh_shiftF s m args below meth c 2 A Q 0 0 (gCh G qCh ch_taken ch_turn ch_drift ch_right ch_closed ch_follower ch_ahead ch_linkE ch_linkF ch_placeRight ch_placeLower) 6 [(0, .ref (qCh 0)), (1, .int p1)] [.int u1]
  refine V_if_eq E (tgt := 18) dX0_shiftF_6 (by decide) (fun hc2 => ?_) (fun hc2 => ?_)
  · have hf := ip hc2 hf
    refine V_iconst E (v := (0 : Int32)) dX0_shiftF_18 (by decide) ?_
    have h9 := hret 19 [(0, .ref (qCh 0)), (1, .int p1)] dX0_shiftF_19
    rw [← (Option.some.inj hf)] at h9
    exact h9
  · have hf := iq hc2 hf
    refine V_aload_n E 0 rfl dX0_shiftF_9 ?_
    refine gfX0_21 E 0 rfl rfl dX0_shiftF_10 ?_
    refine V_iload_n E 1 rfl dX0_shiftF_13 ?_
    obtain ⟨hi3, hf⟩ := asr_ok hf
    refine V_iald E 4 rfl hi3 dX0_shiftF_14 ?_
    refine V_goto E (tgt := 19) dX0_shiftF_15 (by decide) ?_
    have h9 := hret 19 [(0, .ref (qCh 0)), (1, .int p1)] dX0_shiftF_19
    rw [← (Option.some.inj hf)] at h9
    exact h9
abbrev rmCh_rightOf : Room := { frames := 1, cells := 0, slots := 0, locals := 22 }
theorem wd_yX0_rightOf : wdV yX0_rightOf cX0_rightOf 2 (some .int) 1 := ⟨wc_yX0_rightOf, wi_yX0_rightOf, wse_yX0_rightOf, wini_X0, by decide +kernel, by decide +kernel, by decide +kernel⟩
set_option maxHeartbeats 4000000 in
set_option maxRecDepth 100000 in
theorem kCh_rightOf (l : Launch) (G : wG) (qCh : Nat → Nat) (p1 : Int32) (ch_taken : Int32) (ch_turn : Int32) (ch_drift : Int32) (ch_right : Int32) (ch_closed : Int32) (ch_follower : Nat → Int32) (ch_ahead : Nat → Int32) (ch_linkE : Nat → Int32) (ch_linkF : Nat → Int32) (ch_placeRight : Nat → Int32) (ch_placeLower : Nat → Int32) (o : Int32) (hf : fCh_rightOf p1 ch_placeRight = some o) : Ct G l yX0_rightOf cX0_rightOf 2 (some .int) rmCh_rightOf [.ref (qCh 0), .int p1] (gCh G qCh ch_taken ch_turn ch_drift ch_right ch_closed ch_follower ch_ahead ch_linkE ch_linkF ch_placeRight ch_placeLower) (some (.int o)) (gCh G qCh ch_taken ch_turn ch_drift ch_right ch_closed ch_follower ch_ahead ch_linkE ch_linkF ch_placeRight ch_placeLower) := by
  refine Ct.ofI (by decide +kernel) (Nat.le_of_ble_eq_true rfl) (fun p e s m args below meth c A Q E hret => ?_)
  unfold fCh_rightOf at hf
  show V G p l e rmCh_rightOf s m args below meth c 2 A Q 0 0 (gCh G qCh ch_taken ch_turn ch_drift ch_right ch_closed ch_follower ch_ahead ch_linkE ch_linkF ch_placeRight ch_placeLower) 0 [(0, .ref (qCh 0)), (1, .int p1)] []
  refine V_iload_n E 1 rfl dX0_rightOf_0 ?_
  refine V_iconst E (v := (0 : Int32)) dX0_rightOf_1 (by decide) ?_
  refine V_iconst E (v := (5 : Int32)) dX0_rightOf_2 (by decide) ?_
  obtain ⟨u1, hu1, hf⟩ := bd hf
  refine V_fr0 E (Rn_N E (rest := []) 3 rfl wd_yX7_within (kRi_within l G p1 (0 : Int32) (5 : Int32) u1 hu1) ⟨rfl, rfl, Nat.le_of_ble_eq_true rfl, Nat.le_of_ble_eq_true rfl⟩ rfl rfl (Nat.le_of_ble_eq_true rfl) dX0_rightOf_3) ?_
  show V G p l e rmCh_rightOf s m args below meth c 2 A Q 0 0 (gCh G qCh ch_taken ch_turn ch_drift ch_right ch_closed ch_follower ch_ahead ch_linkE ch_linkF ch_placeRight ch_placeLower) 6 [(0, .ref (qCh 0)), (1, .int p1)] [.int u1]
  refine V_if_eq E (tgt := 18) dX0_rightOf_6 (by decide) (fun hc2 => ?_) (fun hc2 => ?_)
  · have hf := ip hc2 hf
    refine V_iconst E (v := (0 : Int32)) dX0_rightOf_18 (by decide) ?_
    have h9 := hret 19 [(0, .ref (qCh 0)), (1, .int p1)] dX0_rightOf_19
    rw [← (Option.some.inj hf)] at h9
    exact h9
  · have hf := iq hc2 hf
    refine V_aload_n E 0 rfl dX0_rightOf_9 ?_
    refine gfX0_24 E 0 rfl rfl dX0_rightOf_10 ?_
    refine V_iload_n E 1 rfl dX0_rightOf_13 ?_
    obtain ⟨hi3, hf⟩ := asr_ok hf
    refine V_iald E 5 rfl hi3 dX0_rightOf_14 ?_
    refine V_goto E (tgt := 19) dX0_rightOf_15 (by decide) ?_
    have h9 := hret 19 [(0, .ref (qCh 0)), (1, .int p1)] dX0_rightOf_19
    rw [← (Option.some.inj hf)] at h9
    exact h9
abbrev rmCh_lowerOf : Room := { frames := 1, cells := 0, slots := 0, locals := 22 }
theorem wd_yX0_lowerOf : wdV yX0_lowerOf cX0_lowerOf 2 (some .int) 1 := ⟨wc_yX0_lowerOf, wi_yX0_lowerOf, wse_yX0_lowerOf, wini_X0, by decide +kernel, by decide +kernel, by decide +kernel⟩
set_option maxHeartbeats 4000000 in
set_option maxRecDepth 100000 in
theorem kCh_lowerOf (l : Launch) (G : wG) (qCh : Nat → Nat) (p1 : Int32) (ch_taken : Int32) (ch_turn : Int32) (ch_drift : Int32) (ch_right : Int32) (ch_closed : Int32) (ch_follower : Nat → Int32) (ch_ahead : Nat → Int32) (ch_linkE : Nat → Int32) (ch_linkF : Nat → Int32) (ch_placeRight : Nat → Int32) (ch_placeLower : Nat → Int32) (o : Int32) (hf : fCh_lowerOf p1 ch_placeLower = some o) : Ct G l yX0_lowerOf cX0_lowerOf 2 (some .int) rmCh_lowerOf [.ref (qCh 0), .int p1] (gCh G qCh ch_taken ch_turn ch_drift ch_right ch_closed ch_follower ch_ahead ch_linkE ch_linkF ch_placeRight ch_placeLower) (some (.int o)) (gCh G qCh ch_taken ch_turn ch_drift ch_right ch_closed ch_follower ch_ahead ch_linkE ch_linkF ch_placeRight ch_placeLower) := by
  refine Ct.ofI (by decide +kernel) (Nat.le_of_ble_eq_true rfl) (fun p e s m args below meth c A Q E hret => ?_)
  unfold fCh_lowerOf at hf
  show V G p l e rmCh_lowerOf s m args below meth c 2 A Q 0 0 (gCh G qCh ch_taken ch_turn ch_drift ch_right ch_closed ch_follower ch_ahead ch_linkE ch_linkF ch_placeRight ch_placeLower) 0 [(0, .ref (qCh 0)), (1, .int p1)] []
  refine V_iload_n E 1 rfl dX0_lowerOf_0 ?_
  refine V_iconst E (v := (0 : Int32)) dX0_lowerOf_1 (by decide) ?_
  refine V_iconst E (v := (5 : Int32)) dX0_lowerOf_2 (by decide) ?_
  obtain ⟨u1, hu1, hf⟩ := bd hf
  refine V_fr0 E (Rn_N E (rest := []) 3 rfl wd_yX7_within (kRi_within l G p1 (0 : Int32) (5 : Int32) u1 hu1) ⟨rfl, rfl, Nat.le_of_ble_eq_true rfl, Nat.le_of_ble_eq_true rfl⟩ rfl rfl (Nat.le_of_ble_eq_true rfl) dX0_lowerOf_3) ?_
  show V G p l e rmCh_lowerOf s m args below meth c 2 A Q 0 0 (gCh G qCh ch_taken ch_turn ch_drift ch_right ch_closed ch_follower ch_ahead ch_linkE ch_linkF ch_placeRight ch_placeLower) 6 [(0, .ref (qCh 0)), (1, .int p1)] [.int u1]
  refine V_if_eq E (tgt := 18) dX0_lowerOf_6 (by decide) (fun hc2 => ?_) (fun hc2 => ?_)
  · have hf := ip hc2 hf
    refine V_iconst E (v := (0 : Int32)) dX0_lowerOf_18 (by decide) ?_
    have h9 := hret 19 [(0, .ref (qCh 0)), (1, .int p1)] dX0_lowerOf_19
    rw [← (Option.some.inj hf)] at h9
    exact h9
  · have hf := iq hc2 hf
    refine V_aload_n E 0 rfl dX0_lowerOf_9 ?_
    refine gfX0_27 E 0 rfl rfl dX0_lowerOf_10 ?_
    refine V_iload_n E 1 rfl dX0_lowerOf_13 ?_
    obtain ⟨hi3, hf⟩ := asr_ok hf
    refine V_iald E 6 rfl hi3 dX0_lowerOf_14 ?_
    refine V_goto E (tgt := 19) dX0_lowerOf_15 (by decide) ?_
    have h9 := hret 19 [(0, .ref (qCh 0)), (1, .int p1)] dX0_lowerOf_19
    rw [← (Option.some.inj hf)] at h9
    exact h9
abbrev rmCh_wayLength : Room := { frames := 2, cells := 0, slots := 0, locals := 43 }
theorem wd_yX0_wayLength : wdV yX0_wayLength cX0_wayLength 5 (some .int) 2 := ⟨wc_yX0_wayLength, wi_yX0_wayLength, wse_yX0_wayLength, wini_X0, by decide +kernel, by decide +kernel, by decide +kernel⟩
set_option maxHeartbeats 4000000 in
set_option maxRecDepth 100000 in
theorem kCh_wayLength (l : Launch) (G : wG) (qCh : Nat → Nat) (p1 : Int32) (p2 : Int32) (ch_taken : Int32) (ch_turn : Int32) (ch_drift : Int32) (ch_right : Int32) (ch_closed : Int32) (ch_follower : Nat → Int32) (ch_ahead : Nat → Int32) (ch_linkE : Nat → Int32) (ch_linkF : Nat → Int32) (ch_placeRight : Nat → Int32) (ch_placeLower : Nat → Int32) (o : Int32) (hf : fCh_wayLength p1 p2 ch_follower = some o) : Ct G l yX0_wayLength cX0_wayLength 5 (some .int) rmCh_wayLength [.ref (qCh 0), .int p1, .int p2] (gCh G qCh ch_taken ch_turn ch_drift ch_right ch_closed ch_follower ch_ahead ch_linkE ch_linkF ch_placeRight ch_placeLower) (some (.int o)) (gCh G qCh ch_taken ch_turn ch_drift ch_right ch_closed ch_follower ch_ahead ch_linkE ch_linkF ch_placeRight ch_placeLower) := by
  refine Ct.ofI (by decide +kernel) (Nat.le_of_ble_eq_true rfl) (fun p e s m args below meth c A Q E hret => ?_)
  unfold fCh_wayLength at hf
  show V G p l e rmCh_wayLength s m args below meth c 5 A Q 0 0 (gCh G qCh ch_taken ch_turn ch_drift ch_right ch_closed ch_follower ch_ahead ch_linkE ch_linkF ch_placeRight ch_placeLower) 0 [(0, .ref (qCh 0)), (1, .int p1), (2, .int p2)] []
  refine V_iload_n E 1 rfl dX0_wayLength_0 ?_
  refine V_istore_n E (lv' := [(0, .ref (qCh 0)), (1, .int p1), (2, .int p2), (3, .int p1)]) dX0_wayLength_1 (by decide) rfl ?_
  refine V_iconst E (v := (1 : Int32)) dX0_wayLength_2 (by decide) ?_
  refine V_istore E (lv' := [(0, .ref (qCh 0)), (1, .int p1), (2, .int p2), (3, .int p1), (4, .int (1 : Int32))]) dX0_wayLength_3 (by decide) rfl ?_
  have L5 : ∀ (n : Nat) (a5_3 : Int32) (a5_4 : Int32) (u : Sum (Int32) (Unit)), fCh_wayLength_L5 p2 ch_follower n a5_3 a5_4 = some u → (∀ x, u = .inr x → V G p l e rmCh_wayLength s m args below meth c 5 A Q 0 0 (gCh G qCh ch_taken ch_turn ch_drift ch_right ch_closed ch_follower ch_ahead ch_linkE ch_linkF ch_placeRight ch_placeLower) 37 [] []) → (∀ r, u = .inl r → r = o) → V G p l e rmCh_wayLength s m args below meth c 5 A Q 0 0 (gCh G qCh ch_taken ch_turn ch_drift ch_right ch_closed ch_follower ch_ahead ch_linkE ch_linkF ch_placeRight ch_placeLower) 5 [(0, .ref (qCh 0)), (2, .int p2), (3, .int a5_3), (4, .int a5_4)] [] := by
    intro n
    induction n with
    | zero =>
      intro a5_3 a5_4 u hf hk hr
      rw [fCh_wayLength_L5] at hf
      cases hf
    | succ n ih =>
      intro a5_3 a5_4 u hf hk hr
      rw [fCh_wayLength_L5] at hf
      refine V_iload E 3 rfl dX0_wayLength_5 ?_
      refine V_bipush E (v := (6 : Int32)) dX0_wayLength_7 (by decide) ?_
      refine V_icmp_gt E (tgt := 37) dX0_wayLength_9 (by decide) (fun hc2 => ?_) (fun hc2 => ?_)
      · have hf := ip hc2 hf
        refine V_sub [] rfl ?_
        exact hk _ (Option.some.inj hf).symm
      · have hf := iq hc2 hf
        refine V_iload_n E 2 rfl dX0_wayLength_12 ?_
        refine V_iconst E (v := (-1 : Int32)) dX0_wayLength_13 (by decide) ?_
        refine V_icmp_eq E (tgt := 37) dX0_wayLength_14 (by decide) (fun hc3 => ?_) (fun hc3 => ?_)
        · have hf := ip hc3 hf
          refine V_sub [] rfl ?_
          exact hk _ (Option.some.inj hf).symm
        · have hf := iq hc3 hf
          refine V_iload_n E 2 rfl dX0_wayLength_17 ?_
          refine V_iload_n E 1 rfl dX0_wayLength_18 ?_
          refine V_icmp_ne E (tgt := 25) dX0_wayLength_19 (by decide) (fun hc4 => ?_) (fun hc4 => ?_)
          · have hf := iq hc4 hf
            refine V_aload_n E 0 rfl dX0_wayLength_25 ?_
            refine V_iload_n E 2 rfl dX0_wayLength_26 ?_
            obtain ⟨u5, hu5, hf⟩ := bd hf
            refine V_frW E (Rn_V E (rest := []) mlX0_73 wd_yX0_followerOf (kCh_followerOf l G qCh a5_3 ch_taken ch_turn ch_drift ch_right ch_closed ch_follower ch_ahead ch_linkE ch_linkF ch_placeRight ch_placeLower u5 hu5) ⟨rfl, rfl, Nat.le_of_ble_eq_true rfl, Nat.le_of_ble_eq_true rfl⟩ 0 rfl rfl rfl rfl rfl (Nat.le_of_ble_eq_true rfl) dX0_wayLength_27) ?_
            show V G p l e rmCh_wayLength s m args below meth c 5 A Q 0 0 (gCh G qCh ch_taken ch_turn ch_drift ch_right ch_closed ch_follower ch_ahead ch_linkE ch_linkF ch_placeRight ch_placeLower) 30 [(0, .ref (qCh 0)), (2, .int p2), (3, .int a5_3), (4, .int a5_4)] [.int u5]
            refine V_istore_n E (lv' := [(0, .ref (qCh 0)), (2, .int p2), (3, .int u5), (4, .int a5_4)]) dX0_wayLength_30 (by decide) rfl ?_
            refine V_iinc E (v := (a5_4 + (1 : Int32))) (lv' := [(0, .ref (qCh 0)), (2, .int p2), (3, .int u5), (4, .int (a5_4 + (1 : Int32)))]) 3 rfl dX0_wayLength_31 rfl (by decide) rfl ?_
            refine V_goto E (tgt := 5) dX0_wayLength_34 (by decide) ?_
            exact ih u5 (a5_4 + (1 : Int32)) _ hf hk hr
          · have hf := ip hc4 hf
            refine V_iload E 3 rfl dX0_wayLength_22 ?_
            have h9 := hret 24 [(0, .ref (qCh 0)), (2, .int p2), (3, .int a5_3), (4, .int a5_4)] dX0_wayLength_24
            rw [← (hr _ (Option.some.inj hf).symm)] at h9
            exact h9
  refine V_sub [0, 2, 3, 4] rfl ?_
  obtain ⟨u1, hu1, hf⟩ := bd hf
  refine L5 FU p1 (1 : Int32) u1 hu1 (fun x6 hx => ?_) (fun r hx => ?_)
  · rw [hx, Sum.elim_inr] at hf
    refine V_iconst E (v := (0 : Int32)) dX0_wayLength_37 (by decide) ?_
    have h9 := hret 38 [] dX0_wayLength_38
    rw [← (Option.some.inj hf)] at h9
    exact h9
  · rw [hx, Sum.elim_inl] at hf
    exact Option.some.inj hf
abbrev rmCh_mayJoin : Room := { frames := 3, cells := 0, slots := 0, locals := 67 }
theorem wd_yX0_mayJoin : wdV yX0_mayJoin cX0_mayJoin 5 (some .boolean) 3 := ⟨wc_yX0_mayJoin, wi_yX0_mayJoin, wse_yX0_mayJoin, wini_X0, by decide +kernel, by decide +kernel, by decide +kernel⟩
set_option maxHeartbeats 4000000 in
set_option maxRecDepth 100000 in
theorem kCh_mayJoin (l : Launch) (G : wG) (qCh : Nat → Nat) (p1 : Int32) (p2 : Int32) (p3 : Int32) (ch_taken : Int32) (ch_turn : Int32) (ch_drift : Int32) (ch_right : Int32) (ch_closed : Int32) (ch_follower : Nat → Int32) (ch_ahead : Nat → Int32) (ch_linkE : Nat → Int32) (ch_linkF : Nat → Int32) (ch_placeRight : Nat → Int32) (ch_placeLower : Nat → Int32) (o : Int32) (hf : fCh_mayJoin p1 p2 p3 ch_follower ch_ahead = some o) : Ct G l yX0_mayJoin cX0_mayJoin 5 (some .boolean) rmCh_mayJoin [.ref (qCh 0), .int p1, .int p2, .int p3] (gCh G qCh ch_taken ch_turn ch_drift ch_right ch_closed ch_follower ch_ahead ch_linkE ch_linkF ch_placeRight ch_placeLower) (some (.int o)) (gCh G qCh ch_taken ch_turn ch_drift ch_right ch_closed ch_follower ch_ahead ch_linkE ch_linkF ch_placeRight ch_placeLower) := by
  refine Ct.ofZ (by decide +kernel) (Nat.le_of_ble_eq_true rfl) (fun p e s m args below meth c A Q E hret => ?_)
  unfold fCh_mayJoin at hf
  show V G p l e rmCh_mayJoin s m args below meth c 5 A Q 0 0 (gCh G qCh ch_taken ch_turn ch_drift ch_right ch_closed ch_follower ch_ahead ch_linkE ch_linkF ch_placeRight ch_placeLower) 0 [(0, .ref (qCh 0)), (1, .int p1), (2, .int p2), (3, .int p3)] []
  refine V_aload_n E 0 rfl dX0_mayJoin_0 ?_
  refine V_iload_n E 1 rfl dX0_mayJoin_1 ?_
  obtain ⟨u1, hu1, hf⟩ := bd hf
  refine V_frW E (Rn_V E (rest := []) mlX0_73 wd_yX0_followerOf (kCh_followerOf l G qCh p1 ch_taken ch_turn ch_drift ch_right ch_closed ch_follower ch_ahead ch_linkE ch_linkF ch_placeRight ch_placeLower u1 hu1) ⟨rfl, rfl, Nat.le_of_ble_eq_true rfl, Nat.le_of_ble_eq_true rfl⟩ 0 rfl rfl rfl rfl rfl (Nat.le_of_ble_eq_true rfl) dX0_mayJoin_2) ?_
  show V G p l e rmCh_mayJoin s m args below meth c 5 A Q 0 0 (gCh G qCh ch_taken ch_turn ch_drift ch_right ch_closed ch_follower ch_ahead ch_linkE ch_linkF ch_placeRight ch_placeLower) 5 [(0, .ref (qCh 0)), (1, .int p1), (2, .int p2), (3, .int p3)] [.int u1]
  refine V_iconst E (v := (-1 : Int32)) dX0_mayJoin_5 (by decide) ?_
  refine V_icmp_ne E (tgt := 18) dX0_mayJoin_6 (by decide) (fun hc2 => ?_) (fun hc2 => ?_)
  · have hf := iq hc2 hf
    refine V_iconst E (v := (0 : Int32)) dX0_mayJoin_18 (by decide) ?_
    have h9 := hret 19 [(0, .ref (qCh 0)), (1, .int p1), (2, .int p2), (3, .int p3)] dX0_mayJoin_19
    rw [← (Option.some.inj hf)] at h9
    exact h9 (z01a (Or.inl rfl))
  · have hf := ip hc2 hf
    refine V_aload_n E 0 rfl dX0_mayJoin_9 ?_
    refine V_iload_n E 2 rfl dX0_mayJoin_10 ?_
    obtain ⟨u3, hu3, hf⟩ := bd hf
    refine V_frW E (Rn_V E (rest := []) mlX0_77 wd_yX0_aheadOf (kCh_aheadOf l G qCh p2 ch_taken ch_turn ch_drift ch_right ch_closed ch_follower ch_ahead ch_linkE ch_linkF ch_placeRight ch_placeLower u3 hu3) ⟨rfl, rfl, Nat.le_of_ble_eq_true rfl, Nat.le_of_ble_eq_true rfl⟩ 0 rfl rfl rfl rfl rfl (Nat.le_of_ble_eq_true rfl) dX0_mayJoin_11) ?_
    show V G p l e rmCh_mayJoin s m args below meth c 5 A Q 0 0 (gCh G qCh ch_taken ch_turn ch_drift ch_right ch_closed ch_follower ch_ahead ch_linkE ch_linkF ch_placeRight ch_placeLower) 14 [(0, .ref (qCh 0)), (1, .int p1), (2, .int p2), (3, .int p3)] [.int u3]
    refine V_iconst E (v := (-1 : Int32)) dX0_mayJoin_14 (by decide) ?_
    refine V_icmp_eq E (tgt := 20) dX0_mayJoin_15 (by decide) (fun hc4 => ?_) (fun hc4 => ?_)
    · have hf := ip hc4 hf
      refine V_aload_n E 0 rfl dX0_mayJoin_20 ?_
      refine V_iload_n E 2 rfl dX0_mayJoin_21 ?_
      refine V_iload_n E 1 rfl dX0_mayJoin_22 ?_
      obtain ⟨u5, hu5, hf⟩ := bd hf
      refine V_frW E (Rn_V E (rest := []) mlX0_80 wd_yX0_wayLength (kCh_wayLength l G qCh p2 p1 ch_taken ch_turn ch_drift ch_right ch_closed ch_follower ch_ahead ch_linkE ch_linkF ch_placeRight ch_placeLower u5 hu5) ⟨rfl, rfl, Nat.le_of_ble_eq_true rfl, Nat.le_of_ble_eq_true rfl⟩ 0 rfl rfl rfl rfl rfl (Nat.le_of_ble_eq_true rfl) dX0_mayJoin_23) ?_
      show V G p l e rmCh_mayJoin s m args below meth c 5 A Q 0 0 (gCh G qCh ch_taken ch_turn ch_drift ch_right ch_closed ch_follower ch_ahead ch_linkE ch_linkF ch_placeRight ch_placeLower) 26 [(0, .ref (qCh 0)), (1, .int p1), (2, .int p2), (3, .int p3)] [.int u5]
      refine V_istore E (lv' := [(0, .ref (qCh 0)), (1, .int p1), (2, .int p2), (3, .int p3), (4, .int u5)]) dX0_mayJoin_26 (by decide) rfl ?_
      refine V_iload E 4 rfl dX0_mayJoin_28 ?_
      refine V_if_eq E (tgt := 39) dX0_mayJoin_30 (by decide) (fun hc6 => ?_) (fun hc6 => ?_)
      · have hf := ip hc6 hf
        refine V_iconst E (v := (1 : Int32)) dX0_mayJoin_39 (by decide) ?_
        refine V_goto E (tgt := 44) dX0_mayJoin_40 (by decide) ?_
        have h9 := hret 44 [(0, .ref (qCh 0)), (1, .int p1), (2, .int p2), (3, .int p3), (4, .int u5)] dX0_mayJoin_44
        rw [← (Option.some.inj hf)] at h9
        exact h9 (z01a (Or.inr rfl))
      · have hf := iq hc6 hf
        refine V_iload E 4 rfl dX0_mayJoin_33 ?_
        refine V_iload_n E 3 rfl dX0_mayJoin_35 ?_
        refine V_icmp_ne E (tgt := 43) dX0_mayJoin_36 (by decide) (fun hc7 => ?_) (fun hc7 => ?_)
        · have hf := iq hc7 hf
          refine V_iconst E (v := (0 : Int32)) dX0_mayJoin_43 (by decide) ?_
          have h9 := hret 44 [(0, .ref (qCh 0)), (1, .int p1), (2, .int p2), (3, .int p3), (4, .int u5)] dX0_mayJoin_44
          rw [← (Option.some.inj hf)] at h9
          exact h9 (z01a (Or.inl rfl))
        · have hf := ip hc7 hf
          refine V_iconst E (v := (1 : Int32)) dX0_mayJoin_39 (by decide) ?_
          refine V_goto E (tgt := 44) dX0_mayJoin_40 (by decide) ?_
          have h9 := hret 44 [(0, .ref (qCh 0)), (1, .int p1), (2, .int p2), (3, .int p3), (4, .int u5)] dX0_mayJoin_44
          rw [← (Option.some.inj hf)] at h9
          exact h9 (z01a (Or.inr rfl))
    · have hf := iq hc4 hf
      refine V_iconst E (v := (0 : Int32)) dX0_mayJoin_18 (by decide) ?_
      have h9 := hret 19 [(0, .ref (qCh 0)), (1, .int p1), (2, .int p2), (3, .int p3)] dX0_mayJoin_19
      rw [← (Option.some.inj hf)] at h9
      exact h9 (z01a (Or.inl rfl))
abbrev rmCh_take : Room := { frames := 3, cells := 0, slots := 0, locals := 65 }
theorem wd_yX0_take : wdV yX0_take cX0_take 5 none 4 := ⟨wc_yX0_take, wi_yX0_take, wse_yX0_take, wini_X0, by decide +kernel, by decide +kernel, by decide +kernel⟩
set_option maxHeartbeats 4000000 in
set_option maxRecDepth 100000 in
theorem kCh_take (l : Launch) (G : wG) (qSc : Nat → Nat) (qLi : Nat → Nat) (qCh : Nat → Nat) (p3 : Int32) (p4 : Int32) (sc_columns : Int32) (sc_count : Int32) (sc_cornerChange : Int32) (sc_voteApart : Int32) (sc_dots : Nat → Int32) (sc_cells : Nat → Int32) (sc_shotX : Nat → Int32) (sc_shotY : Nat → Int32) (sc_shotColumns : Nat → Int32) (li_corner : Nat → Int32) (li_most : Nat → Int32) (li_bestE : Nat → Int32) (li_bestF : Nat → Int32) (ch_taken : Int32) (ch_turn : Int32) (ch_drift : Int32) (ch_right : Int32) (ch_closed : Int32) (ch_follower : Nat → Int32) (ch_ahead : Nat → Int32) (ch_linkE : Nat → Int32) (ch_linkF : Nat → Int32) (ch_placeRight : Nat → Int32) (ch_placeLower : Nat → Int32) (o : Int32 × Int32 × Int32 × Int32 × (Nat → Int32) × (Nat → Int32) × (Nat → Int32) × (Nat → Int32)) (hf : fCh_take p3 p4 sc_count sc_shotX sc_shotY sc_shotColumns li_bestE li_bestF ch_taken ch_turn ch_drift ch_right ch_follower ch_ahead ch_linkE ch_linkF = some o) : Ct G l yX0_take cX0_take 5 none rmCh_take [.ref (qCh 0), .ref (qSc 0), .ref (qLi 0), .int p3, .int p4] (gSc G qSc sc_columns sc_count sc_cornerChange sc_voteApart sc_dots sc_cells sc_shotX sc_shotY sc_shotColumns ++ (gLi G qLi li_corner li_most li_bestE li_bestF ++ (gCh G qCh ch_taken ch_turn ch_drift ch_right ch_closed ch_follower ch_ahead ch_linkE ch_linkF ch_placeRight ch_placeLower))) none (gSc G qSc sc_columns sc_count sc_cornerChange sc_voteApart sc_dots sc_cells sc_shotX sc_shotY sc_shotColumns ++ (gLi G qLi li_corner li_most li_bestE li_bestF ++ (gCh G qCh o.1 o.2.1 o.2.2.1 o.2.2.2.1 ch_closed o.2.2.2.2.1 o.2.2.2.2.2.1 o.2.2.2.2.2.2.1 o.2.2.2.2.2.2.2 ch_placeRight ch_placeLower))) := by
  refine Ct.ofV (by decide +kernel) (Nat.le_of_ble_eq_true rfl) (fun p e s m args below meth c A Q E hret => ?_)
  unfold fCh_take at hf
  show V G p l e rmCh_take s m args below meth c 5 A Q 0 0 (gSc G qSc sc_columns sc_count sc_cornerChange sc_voteApart sc_dots sc_cells sc_shotX sc_shotY sc_shotColumns ++ (gLi G qLi li_corner li_most li_bestE li_bestF ++ (gCh G qCh ch_taken ch_turn ch_drift ch_right ch_closed ch_follower ch_ahead ch_linkE ch_linkF ch_placeRight ch_placeLower))) 0 [(0, .ref (qCh 0)), (1, .ref (qSc 0)), (2, .ref (qLi 0)), (3, .int p3), (4, .int p4)] []
  refine V_iload_n E 3 rfl dX0_take_0 ?_
  refine V_iconst E (v := (0 : Int32)) dX0_take_1 (by decide) ?_
  refine V_iconst E (v := (5 : Int32)) dX0_take_2 (by decide) ?_
  obtain ⟨u1, hu1, hf⟩ := bd hf
  refine V_fr0 E (Rn_N E (rest := []) 3 rfl wd_yX7_within (kRi_within l G p3 (0 : Int32) (5 : Int32) u1 hu1) ⟨rfl, rfl, Nat.le_of_ble_eq_true rfl, Nat.le_of_ble_eq_true rfl⟩ rfl rfl (Nat.le_of_ble_eq_true rfl) dX0_take_3) ?_
  show V G p l e rmCh_take s m args below meth c 5 A Q 0 0 (gSc G qSc sc_columns sc_count sc_cornerChange sc_voteApart sc_dots sc_cells sc_shotX sc_shotY sc_shotColumns ++ (gLi G qLi li_corner li_most li_bestE li_bestF ++ (gCh G qCh ch_taken ch_turn ch_drift ch_right ch_closed ch_follower ch_ahead ch_linkE ch_linkF ch_placeRight ch_placeLower))) 6 [(0, .ref (qCh 0)), (1, .ref (qSc 0)), (2, .ref (qLi 0)), (3, .int p3), (4, .int p4)] [.int u1]
  refine V_if_eq E (tgt := 19) dX0_take_6 (by decide) (fun hc2 => ?_) (fun hc2 => ?_)
  · have hf := ip hc2 hf
    have h9 := hret 19 [(0, .ref (qCh 0)), (1, .ref (qSc 0)), (2, .ref (qLi 0)), (3, .int p3), (4, .int p4)] dX0_take_19
    rw [← (Option.some.inj hf)] at h9
    exact h9
  · have hf := iq hc2 hf
    refine V_iload E 4 rfl dX0_take_9 ?_
    refine V_iconst E (v := (0 : Int32)) dX0_take_11 (by decide) ?_
    refine V_iconst E (v := (5 : Int32)) dX0_take_12 (by decide) ?_
    obtain ⟨u3, hu3, hf⟩ := bd hf
    refine V_fr0 E (Rn_N E (rest := []) 3 rfl wd_yX7_within (kRi_within l G p4 (0 : Int32) (5 : Int32) u3 hu3) ⟨rfl, rfl, Nat.le_of_ble_eq_true rfl, Nat.le_of_ble_eq_true rfl⟩ rfl rfl (Nat.le_of_ble_eq_true rfl) dX0_take_13) ?_
    show V G p l e rmCh_take s m args below meth c 5 A Q 0 0 (gSc G qSc sc_columns sc_count sc_cornerChange sc_voteApart sc_dots sc_cells sc_shotX sc_shotY sc_shotColumns ++ (gLi G qLi li_corner li_most li_bestE li_bestF ++ (gCh G qCh ch_taken ch_turn ch_drift ch_right ch_closed ch_follower ch_ahead ch_linkE ch_linkF ch_placeRight ch_placeLower))) 16 [(0, .ref (qCh 0)), (1, .ref (qSc 0)), (2, .ref (qLi 0)), (3, .int p3), (4, .int p4)] [.int u3]
    refine V_if_ne E (tgt := 20) dX0_take_16 (by decide) (fun hc4 => ?_) (fun hc4 => ?_)
    · have hf := iq hc4 hf
      refine V_aload_n E 0 rfl dX0_take_20 ?_
      refine gfX0_9 E 11 rfl rfl dX0_take_21 ?_
      refine V_iload_n E 3 rfl dX0_take_24 ?_
      refine V_iload E 4 rfl dX0_take_25 ?_
      obtain ⟨hi5, hf⟩ := asr_ok hf
      refine V_iast E (ws' := (gSc G qSc sc_columns sc_count sc_cornerChange sc_voteApart sc_dots sc_cells sc_shotX sc_shotY sc_shotColumns ++ (gLi G qLi li_corner li_most li_bestE li_bestF ++ (gCh G qCh ch_taken ch_turn ch_drift ch_right ch_closed (upd ch_follower p3.toNatClampNeg p4) ch_ahead ch_linkE ch_linkF ch_placeRight ch_placeLower)))) 12 rfl hi5 dX0_take_27 rfl ?_
      refine V_aload_n E 0 rfl dX0_take_28 ?_
      refine gfX0_15 E 11 rfl rfl dX0_take_29 ?_
      refine V_iload E 4 rfl dX0_take_32 ?_
      refine V_iload_n E 3 rfl dX0_take_34 ?_
      obtain ⟨hi6, hf⟩ := asr_ok hf
      refine V_iast E (ws' := (gSc G qSc sc_columns sc_count sc_cornerChange sc_voteApart sc_dots sc_cells sc_shotX sc_shotY sc_shotColumns ++ (gLi G qLi li_corner li_most li_bestE li_bestF ++ (gCh G qCh ch_taken ch_turn ch_drift ch_right ch_closed (upd ch_follower p3.toNatClampNeg p4) (upd ch_ahead p4.toNatClampNeg p3) ch_linkE ch_linkF ch_placeRight ch_placeLower)))) 13 rfl hi6 dX0_take_35 rfl ?_
      refine V_aload_n E 0 rfl dX0_take_36 ?_
      refine gfX0_18 E 11 rfl rfl dX0_take_37 ?_
      refine V_iload_n E 3 rfl dX0_take_40 ?_
      refine V_aload_n E 2 rfl dX0_take_41 ?_
      refine V_iload_n E 3 rfl dX0_take_42 ?_
      refine V_iload E 4 rfl dX0_take_43 ?_
      obtain ⟨u7, hu7, hf⟩ := bd hf
      refine V_frG E (wr := (gSc G qSc sc_columns sc_count sc_cornerChange sc_voteApart sc_dots sc_cells sc_shotX sc_shotY sc_shotColumns ++ (gCh G qCh ch_taken ch_turn ch_drift ch_right ch_closed (upd ch_follower p3.toNatClampNeg p4) (upd ch_ahead p4.toNatClampNeg p3) ch_linkE ch_linkF ch_placeRight ch_placeLower))) (ws' := (gSc G qSc sc_columns sc_count sc_cornerChange sc_voteApart sc_dots sc_cells sc_shotX sc_shotY sc_shotColumns ++ (gLi G qLi li_corner li_most li_bestE li_bestF ++ (gCh G qCh ch_taken ch_turn ch_drift ch_right ch_closed (upd ch_follower p3.toNatClampNeg p4) (upd ch_ahead p4.toNatClampNeg p3) ch_linkE ch_linkF ch_placeRight ch_placeLower)))) [6, 7, 8, 9, 10] [0, 1, 2, 3, 4, 5, 11, 12, 13, 14, 15, 16, 17] [0, 1, 2, 3, 4, 5, 13, 14, 15, 16, 17, 6, 7, 8, 9, 10, 11, 12] rfl rfl ⟨rfl, rfl, rfl, rfl⟩ rfl (Rn_V E (rest := [.int p3, .ref (qCh 3)]) mlX0_83 wd_yX3_shiftE (kLi_shiftE l G qLi p3 p4 li_corner li_most li_bestE li_bestF u7 hu7) ⟨rfl, rfl, Nat.le_of_ble_eq_true rfl, Nat.le_of_ble_eq_true rfl⟩ 0 rfl rfl rfl rfl rfl (Nat.le_of_ble_eq_true rfl) dX0_take_45) ?_
      show V G p l e rmCh_take s m args below meth c 5 A Q 0 0 (gSc G qSc sc_columns sc_count sc_cornerChange sc_voteApart sc_dots sc_cells sc_shotX sc_shotY sc_shotColumns ++ (gLi G qLi li_corner li_most li_bestE li_bestF ++ (gCh G qCh ch_taken ch_turn ch_drift ch_right ch_closed (upd ch_follower p3.toNatClampNeg p4) (upd ch_ahead p4.toNatClampNeg p3) ch_linkE ch_linkF ch_placeRight ch_placeLower))) 48 [(0, .ref (qCh 0)), (1, .ref (qSc 0)), (2, .ref (qLi 0)), (3, .int p3), (4, .int p4)] [.int u7, .int p3, .ref (qCh 3)]
      obtain ⟨hi8, hf⟩ := asr_ok hf
      refine V_iast E (ws' := (gSc G qSc sc_columns sc_count sc_cornerChange sc_voteApart sc_dots sc_cells sc_shotX sc_shotY sc_shotColumns ++ (gLi G qLi li_corner li_most li_bestE li_bestF ++ (gCh G qCh ch_taken ch_turn ch_drift ch_right ch_closed (upd ch_follower p3.toNatClampNeg p4) (upd ch_ahead p4.toNatClampNeg p3) (upd ch_linkE p3.toNatClampNeg u7) ch_linkF ch_placeRight ch_placeLower)))) 14 rfl hi8 dX0_take_48 rfl ?_
      refine V_aload_n E 0 rfl dX0_take_49 ?_
      refine gfX0_21 E 11 rfl rfl dX0_take_50 ?_
      refine V_iload_n E 3 rfl dX0_take_53 ?_
      refine V_aload_n E 2 rfl dX0_take_54 ?_
      refine V_iload_n E 3 rfl dX0_take_55 ?_
      refine V_iload E 4 rfl dX0_take_56 ?_
      obtain ⟨u9, hu9, hf⟩ := bd hf
      refine V_frG E (wr := (gSc G qSc sc_columns sc_count sc_cornerChange sc_voteApart sc_dots sc_cells sc_shotX sc_shotY sc_shotColumns ++ (gCh G qCh ch_taken ch_turn ch_drift ch_right ch_closed (upd ch_follower p3.toNatClampNeg p4) (upd ch_ahead p4.toNatClampNeg p3) (upd ch_linkE p3.toNatClampNeg u7) ch_linkF ch_placeRight ch_placeLower))) (ws' := (gSc G qSc sc_columns sc_count sc_cornerChange sc_voteApart sc_dots sc_cells sc_shotX sc_shotY sc_shotColumns ++ (gLi G qLi li_corner li_most li_bestE li_bestF ++ (gCh G qCh ch_taken ch_turn ch_drift ch_right ch_closed (upd ch_follower p3.toNatClampNeg p4) (upd ch_ahead p4.toNatClampNeg p3) (upd ch_linkE p3.toNatClampNeg u7) ch_linkF ch_placeRight ch_placeLower)))) [6, 7, 8, 9, 10] [0, 1, 2, 3, 4, 5, 11, 12, 13, 14, 15, 16, 17] [0, 1, 2, 3, 4, 5, 13, 14, 15, 16, 17, 6, 7, 8, 9, 10, 11, 12] rfl rfl ⟨rfl, rfl, rfl, rfl⟩ rfl (Rn_V E (rest := [.int p3, .ref (qCh 4)]) mlX0_86 wd_yX3_shiftF (kLi_shiftF l G qLi p3 p4 li_corner li_most li_bestE li_bestF u9 hu9) ⟨rfl, rfl, Nat.le_of_ble_eq_true rfl, Nat.le_of_ble_eq_true rfl⟩ 0 rfl rfl rfl rfl rfl (Nat.le_of_ble_eq_true rfl) dX0_take_58) ?_
      show V G p l e rmCh_take s m args below meth c 5 A Q 0 0 (gSc G qSc sc_columns sc_count sc_cornerChange sc_voteApart sc_dots sc_cells sc_shotX sc_shotY sc_shotColumns ++ (gLi G qLi li_corner li_most li_bestE li_bestF ++ (gCh G qCh ch_taken ch_turn ch_drift ch_right ch_closed (upd ch_follower p3.toNatClampNeg p4) (upd ch_ahead p4.toNatClampNeg p3) (upd ch_linkE p3.toNatClampNeg u7) ch_linkF ch_placeRight ch_placeLower))) 61 [(0, .ref (qCh 0)), (1, .ref (qSc 0)), (2, .ref (qLi 0)), (3, .int p3), (4, .int p4)] [.int u9, .int p3, .ref (qCh 4)]
      obtain ⟨hi10, hf⟩ := asr_ok hf
      refine V_iast E (ws' := (gSc G qSc sc_columns sc_count sc_cornerChange sc_voteApart sc_dots sc_cells sc_shotX sc_shotY sc_shotColumns ++ (gLi G qLi li_corner li_most li_bestE li_bestF ++ (gCh G qCh ch_taken ch_turn ch_drift ch_right ch_closed (upd ch_follower p3.toNatClampNeg p4) (upd ch_ahead p4.toNatClampNeg p3) (upd ch_linkE p3.toNatClampNeg u7) (upd ch_linkF p3.toNatClampNeg u9) ch_placeRight ch_placeLower)))) 15 rfl hi10 dX0_take_61 rfl ?_
      refine V_aload_n E 0 rfl dX0_take_62 ?_
      refine V_dup E dX0_take_63 rfl ?_
      refine gfX0_34 E 11 rfl rfl dX0_take_64 ?_
      refine V_iconst E (v := (1 : Int32)) dX0_take_67 (by decide) ?_
      refine V_iadd E dX0_take_68 ?_
      refine pfX0_34 E (ws' := (gSc G qSc sc_columns sc_count sc_cornerChange sc_voteApart sc_dots sc_cells sc_shotX sc_shotY sc_shotColumns ++ (gLi G qLi li_corner li_most li_bestE li_bestF ++ (gCh G qCh (ch_taken + (1 : Int32)) ch_turn ch_drift ch_right ch_closed (upd ch_follower p3.toNatClampNeg p4) (upd ch_ahead p4.toNatClampNeg p3) (upd ch_linkE p3.toNatClampNeg u7) (upd ch_linkF p3.toNatClampNeg u9) ch_placeRight ch_placeLower)))) 11 rfl (Nat.le_of_ble_eq_true rfl) rfl rfl dX0_take_69 rfl ?_
      refine V_aload_n E 0 rfl dX0_take_72 ?_
      refine V_dup E dX0_take_73 rfl ?_
      refine gfX0_38 E 11 rfl rfl dX0_take_74 ?_
      refine V_aload_n E 0 rfl dX0_take_77 ?_
      refine gfX0_21 E 11 rfl rfl dX0_take_78 ?_
      refine V_iload_n E 3 rfl dX0_take_81 ?_
      obtain ⟨hi11, hf⟩ := asr_ok hf
      refine V_iald E 15 rfl hi11 dX0_take_82 ?_
      refine V_iadd E dX0_take_83 ?_
      refine pfX0_38 E (ws' := (gSc G qSc sc_columns sc_count sc_cornerChange sc_voteApart sc_dots sc_cells sc_shotX sc_shotY sc_shotColumns ++ (gLi G qLi li_corner li_most li_bestE li_bestF ++ (gCh G qCh (ch_taken + (1 : Int32)) (ch_turn + ((upd ch_linkF p3.toNatClampNeg u9) p3.toNatClampNeg)) ch_drift ch_right ch_closed (upd ch_follower p3.toNatClampNeg p4) (upd ch_ahead p4.toNatClampNeg p3) (upd ch_linkE p3.toNatClampNeg u7) (upd ch_linkF p3.toNatClampNeg u9) ch_placeRight ch_placeLower)))) 11 rfl (Nat.le_of_ble_eq_true rfl) rfl rfl dX0_take_84 rfl ?_
      refine V_aload_n E 0 rfl dX0_take_87 ?_
      refine V_dup E dX0_take_88 rfl ?_
      refine gfX0_41 E 11 rfl rfl dX0_take_89 ?_
      refine V_aload_n E 0 rfl dX0_take_92 ?_
      refine gfX0_18 E 11 rfl rfl dX0_take_93 ?_
      refine V_iload_n E 3 rfl dX0_take_96 ?_
      obtain ⟨hi12, hf⟩ := asr_ok hf
      refine V_iald E 14 rfl hi12 dX0_take_97 ?_
      refine V_iadd E dX0_take_98 ?_
      refine pfX0_41 E (ws' := (gSc G qSc sc_columns sc_count sc_cornerChange sc_voteApart sc_dots sc_cells sc_shotX sc_shotY sc_shotColumns ++ (gLi G qLi li_corner li_most li_bestE li_bestF ++ (gCh G qCh (ch_taken + (1 : Int32)) (ch_turn + ((upd ch_linkF p3.toNatClampNeg u9) p3.toNatClampNeg)) (ch_drift + ((upd ch_linkE p3.toNatClampNeg u7) p3.toNatClampNeg)) ch_right ch_closed (upd ch_follower p3.toNatClampNeg p4) (upd ch_ahead p4.toNatClampNeg p3) (upd ch_linkE p3.toNatClampNeg u7) (upd ch_linkF p3.toNatClampNeg u9) ch_placeRight ch_placeLower)))) 11 rfl (Nat.le_of_ble_eq_true rfl) rfl rfl dX0_take_99 rfl ?_
      refine V_aload_n E 1 rfl dX0_take_102 ?_
      refine V_iload_n E 3 rfl dX0_take_103 ?_
      refine V_iload E 4 rfl dX0_take_104 ?_
      refine V_aload_n E 0 rfl dX0_take_106 ?_
      refine gfX0_18 E 11 rfl rfl dX0_take_107 ?_
      refine V_iload_n E 3 rfl dX0_take_110 ?_
      obtain ⟨hi13, hf⟩ := asr_ok hf
      refine V_iald E 14 rfl hi13 dX0_take_111 ?_
      refine V_aload_n E 0 rfl dX0_take_112 ?_
      refine gfX0_21 E 11 rfl rfl dX0_take_113 ?_
      refine V_iload_n E 3 rfl dX0_take_116 ?_
      obtain ⟨hi14, hf⟩ := asr_ok hf
      refine V_iald E 15 rfl hi14 dX0_take_117 ?_
      obtain ⟨u15, hu15, hf⟩ := bd hf
      refine V_frG E (wr := (gLi G qLi li_corner li_most li_bestE li_bestF ++ (gCh G qCh (ch_taken + (1 : Int32)) (ch_turn + ((upd ch_linkF p3.toNatClampNeg u9) p3.toNatClampNeg)) (ch_drift + ((upd ch_linkE p3.toNatClampNeg u7) p3.toNatClampNeg)) ch_right ch_closed (upd ch_follower p3.toNatClampNeg p4) (upd ch_ahead p4.toNatClampNeg p3) (upd ch_linkE p3.toNatClampNeg u7) (upd ch_linkF p3.toNatClampNeg u9) ch_placeRight ch_placeLower))) (ws' := (gSc G qSc sc_columns sc_count sc_cornerChange sc_voteApart sc_dots sc_cells sc_shotX sc_shotY sc_shotColumns ++ (gLi G qLi li_corner li_most li_bestE li_bestF ++ (gCh G qCh (ch_taken + (1 : Int32)) (ch_turn + ((upd ch_linkF p3.toNatClampNeg u9) p3.toNatClampNeg)) (ch_drift + ((upd ch_linkE p3.toNatClampNeg u7) p3.toNatClampNeg)) ch_right ch_closed (upd ch_follower p3.toNatClampNeg p4) (upd ch_ahead p4.toNatClampNeg p3) (upd ch_linkE p3.toNatClampNeg u7) (upd ch_linkF p3.toNatClampNeg u9) ch_placeRight ch_placeLower)))) [0, 1, 2, 3, 4, 5] [6, 7, 8, 9, 10, 11, 12, 13, 14, 15, 16, 17] [12, 13, 14, 15, 16, 17, 0, 1, 2, 3, 4, 5, 6, 7, 8, 9, 10, 11] rfl rfl ⟨rfl, rfl, rfl, rfl⟩ rfl (Rn_V E (rest := []) mlX0_89 wd_yX5_isRight (kSc_isRight l G qSc p3 p4 ((upd ch_linkE p3.toNatClampNeg u7) p3.toNatClampNeg) ((upd ch_linkF p3.toNatClampNeg u9) p3.toNatClampNeg) sc_columns sc_count sc_cornerChange sc_voteApart sc_dots sc_cells sc_shotX sc_shotY sc_shotColumns u15 hu15) ⟨rfl, rfl, Nat.le_of_ble_eq_true rfl, Nat.le_of_ble_eq_true rfl⟩ 0 rfl rfl rfl rfl rfl (Nat.le_of_ble_eq_true rfl) dX0_take_118) ?_
      show V G p l e rmCh_take s m args below meth c 5 A Q 0 0 (gSc G qSc sc_columns sc_count sc_cornerChange sc_voteApart sc_dots sc_cells sc_shotX sc_shotY sc_shotColumns ++ (gLi G qLi li_corner li_most li_bestE li_bestF ++ (gCh G qCh (ch_taken + (1 : Int32)) (ch_turn + ((upd ch_linkF p3.toNatClampNeg u9) p3.toNatClampNeg)) (ch_drift + ((upd ch_linkE p3.toNatClampNeg u7) p3.toNatClampNeg)) ch_right ch_closed (upd ch_follower p3.toNatClampNeg p4) (upd ch_ahead p4.toNatClampNeg p3) (upd ch_linkE p3.toNatClampNeg u7) (upd ch_linkF p3.toNatClampNeg u9) ch_placeRight ch_placeLower))) 121 [(0, .ref (qCh 0)), (1, .ref (qSc 0)), (2, .ref (qLi 0)), (3, .int p3), (4, .int p4)] [.int u15]
      refine V_if_eq E (tgt := 134) dX0_take_121 (by decide) (fun hc16 => ?_) (fun hc16 => ?_)
      · have hf := ip hc16 hf
        have h9 := hret 134 [(0, .ref (qCh 0)), (1, .ref (qSc 0)), (2, .ref (qLi 0)), (3, .int p3), (4, .int p4)] dX0_take_134
        rw [← (Option.some.inj hf)] at h9
        exact h9
      · have hf := iq hc16 hf
        refine V_aload_n E 0 rfl dX0_take_124 ?_
        refine V_dup E dX0_take_125 rfl ?_
        refine gfX0_44 E 11 rfl rfl dX0_take_126 ?_
        refine V_iconst E (v := (1 : Int32)) dX0_take_129 (by decide) ?_
        refine V_iadd E dX0_take_130 ?_
        refine pfX0_44 E (ws' := (gSc G qSc sc_columns sc_count sc_cornerChange sc_voteApart sc_dots sc_cells sc_shotX sc_shotY sc_shotColumns ++ (gLi G qLi li_corner li_most li_bestE li_bestF ++ (gCh G qCh (ch_taken + (1 : Int32)) (ch_turn + ((upd ch_linkF p3.toNatClampNeg u9) p3.toNatClampNeg)) (ch_drift + ((upd ch_linkE p3.toNatClampNeg u7) p3.toNatClampNeg)) (ch_right + (1 : Int32)) ch_closed (upd ch_follower p3.toNatClampNeg p4) (upd ch_ahead p4.toNatClampNeg p3) (upd ch_linkE p3.toNatClampNeg u7) (upd ch_linkF p3.toNatClampNeg u9) ch_placeRight ch_placeLower)))) 11 rfl (Nat.le_of_ble_eq_true rfl) rfl rfl dX0_take_131 rfl ?_
        have h9 := hret 134 [(0, .ref (qCh 0)), (1, .ref (qSc 0)), (2, .ref (qLi 0)), (3, .int p3), (4, .int p4)] dX0_take_134
        rw [← (Option.some.inj hf)] at h9
        exact h9
    · have hf := ip hc4 hf
      have h9 := hret 19 [(0, .ref (qCh 0)), (1, .ref (qSc 0)), (2, .ref (qLi 0)), (3, .int p3), (4, .int p4)] dX0_take_19
      rw [← (Option.some.inj hf)] at h9
      exact h9
abbrev rmCh_findPlaces : Room := { frames := 2, cells := 0, slots := 0, locals := 48 }
theorem wd_yX0_findPlaces : wdV yX0_findPlaces cX0_findPlaces 6 none 1 := ⟨wc_yX0_findPlaces, wi_yX0_findPlaces, wse_yX0_findPlaces, wini_X0, by decide +kernel, by decide +kernel, by decide +kernel⟩
set_option maxHeartbeats 4000000 in
set_option maxRecDepth 100000 in
theorem kCh_findPlaces (l : Launch) (G : wG) (qCh : Nat → Nat) (p1 : Int32) (ch_taken : Int32) (ch_turn : Int32) (ch_drift : Int32) (ch_right : Int32) (ch_closed : Int32) (ch_follower : Nat → Int32) (ch_ahead : Nat → Int32) (ch_linkE : Nat → Int32) (ch_linkF : Nat → Int32) (ch_placeRight : Nat → Int32) (ch_placeLower : Nat → Int32) (o : (Nat → Int32) × (Nat → Int32)) (hf : fCh_findPlaces p1 ch_drift ch_follower ch_linkE ch_linkF ch_placeRight ch_placeLower = some o) : Ct G l yX0_findPlaces cX0_findPlaces 6 none rmCh_findPlaces [.ref (qCh 0), .int p1] (gCh G qCh ch_taken ch_turn ch_drift ch_right ch_closed ch_follower ch_ahead ch_linkE ch_linkF ch_placeRight ch_placeLower) none (gCh G qCh ch_taken ch_turn ch_drift ch_right ch_closed ch_follower ch_ahead ch_linkE ch_linkF o.1 o.2) := by
  refine Ct.ofV (by decide +kernel) (Nat.le_of_ble_eq_true rfl) (fun p e s m args below meth c A Q E hret => ?_)
  unfold fCh_findPlaces at hf
  show V G p l e rmCh_findPlaces s m args below meth c 6 A Q 0 0 (gCh G qCh ch_taken ch_turn ch_drift ch_right ch_closed ch_follower ch_ahead ch_linkE ch_linkF ch_placeRight ch_placeLower) 0 [(0, .ref (qCh 0)), (1, .int p1)] []
  refine V_iconst E (v := (0 : Int32)) dX0_findPlaces_0 (by decide) ?_
  refine V_istore_n E (lv' := [(0, .ref (qCh 0)), (1, .int p1), (2, .int (0 : Int32))]) dX0_findPlaces_1 (by decide) rfl ?_
  refine V_iconst E (v := (0 : Int32)) dX0_findPlaces_2 (by decide) ?_
  refine V_istore_n E (lv' := [(0, .ref (qCh 0)), (1, .int p1), (2, .int (0 : Int32)), (3, .int (0 : Int32))]) dX0_findPlaces_3 (by decide) rfl ?_
  refine V_iconst E (v := (0 : Int32)) dX0_findPlaces_4 (by decide) ?_
  refine V_istore E (lv' := [(0, .ref (qCh 0)), (1, .int p1), (2, .int (0 : Int32)), (3, .int (0 : Int32)), (4, .int (0 : Int32))]) dX0_findPlaces_5 (by decide) rfl ?_
  refine V_iconst E (v := (0 : Int32)) dX0_findPlaces_7 (by decide) ?_
  refine V_istore E (lv' := [(0, .ref (qCh 0)), (1, .int p1), (2, .int (0 : Int32)), (3, .int (0 : Int32)), (4, .int (0 : Int32)), (5, .int (0 : Int32))]) dX0_findPlaces_8 (by decide) rfl ?_
  have L10 : ∀ (n : Nat) (a10_2 : Int32) (a10_3 : Int32) (a10_4 : Int32) (a10_5 : Int32) (c10_ch_placeRight : Nat → Int32) (c10_ch_placeLower : Nat → Int32) (u : (Nat → Int32) × (Nat → Int32)), fCh_findPlaces_L10 p1 ch_drift ch_follower ch_linkE ch_linkF n a10_2 a10_3 a10_4 a10_5 c10_ch_placeRight c10_ch_placeLower = some u → (V G p l e rmCh_findPlaces s m args below meth c 6 A Q 0 0 (gCh G qCh ch_taken ch_turn ch_drift ch_right ch_closed ch_follower ch_ahead ch_linkE ch_linkF u.1 u.2) 89 [] []) → V G p l e rmCh_findPlaces s m args below meth c 6 A Q 0 0 (gCh G qCh ch_taken ch_turn ch_drift ch_right ch_closed ch_follower ch_ahead ch_linkE ch_linkF c10_ch_placeRight c10_ch_placeLower) 10 [(0, .ref (qCh 0)), (1, .int p1), (2, .int a10_2), (3, .int a10_3), (4, .int a10_4), (5, .int a10_5)] [] := by
    intro n
    induction n with
    | zero =>
      intro a10_2 a10_3 a10_4 a10_5 c10_ch_placeRight c10_ch_placeLower u hf hk
      rw [fCh_findPlaces_L10] at hf
      cases hf
    | succ n ih =>
      intro a10_2 a10_3 a10_4 a10_5 c10_ch_placeRight c10_ch_placeLower u hf hk
      rw [fCh_findPlaces_L10] at hf
      refine V_iload E 5 rfl dX0_findPlaces_10 ?_
      refine V_iload_n E 1 rfl dX0_findPlaces_12 ?_
      refine V_icmp_ge E (tgt := 89) dX0_findPlaces_13 (by decide) (fun hc2 => ?_) (fun hc2 => ?_)
      · have hf := ip hc2 hf
        refine V_sub [] rfl ?_
        rw [← Option.some.inj hf] at hk
        exact hk
      · have hf := iq hc2 hf
        refine V_iload_n E 2 rfl dX0_findPlaces_16 ?_
        refine V_iconst E (v := (0 : Int32)) dX0_findPlaces_17 (by decide) ?_
        refine V_iconst E (v := (5 : Int32)) dX0_findPlaces_18 (by decide) ?_
        obtain ⟨u3, hu3, hf⟩ := bd hf
        refine V_fr0 E (Rn_N E (rest := []) 3 rfl wd_yX7_within (kRi_within l G a10_2 (0 : Int32) (5 : Int32) u3 hu3) ⟨rfl, rfl, Nat.le_of_ble_eq_true rfl, Nat.le_of_ble_eq_true rfl⟩ rfl rfl (Nat.le_of_ble_eq_true rfl) dX0_findPlaces_19) ?_
        show V G p l e rmCh_findPlaces s m args below meth c 6 A Q 0 0 (gCh G qCh ch_taken ch_turn ch_drift ch_right ch_closed ch_follower ch_ahead ch_linkE ch_linkF c10_ch_placeRight c10_ch_placeLower) 22 [(0, .ref (qCh 0)), (1, .int p1), (2, .int a10_2), (3, .int a10_3), (4, .int a10_4), (5, .int a10_5)] [.int u3]
        refine V_if_eq E (tgt := 89) dX0_findPlaces_22 (by decide) (fun hc4 => ?_) (fun hc4 => ?_)
        · have hf := ip hc4 hf
          refine V_sub [] rfl ?_
          rw [← Option.some.inj hf] at hk
          exact hk
        · have hf := iq hc4 hf
          refine V_aload_n E 0 rfl dX0_findPlaces_25 ?_
          refine gfX0_24 E 0 rfl rfl dX0_findPlaces_26 ?_
          refine V_iload_n E 2 rfl dX0_findPlaces_29 ?_
          refine V_iload_n E 3 rfl dX0_findPlaces_30 ?_
          obtain ⟨hi5, hf⟩ := asr_ok hf
          refine V_iast E (ws' := (gCh G qCh ch_taken ch_turn ch_drift ch_right ch_closed ch_follower ch_ahead ch_linkE ch_linkF (upd c10_ch_placeRight a10_2.toNatClampNeg a10_3) c10_ch_placeLower)) 5 rfl hi5 dX0_findPlaces_31 rfl ?_
          refine V_aload_n E 0 rfl dX0_findPlaces_32 ?_
          refine gfX0_27 E 0 rfl rfl dX0_findPlaces_33 ?_
          refine V_iload_n E 2 rfl dX0_findPlaces_36 ?_
          refine V_iload E 4 rfl dX0_findPlaces_37 ?_
          refine V_aload_n E 0 rfl dX0_findPlaces_39 ?_
          refine gfX0_41 E 0 rfl rfl dX0_findPlaces_40 ?_
          refine V_i2l E dX0_findPlaces_43 ?_
          refine V_iload E 5 rfl dX0_findPlaces_44 ?_
          refine V_i2l E dX0_findPlaces_46 ?_
          refine V_lmul E dX0_findPlaces_47 ?_
          refine V_iload_n E 1 rfl dX0_findPlaces_48 ?_
          refine V_i2l E dX0_findPlaces_49 ?_
          obtain ⟨u6, hu6, hf⟩ := bd hf
          refine V_fr0 E (Rn_N E (rest := [.int a10_4, .int a10_2, .ref (qCh 6)]) 4 rfl wd_yX7_nearest (kRi_nearest l G (ch_drift.toInt64 * a10_5.toInt64) p1.toInt64 u6 hu6) ⟨rfl, rfl, Nat.le_of_ble_eq_true rfl, Nat.le_of_ble_eq_true rfl⟩ rfl rfl (Nat.le_of_ble_eq_true rfl) dX0_findPlaces_50) ?_
          show V G p l e rmCh_findPlaces s m args below meth c 6 A Q 0 0 (gCh G qCh ch_taken ch_turn ch_drift ch_right ch_closed ch_follower ch_ahead ch_linkE ch_linkF (upd c10_ch_placeRight a10_2.toNatClampNeg a10_3) c10_ch_placeLower) 53 [(0, .ref (qCh 0)), (1, .int p1), (2, .int a10_2), (3, .int a10_3), (4, .int a10_4), (5, .int a10_5)] [.long u6, .int a10_4, .int a10_2, .ref (qCh 6)]
          refine V_l2i E dX0_findPlaces_53 ?_
          refine V_isub E dX0_findPlaces_54 ?_
          obtain ⟨hi7, hf⟩ := asr_ok hf
          refine V_iast E (ws' := (gCh G qCh ch_taken ch_turn ch_drift ch_right ch_closed ch_follower ch_ahead ch_linkE ch_linkF (upd c10_ch_placeRight a10_2.toNatClampNeg a10_3) (upd c10_ch_placeLower a10_2.toNatClampNeg (a10_4 - u6.toInt32)))) 6 rfl hi7 dX0_findPlaces_55 rfl ?_
          refine V_iload_n E 3 rfl dX0_findPlaces_56 ?_
          refine V_aload_n E 0 rfl dX0_findPlaces_57 ?_
          refine gfX0_21 E 0 rfl rfl dX0_findPlaces_58 ?_
          refine V_iload_n E 2 rfl dX0_findPlaces_61 ?_
          obtain ⟨hi8, hf⟩ := asr_ok hf
          refine V_iald E 4 rfl hi8 dX0_findPlaces_62 ?_
          refine V_iadd E dX0_findPlaces_63 ?_
          obtain ⟨t9, ht9, hf⟩ := bd hf
          have ht9 := Option.some.inj ht9
          rw [ht9]
          refine V_istore_n E (lv' := [(0, .ref (qCh 0)), (1, .int p1), (2, .int a10_2), (3, .int t9), (4, .int a10_4), (5, .int a10_5)]) dX0_findPlaces_64 (by decide) rfl ?_
          refine V_iload E 4 rfl dX0_findPlaces_65 ?_
          refine V_aload_n E 0 rfl dX0_findPlaces_67 ?_
          refine gfX0_18 E 0 rfl rfl dX0_findPlaces_68 ?_
          refine V_iload_n E 2 rfl dX0_findPlaces_71 ?_
          obtain ⟨hi10, hf⟩ := asr_ok hf
          refine V_iald E 3 rfl hi10 dX0_findPlaces_72 ?_
          refine V_iadd E dX0_findPlaces_73 ?_
          obtain ⟨t11, ht11, hf⟩ := bd hf
          have ht11 := Option.some.inj ht11
          rw [ht11]
          refine V_istore E (lv' := [(0, .ref (qCh 0)), (1, .int p1), (2, .int a10_2), (3, .int t9), (4, .int t11), (5, .int a10_5)]) dX0_findPlaces_74 (by decide) rfl ?_
          refine V_aload_n E 0 rfl dX0_findPlaces_76 ?_
          refine gfX0_9 E 0 rfl rfl dX0_findPlaces_77 ?_
          refine V_iload_n E 2 rfl dX0_findPlaces_80 ?_
          obtain ⟨hi12, hf⟩ := asr_ok hf
          refine V_iald E 1 rfl hi12 dX0_findPlaces_81 ?_
          obtain ⟨t13, ht13, hf⟩ := bd hf
          have ht13 := Option.some.inj ht13
          rw [ht13]
          refine V_istore_n E (lv' := [(0, .ref (qCh 0)), (1, .int p1), (2, .int t13), (3, .int t9), (4, .int t11), (5, .int a10_5)]) dX0_findPlaces_82 (by decide) rfl ?_
          refine V_iinc E (v := (a10_5 + (1 : Int32))) (lv' := [(0, .ref (qCh 0)), (1, .int p1), (2, .int t13), (3, .int t9), (4, .int t11), (5, .int (a10_5 + (1 : Int32)))]) 5 rfl dX0_findPlaces_83 rfl (by decide) rfl ?_
          refine V_goto E (tgt := 10) dX0_findPlaces_86 (by decide) ?_
          exact ih t13 t9 t11 (a10_5 + (1 : Int32)) (upd c10_ch_placeRight a10_2.toNatClampNeg a10_3) (upd c10_ch_placeLower a10_2.toNatClampNeg (a10_4 - u6.toInt32)) _ hf hk
  obtain ⟨u1, hu1, hf⟩ := bd hf
  refine L10 FU (0 : Int32) (0 : Int32) (0 : Int32) (0 : Int32) ch_placeRight ch_placeLower u1 hu1 ?_
  have h9 := hret 89 [] dX0_findPlaces_89
  rw [← (Option.some.inj hf)] at h9
  exact h9
abbrev rmCh_join : Room := { frames := 4, cells := 0, slots := 0, locals := 91 }
theorem wd_yX0_join : wdV yX0_join cX0_join 6 none 2 := ⟨wc_yX0_join, wi_yX0_join, wse_yX0_join, wini_X0, by decide +kernel, by decide +kernel, by decide +kernel⟩
set_option maxHeartbeats 4000000 in
set_option maxRecDepth 100000 in
theorem kCh_join (l : Launch) (G : wG) (qSc : Nat → Nat) (qLi : Nat → Nat) (qCh : Nat → Nat) (sc_columns : Int32) (sc_count : Int32) (sc_cornerChange : Int32) (sc_voteApart : Int32) (sc_dots : Nat → Int32) (sc_cells : Nat → Int32) (sc_shotX : Nat → Int32) (sc_shotY : Nat → Int32) (sc_shotColumns : Nat → Int32) (li_corner : Nat → Int32) (li_most : Nat → Int32) (li_bestE : Nat → Int32) (li_bestF : Nat → Int32) (ch_taken : Int32) (ch_turn : Int32) (ch_drift : Int32) (ch_right : Int32) (ch_closed : Int32) (ch_follower : Nat → Int32) (ch_ahead : Nat → Int32) (ch_linkE : Nat → Int32) (ch_linkF : Nat → Int32) (ch_placeRight : Nat → Int32) (ch_placeLower : Nat → Int32) (o : Int32 × Int32 × Int32 × Int32 × Int32 × (Nat → Int32) × (Nat → Int32) × (Nat → Int32) × (Nat → Int32) × (Nat → Int32) × (Nat → Int32)) (hf : fCh_join sc_count sc_shotX sc_shotY sc_shotColumns li_most li_bestE li_bestF ch_taken ch_turn ch_drift ch_right ch_closed ch_follower ch_ahead ch_linkE ch_linkF ch_placeRight ch_placeLower = some o) : Ct G l yX0_join cX0_join 6 none rmCh_join [.ref (qCh 0), .ref (qSc 0), .ref (qLi 0)] (gSc G qSc sc_columns sc_count sc_cornerChange sc_voteApart sc_dots sc_cells sc_shotX sc_shotY sc_shotColumns ++ (gLi G qLi li_corner li_most li_bestE li_bestF ++ (gCh G qCh ch_taken ch_turn ch_drift ch_right ch_closed ch_follower ch_ahead ch_linkE ch_linkF ch_placeRight ch_placeLower))) none (gSc G qSc sc_columns sc_count sc_cornerChange sc_voteApart sc_dots sc_cells sc_shotX sc_shotY sc_shotColumns ++ (gLi G qLi li_corner li_most li_bestE li_bestF ++ (gCh G qCh o.1 o.2.1 o.2.2.1 o.2.2.2.1 o.2.2.2.2.1 o.2.2.2.2.2.1 o.2.2.2.2.2.2.1 o.2.2.2.2.2.2.2.1 o.2.2.2.2.2.2.2.2.1 o.2.2.2.2.2.2.2.2.2.1 o.2.2.2.2.2.2.2.2.2.2))) := by
  refine Ct.ofV (by decide +kernel) (Nat.le_of_ble_eq_true rfl) (fun p e s m args below meth c A Q E hret => ?_)
  unfold fCh_join at hf
  show V G p l e rmCh_join s m args below meth c 6 A Q 0 0 (gSc G qSc sc_columns sc_count sc_cornerChange sc_voteApart sc_dots sc_cells sc_shotX sc_shotY sc_shotColumns ++ (gLi G qLi li_corner li_most li_bestE li_bestF ++ (gCh G qCh ch_taken ch_turn ch_drift ch_right ch_closed ch_follower ch_ahead ch_linkE ch_linkF ch_placeRight ch_placeLower))) 0 [(0, .ref (qCh 0)), (1, .ref (qSc 0)), (2, .ref (qLi 0))] []
  refine V_aload_n E 0 rfl dX0_join_0 ?_
  refine V_iconst E (v := (0 : Int32)) dX0_join_1 (by decide) ?_
  refine pfX0_34 E (ws' := (gSc G qSc sc_columns sc_count sc_cornerChange sc_voteApart sc_dots sc_cells sc_shotX sc_shotY sc_shotColumns ++ (gLi G qLi li_corner li_most li_bestE li_bestF ++ (gCh G qCh (0 : Int32) ch_turn ch_drift ch_right ch_closed ch_follower ch_ahead ch_linkE ch_linkF ch_placeRight ch_placeLower)))) 11 rfl (Nat.le_of_ble_eq_true rfl) rfl rfl dX0_join_2 rfl ?_
  refine V_aload_n E 0 rfl dX0_join_5 ?_
  refine V_iconst E (v := (0 : Int32)) dX0_join_6 (by decide) ?_
  refine pfX0_38 E (ws' := (gSc G qSc sc_columns sc_count sc_cornerChange sc_voteApart sc_dots sc_cells sc_shotX sc_shotY sc_shotColumns ++ (gLi G qLi li_corner li_most li_bestE li_bestF ++ (gCh G qCh (0 : Int32) (0 : Int32) ch_drift ch_right ch_closed ch_follower ch_ahead ch_linkE ch_linkF ch_placeRight ch_placeLower)))) 11 rfl (Nat.le_of_ble_eq_true rfl) rfl rfl dX0_join_7 rfl ?_
  refine V_aload_n E 0 rfl dX0_join_10 ?_
  refine V_iconst E (v := (0 : Int32)) dX0_join_11 (by decide) ?_
  refine pfX0_41 E (ws' := (gSc G qSc sc_columns sc_count sc_cornerChange sc_voteApart sc_dots sc_cells sc_shotX sc_shotY sc_shotColumns ++ (gLi G qLi li_corner li_most li_bestE li_bestF ++ (gCh G qCh (0 : Int32) (0 : Int32) (0 : Int32) ch_right ch_closed ch_follower ch_ahead ch_linkE ch_linkF ch_placeRight ch_placeLower)))) 11 rfl (Nat.le_of_ble_eq_true rfl) rfl rfl dX0_join_12 rfl ?_
  refine V_aload_n E 0 rfl dX0_join_15 ?_
  refine V_iconst E (v := (0 : Int32)) dX0_join_16 (by decide) ?_
  refine pfX0_44 E (ws' := (gSc G qSc sc_columns sc_count sc_cornerChange sc_voteApart sc_dots sc_cells sc_shotX sc_shotY sc_shotColumns ++ (gLi G qLi li_corner li_most li_bestE li_bestF ++ (gCh G qCh (0 : Int32) (0 : Int32) (0 : Int32) (0 : Int32) ch_closed ch_follower ch_ahead ch_linkE ch_linkF ch_placeRight ch_placeLower)))) 11 rfl (Nat.le_of_ble_eq_true rfl) rfl rfl dX0_join_17 rfl ?_
  refine V_iconst E (v := (0 : Int32)) dX0_join_20 (by decide) ?_
  refine V_istore_n E (lv' := [(0, .ref (qCh 0)), (1, .ref (qSc 0)), (2, .ref (qLi 0)), (3, .int (0 : Int32))]) dX0_join_21 (by decide) rfl ?_
  have L22 : ∀ (n : Nat) (a22_3 : Int32) (c22_ch_follower : Nat → Int32) (c22_ch_ahead : Nat → Int32) (u : (Nat → Int32) × (Nat → Int32)), fCh_join_L22 n a22_3 c22_ch_follower c22_ch_ahead = some u → (V G p l e rmCh_join s m args below meth c 6 A Q 0 0 (gSc G qSc sc_columns sc_count sc_cornerChange sc_voteApart sc_dots sc_cells sc_shotX sc_shotY sc_shotColumns ++ (gLi G qLi li_corner li_most li_bestE li_bestF ++ (gCh G qCh (0 : Int32) (0 : Int32) (0 : Int32) (0 : Int32) ch_closed u.1 u.2 ch_linkE ch_linkF ch_placeRight ch_placeLower))) 48 [(0, .ref (qCh 0)), (1, .ref (qSc 0)), (2, .ref (qLi 0))] []) → V G p l e rmCh_join s m args below meth c 6 A Q 0 0 (gSc G qSc sc_columns sc_count sc_cornerChange sc_voteApart sc_dots sc_cells sc_shotX sc_shotY sc_shotColumns ++ (gLi G qLi li_corner li_most li_bestE li_bestF ++ (gCh G qCh (0 : Int32) (0 : Int32) (0 : Int32) (0 : Int32) ch_closed c22_ch_follower c22_ch_ahead ch_linkE ch_linkF ch_placeRight ch_placeLower))) 22 [(0, .ref (qCh 0)), (1, .ref (qSc 0)), (2, .ref (qLi 0)), (3, .int a22_3)] [] := by
    intro n
    induction n with
    | zero =>
      intro a22_3 c22_ch_follower c22_ch_ahead u hf hk
      rw [fCh_join_L22] at hf
      cases hf
    | succ n ih =>
      intro a22_3 c22_ch_follower c22_ch_ahead u hf hk
      rw [fCh_join_L22] at hf
      refine V_iload_n E 3 rfl dX0_join_22 ?_
      refine V_bipush E (v := (6 : Int32)) dX0_join_23 (by decide) ?_
      refine V_icmp_ge E (tgt := 48) dX0_join_25 (by decide) (fun hc2 => ?_) (fun hc2 => ?_)
      · have hf := ip hc2 hf
        refine V_sub [0, 1, 2] rfl ?_
        rw [← Option.some.inj hf] at hk
        exact hk
      · have hf := iq hc2 hf
        refine V_aload_n E 0 rfl dX0_join_28 ?_
        refine gfX0_9 E 11 rfl rfl dX0_join_29 ?_
        refine V_iload_n E 3 rfl dX0_join_32 ?_
        refine V_iconst E (v := (-1 : Int32)) dX0_join_33 (by decide) ?_
        obtain ⟨hi3, hf⟩ := asr_ok hf
        refine V_iast E (ws' := (gSc G qSc sc_columns sc_count sc_cornerChange sc_voteApart sc_dots sc_cells sc_shotX sc_shotY sc_shotColumns ++ (gLi G qLi li_corner li_most li_bestE li_bestF ++ (gCh G qCh (0 : Int32) (0 : Int32) (0 : Int32) (0 : Int32) ch_closed (upd c22_ch_follower a22_3.toNatClampNeg (-1 : Int32)) c22_ch_ahead ch_linkE ch_linkF ch_placeRight ch_placeLower)))) 12 rfl hi3 dX0_join_34 rfl ?_
        refine V_aload_n E 0 rfl dX0_join_35 ?_
        refine gfX0_15 E 11 rfl rfl dX0_join_36 ?_
        refine V_iload_n E 3 rfl dX0_join_39 ?_
        refine V_iconst E (v := (-1 : Int32)) dX0_join_40 (by decide) ?_
        obtain ⟨hi4, hf⟩ := asr_ok hf
        refine V_iast E (ws' := (gSc G qSc sc_columns sc_count sc_cornerChange sc_voteApart sc_dots sc_cells sc_shotX sc_shotY sc_shotColumns ++ (gLi G qLi li_corner li_most li_bestE li_bestF ++ (gCh G qCh (0 : Int32) (0 : Int32) (0 : Int32) (0 : Int32) ch_closed (upd c22_ch_follower a22_3.toNatClampNeg (-1 : Int32)) (upd c22_ch_ahead a22_3.toNatClampNeg (-1 : Int32)) ch_linkE ch_linkF ch_placeRight ch_placeLower)))) 13 rfl hi4 dX0_join_41 rfl ?_
        refine V_iinc E (v := (a22_3 + (1 : Int32))) (lv' := [(0, .ref (qCh 0)), (1, .ref (qSc 0)), (2, .ref (qLi 0)), (3, .int (a22_3 + (1 : Int32)))]) 3 rfl dX0_join_42 rfl (by decide) rfl ?_
        refine V_goto E (tgt := 22) dX0_join_45 (by decide) ?_
        exact ih (a22_3 + (1 : Int32)) (upd c22_ch_follower a22_3.toNatClampNeg (-1 : Int32)) (upd c22_ch_ahead a22_3.toNatClampNeg (-1 : Int32)) _ hf hk
  obtain ⟨u1, hu1, hf⟩ := bd hf
  refine L22 FU (0 : Int32) ch_follower ch_ahead u1 hu1 ?_
  refine V_bipush E (v := (12 : Int32)) dX0_join_48 (by decide) ?_
  refine V_istore_n E (lv' := [(0, .ref (qCh 0)), (1, .ref (qSc 0)), (2, .ref (qLi 0)), (3, .int (12 : Int32))]) dX0_join_50 (by decide) rfl ?_
  have L51 : ∀ (n : Nat) (a51_3 : Int32) (c51_ch_taken : Int32) (c51_ch_turn : Int32) (c51_ch_drift : Int32) (c51_ch_right : Int32) (c51_ch_follower : Nat → Int32) (c51_ch_ahead : Nat → Int32) (c51_ch_linkE : Nat → Int32) (c51_ch_linkF : Nat → Int32) (u : Int32 × Int32 × Int32 × Int32 × (Nat → Int32) × (Nat → Int32) × (Nat → Int32) × (Nat → Int32)), fCh_join_L51 sc_count sc_shotX sc_shotY sc_shotColumns li_most li_bestE li_bestF n a51_3 c51_ch_taken c51_ch_turn c51_ch_drift c51_ch_right c51_ch_follower c51_ch_ahead c51_ch_linkE c51_ch_linkF = some u → (V G p l e rmCh_join s m args below meth c 6 A Q 0 0 (gSc G qSc sc_columns sc_count sc_cornerChange sc_voteApart sc_dots sc_cells sc_shotX sc_shotY sc_shotColumns ++ (gLi G qLi li_corner li_most li_bestE li_bestF ++ (gCh G qCh u.1 u.2.1 u.2.2.1 u.2.2.2.1 ch_closed u.2.2.2.2.1 u.2.2.2.2.2.1 u.2.2.2.2.2.2.1 u.2.2.2.2.2.2.2 ch_placeRight ch_placeLower))) 130 [(0, .ref (qCh 0)), (1, .ref (qSc 0))] []) → V G p l e rmCh_join s m args below meth c 6 A Q 0 0 (gSc G qSc sc_columns sc_count sc_cornerChange sc_voteApart sc_dots sc_cells sc_shotX sc_shotY sc_shotColumns ++ (gLi G qLi li_corner li_most li_bestE li_bestF ++ (gCh G qCh c51_ch_taken c51_ch_turn c51_ch_drift c51_ch_right ch_closed c51_ch_follower c51_ch_ahead c51_ch_linkE c51_ch_linkF ch_placeRight ch_placeLower))) 51 [(0, .ref (qCh 0)), (1, .ref (qSc 0)), (2, .ref (qLi 0)), (3, .int a51_3)] [] := by
    intro n
    induction n with
    | zero =>
      intro a51_3 c51_ch_taken c51_ch_turn c51_ch_drift c51_ch_right c51_ch_follower c51_ch_ahead c51_ch_linkE c51_ch_linkF u hf hk
      rw [fCh_join_L51] at hf
      cases hf
    | succ n ih =>
      intro a51_3 c51_ch_taken c51_ch_turn c51_ch_drift c51_ch_right c51_ch_follower c51_ch_ahead c51_ch_linkE c51_ch_linkF u hf hk
      rw [fCh_join_L51] at hf
      refine V_iload_n E 3 rfl dX0_join_51 ?_
      refine V_if_le E (tgt := 130) dX0_join_52 (by decide) (fun hc6 => ?_) (fun hc6 => ?_)
      · have hf := ip hc6 hf
        refine V_sub [0, 1] rfl ?_
        rw [← Option.some.inj hf] at hk
        exact hk
      · have hf := iq hc6 hf
        refine V_iconst E (v := (0 : Int32)) dX0_join_55 (by decide) ?_
        refine V_istore E (lv' := [(0, .ref (qCh 0)), (1, .ref (qSc 0)), (2, .ref (qLi 0)), (3, .int a51_3), (4, .int (0 : Int32))]) dX0_join_56 (by decide) rfl ?_
        have L58 : ∀ (n : Nat) (a58_4 : Int32) (c58_ch_taken : Int32) (c58_ch_turn : Int32) (c58_ch_drift : Int32) (c58_ch_right : Int32) (c58_ch_follower : Nat → Int32) (c58_ch_ahead : Nat → Int32) (c58_ch_linkE : Nat → Int32) (c58_ch_linkF : Nat → Int32) (u : Int32 × Int32 × Int32 × Int32 × (Nat → Int32) × (Nat → Int32) × (Nat → Int32) × (Nat → Int32)), fCh_join_L58 a51_3 sc_count sc_shotX sc_shotY sc_shotColumns li_most li_bestE li_bestF n a58_4 c58_ch_taken c58_ch_turn c58_ch_drift c58_ch_right c58_ch_follower c58_ch_ahead c58_ch_linkE c58_ch_linkF = some u → (V G p l e rmCh_join s m args below meth c 6 A Q 0 0 (gSc G qSc sc_columns sc_count sc_cornerChange sc_voteApart sc_dots sc_cells sc_shotX sc_shotY sc_shotColumns ++ (gLi G qLi li_corner li_most li_bestE li_bestF ++ (gCh G qCh u.1 u.2.1 u.2.2.1 u.2.2.2.1 ch_closed u.2.2.2.2.1 u.2.2.2.2.2.1 u.2.2.2.2.2.2.1 u.2.2.2.2.2.2.2 ch_placeRight ch_placeLower))) 124 [(0, .ref (qCh 0)), (1, .ref (qSc 0)), (2, .ref (qLi 0)), (3, .int a51_3)] []) → V G p l e rmCh_join s m args below meth c 6 A Q 0 0 (gSc G qSc sc_columns sc_count sc_cornerChange sc_voteApart sc_dots sc_cells sc_shotX sc_shotY sc_shotColumns ++ (gLi G qLi li_corner li_most li_bestE li_bestF ++ (gCh G qCh c58_ch_taken c58_ch_turn c58_ch_drift c58_ch_right ch_closed c58_ch_follower c58_ch_ahead c58_ch_linkE c58_ch_linkF ch_placeRight ch_placeLower))) 58 [(0, .ref (qCh 0)), (1, .ref (qSc 0)), (2, .ref (qLi 0)), (3, .int a51_3), (4, .int a58_4)] [] := by
          intro n
          induction n with
          | zero =>
            intro a58_4 c58_ch_taken c58_ch_turn c58_ch_drift c58_ch_right c58_ch_follower c58_ch_ahead c58_ch_linkE c58_ch_linkF u hf hk
            rw [fCh_join_L58] at hf
            cases hf
          | succ n ih =>
            intro a58_4 c58_ch_taken c58_ch_turn c58_ch_drift c58_ch_right c58_ch_follower c58_ch_ahead c58_ch_linkE c58_ch_linkF u hf hk
            rw [fCh_join_L58] at hf
            refine V_iload E 4 rfl dX0_join_58 ?_
            refine V_bipush E (v := (6 : Int32)) dX0_join_60 (by decide) ?_
            refine V_icmp_ge E (tgt := 124) dX0_join_62 (by decide) (fun hc8 => ?_) (fun hc8 => ?_)
            · have hf := ip hc8 hf
              refine V_sub [0, 1, 2, 3] rfl ?_
              rw [← Option.some.inj hf] at hk
              exact hk
            · have hf := iq hc8 hf
              refine V_iconst E (v := (0 : Int32)) dX0_join_65 (by decide) ?_
              refine V_istore E (lv' := [(0, .ref (qCh 0)), (1, .ref (qSc 0)), (2, .ref (qLi 0)), (3, .int a51_3), (4, .int a58_4), (5, .int (0 : Int32))]) dX0_join_66 (by decide) rfl ?_
              have L68 : ∀ (n : Nat) (a68_5 : Int32) (c68_ch_taken : Int32) (c68_ch_turn : Int32) (c68_ch_drift : Int32) (c68_ch_right : Int32) (c68_ch_follower : Nat → Int32) (c68_ch_ahead : Nat → Int32) (c68_ch_linkE : Nat → Int32) (c68_ch_linkF : Nat → Int32) (u : Int32 × Int32 × Int32 × Int32 × (Nat → Int32) × (Nat → Int32) × (Nat → Int32) × (Nat → Int32)), fCh_join_L68 a51_3 a58_4 sc_count sc_shotX sc_shotY sc_shotColumns li_most li_bestE li_bestF n a68_5 c68_ch_taken c68_ch_turn c68_ch_drift c68_ch_right c68_ch_follower c68_ch_ahead c68_ch_linkE c68_ch_linkF = some u → (V G p l e rmCh_join s m args below meth c 6 A Q 0 0 (gSc G qSc sc_columns sc_count sc_cornerChange sc_voteApart sc_dots sc_cells sc_shotX sc_shotY sc_shotColumns ++ (gLi G qLi li_corner li_most li_bestE li_bestF ++ (gCh G qCh u.1 u.2.1 u.2.2.1 u.2.2.2.1 ch_closed u.2.2.2.2.1 u.2.2.2.2.2.1 u.2.2.2.2.2.2.1 u.2.2.2.2.2.2.2 ch_placeRight ch_placeLower))) 118 [(0, .ref (qCh 0)), (1, .ref (qSc 0)), (2, .ref (qLi 0)), (3, .int a51_3), (4, .int a58_4)] []) → V G p l e rmCh_join s m args below meth c 6 A Q 0 0 (gSc G qSc sc_columns sc_count sc_cornerChange sc_voteApart sc_dots sc_cells sc_shotX sc_shotY sc_shotColumns ++ (gLi G qLi li_corner li_most li_bestE li_bestF ++ (gCh G qCh c68_ch_taken c68_ch_turn c68_ch_drift c68_ch_right ch_closed c68_ch_follower c68_ch_ahead c68_ch_linkE c68_ch_linkF ch_placeRight ch_placeLower))) 68 [(0, .ref (qCh 0)), (1, .ref (qSc 0)), (2, .ref (qLi 0)), (3, .int a51_3), (4, .int a58_4), (5, .int a68_5)] [] := by
                intro n
                induction n with
                | zero =>
                  intro a68_5 c68_ch_taken c68_ch_turn c68_ch_drift c68_ch_right c68_ch_follower c68_ch_ahead c68_ch_linkE c68_ch_linkF u hf hk
                  rw [fCh_join_L68] at hf
                  cases hf
                | succ n ih =>
                  intro a68_5 c68_ch_taken c68_ch_turn c68_ch_drift c68_ch_right c68_ch_follower c68_ch_ahead c68_ch_linkE c68_ch_linkF u hf hk
                  rw [fCh_join_L68] at hf
                  refine V_iload E 5 rfl dX0_join_68 ?_
                  refine V_bipush E (v := (6 : Int32)) dX0_join_70 (by decide) ?_
                  refine V_icmp_ge E (tgt := 118) dX0_join_72 (by decide) (fun hc10 => ?_) (fun hc10 => ?_)
                  · have hf := ip hc10 hf
                    refine V_sub [0, 1, 2, 3, 4] rfl ?_
                    rw [← Option.some.inj hf] at hk
                    exact hk
                  · have hf := iq hc10 hf
                    refine V_aload_n E 2 rfl dX0_join_75 ?_
                    refine V_iload E 4 rfl dX0_join_76 ?_
                    refine V_iload E 5 rfl dX0_join_78 ?_
                    obtain ⟨u11, hu11, hf⟩ := bd hf
                    refine V_frG E (wr := (gSc G qSc sc_columns sc_count sc_cornerChange sc_voteApart sc_dots sc_cells sc_shotX sc_shotY sc_shotColumns ++ (gCh G qCh c68_ch_taken c68_ch_turn c68_ch_drift c68_ch_right ch_closed c68_ch_follower c68_ch_ahead c68_ch_linkE c68_ch_linkF ch_placeRight ch_placeLower))) (ws' := (gSc G qSc sc_columns sc_count sc_cornerChange sc_voteApart sc_dots sc_cells sc_shotX sc_shotY sc_shotColumns ++ (gLi G qLi li_corner li_most li_bestE li_bestF ++ (gCh G qCh c68_ch_taken c68_ch_turn c68_ch_drift c68_ch_right ch_closed c68_ch_follower c68_ch_ahead c68_ch_linkE c68_ch_linkF ch_placeRight ch_placeLower)))) [6, 7, 8, 9, 10] [0, 1, 2, 3, 4, 5, 11, 12, 13, 14, 15, 16, 17] [0, 1, 2, 3, 4, 5, 13, 14, 15, 16, 17, 6, 7, 8, 9, 10, 11, 12] rfl rfl ⟨rfl, rfl, rfl, rfl⟩ rfl (Rn_V E (rest := []) mlX0_47 wd_yX3_votesOf (kLi_votesOf l G qLi a58_4 a68_5 li_corner li_most li_bestE li_bestF u11 hu11) ⟨rfl, rfl, Nat.le_of_ble_eq_true rfl, Nat.le_of_ble_eq_true rfl⟩ 0 rfl rfl rfl rfl rfl (Nat.le_of_ble_eq_true rfl) dX0_join_80) ?_
                    show V G p l e rmCh_join s m args below meth c 6 A Q 0 0 (gSc G qSc sc_columns sc_count sc_cornerChange sc_voteApart sc_dots sc_cells sc_shotX sc_shotY sc_shotColumns ++ (gLi G qLi li_corner li_most li_bestE li_bestF ++ (gCh G qCh c68_ch_taken c68_ch_turn c68_ch_drift c68_ch_right ch_closed c68_ch_follower c68_ch_ahead c68_ch_linkE c68_ch_linkF ch_placeRight ch_placeLower))) 83 [(0, .ref (qCh 0)), (1, .ref (qSc 0)), (2, .ref (qLi 0)), (3, .int a51_3), (4, .int a58_4), (5, .int a68_5)] [.int u11]
                    refine V_iload_n E 3 rfl dX0_join_83 ?_
                    refine V_icmp_ne E (tgt := 112) dX0_join_84 (by decide) (fun hc12 => ?_) (fun hc12 => ?_)
                    · have hf := iq hc12 hf
                      refine V_iinc E (v := (a68_5 + (1 : Int32))) (lv' := [(0, .ref (qCh 0)), (1, .ref (qSc 0)), (2, .ref (qLi 0)), (3, .int a51_3), (4, .int a58_4), (5, .int (a68_5 + (1 : Int32)))]) 5 rfl dX0_join_112 rfl (by decide) rfl ?_
                      refine V_goto E (tgt := 68) dX0_join_115 (by decide) ?_
                      exact ih (a68_5 + (1 : Int32)) c68_ch_taken c68_ch_turn c68_ch_drift c68_ch_right c68_ch_follower c68_ch_ahead c68_ch_linkE c68_ch_linkF _ hf hk
                    · have hf := ip hc12 hf
                      refine V_aload_n E 0 rfl dX0_join_87 ?_
                      refine V_iload E 4 rfl dX0_join_88 ?_
                      refine V_iload E 5 rfl dX0_join_90 ?_
                      refine V_aload_n E 1 rfl dX0_join_92 ?_
                      refine gfX0_53 E 0 rfl rfl dX0_join_93 ?_
                      obtain ⟨u13, hu13, hf⟩ := bd hf
                      refine V_frG E (wr := (gSc G qSc sc_columns sc_count sc_cornerChange sc_voteApart sc_dots sc_cells sc_shotX sc_shotY sc_shotColumns ++ (gLi G qLi li_corner li_most li_bestE li_bestF))) (ws' := (gSc G qSc sc_columns sc_count sc_cornerChange sc_voteApart sc_dots sc_cells sc_shotX sc_shotY sc_shotColumns ++ (gLi G qLi li_corner li_most li_bestE li_bestF ++ (gCh G qCh c68_ch_taken c68_ch_turn c68_ch_drift c68_ch_right ch_closed c68_ch_follower c68_ch_ahead c68_ch_linkE c68_ch_linkF ch_placeRight ch_placeLower)))) [11, 12, 13, 14, 15, 16, 17] [0, 1, 2, 3, 4, 5, 6, 7, 8, 9, 10] [0, 1, 2, 3, 4, 5, 6, 7, 8, 9, 10, 11, 12, 13, 14, 15, 16, 17] rfl rfl ⟨rfl, rfl, rfl, rfl⟩ rfl (Rn_V E (rest := []) mlX0_58 wd_yX0_mayJoin (kCh_mayJoin l G qCh a58_4 a68_5 sc_count c68_ch_taken c68_ch_turn c68_ch_drift c68_ch_right ch_closed c68_ch_follower c68_ch_ahead c68_ch_linkE c68_ch_linkF ch_placeRight ch_placeLower u13 hu13) ⟨rfl, rfl, Nat.le_of_ble_eq_true rfl, Nat.le_of_ble_eq_true rfl⟩ 0 rfl rfl rfl rfl rfl (Nat.le_of_ble_eq_true rfl) dX0_join_96) ?_
                      show V G p l e rmCh_join s m args below meth c 6 A Q 0 0 (gSc G qSc sc_columns sc_count sc_cornerChange sc_voteApart sc_dots sc_cells sc_shotX sc_shotY sc_shotColumns ++ (gLi G qLi li_corner li_most li_bestE li_bestF ++ (gCh G qCh c68_ch_taken c68_ch_turn c68_ch_drift c68_ch_right ch_closed c68_ch_follower c68_ch_ahead c68_ch_linkE c68_ch_linkF ch_placeRight ch_placeLower))) 99 [(0, .ref (qCh 0)), (1, .ref (qSc 0)), (2, .ref (qLi 0)), (3, .int a51_3), (4, .int a58_4), (5, .int a68_5)] [.int u13]
                      refine V_if_eq E (tgt := 112) dX0_join_99 (by decide) (fun hc14 => ?_) (fun hc14 => ?_)
                      · have hf := ip hc14 hf
                        refine V_iinc E (v := (a68_5 + (1 : Int32))) (lv' := [(0, .ref (qCh 0)), (1, .ref (qSc 0)), (2, .ref (qLi 0)), (3, .int a51_3), (4, .int a58_4), (5, .int (a68_5 + (1 : Int32)))]) 5 rfl dX0_join_112 rfl (by decide) rfl ?_
                        refine V_goto E (tgt := 68) dX0_join_115 (by decide) ?_
                        exact ih (a68_5 + (1 : Int32)) c68_ch_taken c68_ch_turn c68_ch_drift c68_ch_right c68_ch_follower c68_ch_ahead c68_ch_linkE c68_ch_linkF _ hf hk
                      · have hf := iq hc14 hf
                        refine V_aload_n E 0 rfl dX0_join_102 ?_
                        refine V_aload_n E 1 rfl dX0_join_103 ?_
                        refine V_aload_n E 2 rfl dX0_join_104 ?_
                        refine V_iload E 4 rfl dX0_join_105 ?_
                        refine V_iload E 5 rfl dX0_join_107 ?_
                        obtain ⟨u15, hu15, hf⟩ := bd hf
                        refine V_frW E (Rn_V E (rest := []) mlX0_61 wd_yX0_take (kCh_take l G qSc qLi qCh a58_4 a68_5 sc_columns sc_count sc_cornerChange sc_voteApart sc_dots sc_cells sc_shotX sc_shotY sc_shotColumns li_corner li_most li_bestE li_bestF c68_ch_taken c68_ch_turn c68_ch_drift c68_ch_right ch_closed c68_ch_follower c68_ch_ahead c68_ch_linkE c68_ch_linkF ch_placeRight ch_placeLower u15 hu15) ⟨rfl, rfl, Nat.le_of_ble_eq_true rfl, Nat.le_of_ble_eq_true rfl⟩ 11 rfl rfl rfl rfl rfl (Nat.le_of_ble_eq_true rfl) dX0_join_109) ?_
                        show V G p l e rmCh_join s m args below meth c 6 A Q 0 0 (gSc G qSc sc_columns sc_count sc_cornerChange sc_voteApart sc_dots sc_cells sc_shotX sc_shotY sc_shotColumns ++ (gLi G qLi li_corner li_most li_bestE li_bestF ++ (gCh G qCh u15.1 u15.2.1 u15.2.2.1 u15.2.2.2.1 ch_closed u15.2.2.2.2.1 u15.2.2.2.2.2.1 u15.2.2.2.2.2.2.1 u15.2.2.2.2.2.2.2 ch_placeRight ch_placeLower))) 112 [(0, .ref (qCh 0)), (1, .ref (qSc 0)), (2, .ref (qLi 0)), (3, .int a51_3), (4, .int a58_4), (5, .int a68_5)] []
                        refine V_iinc E (v := (a68_5 + (1 : Int32))) (lv' := [(0, .ref (qCh 0)), (1, .ref (qSc 0)), (2, .ref (qLi 0)), (3, .int a51_3), (4, .int a58_4), (5, .int (a68_5 + (1 : Int32)))]) 5 rfl dX0_join_112 rfl (by decide) rfl ?_
                        refine V_goto E (tgt := 68) dX0_join_115 (by decide) ?_
                        exact ih (a68_5 + (1 : Int32)) u15.1 u15.2.1 u15.2.2.1 u15.2.2.2.1 u15.2.2.2.2.1 u15.2.2.2.2.2.1 u15.2.2.2.2.2.2.1 u15.2.2.2.2.2.2.2 _ hf hk
              obtain ⟨u9, hu9, hf⟩ := bd hf
              refine L68 FU (0 : Int32) c58_ch_taken c58_ch_turn c58_ch_drift c58_ch_right c58_ch_follower c58_ch_ahead c58_ch_linkE c58_ch_linkF u9 hu9 ?_
              refine V_iinc E (v := (a58_4 + (1 : Int32))) (lv' := [(0, .ref (qCh 0)), (1, .ref (qSc 0)), (2, .ref (qLi 0)), (3, .int a51_3), (4, .int (a58_4 + (1 : Int32)))]) 4 rfl dX0_join_118 rfl (by decide) rfl ?_
              refine V_goto E (tgt := 58) dX0_join_121 (by decide) ?_
              exact ih (a58_4 + (1 : Int32)) u9.1 u9.2.1 u9.2.2.1 u9.2.2.2.1 u9.2.2.2.2.1 u9.2.2.2.2.2.1 u9.2.2.2.2.2.2.1 u9.2.2.2.2.2.2.2 _ hf hk
        obtain ⟨u7, hu7, hf⟩ := bd hf
        refine L58 FU (0 : Int32) c51_ch_taken c51_ch_turn c51_ch_drift c51_ch_right c51_ch_follower c51_ch_ahead c51_ch_linkE c51_ch_linkF u7 hu7 ?_
        refine V_iinc E (v := (a51_3 + (-1 : Int32))) (lv' := [(0, .ref (qCh 0)), (1, .ref (qSc 0)), (2, .ref (qLi 0)), (3, .int (a51_3 + (-1 : Int32)))]) 3 rfl dX0_join_124 rfl (by decide) rfl ?_
        refine V_goto E (tgt := 51) dX0_join_127 (by decide) ?_
        exact ih (a51_3 + (-1 : Int32)) u7.1 u7.2.1 u7.2.2.1 u7.2.2.2.1 u7.2.2.2.2.1 u7.2.2.2.2.2.1 u7.2.2.2.2.2.2.1 u7.2.2.2.2.2.2.2 _ hf hk
  obtain ⟨u5, hu5, hf⟩ := bd hf
  refine L51 FU (12 : Int32) (0 : Int32) (0 : Int32) (0 : Int32) (0 : Int32) u1.1 u1.2 ch_linkE ch_linkF u5 hu5 ?_
  refine V_aload_n E 0 rfl dX0_join_130 ?_
  refine V_aload_n E 1 rfl dX0_join_131 ?_
  refine gfX0_53 E 0 rfl rfl dX0_join_132 ?_
  refine V_iconst E (v := (2 : Int32)) dX0_join_135 (by decide) ?_
  obtain ⟨u17, hu17, hf⟩ := bd hf
  have J155 : V G p l e rmCh_join s m args below meth c 6 A Q 0 0 (gSc G qSc sc_columns sc_count sc_cornerChange sc_voteApart sc_dots sc_cells sc_shotX sc_shotY sc_shotColumns ++ (gLi G qLi li_corner li_most li_bestE li_bestF ++ (gCh G qCh u5.1 u5.2.1 u5.2.2.1 u5.2.2.2.1 ch_closed u5.2.2.2.2.1 u5.2.2.2.2.2.1 u5.2.2.2.2.2.2.1 u5.2.2.2.2.2.2.2 ch_placeRight ch_placeLower))) 155 [(0, .ref (qCh 0)), (1, .ref (qSc 0))] [.int u17, .ref (qCh 0)] := by
    obtain ⟨hz19, hf⟩ := asr_ok hf
    refine pfX0_65 E (ws' := (gSc G qSc sc_columns sc_count sc_cornerChange sc_voteApart sc_dots sc_cells sc_shotX sc_shotY sc_shotColumns ++ (gLi G qLi li_corner li_most li_bestE li_bestF ++ (gCh G qCh u5.1 u5.2.1 u5.2.2.1 u5.2.2.2.1 u17 u5.2.2.2.2.1 u5.2.2.2.2.2.1 u5.2.2.2.2.2.2.1 u5.2.2.2.2.2.2.2 ch_placeRight ch_placeLower)))) 11 rfl (Nat.le_of_ble_eq_true rfl) (z01n hz19) (z01f hz19) dX0_join_155 rfl ?_
    refine V_aload_n E 0 rfl dX0_join_158 ?_
    refine gfX0_65 E 11 rfl rfl dX0_join_159 ?_
    refine V_if_eq E (tgt := 173) dX0_join_162 (by decide) (fun hc20 => ?_) (fun hc20 => ?_)
    · have hf := ip hc20 hf
      have h9 := hret 173 [(0, .ref (qCh 0)), (1, .ref (qSc 0))] dX0_join_173
      rw [← (Option.some.inj hf)] at h9
      exact h9
    · have hf := iq hc20 hf
      refine V_aload_n E 0 rfl dX0_join_165 ?_
      refine V_aload_n E 1 rfl dX0_join_166 ?_
      refine gfX0_53 E 0 rfl rfl dX0_join_167 ?_
      obtain ⟨u21, hu21, hf⟩ := bd hf
      refine V_frG E (wr := (gSc G qSc sc_columns sc_count sc_cornerChange sc_voteApart sc_dots sc_cells sc_shotX sc_shotY sc_shotColumns ++ (gLi G qLi li_corner li_most li_bestE li_bestF))) (ws' := (gSc G qSc sc_columns sc_count sc_cornerChange sc_voteApart sc_dots sc_cells sc_shotX sc_shotY sc_shotColumns ++ (gLi G qLi li_corner li_most li_bestE li_bestF ++ (gCh G qCh u5.1 u5.2.1 u5.2.2.1 u5.2.2.2.1 u17 u5.2.2.2.2.1 u5.2.2.2.2.2.1 u5.2.2.2.2.2.2.1 u5.2.2.2.2.2.2.2 u21.1 u21.2)))) [11, 12, 13, 14, 15, 16, 17] [0, 1, 2, 3, 4, 5, 6, 7, 8, 9, 10] [0, 1, 2, 3, 4, 5, 6, 7, 8, 9, 10, 11, 12, 13, 14, 15, 16, 17] rfl rfl ⟨rfl, rfl, rfl, rfl⟩ rfl (Rn_V E (rest := []) mlX0_69 wd_yX0_findPlaces (kCh_findPlaces l G qCh sc_count u5.1 u5.2.1 u5.2.2.1 u5.2.2.2.1 u17 u5.2.2.2.2.1 u5.2.2.2.2.2.1 u5.2.2.2.2.2.2.1 u5.2.2.2.2.2.2.2 ch_placeRight ch_placeLower u21 hu21) ⟨rfl, rfl, Nat.le_of_ble_eq_true rfl, Nat.le_of_ble_eq_true rfl⟩ 0 rfl rfl rfl rfl rfl (Nat.le_of_ble_eq_true rfl) dX0_join_170) ?_
      show V G p l e rmCh_join s m args below meth c 6 A Q 0 0 (gSc G qSc sc_columns sc_count sc_cornerChange sc_voteApart sc_dots sc_cells sc_shotX sc_shotY sc_shotColumns ++ (gLi G qLi li_corner li_most li_bestE li_bestF ++ (gCh G qCh u5.1 u5.2.1 u5.2.2.1 u5.2.2.2.1 u17 u5.2.2.2.2.1 u5.2.2.2.2.2.1 u5.2.2.2.2.2.2.1 u5.2.2.2.2.2.2.2 u21.1 u21.2))) 173 [(0, .ref (qCh 0)), (1, .ref (qSc 0))] []
      have h9 := hret 173 [(0, .ref (qCh 0)), (1, .ref (qSc 0))] dX0_join_173
      rw [← (Option.some.inj hf)] at h9
      exact h9
  clear hf
  have hf := hu17
  refine V_icmp_lt E (tgt := 154) dX0_join_136 (by decide) (fun hc16 => ?_) (fun hc16 => ?_)
  · have hf := ip hc16 hf
    refine V_iconst E (v := (0 : Int32)) dX0_join_154 (by decide) ?_
    rw [← Option.some.inj hf] at J155
    exact J155
  · have hf := iq hc16 hf
    refine V_aload_n E 0 rfl dX0_join_139 ?_
    refine gfX0_34 E 11 rfl rfl dX0_join_140 ?_
    refine V_aload_n E 1 rfl dX0_join_143 ?_
    refine gfX0_53 E 0 rfl rfl dX0_join_144 ?_
    refine V_icmp_ne E (tgt := 154) dX0_join_147 (by decide) (fun hc18 => ?_) (fun hc18 => ?_)
    · have hf := iq hc18 hf
      refine V_iconst E (v := (0 : Int32)) dX0_join_154 (by decide) ?_
      rw [← Option.some.inj hf] at J155
      exact J155
    · have hf := ip hc18 hf
      refine V_iconst E (v := (1 : Int32)) dX0_join_150 (by decide) ?_
      refine V_goto E (tgt := 155) dX0_join_151 (by decide) ?_
      rw [← Option.some.inj hf] at J155
      exact J155
