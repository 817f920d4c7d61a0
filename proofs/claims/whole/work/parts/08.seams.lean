def fSe_surplusOf (p1 : Int32) (se_surplus : Nat → Int32) : Option (Int32) :=
  (fRi_within p1 (0 : Int32) (5 : Int32)).bind fun u1 =>
  if u1 = 0 then
   some (0 : Int32)
  else
   if 0 ≤ p1.toInt ∧ p1.toInt < 6 then
    some (se_surplus p1.toNatClampNeg)
   else none
def fSe_cellsOf (p1 : Int32) (se_cells : Nat → Int32) : Option (Int32) :=
  (fRi_within p1 (0 : Int32) (5 : Int32)).bind fun u1 =>
  if u1 = 0 then
   some (0 : Int32)
  else
   if 0 ≤ p1.toInt ∧ p1.toInt < 6 then
    some (se_cells p1.toNatClampNeg)
   else none
def fSe_apartOf (p1 : Int32) (se_apart : Nat → Int32) : Option (Int32) :=
  (fRi_within p1 (0 : Int32) (5 : Int32)).bind fun u1 =>
  if u1 = 0 then
   some (0 : Int32)
  else
   if 0 ≤ p1.toInt ∧ p1.toInt < 6 then
    some (se_apart p1.toNatClampNeg)
   else none
def fSe_seamCostOf (p1 : Int32) (se_seamCost : Nat → Int32) : Option (Int32) :=
  (fRi_within p1 (0 : Int32) (5 : Int32)).bind fun u1 =>
  if u1 = 0 then
   some (0 : Int32)
  else
   if 0 ≤ p1.toInt ∧ p1.toInt < 6 then
    some (se_seamCost p1.toNatClampNeg)
   else none
def fSe_columnAt (p1 : Int32) (p2 : Int32) (se_column : Nat → Int32) : Option (Int32) :=
  (fRi_within p1 (0 : Int32) (5 : Int32)).bind fun u1 =>
  if u1 = 0 then
   some (-1 : Int32)
  else
   (fRi_within p2 (0 : Int32) (3 : Int32)).bind fun u3 =>
   if u3 = 0 then
    some (-1 : Int32)
   else
    if 0 ≤ ((p1 * (4 : Int32)) + p2).toInt ∧ ((p1 * (4 : Int32)) + p2).toInt < 24 then
     some (se_column ((p1 * (4 : Int32)) + p2).toNatClampNeg)
    else none
def fSe_compare_L45 (b45_3 : Int32) (b45_4 : Int32) (b45_5 : Int32) (b45_6 : Int32) (d45_sc_count : Int32) (d45_sc_cells : Nat → Int32) : Nat → Int32 → (Nat → Int32) → (Nat → Int32) → (Nat → Int32) → (Nat → Int32) → Option ((Nat → Int32) × (Nat → Int32) × (Nat → Int32) × (Nat → Int32))
  | 0, _, _, _, _, _ => none
  | n + 1, a45_7, c45_se_cells, c45_se_apart, c45_se_surplus, c45_se_gap =>
    fSe_compare_L45 b45_3 b45_4 b45_5 b45_6 d45_sc_count d45_sc_cells n a45_7 c45_se_cells c45_se_apart c45_se_surplus c45_se_gap
def fSe_compare (p3 : Int32) (sc_count : Int32) (sc_cells : Nat → Int32) (ch_follower : Nat → Int32) (ch_linkE : Nat → Int32) (ch_linkF : Nat → Int32) (se_cells : Nat → Int32) (se_apart : Nat → Int32) (se_surplus : Nat → Int32) (se_gap : Nat → Int32) : Option ((Nat → Int32) × (Nat → Int32) × (Nat → Int32) × (Nat → Int32)) :=
  (fCh_followerOf p3 ch_follower).bind fun u1 =>
  (fCh_shiftE p3 ch_linkE).bind fun u2 =>
  (fCh_shiftF p3 ch_linkF).bind fun u3 =>
  if 0 ≤ p3.toInt ∧ p3.toInt < 6 then
   if 0 ≤ p3.toInt ∧ p3.toInt < 6 then
    if 0 ≤ p3.toInt ∧ p3.toInt < 6 then
     (fSe_compare_L45 p3 u1 u2 u3 sc_count sc_cells FU (0 : Int32) (upd se_cells p3.toNatClampNeg (0 : Int32)) (upd se_apart p3.toNatClampNeg (0 : Int32)) (upd se_surplus p3.toNatClampNeg (0 : Int32)) se_gap).bind fun u7 =>
     some (u7.1, u7.2.1, u7.2.2.1, u7.2.2.2)
    else none
   else none
  else none
def fSe_cheapest_L30 (b30_1 : Int32) (b30_3 : Int32) (d30_se_cost : Nat → Int32) : Nat → Int32 → Int32 → Option (Int32)
  | 0, _, _ => none
  | n + 1, a30_4, a30_5 =>
    fSe_cheapest_L30 b30_1 b30_3 d30_se_cost n a30_4 a30_5
def fSe_cheapest (p1 : Int32) (p2 : Int32) (p3 : Int32) (se_cost : Nat → Int32) : Option (Int32) :=
  (some (if (0 : Int32) < (if p2 < (7 : Int32) then p2 else (7 : Int32)) then (if p2 < (7 : Int32) then p2 else (7 : Int32)) else (0 : Int32))).bind fun (t1 : Int32) =>
  (fRi_within p1 (0 : Int32) (3 : Int32)).bind fun u2 =>
  if u2 = 0 then
   some t1
  else
   (fSe_cheapest_L30 p1 p3 se_cost FU t1 (t1 + (1 : Int32))).bind fun u4 =>
   some u4
def fSe_follow_L17 (b17_1 : Int32) (b17_2 : Int32) (b17_4 : Int32) (d17_se_gap : Nat → Int32) (d17_se_cost : Nat → Int32) : Nat → Int32 → Int32 → Int32 → (Nat → Int32) → (Nat → Int32) → Option ((Nat → Int32) × (Nat → Int32))
  | 0, _, _, _, _, _ => none
  | n + 1, a17_5, a17_6, a17_7, c17_se_seamCost, c17_se_column =>
    fSe_follow_L17 b17_1 b17_2 b17_4 d17_se_gap d17_se_cost n a17_5 a17_6 a17_7 c17_se_seamCost c17_se_column
def fSe_follow (p1 : Int32) (p2 : Int32) (p3 : Int32) (p4 : Int32) (se_seamCost : Nat → Int32) (se_column : Nat → Int32) (se_gap : Nat → Int32) (se_cost : Nat → Int32) : Option ((Nat → Int32) × (Nat → Int32)) :=
  if 0 ≤ p1.toInt ∧ p1.toInt < 6 then
   (fSe_follow_L17 p1 p2 p4 se_gap se_cost FU p2 (7 : Int32) p3 (upd se_seamCost p1.toNatClampNeg (0 : Int32)) se_column).bind fun u2 =>
   some (u2.1, u2.2)
  else none
def fSe_cutOne_L43 (b43_5 : Int32) (b43_6 : Int32) (b43_7 : Int32) (d43_se_gap : Nat → Int32) : Nat → Int32 → (Nat → Int32) → Option ((Nat → Int32))
  | 0, _, _ => none
  | n + 1, a43_8, c43_se_cost =>
    fSe_cutOne_L43 b43_5 b43_6 b43_7 d43_se_gap n a43_8 c43_se_cost
def fSe_cutOne (p3 : Int32) (sc_count : Int32) (sc_cells : Nat → Int32) (ch_follower : Nat → Int32) (ch_linkE : Nat → Int32) (ch_linkF : Nat → Int32) (se_cells : Nat → Int32) (se_apart : Nat → Int32) (se_surplus : Nat → Int32) (se_seamCost : Nat → Int32) (se_column : Nat → Int32) (se_gap : Nat → Int32) (se_cost : Nat → Int32) : Option ((Nat → Int32) × (Nat → Int32) × (Nat → Int32) × (Nat → Int32) × (Nat → Int32) × (Nat → Int32) × (Nat → Int32)) :=
  (fCh_shiftE p3 ch_linkE).bind fun u1 =>
  (fCh_shiftF p3 ch_linkF).bind fun u2 =>
  (some (if (0 : Int32) < u1 then u1 else (0 : Int32))).bind fun (t3 : Int32) =>
  (some (if ((3 : Int32) + u1) < (3 : Int32) then ((3 : Int32) + u1) else (3 : Int32))).bind fun (t4 : Int32) =>
  (fSe_compare p3 sc_count sc_cells ch_follower ch_linkE ch_linkF se_cells se_apart se_surplus se_gap).bind fun u5 =>
  (fSe_cutOne_L43 u2 t3 t4 u5.2.2.2 FU t4 se_cost).bind fun u6 =>
  (fSe_follow p3 u2 t3 t4 se_seamCost se_column u5.2.2.2 u6).bind fun u7 =>
  some (u5.1, u5.2.1, u5.2.2.1, u7.1, u7.2, u5.2.2.2, u6)
def fSe_cut_L2 : Nat → Int32 → (Nat → Int32) → Option ((Nat → Int32))
  | 0, _, _ => none
  | n + 1, a2_3, c2_se_column =>
    fSe_cut_L2 n a2_3 c2_se_column
def fSe_cut_L23 (d23_sc_count : Int32) (d23_sc_cells : Nat → Int32) (d23_ch_follower : Nat → Int32) (d23_ch_linkE : Nat → Int32) (d23_ch_linkF : Nat → Int32) : Nat → Int32 → (Nat → Int32) → (Nat → Int32) → (Nat → Int32) → (Nat → Int32) → (Nat → Int32) → (Nat → Int32) → (Nat → Int32) → Option ((Nat → Int32) × (Nat → Int32) × (Nat → Int32) × (Nat → Int32) × (Nat → Int32) × (Nat → Int32) × (Nat → Int32))
  | 0, _, _, _, _, _, _, _, _ => none
  | n + 1, a23_3, c23_se_cells, c23_se_apart, c23_se_surplus, c23_se_seamCost, c23_se_column, c23_se_gap, c23_se_cost =>
    fSe_cut_L23 d23_sc_count d23_sc_cells d23_ch_follower d23_ch_linkE d23_ch_linkF n a23_3 c23_se_cells c23_se_apart c23_se_surplus c23_se_seamCost c23_se_column c23_se_gap c23_se_cost
def fSe_cut (sc_count : Int32) (sc_cells : Nat → Int32) (ch_follower : Nat → Int32) (ch_linkE : Nat → Int32) (ch_linkF : Nat → Int32) (se_cells : Nat → Int32) (se_apart : Nat → Int32) (se_surplus : Nat → Int32) (se_seamCost : Nat → Int32) (se_column : Nat → Int32) (se_gap : Nat → Int32) (se_cost : Nat → Int32) : Option ((Nat → Int32) × (Nat → Int32) × (Nat → Int32) × (Nat → Int32) × (Nat → Int32) × (Nat → Int32) × (Nat → Int32)) :=
  (fSe_cut_L2 FU (0 : Int32) se_column).bind fun u1 =>
  (fSe_cut_L23 sc_count sc_cells ch_follower ch_linkE ch_linkF FU (0 : Int32) se_cells se_apart se_surplus se_seamCost u1 se_gap se_cost).bind fun u2 =>
  some (u2.1, u2.2.1, u2.2.2.1, u2.2.2.2.1, u2.2.2.2.2.1, u2.2.2.2.2.2.1, u2.2.2.2.2.2.2)
abbrev rmSe_surplusOf : Room := { frames := 1, cells := 0, slots := 0, locals := 22 }
theorem wd_yX6_surplusOf : wdV yX6_surplusOf cX6_surplusOf 2 (some .int) 1 := ⟨wc_yX6_surplusOf, wi_yX6_surplusOf, wse_yX6_surplusOf, wini_X6, by decide +kernel, by decide +kernel, by decide +kernel⟩
set_option maxHeartbeats 4000000 in
set_option maxRecDepth 100000 in
theorem kSe_surplusOf (l : Launch) (G : wG) (qSe : Nat → Nat) (p1 : Int32) (se_cells : Nat → Int32) (se_apart : Nat → Int32) (se_surplus : Nat → Int32) (se_seamCost : Nat → Int32) (se_column : Nat → Int32) (se_gap : Nat → Int32) (se_cost : Nat → Int32) (o : Int32) (hf : fSe_surplusOf p1 se_surplus = some o) : Ct G l yX6_surplusOf cX6_surplusOf 2 (some .int) rmSe_surplusOf [.ref (qSe 0), .int p1] (gSe G qSe se_cells se_apart se_surplus se_seamCost se_column se_gap se_cost) (some (.int o)) (gSe G qSe se_cells se_apart se_surplus se_seamCost se_column se_gap se_cost) := by
  refine Ct.ofI (by decide +kernel) (Nat.le_of_ble_eq_true rfl) (fun p e s m args below meth c A Q E hret => ?_)
  unfold fSe_surplusOf at hf
  show V G p l e rmSe_surplusOf s m args below meth c 2 A Q 0 0 (gSe G qSe se_cells se_apart se_surplus se_seamCost se_column se_gap se_cost) 0 [(0, .ref (qSe 0)), (1, .int p1)] []
  refine V_iload_n E 1 rfl dX6_surplusOf_0 ?_
  refine V_iconst E (v := (0 : Int32)) dX6_surplusOf_1 (by decide) ?_
  refine V_iconst E (v := (5 : Int32)) dX6_surplusOf_2 (by decide) ?_
  obtain ⟨u1, hu1, hf⟩ := bd hf
  refine V_fr0 E (Rn_N E (rest := []) 5 rfl wd_yX7_within (kRi_within l G p1 (0 : Int32) (5 : Int32) u1 hu1) ⟨rfl, rfl, Nat.le_of_ble_eq_true rfl, Nat.le_of_ble_eq_true rfl⟩ rfl rfl (Nat.le_of_ble_eq_true rfl) dX6_surplusOf_3) ?_
  show V G p l e rmSe_surplusOf s m args below meth c 2 A Q 0 0 (gSe G qSe se_cells se_apart se_surplus se_seamCost se_column se_gap se_cost) 6 [(0, .ref (qSe 0)), (1, .int p1)] [.int u1]
  refine V_if_eq E (tgt := 18) dX6_surplusOf_6 (by decide) (fun hc2 => ?_) (fun hc2 => ?_)
  · have hf := ip hc2 hf
    refine V_iconst E (v := (0 : Int32)) dX6_surplusOf_18 (by decide) ?_
    have h9 := hret 19 [(0, .ref (qSe 0)), (1, .int p1)] dX6_surplusOf_19
    rw [← (Option.some.inj hf)] at h9
    exact h9
  · have hf := iq hc2 hf
    refine V_aload_n E 0 rfl dX6_surplusOf_9 ?_
    refine gfX6_18 E 0 rfl rfl dX6_surplusOf_10 ?_
    refine V_iload_n E 1 rfl dX6_surplusOf_13 ?_
    obtain ⟨hi3, hf⟩ := asr_ok hf
    refine V_iald E 3 rfl hi3 dX6_surplusOf_14 ?_
    refine V_goto E (tgt := 19) dX6_surplusOf_15 (by decide) ?_
    have h9 := hret 19 [(0, .ref (qSe 0)), (1, .int p1)] dX6_surplusOf_19
    rw [← (Option.some.inj hf)] at h9
    exact h9
abbrev rmSe_cellsOf : Room := { frames := 1, cells := 0, slots := 0, locals := 22 }
theorem wd_yX6_cellsOf : wdV yX6_cellsOf cX6_cellsOf 2 (some .int) 1 := ⟨wc_yX6_cellsOf, wi_yX6_cellsOf, wse_yX6_cellsOf, wini_X6, by decide +kernel, by decide +kernel, by decide +kernel⟩
set_option maxHeartbeats 4000000 in
set_option maxRecDepth 100000 in
theorem kSe_cellsOf (l : Launch) (G : wG) (qSe : Nat → Nat) (p1 : Int32) (se_cells : Nat → Int32) (se_apart : Nat → Int32) (se_surplus : Nat → Int32) (se_seamCost : Nat → Int32) (se_column : Nat → Int32) (se_gap : Nat → Int32) (se_cost : Nat → Int32) (o : Int32) (hf : fSe_cellsOf p1 se_cells = some o) : Ct G l yX6_cellsOf cX6_cellsOf 2 (some .int) rmSe_cellsOf [.ref (qSe 0), .int p1] (gSe G qSe se_cells se_apart se_surplus se_seamCost se_column se_gap se_cost) (some (.int o)) (gSe G qSe se_cells se_apart se_surplus se_seamCost se_column se_gap se_cost) := by
  refine Ct.ofI (by decide +kernel) (Nat.le_of_ble_eq_true rfl) (fun p e s m args below meth c A Q E hret => ?_)
  unfold fSe_cellsOf at hf
  show V G p l e rmSe_cellsOf s m args below meth c 2 A Q 0 0 (gSe G qSe se_cells se_apart se_surplus se_seamCost se_column se_gap se_cost) 0 [(0, .ref (qSe 0)), (1, .int p1)] []
  refine V_iload_n E 1 rfl dX6_cellsOf_0 ?_
  refine V_iconst E (v := (0 : Int32)) dX6_cellsOf_1 (by decide) ?_
  refine V_iconst E (v := (5 : Int32)) dX6_cellsOf_2 (by decide) ?_
  obtain ⟨u1, hu1, hf⟩ := bd hf
  refine V_fr0 E (Rn_N E (rest := []) 5 rfl wd_yX7_within (kRi_within l G p1 (0 : Int32) (5 : Int32) u1 hu1) ⟨rfl, rfl, Nat.le_of_ble_eq_true rfl, Nat.le_of_ble_eq_true rfl⟩ rfl rfl (Nat.le_of_ble_eq_true rfl) dX6_cellsOf_3) ?_
  show V G p l e rmSe_cellsOf s m args below meth c 2 A Q 0 0 (gSe G qSe se_cells se_apart se_surplus se_seamCost se_column se_gap se_cost) 6 [(0, .ref (qSe 0)), (1, .int p1)] [.int u1]
  refine V_if_eq E (tgt := 18) dX6_cellsOf_6 (by decide) (fun hc2 => ?_) (fun hc2 => ?_)
  · have hf := ip hc2 hf
    refine V_iconst E (v := (0 : Int32)) dX6_cellsOf_18 (by decide) ?_
    have h9 := hret 19 [(0, .ref (qSe 0)), (1, .int p1)] dX6_cellsOf_19
    rw [← (Option.some.inj hf)] at h9
    exact h9
  · have hf := iq hc2 hf
    refine V_aload_n E 0 rfl dX6_cellsOf_9 ?_
    refine gfX6_9 E 0 rfl rfl dX6_cellsOf_10 ?_
    refine V_iload_n E 1 rfl dX6_cellsOf_13 ?_
    obtain ⟨hi3, hf⟩ := asr_ok hf
    refine V_iald E 1 rfl hi3 dX6_cellsOf_14 ?_
    refine V_goto E (tgt := 19) dX6_cellsOf_15 (by decide) ?_
    have h9 := hret 19 [(0, .ref (qSe 0)), (1, .int p1)] dX6_cellsOf_19
    rw [← (Option.some.inj hf)] at h9
    exact h9
abbrev rmSe_apartOf : Room := { frames := 1, cells := 0, slots := 0, locals := 22 }
theorem wd_yX6_apartOf : wdV yX6_apartOf cX6_apartOf 2 (some .int) 1 := ⟨wc_yX6_apartOf, wi_yX6_apartOf, wse_yX6_apartOf, wini_X6, by decide +kernel, by decide +kernel, by decide +kernel⟩
set_option maxHeartbeats 4000000 in
set_option maxRecDepth 100000 in
theorem kSe_apartOf (l : Launch) (G : wG) (qSe : Nat → Nat) (p1 : Int32) (se_cells : Nat → Int32) (se_apart : Nat → Int32) (se_surplus : Nat → Int32) (se_seamCost : Nat → Int32) (se_column : Nat → Int32) (se_gap : Nat → Int32) (se_cost : Nat → Int32) (o : Int32) (hf : fSe_apartOf p1 se_apart = some o) : Ct G l yX6_apartOf cX6_apartOf 2 (some .int) rmSe_apartOf [.ref (qSe 0), .int p1] (gSe G qSe se_cells se_apart se_surplus se_seamCost se_column se_gap se_cost) (some (.int o)) (gSe G qSe se_cells se_apart se_surplus se_seamCost se_column se_gap se_cost) := by
  refine Ct.ofI (by decide +kernel) (Nat.le_of_ble_eq_true rfl) (fun p e s m args below meth c A Q E hret => ?_)
  unfold fSe_apartOf at hf
  show V G p l e rmSe_apartOf s m args below meth c 2 A Q 0 0 (gSe G qSe se_cells se_apart se_surplus se_seamCost se_column se_gap se_cost) 0 [(0, .ref (qSe 0)), (1, .int p1)] []
  refine V_iload_n E 1 rfl dX6_apartOf_0 ?_
  refine V_iconst E (v := (0 : Int32)) dX6_apartOf_1 (by decide) ?_
  refine V_iconst E (v := (5 : Int32)) dX6_apartOf_2 (by decide) ?_
  obtain ⟨u1, hu1, hf⟩ := bd hf
  refine V_fr0 E (Rn_N E (rest := []) 5 rfl wd_yX7_within (kRi_within l G p1 (0 : Int32) (5 : Int32) u1 hu1) ⟨rfl, rfl, Nat.le_of_ble_eq_true rfl, Nat.le_of_ble_eq_true rfl⟩ rfl rfl (Nat.le_of_ble_eq_true rfl) dX6_apartOf_3) ?_
  show V G p l e rmSe_apartOf s m args below meth c 2 A Q 0 0 (gSe G qSe se_cells se_apart se_surplus se_seamCost se_column se_gap se_cost) 6 [(0, .ref (qSe 0)), (1, .int p1)] [.int u1]
  refine V_if_eq E (tgt := 18) dX6_apartOf_6 (by decide) (fun hc2 => ?_) (fun hc2 => ?_)
  · have hf := ip hc2 hf
    refine V_iconst E (v := (0 : Int32)) dX6_apartOf_18 (by decide) ?_
    have h9 := hret 19 [(0, .ref (qSe 0)), (1, .int p1)] dX6_apartOf_19
    rw [← (Option.some.inj hf)] at h9
    exact h9
  · have hf := iq hc2 hf
    refine V_aload_n E 0 rfl dX6_apartOf_9 ?_
    refine gfX6_15 E 0 rfl rfl dX6_apartOf_10 ?_
    refine V_iload_n E 1 rfl dX6_apartOf_13 ?_
    obtain ⟨hi3, hf⟩ := asr_ok hf
    refine V_iald E 2 rfl hi3 dX6_apartOf_14 ?_
    refine V_goto E (tgt := 19) dX6_apartOf_15 (by decide) ?_
    have h9 := hret 19 [(0, .ref (qSe 0)), (1, .int p1)] dX6_apartOf_19
    rw [← (Option.some.inj hf)] at h9
    exact h9
abbrev rmSe_seamCostOf : Room := { frames := 1, cells := 0, slots := 0, locals := 22 }
theorem wd_yX6_seamCostOf : wdV yX6_seamCostOf cX6_seamCostOf 2 (some .int) 1 := ⟨wc_yX6_seamCostOf, wi_yX6_seamCostOf, wse_yX6_seamCostOf, wini_X6, by decide +kernel, by decide +kernel, by decide +kernel⟩
set_option maxHeartbeats 4000000 in
set_option maxRecDepth 100000 in
theorem kSe_seamCostOf (l : Launch) (G : wG) (qSe : Nat → Nat) (p1 : Int32) (se_cells : Nat → Int32) (se_apart : Nat → Int32) (se_surplus : Nat → Int32) (se_seamCost : Nat → Int32) (se_column : Nat → Int32) (se_gap : Nat → Int32) (se_cost : Nat → Int32) (o : Int32) (hf : fSe_seamCostOf p1 se_seamCost = some o) : Ct G l yX6_seamCostOf cX6_seamCostOf 2 (some .int) rmSe_seamCostOf [.ref (qSe 0), .int p1] (gSe G qSe se_cells se_apart se_surplus se_seamCost se_column se_gap se_cost) (some (.int o)) (gSe G qSe se_cells se_apart se_surplus se_seamCost se_column se_gap se_cost) := by
  refine Ct.ofI (by decide +kernel) (Nat.le_of_ble_eq_true rfl) (fun p e s m args below meth c A Q E hret => ?_)
  unfold fSe_seamCostOf at hf
  show V G p l e rmSe_seamCostOf s m args below meth c 2 A Q 0 0 (gSe G qSe se_cells se_apart se_surplus se_seamCost se_column se_gap se_cost) 0 [(0, .ref (qSe 0)), (1, .int p1)] []
  refine V_iload_n E 1 rfl dX6_seamCostOf_0 ?_
  refine V_iconst E (v := (0 : Int32)) dX6_seamCostOf_1 (by decide) ?_
  refine V_iconst E (v := (5 : Int32)) dX6_seamCostOf_2 (by decide) ?_
  obtain ⟨u1, hu1, hf⟩ := bd hf
  refine V_fr0 E (Rn_N E (rest := []) 5 rfl wd_yX7_within (kRi_within l G p1 (0 : Int32) (5 : Int32) u1 hu1) ⟨rfl, rfl, Nat.le_of_ble_eq_true rfl, Nat.le_of_ble_eq_true rfl⟩ rfl rfl (Nat.le_of_ble_eq_true rfl) dX6_seamCostOf_3) ?_
  show V G p l e rmSe_seamCostOf s m args below meth c 2 A Q 0 0 (gSe G qSe se_cells se_apart se_surplus se_seamCost se_column se_gap se_cost) 6 [(0, .ref (qSe 0)), (1, .int p1)] [.int u1]
  refine V_if_eq E (tgt := 18) dX6_seamCostOf_6 (by decide) (fun hc2 => ?_) (fun hc2 => ?_)
  · have hf := ip hc2 hf
    refine V_iconst E (v := (0 : Int32)) dX6_seamCostOf_18 (by decide) ?_
    have h9 := hret 19 [(0, .ref (qSe 0)), (1, .int p1)] dX6_seamCostOf_19
    rw [← (Option.some.inj hf)] at h9
    exact h9
  · have hf := iq hc2 hf
    refine V_aload_n E 0 rfl dX6_seamCostOf_9 ?_
    refine gfX6_21 E 0 rfl rfl dX6_seamCostOf_10 ?_
    refine V_iload_n E 1 rfl dX6_seamCostOf_13 ?_
    obtain ⟨hi3, hf⟩ := asr_ok hf
    refine V_iald E 4 rfl hi3 dX6_seamCostOf_14 ?_
    refine V_goto E (tgt := 19) dX6_seamCostOf_15 (by decide) ?_
    have h9 := hret 19 [(0, .ref (qSe 0)), (1, .int p1)] dX6_seamCostOf_19
    rw [← (Option.some.inj hf)] at h9
    exact h9
abbrev rmSe_columnAt : Room := { frames := 1, cells := 0, slots := 0, locals := 22 }
theorem wd_yX6_columnAt : wdV yX6_columnAt cX6_columnAt 3 (some .int) 2 := ⟨wc_yX6_columnAt, wi_yX6_columnAt, wse_yX6_columnAt, wini_X6, by decide +kernel, by decide +kernel, by decide +kernel⟩
set_option maxHeartbeats 4000000 in
set_option maxRecDepth 100000 in
theorem kSe_columnAt (l : Launch) (G : wG) (qSe : Nat → Nat) (p1 : Int32) (p2 : Int32) (se_cells : Nat → Int32) (se_apart : Nat → Int32) (se_surplus : Nat → Int32) (se_seamCost : Nat → Int32) (se_column : Nat → Int32) (se_gap : Nat → Int32) (se_cost : Nat → Int32) (o : Int32) (hf : fSe_columnAt p1 p2 se_column = some o) : Ct G l yX6_columnAt cX6_columnAt 3 (some .int) rmSe_columnAt [.ref (qSe 0), .int p1, .int p2] (gSe G qSe se_cells se_apart se_surplus se_seamCost se_column se_gap se_cost) (some (.int o)) (gSe G qSe se_cells se_apart se_surplus se_seamCost se_column se_gap se_cost) := by
  refine Ct.ofI (by decide +kernel) (Nat.le_of_ble_eq_true rfl) (fun p e s m args below meth c A Q E hret => ?_)
  unfold fSe_columnAt at hf
  show V G p l e rmSe_columnAt s m args below meth c 3 A Q 0 0 (gSe G qSe se_cells se_apart se_surplus se_seamCost se_column se_gap se_cost) 0 [(0, .ref (qSe 0)), (1, .int p1), (2, .int p2)] []
  refine V_iload_n E 1 rfl dX6_columnAt_0 ?_
  refine V_iconst E (v := (0 : Int32)) dX6_columnAt_1 (by decide) ?_
  refine V_iconst E (v := (5 : Int32)) dX6_columnAt_2 (by decide) ?_
  obtain ⟨u1, hu1, hf⟩ := bd hf
  refine V_fr0 E (Rn_N E (rest := []) 5 rfl wd_yX7_within (kRi_within l G p1 (0 : Int32) (5 : Int32) u1 hu1) ⟨rfl, rfl, Nat.le_of_ble_eq_true rfl, Nat.le_of_ble_eq_true rfl⟩ rfl rfl (Nat.le_of_ble_eq_true rfl) dX6_columnAt_3) ?_
  show V G p l e rmSe_columnAt s m args below meth c 3 A Q 0 0 (gSe G qSe se_cells se_apart se_surplus se_seamCost se_column se_gap se_cost) 6 [(0, .ref (qSe 0)), (1, .int p1), (2, .int p2)] [.int u1]
  refine V_if_eq E (tgt := 31) dX6_columnAt_6 (by decide) (fun hc2 => ?_) (fun hc2 => ?_)
  · have hf := ip hc2 hf
    refine V_iconst E (v := (-1 : Int32)) dX6_columnAt_31 (by decide) ?_
    have h9 := hret 32 [(0, .ref (qSe 0)), (1, .int p1), (2, .int p2)] dX6_columnAt_32
    rw [← (Option.some.inj hf)] at h9
    exact h9
  · have hf := iq hc2 hf
    refine V_iload_n E 2 rfl dX6_columnAt_9 ?_
    refine V_iconst E (v := (0 : Int32)) dX6_columnAt_10 (by decide) ?_
    refine V_iconst E (v := (3 : Int32)) dX6_columnAt_11 (by decide) ?_
    obtain ⟨u3, hu3, hf⟩ := bd hf
    refine V_fr0 E (Rn_N E (rest := []) 5 rfl wd_yX7_within (kRi_within l G p2 (0 : Int32) (3 : Int32) u3 hu3) ⟨rfl, rfl, Nat.le_of_ble_eq_true rfl, Nat.le_of_ble_eq_true rfl⟩ rfl rfl (Nat.le_of_ble_eq_true rfl) dX6_columnAt_12) ?_
    show V G p l e rmSe_columnAt s m args below meth c 3 A Q 0 0 (gSe G qSe se_cells se_apart se_surplus se_seamCost se_column se_gap se_cost) 15 [(0, .ref (qSe 0)), (1, .int p1), (2, .int p2)] [.int u3]
    refine V_if_eq E (tgt := 31) dX6_columnAt_15 (by decide) (fun hc4 => ?_) (fun hc4 => ?_)
    · have hf := ip hc4 hf
      refine V_iconst E (v := (-1 : Int32)) dX6_columnAt_31 (by decide) ?_
      have h9 := hret 32 [(0, .ref (qSe 0)), (1, .int p1), (2, .int p2)] dX6_columnAt_32
      rw [← (Option.some.inj hf)] at h9
      exact h9
    · have hf := iq hc4 hf
      refine V_aload_n E 0 rfl dX6_columnAt_18 ?_
      refine gfX6_24 E 0 rfl rfl dX6_columnAt_19 ?_
      refine V_iload_n E 1 rfl dX6_columnAt_22 ?_
      refine V_iconst E (v := (4 : Int32)) dX6_columnAt_23 (by decide) ?_
      refine V_imul E dX6_columnAt_24 ?_
      refine V_iload_n E 2 rfl dX6_columnAt_25 ?_
      refine V_iadd E dX6_columnAt_26 ?_
      obtain ⟨hi5, hf⟩ := asr_ok hf
      refine V_iald E 5 rfl hi5 dX6_columnAt_27 ?_
      refine V_goto E (tgt := 32) dX6_columnAt_28 (by decide) ?_
      have h9 := hret 32 [(0, .ref (qSe 0)), (1, .int p1), (2, .int p2)] dX6_columnAt_32
      rw [← (Option.some.inj hf)] at h9
      exact h9
abbrev rmSe_compare : Room := { frames := 2, cells := 0, slots := 0, locals := 46 }
theorem wd_yX6_compare : wdV yX6_compare cX6_compare 10 none 3 := ⟨wc_yX6_compare, wi_yX6_compare, wse_yX6_compare, wini_X6, by decide +kernel, by decide +kernel, by decide +kernel⟩
set_option maxHeartbeats 4000000 in
set_option maxRecDepth 100000 in
theorem kSe_compare (l : Launch) (G : wG) (qSc : Nat → Nat) (qCh : Nat → Nat) (qSe : Nat → Nat) (p3 : Int32) (sc_columns : Int32) (sc_count : Int32) (sc_cornerChange : Int32) (sc_voteApart : Int32) (sc_dots : Nat → Int32) (sc_cells : Nat → Int32) (sc_shotX : Nat → Int32) (sc_shotY : Nat → Int32) (sc_shotColumns : Nat → Int32) (ch_taken : Int32) (ch_turn : Int32) (ch_drift : Int32) (ch_right : Int32) (ch_closed : Int32) (ch_follower : Nat → Int32) (ch_ahead : Nat → Int32) (ch_linkE : Nat → Int32) (ch_linkF : Nat → Int32) (ch_placeRight : Nat → Int32) (ch_placeLower : Nat → Int32) (se_cells : Nat → Int32) (se_apart : Nat → Int32) (se_surplus : Nat → Int32) (se_seamCost : Nat → Int32) (se_column : Nat → Int32) (se_gap : Nat → Int32) (se_cost : Nat → Int32) (o : (Nat → Int32) × (Nat → Int32) × (Nat → Int32) × (Nat → Int32)) (hf : fSe_compare p3 sc_count sc_cells ch_follower ch_linkE ch_linkF se_cells se_apart se_surplus se_gap = some o) : Ct G l yX6_compare cX6_compare 10 none rmSe_compare [.ref (qSe 0), .ref (qSc 0), .ref (qCh 0), .int p3] (gSc G qSc sc_columns sc_count sc_cornerChange sc_voteApart sc_dots sc_cells sc_shotX sc_shotY sc_shotColumns ++ (gCh G qCh ch_taken ch_turn ch_drift ch_right ch_closed ch_follower ch_ahead ch_linkE ch_linkF ch_placeRight ch_placeLower ++ (gSe G qSe se_cells se_apart se_surplus se_seamCost se_column se_gap se_cost))) none (gSc G qSc sc_columns sc_count sc_cornerChange sc_voteApart sc_dots sc_cells sc_shotX sc_shotY sc_shotColumns ++ (gCh G qCh ch_taken ch_turn ch_drift ch_right ch_closed ch_follower ch_ahead ch_linkE ch_linkF ch_placeRight ch_placeLower ++ (gSe G qSe o.1 o.2.1 o.2.2.1 se_seamCost se_column o.2.2.2 se_cost))) := by
  refine Ct.ofV (by decide +kernel) (Nat.le_of_ble_eq_true rfl) (fun p e s m args below meth c A Q E hret => ?_)
  unfold fSe_compare at hf
  show V G p l e rmSe_compare s m args below meth c 10 A Q 0 0 (gSc G qSc sc_columns sc_count sc_cornerChange sc_voteApart sc_dots sc_cells sc_shotX sc_shotY sc_shotColumns ++ (gCh G qCh ch_taken ch_turn ch_drift ch_right ch_closed ch_follower ch_ahead ch_linkE ch_linkF ch_placeRight ch_placeLower ++ (gSe G qSe se_cells se_apart se_surplus se_seamCost se_column se_gap se_cost))) 0 [(0, .ref (qSe 0)), (1, .ref (qSc 0)), (2, .ref (qCh 0)), (3, .int p3)] []
  refine V_aload_n E 2 rfl dX6_compare_0 ?_
  refine V_iload_n E 3 rfl dX6_compare_1 ?_
  obtain ⟨u1, hu1, hf⟩ := bd hf
  refine V_frG E (wr := (gSc G qSc sc_columns sc_count sc_cornerChange sc_voteApart sc_dots sc_cells sc_shotX sc_shotY sc_shotColumns ++ (gSe G qSe se_cells se_apart se_surplus se_seamCost se_column se_gap se_cost))) (ws' := (gSc G qSc sc_columns sc_count sc_cornerChange sc_voteApart sc_dots sc_cells sc_shotX sc_shotY sc_shotColumns ++ (gCh G qCh ch_taken ch_turn ch_drift ch_right ch_closed ch_follower ch_ahead ch_linkE ch_linkF ch_placeRight ch_placeLower ++ (gSe G qSe se_cells se_apart se_surplus se_seamCost se_column se_gap se_cost)))) [6, 7, 8, 9, 10, 11, 12] [0, 1, 2, 3, 4, 5, 13, 14, 15, 16, 17, 18, 19, 20] [0, 1, 2, 3, 4, 5, 14, 15, 16, 17, 18, 19, 20, 6, 7, 8, 9, 10, 11, 12, 13] rfl rfl ⟨rfl, rfl, rfl, rfl⟩ rfl (Rn_V E (rest := []) mlX6_37 wd_yX0_followerOf (kCh_followerOf l G qCh p3 ch_taken ch_turn ch_drift ch_right ch_closed ch_follower ch_ahead ch_linkE ch_linkF ch_placeRight ch_placeLower u1 hu1) ⟨rfl, rfl, Nat.le_of_ble_eq_true rfl, Nat.le_of_ble_eq_true rfl⟩ 0 rfl rfl rfl rfl rfl (Nat.le_of_ble_eq_true rfl) dX6_compare_2) ?_
  show V G p l e rmSe_compare s m args below meth c 10 A Q 0 0 (gSc G qSc sc_columns sc_count sc_cornerChange sc_voteApart sc_dots sc_cells sc_shotX sc_shotY sc_shotColumns ++ (gCh G qCh ch_taken ch_turn ch_drift ch_right ch_closed ch_follower ch_ahead ch_linkE ch_linkF ch_placeRight ch_placeLower ++ (gSe G qSe se_cells se_apart se_surplus se_seamCost se_column se_gap se_cost))) 5 [(0, .ref (qSe 0)), (1, .ref (qSc 0)), (2, .ref (qCh 0)), (3, .int p3)] [.int u1]
  refine V_istore E (lv' := [(0, .ref (qSe 0)), (1, .ref (qSc 0)), (2, .ref (qCh 0)), (3, .int p3), (4, .int u1)]) dX6_compare_5 (by decide) rfl ?_
  refine V_aload_n E 2 rfl dX6_compare_7 ?_
  refine V_iload_n E 3 rfl dX6_compare_8 ?_
  obtain ⟨u2, hu2, hf⟩ := bd hf
  refine V_frG E (wr := (gSc G qSc sc_columns sc_count sc_cornerChange sc_voteApart sc_dots sc_cells sc_shotX sc_shotY sc_shotColumns ++ (gSe G qSe se_cells se_apart se_surplus se_seamCost se_column se_gap se_cost))) (ws' := (gSc G qSc sc_columns sc_count sc_cornerChange sc_voteApart sc_dots sc_cells sc_shotX sc_shotY sc_shotColumns ++ (gCh G qCh ch_taken ch_turn ch_drift ch_right ch_closed ch_follower ch_ahead ch_linkE ch_linkF ch_placeRight ch_placeLower ++ (gSe G qSe se_cells se_apart se_surplus se_seamCost se_column se_gap se_cost)))) [6, 7, 8, 9, 10, 11, 12] [0, 1, 2, 3, 4, 5, 13, 14, 15, 16, 17, 18, 19, 20] [0, 1, 2, 3, 4, 5, 14, 15, 16, 17, 18, 19, 20, 6, 7, 8, 9, 10, 11, 12, 13] rfl rfl ⟨rfl, rfl, rfl, rfl⟩ rfl (Rn_V E (rest := []) mlX6_47 wd_yX0_shiftE (kCh_shiftE l G qCh p3 ch_taken ch_turn ch_drift ch_right ch_closed ch_follower ch_ahead ch_linkE ch_linkF ch_placeRight ch_placeLower u2 hu2) ⟨rfl, rfl, Nat.le_of_ble_eq_true rfl, Nat.le_of_ble_eq_true rfl⟩ 0 rfl rfl rfl rfl rfl (Nat.le_of_ble_eq_true rfl) dX6_compare_9) ?_
  show V G p l e rmSe_compare s m args below meth c 10 A Q 0 0 (gSc G qSc sc_columns sc_count sc_cornerChange sc_voteApart sc_dots sc_cells sc_shotX sc_shotY sc_shotColumns ++ (gCh G qCh ch_taken ch_turn ch_drift ch_right ch_closed ch_follower ch_ahead ch_linkE ch_linkF ch_placeRight ch_placeLower ++ (gSe G qSe se_cells se_apart se_surplus se_seamCost se_column se_gap se_cost))) 12 [(0, .ref (qSe 0)), (1, .ref (qSc 0)), (2, .ref (qCh 0)), (3, .int p3), (4, .int u1)] [.int u2]
  refine V_istore E (lv' := [(0, .ref (qSe 0)), (1, .ref (qSc 0)), (2, .ref (qCh 0)), (3, .int p3), (4, .int u1), (5, .int u2)]) dX6_compare_12 (by decide) rfl ?_
  refine V_aload_n E 2 rfl dX6_compare_14 ?_
  refine V_iload_n E 3 rfl dX6_compare_15 ?_
  obtain ⟨u3, hu3, hf⟩ := bd hf
  refine V_frG E (wr := (gSc G qSc sc_columns sc_count sc_cornerChange sc_voteApart sc_dots sc_cells sc_shotX sc_shotY sc_shotColumns ++ (gSe G qSe se_cells se_apart se_surplus se_seamCost se_column se_gap se_cost))) (ws' := (gSc G qSc sc_columns sc_count sc_cornerChange sc_voteApart sc_dots sc_cells sc_shotX sc_shotY sc_shotColumns ++ (gCh G qCh ch_taken ch_turn ch_drift ch_right ch_closed ch_follower ch_ahead ch_linkE ch_linkF ch_placeRight ch_placeLower ++ (gSe G qSe se_cells se_apart se_surplus se_seamCost se_column se_gap se_cost)))) [6, 7, 8, 9, 10, 11, 12] [0, 1, 2, 3, 4, 5, 13, 14, 15, 16, 17, 18, 19, 20] [0, 1, 2, 3, 4, 5, 14, 15, 16, 17, 18, 19, 20, 6, 7, 8, 9, 10, 11, 12, 13] rfl rfl ⟨rfl, rfl, rfl, rfl⟩ rfl (Rn_V E (rest := []) mlX6_50 wd_yX0_shiftF (kCh_shiftF l G qCh p3 ch_taken ch_turn ch_drift ch_right ch_closed ch_follower ch_ahead ch_linkE ch_linkF ch_placeRight ch_placeLower u3 hu3) ⟨rfl, rfl, Nat.le_of_ble_eq_true rfl, Nat.le_of_ble_eq_true rfl⟩ 0 rfl rfl rfl rfl rfl (Nat.le_of_ble_eq_true rfl) dX6_compare_16) ?_
  show V G p l e rmSe_compare s m args below meth c 10 A Q 0 0 (gSc G qSc sc_columns sc_count sc_cornerChange sc_voteApart sc_dots sc_cells sc_shotX sc_shotY sc_shotColumns ++ (gCh G qCh ch_taken ch_turn ch_drift ch_right ch_closed ch_follower ch_ahead ch_linkE ch_linkF ch_placeRight ch_placeLower ++ (gSe G qSe se_cells se_apart se_surplus se_seamCost se_column se_gap se_cost))) 19 [(0, .ref (qSe 0)), (1, .ref (qSc 0)), (2, .ref (qCh 0)), (3, .int p3), (4, .int u1), (5, .int u2)] [.int u3]
  refine V_istore E (lv' := [(0, .ref (qSe 0)), (1, .ref (qSc 0)), (2, .ref (qCh 0)), (3, .int p3), (4, .int u1), (5, .int u2), (6, .int u3)]) dX6_compare_19 (by decide) rfl ?_
  refine V_aload_n E 0 rfl dX6_compare_21 ?_
  refine gfX6_9 E 13 rfl rfl dX6_compare_22 ?_
  refine V_iload_n E 3 rfl dX6_compare_25 ?_
  refine V_iconst E (v := (0 : Int32)) dX6_compare_26 (by decide) ?_
  obtain ⟨hi4, hf⟩ := asr_ok hf
  refine V_iast E (ws' := (gSc G qSc sc_columns sc_count sc_cornerChange sc_voteApart sc_dots sc_cells sc_shotX sc_shotY sc_shotColumns ++ (gCh G qCh ch_taken ch_turn ch_drift ch_right ch_closed ch_follower ch_ahead ch_linkE ch_linkF ch_placeRight ch_placeLower ++ (gSe G qSe (upd se_cells p3.toNatClampNeg (0 : Int32)) se_apart se_surplus se_seamCost se_column se_gap se_cost)))) 14 rfl hi4 dX6_compare_27 rfl ?_
  refine V_aload_n E 0 rfl dX6_compare_28 ?_
  refine gfX6_15 E 13 rfl rfl dX6_compare_29 ?_
  refine V_iload_n E 3 rfl dX6_compare_32 ?_
  refine V_iconst E (v := (0 : Int32)) dX6_compare_33 (by decide) ?_
  obtain ⟨hi5, hf⟩ := asr_ok hf
  refine V_iast E (ws' := (gSc G qSc sc_columns sc_count sc_cornerChange sc_voteApart sc_dots sc_cells sc_shotX sc_shotY sc_shotColumns ++ (gCh G qCh ch_taken ch_turn ch_drift ch_right ch_closed ch_follower ch_ahead ch_linkE ch_linkF ch_placeRight ch_placeLower ++ (gSe G qSe (upd se_cells p3.toNatClampNeg (0 : Int32)) (upd se_apart p3.toNatClampNeg (0 : Int32)) se_surplus se_seamCost se_column se_gap se_cost)))) 15 rfl hi5 dX6_compare_34 rfl ?_
  refine V_aload_n E 0 rfl dX6_compare_35 ?_
  refine gfX6_18 E 13 rfl rfl dX6_compare_36 ?_
  refine V_iload_n E 3 rfl dX6_compare_39 ?_
  refine V_iconst E (v := (0 : Int32)) dX6_compare_40 (by decide) ?_
  obtain ⟨hi6, hf⟩ := asr_ok hf
  refine V_iast E (ws' := (gSc G qSc sc_columns sc_count sc_cornerChange sc_voteApart sc_dots sc_cells sc_shotX sc_shotY sc_shotColumns ++ (gCh G qCh ch_taken ch_turn ch_drift ch_right ch_closed ch_follower ch_ahead ch_linkE ch_linkF ch_placeRight ch_placeLower ++ (gSe G qSe (upd se_cells p3.toNatClampNeg (0 : Int32)) (upd se_apart p3.toNatClampNeg (0 : Int32)) (upd se_surplus p3.toNatClampNeg (0 : Int32)) se_seamCost se_column se_gap se_cost)))) 16 rfl hi6 dX6_compare_41 rfl ?_
  refine V_iconst E (v := (0 : Int32)) dX6_compare_42 (by decide) ?_
  refine V_istore E (lv' := [(0, .ref (qSe 0)), (1, .ref (qSc 0)), (2, .ref (qCh 0)), (3, .int p3), (4, .int u1), (5, .int u2), (6, .int u3), (7, .int (0 : Int32))]) dX6_compare_43 (by decide) rfl ?_
  have L45 : ∀ (n : Nat) (a45_7 : Int32) (c45_se_cells : Nat → Int32) (c45_se_apart : Nat → Int32) (c45_se_surplus : Nat → Int32) (c45_se_gap : Nat → Int32) (u : (Nat → Int32) × (Nat → Int32) × (Nat → Int32) × (Nat → Int32)), fSe_compare_L45 p3 u1 u2 u3 sc_count sc_cells n a45_7 c45_se_cells c45_se_apart c45_se_surplus c45_se_gap = some u → (V G p l e rmSe_compare s m args below meth c 10 A Q 0 0 (gSc G qSc sc_columns sc_count sc_cornerChange sc_voteApart sc_dots sc_cells sc_shotX sc_shotY sc_shotColumns ++ (gCh G qCh ch_taken ch_turn ch_drift ch_right ch_closed ch_follower ch_ahead ch_linkE ch_linkF ch_placeRight ch_placeLower ++ (gSe G qSe u.1 u.2.1 u.2.2.1 se_seamCost se_column u.2.2.2 se_cost))) 173 [] []) → V G p l e rmSe_compare s m args below meth c 10 A Q 0 0 (gSc G qSc sc_columns sc_count sc_cornerChange sc_voteApart sc_dots sc_cells sc_shotX sc_shotY sc_shotColumns ++ (gCh G qCh ch_taken ch_turn ch_drift ch_right ch_closed ch_follower ch_ahead ch_linkE ch_linkF ch_placeRight ch_placeLower ++ (gSe G qSe c45_se_cells c45_se_apart c45_se_surplus se_seamCost se_column c45_se_gap se_cost))) 45 [(0, .ref (qSe 0)), (1, .ref (qSc 0)), (3, .int p3), (4, .int u1), (5, .int u2), (6, .int u3), (7, .int a45_7)] [] := by
    intro n
    induction n with
    | zero =>
      intro a45_7 c45_se_cells c45_se_apart c45_se_surplus c45_se_gap u hf hk
      rw [fSe_compare_L45] at hf
      cases hf
    | succ n ih =>
      intro a45_7 c45_se_cells c45_se_apart c45_se_surplus c45_se_gap u hf hk
      rw [fSe_compare_L45] at hf
      exact ih a45_7 c45_se_cells c45_se_apart c45_se_surplus c45_se_gap _ hf hk
  refine V_sub [0, 1, 3, 4, 5, 6, 7] rfl ?_
  obtain ⟨u7, hu7, hf⟩ := bd hf
  refine L45 FU (0 : Int32) (upd se_cells p3.toNatClampNeg (0 : Int32)) (upd se_apart p3.toNatClampNeg (0 : Int32)) (upd se_surplus p3.toNatClampNeg (0 : Int32)) se_gap u7 hu7 ?_
  have h9 := hret 173 [] dX6_compare_173
  rw [← (Option.some.inj hf)] at h9
  exact h9
abbrev rmSe_cheapest : Room := { frames := 1, cells := 0, slots := 0, locals := 25 }
theorem wd_yX6_cheapest : wdV yX6_cheapest cX6_cheapest 6 (some .int) 3 := ⟨wc_yX6_cheapest, wi_yX6_cheapest, wse_yX6_cheapest, wini_X6, by decide +kernel, by decide +kernel, by decide +kernel⟩
set_option maxHeartbeats 4000000 in
set_option maxRecDepth 100000 in
theorem kSe_cheapest (l : Launch) (G : wG) (qSe : Nat → Nat) (p1 : Int32) (p2 : Int32) (p3 : Int32) (se_cells : Nat → Int32) (se_apart : Nat → Int32) (se_surplus : Nat → Int32) (se_seamCost : Nat → Int32) (se_column : Nat → Int32) (se_gap : Nat → Int32) (se_cost : Nat → Int32) (o : Int32) (hf : fSe_cheapest p1 p2 p3 se_cost = some o) : Ct G l yX6_cheapest cX6_cheapest 6 (some .int) rmSe_cheapest [.ref (qSe 0), .int p1, .int p2, .int p3] (gSe G qSe se_cells se_apart se_surplus se_seamCost se_column se_gap se_cost) (some (.int o)) (gSe G qSe se_cells se_apart se_surplus se_seamCost se_column se_gap se_cost) := by
  refine Ct.ofI (by decide +kernel) (Nat.le_of_ble_eq_true rfl) (fun p e s m args below meth c A Q E hret => ?_)
  unfold fSe_cheapest at hf
  show V G p l e rmSe_cheapest s m args below meth c 6 A Q 0 0 (gSe G qSe se_cells se_apart se_surplus se_seamCost se_column se_gap se_cost) 0 [(0, .ref (qSe 0)), (1, .int p1), (2, .int p2), (3, .int p3)] []
  refine V_iconst E (v := (0 : Int32)) dX6_cheapest_0 (by decide) ?_
  refine V_bipush E (v := (7 : Int32)) dX6_cheapest_1 (by decide) ?_
  refine V_iload_n E 2 rfl dX6_cheapest_3 ?_
  refine V_mmin E mlX6_59 dX6_cheapest_4 ⟨Nat.le_of_ble_eq_true rfl, Nat.le_of_ble_eq_true rfl⟩ ?_
  refine V_mmax E mlX6_53 dX6_cheapest_7 ⟨Nat.le_of_ble_eq_true rfl, Nat.le_of_ble_eq_true rfl⟩ ?_
  obtain ⟨t1, ht1, hf⟩ := bd hf
  have ht1 := Option.some.inj ht1
  rw [ht1]
  refine V_istore E (lv' := [(0, .ref (qSe 0)), (1, .int p1), (2, .int p2), (3, .int p3), (4, .int t1)]) dX6_cheapest_10 (by decide) rfl ?_
  refine V_iload_n E 1 rfl dX6_cheapest_12 ?_
  refine V_iconst E (v := (0 : Int32)) dX6_cheapest_13 (by decide) ?_
  refine V_iconst E (v := (3 : Int32)) dX6_cheapest_14 (by decide) ?_
  obtain ⟨u2, hu2, hf⟩ := bd hf
  refine V_fr0 E (Rn_N E (rest := []) 5 rfl wd_yX7_within (kRi_within l G p1 (0 : Int32) (3 : Int32) u2 hu2) ⟨rfl, rfl, Nat.le_of_ble_eq_true rfl, Nat.le_of_ble_eq_true rfl⟩ rfl rfl (Nat.le_of_ble_eq_true rfl) dX6_cheapest_15) ?_
  show V G p l e rmSe_cheapest s m args below meth c 6 A Q 0 0 (gSe G qSe se_cells se_apart se_surplus se_seamCost se_column se_gap se_cost) 18 [(0, .ref (qSe 0)), (1, .int p1), (2, .int p2), (3, .int p3), (4, .int t1)] [.int u2]
  refine V_if_ne E (tgt := 24) dX6_cheapest_18 (by decide) (fun hc3 => ?_) (fun hc3 => ?_)
  · have hf := iq hc3 hf
    refine V_iload E 4 rfl dX6_cheapest_24 ?_
    refine V_iconst E (v := (1 : Int32)) dX6_cheapest_26 (by decide) ?_
    refine V_iadd E dX6_cheapest_27 ?_
    refine V_istore E (lv' := [(0, .ref (qSe 0)), (1, .int p1), (2, .int p2), (3, .int p3), (4, .int t1), (5, .int (t1 + (1 : Int32)))]) dX6_cheapest_28 (by decide) rfl ?_
    have L30 : ∀ (n : Nat) (a30_4 : Int32) (a30_5 : Int32) (u : Int32), fSe_cheapest_L30 p1 p3 se_cost n a30_4 a30_5 = some u → (V G p l e rmSe_cheapest s m args below meth c 6 A Q 0 0 (gSe G qSe se_cells se_apart se_surplus se_seamCost se_column se_gap se_cost) 80 [(4, .int u)] []) → V G p l e rmSe_cheapest s m args below meth c 6 A Q 0 0 (gSe G qSe se_cells se_apart se_surplus se_seamCost se_column se_gap se_cost) 30 [(0, .ref (qSe 0)), (1, .int p1), (3, .int p3), (4, .int a30_4), (5, .int a30_5)] [] := by
      intro n
      induction n with
      | zero =>
        intro a30_4 a30_5 u hf hk
        rw [fSe_cheapest_L30] at hf
        cases hf
      | succ n ih =>
        intro a30_4 a30_5 u hf hk
        rw [fSe_cheapest_L30] at hf
        exact ih a30_4 a30_5 _ hf hk
    refine V_sub [0, 1, 3, 4, 5] rfl ?_
    obtain ⟨u4, hu4, hf⟩ := bd hf
    refine L30 FU t1 (t1 + (1 : Int32)) u4 hu4 ?_
    refine V_iload E 0 rfl dX6_cheapest_80 ?_
    have h9 := hret 82 [(4, .int u4)] dX6_cheapest_82
    rw [← (Option.some.inj hf)] at h9
    exact h9
  · have hf := ip hc3 hf
    refine V_iload E 4 rfl dX6_cheapest_21 ?_
    have h9 := hret 23 [(0, .ref (qSe 0)), (1, .int p1), (2, .int p2), (3, .int p3), (4, .int t1)] dX6_cheapest_23
    rw [← (Option.some.inj hf)] at h9
    exact h9
abbrev rmSe_follow : Room := { frames := 2, cells := 0, slots := 0, locals := 50 }
theorem wd_yX6_follow : wdV yX6_follow cX6_follow 9 none 4 := ⟨wc_yX6_follow, wi_yX6_follow, wse_yX6_follow, wini_X6, by decide +kernel, by decide +kernel, by decide +kernel⟩
set_option maxHeartbeats 4000000 in
set_option maxRecDepth 100000 in
theorem kSe_follow (l : Launch) (G : wG) (qSe : Nat → Nat) (p1 : Int32) (p2 : Int32) (p3 : Int32) (p4 : Int32) (se_cells : Nat → Int32) (se_apart : Nat → Int32) (se_surplus : Nat → Int32) (se_seamCost : Nat → Int32) (se_column : Nat → Int32) (se_gap : Nat → Int32) (se_cost : Nat → Int32) (o : (Nat → Int32) × (Nat → Int32)) (hf : fSe_follow p1 p2 p3 p4 se_seamCost se_column se_gap se_cost = some o) : Ct G l yX6_follow cX6_follow 9 none rmSe_follow [.ref (qSe 0), .int p1, .int p2, .int p3, .int p4] (gSe G qSe se_cells se_apart se_surplus se_seamCost se_column se_gap se_cost) none (gSe G qSe se_cells se_apart se_surplus o.1 o.2 se_gap se_cost) := by
  refine Ct.ofV (by decide +kernel) (Nat.le_of_ble_eq_true rfl) (fun p e s m args below meth c A Q E hret => ?_)
  unfold fSe_follow at hf
  show V G p l e rmSe_follow s m args below meth c 9 A Q 0 0 (gSe G qSe se_cells se_apart se_surplus se_seamCost se_column se_gap se_cost) 0 [(0, .ref (qSe 0)), (1, .int p1), (2, .int p2), (3, .int p3), (4, .int p4)] []
  refine V_aload_n E 0 rfl dX6_follow_0 ?_
  refine gfX6_21 E 0 rfl rfl dX6_follow_1 ?_
  refine V_iload_n E 1 rfl dX6_follow_4 ?_
  refine V_iconst E (v := (0 : Int32)) dX6_follow_5 (by decide) ?_
  obtain ⟨hi1, hf⟩ := asr_ok hf
  refine V_iast E (ws' := (gSe G qSe se_cells se_apart se_surplus (upd se_seamCost p1.toNatClampNeg (0 : Int32)) se_column se_gap se_cost)) 4 rfl hi1 dX6_follow_6 rfl ?_
  refine V_iload_n E 2 rfl dX6_follow_7 ?_
  refine V_istore E (lv' := [(0, .ref (qSe 0)), (1, .int p1), (2, .int p2), (3, .int p3), (4, .int p4), (5, .int p2)]) dX6_follow_8 (by decide) rfl ?_
  refine V_bipush E (v := (7 : Int32)) dX6_follow_10 (by decide) ?_
  refine V_istore E (lv' := [(0, .ref (qSe 0)), (1, .int p1), (2, .int p2), (3, .int p3), (4, .int p4), (5, .int p2), (6, .int (7 : Int32))]) dX6_follow_12 (by decide) rfl ?_
  refine V_iload_n E 3 rfl dX6_follow_14 ?_
  refine V_istore E (lv' := [(0, .ref (qSe 0)), (1, .int p1), (2, .int p2), (3, .int p3), (4, .int p4), (5, .int p2), (6, .int (7 : Int32)), (7, .int p3)]) dX6_follow_15 (by decide) rfl ?_
  have L17 : ∀ (n : Nat) (a17_5 : Int32) (a17_6 : Int32) (a17_7 : Int32) (c17_se_seamCost : Nat → Int32) (c17_se_column : Nat → Int32) (u : (Nat → Int32) × (Nat → Int32)), fSe_follow_L17 p1 p2 p4 se_gap se_cost n a17_5 a17_6 a17_7 c17_se_seamCost c17_se_column = some u → (V G p l e rmSe_follow s m args below meth c 9 A Q 0 0 (gSe G qSe se_cells se_apart se_surplus u.1 u.2 se_gap se_cost) 93 [] []) → V G p l e rmSe_follow s m args below meth c 9 A Q 0 0 (gSe G qSe se_cells se_apart se_surplus c17_se_seamCost c17_se_column se_gap se_cost) 17 [(0, .ref (qSe 0)), (1, .int p1), (2, .int p2), (4, .int p4), (5, .int a17_5), (6, .int a17_6), (7, .int a17_7)] [] := by
    intro n
    induction n with
    | zero =>
      intro a17_5 a17_6 a17_7 c17_se_seamCost c17_se_column u hf hk
      rw [fSe_follow_L17] at hf
      cases hf
    | succ n ih =>
      intro a17_5 a17_6 a17_7 c17_se_seamCost c17_se_column u hf hk
      rw [fSe_follow_L17] at hf
      exact ih a17_5 a17_6 a17_7 c17_se_seamCost c17_se_column _ hf hk
  refine V_sub [0, 1, 2, 4, 5, 6, 7] rfl ?_
  obtain ⟨u2, hu2, hf⟩ := bd hf
  refine L17 FU p2 (7 : Int32) p3 (upd se_seamCost p1.toNatClampNeg (0 : Int32)) se_column u2 hu2 ?_
  have h9 := hret 93 [] dX6_follow_93
  rw [← (Option.some.inj hf)] at h9
  exact h9
abbrev rmSe_cutOne : Room := { frames := 3, cells := 0, slots := 0, locals := 78 }
theorem wd_yX6_cutOne : wdV yX6_cutOne cX6_cutOne 11 none 3 := ⟨wc_yX6_cutOne, wi_yX6_cutOne, wse_yX6_cutOne, wini_X6, by decide +kernel, by decide +kernel, by decide +kernel⟩
set_option maxHeartbeats 4000000 in
set_option maxRecDepth 100000 in
theorem kSe_cutOne (l : Launch) (G : wG) (qSc : Nat → Nat) (qCh : Nat → Nat) (qSe : Nat → Nat) (p3 : Int32) (sc_columns : Int32) (sc_count : Int32) (sc_cornerChange : Int32) (sc_voteApart : Int32) (sc_dots : Nat → Int32) (sc_cells : Nat → Int32) (sc_shotX : Nat → Int32) (sc_shotY : Nat → Int32) (sc_shotColumns : Nat → Int32) (ch_taken : Int32) (ch_turn : Int32) (ch_drift : Int32) (ch_right : Int32) (ch_closed : Int32) (ch_follower : Nat → Int32) (ch_ahead : Nat → Int32) (ch_linkE : Nat → Int32) (ch_linkF : Nat → Int32) (ch_placeRight : Nat → Int32) (ch_placeLower : Nat → Int32) (se_cells : Nat → Int32) (se_apart : Nat → Int32) (se_surplus : Nat → Int32) (se_seamCost : Nat → Int32) (se_column : Nat → Int32) (se_gap : Nat → Int32) (se_cost : Nat → Int32) (o : (Nat → Int32) × (Nat → Int32) × (Nat → Int32) × (Nat → Int32) × (Nat → Int32) × (Nat → Int32) × (Nat → Int32)) (hf : fSe_cutOne p3 sc_count sc_cells ch_follower ch_linkE ch_linkF se_cells se_apart se_surplus se_seamCost se_column se_gap se_cost = some o) : Ct G l yX6_cutOne cX6_cutOne 11 none rmSe_cutOne [.ref (qSe 0), .ref (qSc 0), .ref (qCh 0), .int p3] (gSc G qSc sc_columns sc_count sc_cornerChange sc_voteApart sc_dots sc_cells sc_shotX sc_shotY sc_shotColumns ++ (gCh G qCh ch_taken ch_turn ch_drift ch_right ch_closed ch_follower ch_ahead ch_linkE ch_linkF ch_placeRight ch_placeLower ++ (gSe G qSe se_cells se_apart se_surplus se_seamCost se_column se_gap se_cost))) none (gSc G qSc sc_columns sc_count sc_cornerChange sc_voteApart sc_dots sc_cells sc_shotX sc_shotY sc_shotColumns ++ (gCh G qCh ch_taken ch_turn ch_drift ch_right ch_closed ch_follower ch_ahead ch_linkE ch_linkF ch_placeRight ch_placeLower ++ (gSe G qSe o.1 o.2.1 o.2.2.1 o.2.2.2.1 o.2.2.2.2.1 o.2.2.2.2.2.1 o.2.2.2.2.2.2))) := by
  refine Ct.ofV (by decide +kernel) (Nat.le_of_ble_eq_true rfl) (fun p e s m args below meth c A Q E hret => ?_)
  unfold fSe_cutOne at hf
  show V G p l e rmSe_cutOne s m args below meth c 11 A Q 0 0 (gSc G qSc sc_columns sc_count sc_cornerChange sc_voteApart sc_dots sc_cells sc_shotX sc_shotY sc_shotColumns ++ (gCh G qCh ch_taken ch_turn ch_drift ch_right ch_closed ch_follower ch_ahead ch_linkE ch_linkF ch_placeRight ch_placeLower ++ (gSe G qSe se_cells se_apart se_surplus se_seamCost se_column se_gap se_cost))) 0 [(0, .ref (qSe 0)), (1, .ref (qSc 0)), (2, .ref (qCh 0)), (3, .int p3)] []
  refine V_aload_n E 2 rfl dX6_cutOne_0 ?_
  refine V_iload_n E 3 rfl dX6_cutOne_1 ?_
  obtain ⟨u1, hu1, hf⟩ := bd hf
  refine V_frG E (wr := (gSc G qSc sc_columns sc_count sc_cornerChange sc_voteApart sc_dots sc_cells sc_shotX sc_shotY sc_shotColumns ++ (gSe G qSe se_cells se_apart se_surplus se_seamCost se_column se_gap se_cost))) (ws' := (gSc G qSc sc_columns sc_count sc_cornerChange sc_voteApart sc_dots sc_cells sc_shotX sc_shotY sc_shotColumns ++ (gCh G qCh ch_taken ch_turn ch_drift ch_right ch_closed ch_follower ch_ahead ch_linkE ch_linkF ch_placeRight ch_placeLower ++ (gSe G qSe se_cells se_apart se_surplus se_seamCost se_column se_gap se_cost)))) [6, 7, 8, 9, 10, 11, 12] [0, 1, 2, 3, 4, 5, 13, 14, 15, 16, 17, 18, 19, 20] [0, 1, 2, 3, 4, 5, 14, 15, 16, 17, 18, 19, 20, 6, 7, 8, 9, 10, 11, 12, 13] rfl rfl ⟨rfl, rfl, rfl, rfl⟩ rfl (Rn_V E (rest := []) mlX6_47 wd_yX0_shiftE (kCh_shiftE l G qCh p3 ch_taken ch_turn ch_drift ch_right ch_closed ch_follower ch_ahead ch_linkE ch_linkF ch_placeRight ch_placeLower u1 hu1) ⟨rfl, rfl, Nat.le_of_ble_eq_true rfl, Nat.le_of_ble_eq_true rfl⟩ 0 rfl rfl rfl rfl rfl (Nat.le_of_ble_eq_true rfl) dX6_cutOne_2) ?_
  show V G p l e rmSe_cutOne s m args below meth c 11 A Q 0 0 (gSc G qSc sc_columns sc_count sc_cornerChange sc_voteApart sc_dots sc_cells sc_shotX sc_shotY sc_shotColumns ++ (gCh G qCh ch_taken ch_turn ch_drift ch_right ch_closed ch_follower ch_ahead ch_linkE ch_linkF ch_placeRight ch_placeLower ++ (gSe G qSe se_cells se_apart se_surplus se_seamCost se_column se_gap se_cost))) 5 [(0, .ref (qSe 0)), (1, .ref (qSc 0)), (2, .ref (qCh 0)), (3, .int p3)] [.int u1]
  refine V_istore E (lv' := [(0, .ref (qSe 0)), (1, .ref (qSc 0)), (2, .ref (qCh 0)), (3, .int p3), (4, .int u1)]) dX6_cutOne_5 (by decide) rfl ?_
  refine V_aload_n E 2 rfl dX6_cutOne_7 ?_
  refine V_iload_n E 3 rfl dX6_cutOne_8 ?_
  obtain ⟨u2, hu2, hf⟩ := bd hf
  refine V_frG E (wr := (gSc G qSc sc_columns sc_count sc_cornerChange sc_voteApart sc_dots sc_cells sc_shotX sc_shotY sc_shotColumns ++ (gSe G qSe se_cells se_apart se_surplus se_seamCost se_column se_gap se_cost))) (ws' := (gSc G qSc sc_columns sc_count sc_cornerChange sc_voteApart sc_dots sc_cells sc_shotX sc_shotY sc_shotColumns ++ (gCh G qCh ch_taken ch_turn ch_drift ch_right ch_closed ch_follower ch_ahead ch_linkE ch_linkF ch_placeRight ch_placeLower ++ (gSe G qSe se_cells se_apart se_surplus se_seamCost se_column se_gap se_cost)))) [6, 7, 8, 9, 10, 11, 12] [0, 1, 2, 3, 4, 5, 13, 14, 15, 16, 17, 18, 19, 20] [0, 1, 2, 3, 4, 5, 14, 15, 16, 17, 18, 19, 20, 6, 7, 8, 9, 10, 11, 12, 13] rfl rfl ⟨rfl, rfl, rfl, rfl⟩ rfl (Rn_V E (rest := []) mlX6_50 wd_yX0_shiftF (kCh_shiftF l G qCh p3 ch_taken ch_turn ch_drift ch_right ch_closed ch_follower ch_ahead ch_linkE ch_linkF ch_placeRight ch_placeLower u2 hu2) ⟨rfl, rfl, Nat.le_of_ble_eq_true rfl, Nat.le_of_ble_eq_true rfl⟩ 0 rfl rfl rfl rfl rfl (Nat.le_of_ble_eq_true rfl) dX6_cutOne_9) ?_
  show V G p l e rmSe_cutOne s m args below meth c 11 A Q 0 0 (gSc G qSc sc_columns sc_count sc_cornerChange sc_voteApart sc_dots sc_cells sc_shotX sc_shotY sc_shotColumns ++ (gCh G qCh ch_taken ch_turn ch_drift ch_right ch_closed ch_follower ch_ahead ch_linkE ch_linkF ch_placeRight ch_placeLower ++ (gSe G qSe se_cells se_apart se_surplus se_seamCost se_column se_gap se_cost))) 12 [(0, .ref (qSe 0)), (1, .ref (qSc 0)), (2, .ref (qCh 0)), (3, .int p3), (4, .int u1)] [.int u2]
  refine V_istore E (lv' := [(0, .ref (qSe 0)), (1, .ref (qSc 0)), (2, .ref (qCh 0)), (3, .int p3), (4, .int u1), (5, .int u2)]) dX6_cutOne_12 (by decide) rfl ?_
  refine V_iconst E (v := (0 : Int32)) dX6_cutOne_14 (by decide) ?_
  refine V_iload E 4 rfl dX6_cutOne_15 ?_
  refine V_mmax E mlX6_53 dX6_cutOne_17 ⟨Nat.le_of_ble_eq_true rfl, Nat.le_of_ble_eq_true rfl⟩ ?_
  obtain ⟨t3, ht3, hf⟩ := bd hf
  have ht3 := Option.some.inj ht3
  rw [ht3]
  refine V_istore E (lv' := [(0, .ref (qSe 0)), (1, .ref (qSc 0)), (2, .ref (qCh 0)), (3, .int p3), (4, .int u1), (5, .int u2), (6, .int t3)]) dX6_cutOne_20 (by decide) rfl ?_
  refine V_iconst E (v := (3 : Int32)) dX6_cutOne_22 (by decide) ?_
  refine V_iconst E (v := (3 : Int32)) dX6_cutOne_23 (by decide) ?_
  refine V_iload E 4 rfl dX6_cutOne_24 ?_
  refine V_iadd E dX6_cutOne_26 ?_
  refine V_mmin E mlX6_59 dX6_cutOne_27 ⟨Nat.le_of_ble_eq_true rfl, Nat.le_of_ble_eq_true rfl⟩ ?_
  obtain ⟨t4, ht4, hf⟩ := bd hf
  have ht4 := Option.some.inj ht4
  rw [ht4]
  refine V_istore E (lv' := [(0, .ref (qSe 0)), (1, .ref (qSc 0)), (2, .ref (qCh 0)), (3, .int p3), (4, .int u1), (5, .int u2), (6, .int t3), (7, .int t4)]) dX6_cutOne_30 (by decide) rfl ?_
  refine V_aload_n E 0 rfl dX6_cutOne_32 ?_
  refine V_aload_n E 1 rfl dX6_cutOne_33 ?_
  refine V_aload_n E 2 rfl dX6_cutOne_34 ?_
  refine V_iload_n E 3 rfl dX6_cutOne_35 ?_
  obtain ⟨u5, hu5, hf⟩ := bd hf
  refine V_frW E (Rn_V E (rest := []) mlX6_62 wd_yX6_compare (kSe_compare l G qSc qCh qSe p3 sc_columns sc_count sc_cornerChange sc_voteApart sc_dots sc_cells sc_shotX sc_shotY sc_shotColumns ch_taken ch_turn ch_drift ch_right ch_closed ch_follower ch_ahead ch_linkE ch_linkF ch_placeRight ch_placeLower se_cells se_apart se_surplus se_seamCost se_column se_gap se_cost u5 hu5) ⟨rfl, rfl, Nat.le_of_ble_eq_true rfl, Nat.le_of_ble_eq_true rfl⟩ 13 rfl rfl rfl rfl rfl (Nat.le_of_ble_eq_true rfl) dX6_cutOne_36) ?_
  show V G p l e rmSe_cutOne s m args below meth c 11 A Q 0 0 (gSc G qSc sc_columns sc_count sc_cornerChange sc_voteApart sc_dots sc_cells sc_shotX sc_shotY sc_shotColumns ++ (gCh G qCh ch_taken ch_turn ch_drift ch_right ch_closed ch_follower ch_ahead ch_linkE ch_linkF ch_placeRight ch_placeLower ++ (gSe G qSe u5.1 u5.2.1 u5.2.2.1 se_seamCost se_column u5.2.2.2 se_cost))) 39 [(0, .ref (qSe 0)), (1, .ref (qSc 0)), (2, .ref (qCh 0)), (3, .int p3), (4, .int u1), (5, .int u2), (6, .int t3), (7, .int t4)] []
  refine V_iload E 7 rfl dX6_cutOne_39 ?_
  refine V_istore E (lv' := [(0, .ref (qSe 0)), (1, .ref (qSc 0)), (2, .ref (qCh 0)), (3, .int p3), (4, .int u1), (5, .int u2), (6, .int t3), (7, .int t4), (8, .int t4)]) dX6_cutOne_41 (by decide) rfl ?_
  have L43 : ∀ (n : Nat) (a43_8 : Int32) (c43_se_cost : Nat → Int32) (u : (Nat → Int32)), fSe_cutOne_L43 u2 t3 t4 u5.2.2.2 n a43_8 c43_se_cost = some u → (V G p l e rmSe_cutOne s m args below meth c 11 A Q 0 0 (gSc G qSc sc_columns sc_count sc_cornerChange sc_voteApart sc_dots sc_cells sc_shotX sc_shotY sc_shotColumns ++ (gCh G qCh ch_taken ch_turn ch_drift ch_right ch_closed ch_follower ch_ahead ch_linkE ch_linkF ch_placeRight ch_placeLower ++ (gSe G qSe u5.1 u5.2.1 u5.2.2.1 se_seamCost se_column u5.2.2.2 u))) 164 [(0, .ref (qSe 0)), (3, .int p3), (5, .int u2), (6, .int t3), (7, .int t4)] []) → V G p l e rmSe_cutOne s m args below meth c 11 A Q 0 0 (gSc G qSc sc_columns sc_count sc_cornerChange sc_voteApart sc_dots sc_cells sc_shotX sc_shotY sc_shotColumns ++ (gCh G qCh ch_taken ch_turn ch_drift ch_right ch_closed ch_follower ch_ahead ch_linkE ch_linkF ch_placeRight ch_placeLower ++ (gSe G qSe u5.1 u5.2.1 u5.2.2.1 se_seamCost se_column u5.2.2.2 c43_se_cost))) 43 [(0, .ref (qSe 0)), (3, .int p3), (5, .int u2), (6, .int t3), (7, .int t4), (8, .int a43_8)] [] := by
    intro n
    induction n with
    | zero =>
      intro a43_8 c43_se_cost u hf hk
      rw [fSe_cutOne_L43] at hf
      cases hf
    | succ n ih =>
      intro a43_8 c43_se_cost u hf hk
      rw [fSe_cutOne_L43] at hf
      exact ih a43_8 c43_se_cost _ hf hk
  refine V_sub [0, 3, 5, 6, 7, 8] rfl ?_
  obtain ⟨u6, hu6, hf⟩ := bd hf
  refine L43 FU t4 se_cost u6 hu6 ?_
  refine V_aload_n E 0 rfl dX6_cutOne_164 ?_
  refine V_iload_n E 1 rfl dX6_cutOne_165 ?_
  refine V_iload E 2 rfl dX6_cutOne_166 ?_
  refine V_iload E 3 rfl dX6_cutOne_168 ?_
  refine V_iload E 4 rfl dX6_cutOne_170 ?_
  obtain ⟨u7, hu7, hf⟩ := bd hf
  refine V_frG E (wr := (gSc G qSc sc_columns sc_count sc_cornerChange sc_voteApart sc_dots sc_cells sc_shotX sc_shotY sc_shotColumns ++ (gCh G qCh ch_taken ch_turn ch_drift ch_right ch_closed ch_follower ch_ahead ch_linkE ch_linkF ch_placeRight ch_placeLower))) (ws' := (gSc G qSc sc_columns sc_count sc_cornerChange sc_voteApart sc_dots sc_cells sc_shotX sc_shotY sc_shotColumns ++ (gCh G qCh ch_taken ch_turn ch_drift ch_right ch_closed ch_follower ch_ahead ch_linkE ch_linkF ch_placeRight ch_placeLower ++ (gSe G qSe u5.1 u5.2.1 u5.2.2.1 u7.1 u7.2 u5.2.2.2 u6)))) [13, 14, 15, 16, 17, 18, 19, 20] [0, 1, 2, 3, 4, 5, 6, 7, 8, 9, 10, 11, 12] [0, 1, 2, 3, 4, 5, 6, 7, 8, 9, 10, 11, 12, 13, 14, 15, 16, 17, 18, 19, 20] rfl rfl ⟨rfl, rfl, rfl, rfl⟩ rfl (Rn_V E (rest := []) mlX6_69 wd_yX6_follow (kSe_follow l G qSe p3 u2 t3 t4 u5.1 u5.2.1 u5.2.2.1 se_seamCost se_column u5.2.2.2 u6 u7 hu7) ⟨rfl, rfl, Nat.le_of_ble_eq_true rfl, Nat.le_of_ble_eq_true rfl⟩ 0 rfl rfl rfl rfl rfl (Nat.le_of_ble_eq_true rfl) dX6_cutOne_172) ?_
  show V G p l e rmSe_cutOne s m args below meth c 11 A Q 0 0 (gSc G qSc sc_columns sc_count sc_cornerChange sc_voteApart sc_dots sc_cells sc_shotX sc_shotY sc_shotColumns ++ (gCh G qCh ch_taken ch_turn ch_drift ch_right ch_closed ch_follower ch_ahead ch_linkE ch_linkF ch_placeRight ch_placeLower ++ (gSe G qSe u5.1 u5.2.1 u5.2.2.1 u7.1 u7.2 u5.2.2.2 u6))) 175 [(0, .ref (qSe 0)), (3, .int p3), (5, .int u2), (6, .int t3), (7, .int t4)] []
  have h9 := hret 175 [(0, .ref (qSe 0)), (3, .int p3), (5, .int u2), (6, .int t3), (7, .int t4)] dX6_cutOne_175
  rw [← (Option.some.inj hf)] at h9
  exact h9
abbrev rmSe_cut : Room := { frames := 4, cells := 0, slots := 0, locals := 108 }
theorem wd_yX6_cut : wdV yX6_cut cX6_cut 4 none 2 := ⟨wc_yX6_cut, wi_yX6_cut, wse_yX6_cut, wini_X6, by decide +kernel, by decide +kernel, by decide +kernel⟩
set_option maxHeartbeats 4000000 in
set_option maxRecDepth 100000 in
theorem kSe_cut (l : Launch) (G : wG) (qSc : Nat → Nat) (qCh : Nat → Nat) (qSe : Nat → Nat) (sc_columns : Int32) (sc_count : Int32) (sc_cornerChange : Int32) (sc_voteApart : Int32) (sc_dots : Nat → Int32) (sc_cells : Nat → Int32) (sc_shotX : Nat → Int32) (sc_shotY : Nat → Int32) (sc_shotColumns : Nat → Int32) (ch_taken : Int32) (ch_turn : Int32) (ch_drift : Int32) (ch_right : Int32) (ch_closed : Int32) (ch_follower : Nat → Int32) (ch_ahead : Nat → Int32) (ch_linkE : Nat → Int32) (ch_linkF : Nat → Int32) (ch_placeRight : Nat → Int32) (ch_placeLower : Nat → Int32) (se_cells : Nat → Int32) (se_apart : Nat → Int32) (se_surplus : Nat → Int32) (se_seamCost : Nat → Int32) (se_column : Nat → Int32) (se_gap : Nat → Int32) (se_cost : Nat → Int32) (o : (Nat → Int32) × (Nat → Int32) × (Nat → Int32) × (Nat → Int32) × (Nat → Int32) × (Nat → Int32) × (Nat → Int32)) (hf : fSe_cut sc_count sc_cells ch_follower ch_linkE ch_linkF se_cells se_apart se_surplus se_seamCost se_column se_gap se_cost = some o) : Ct G l yX6_cut cX6_cut 4 none rmSe_cut [.ref (qSe 0), .ref (qSc 0), .ref (qCh 0)] (gSc G qSc sc_columns sc_count sc_cornerChange sc_voteApart sc_dots sc_cells sc_shotX sc_shotY sc_shotColumns ++ (gCh G qCh ch_taken ch_turn ch_drift ch_right ch_closed ch_follower ch_ahead ch_linkE ch_linkF ch_placeRight ch_placeLower ++ (gSe G qSe se_cells se_apart se_surplus se_seamCost se_column se_gap se_cost))) none (gSc G qSc sc_columns sc_count sc_cornerChange sc_voteApart sc_dots sc_cells sc_shotX sc_shotY sc_shotColumns ++ (gCh G qCh ch_taken ch_turn ch_drift ch_right ch_closed ch_follower ch_ahead ch_linkE ch_linkF ch_placeRight ch_placeLower ++ (gSe G qSe o.1 o.2.1 o.2.2.1 o.2.2.2.1 o.2.2.2.2.1 o.2.2.2.2.2.1 o.2.2.2.2.2.2))) := by
  refine Ct.ofV (by decide +kernel) (Nat.le_of_ble_eq_true rfl) (fun p e s m args below meth c A Q E hret => ?_)
  unfold fSe_cut at hf
  show V G p l e rmSe_cut s m args below meth c 4 A Q 0 0 (gSc G qSc sc_columns sc_count sc_cornerChange sc_voteApart sc_dots sc_cells sc_shotX sc_shotY sc_shotColumns ++ (gCh G qCh ch_taken ch_turn ch_drift ch_right ch_closed ch_follower ch_ahead ch_linkE ch_linkF ch_placeRight ch_placeLower ++ (gSe G qSe se_cells se_apart se_surplus se_seamCost se_column se_gap se_cost))) 0 [(0, .ref (qSe 0)), (1, .ref (qSc 0)), (2, .ref (qCh 0))] []
  refine V_iconst E (v := (0 : Int32)) dX6_cut_0 (by decide) ?_
  refine V_istore_n E (lv' := [(0, .ref (qSe 0)), (1, .ref (qSc 0)), (2, .ref (qCh 0)), (3, .int (0 : Int32))]) dX6_cut_1 (by decide) rfl ?_
  have L2 : ∀ (n : Nat) (a2_3 : Int32) (c2_se_column : Nat → Int32) (u : (Nat → Int32)), fSe_cut_L2 n a2_3 c2_se_column = some u → (V G p l e rmSe_cut s m args below meth c 4 A Q 0 0 (gSc G qSc sc_columns sc_count sc_cornerChange sc_voteApart sc_dots sc_cells sc_shotX sc_shotY sc_shotColumns ++ (gCh G qCh ch_taken ch_turn ch_drift ch_right ch_closed ch_follower ch_ahead ch_linkE ch_linkF ch_placeRight ch_placeLower ++ (gSe G qSe se_cells se_apart se_surplus se_seamCost u se_gap se_cost))) 21 [(0, .ref (qSe 0)), (1, .ref (qSc 0)), (2, .ref (qCh 0))] []) → V G p l e rmSe_cut s m args below meth c 4 A Q 0 0 (gSc G qSc sc_columns sc_count sc_cornerChange sc_voteApart sc_dots sc_cells sc_shotX sc_shotY sc_shotColumns ++ (gCh G qCh ch_taken ch_turn ch_drift ch_right ch_closed ch_follower ch_ahead ch_linkE ch_linkF ch_placeRight ch_placeLower ++ (gSe G qSe se_cells se_apart se_surplus se_seamCost c2_se_column se_gap se_cost))) 2 [(0, .ref (qSe 0)), (1, .ref (qSc 0)), (2, .ref (qCh 0)), (3, .int a2_3)] [] := by
    intro n
    induction n with
    | zero =>
      intro a2_3 c2_se_column u hf hk
      rw [fSe_cut_L2] at hf
      cases hf
    | succ n ih =>
      intro a2_3 c2_se_column u hf hk
      rw [fSe_cut_L2] at hf
      exact ih a2_3 c2_se_column _ hf hk
  obtain ⟨u1, hu1, hf⟩ := bd hf
  refine L2 FU (0 : Int32) se_column u1 hu1 ?_
  refine V_iconst E (v := (0 : Int32)) dX6_cut_21 (by decide) ?_
  refine V_istore_n E (lv' := [(0, .ref (qSe 0)), (1, .ref (qSc 0)), (2, .ref (qCh 0)), (3, .int (0 : Int32))]) dX6_cut_22 (by decide) rfl ?_
  have L23 : ∀ (n : Nat) (a23_3 : Int32) (c23_se_cells : Nat → Int32) (c23_se_apart : Nat → Int32) (c23_se_surplus : Nat → Int32) (c23_se_seamCost : Nat → Int32) (c23_se_column : Nat → Int32) (c23_se_gap : Nat → Int32) (c23_se_cost : Nat → Int32) (u : (Nat → Int32) × (Nat → Int32) × (Nat → Int32) × (Nat → Int32) × (Nat → Int32) × (Nat → Int32) × (Nat → Int32)), fSe_cut_L23 sc_count sc_cells ch_follower ch_linkE ch_linkF n a23_3 c23_se_cells c23_se_apart c23_se_surplus c23_se_seamCost c23_se_column c23_se_gap c23_se_cost = some u → (V G p l e rmSe_cut s m args below meth c 4 A Q 0 0 (gSc G qSc sc_columns sc_count sc_cornerChange sc_voteApart sc_dots sc_cells sc_shotX sc_shotY sc_shotColumns ++ (gCh G qCh ch_taken ch_turn ch_drift ch_right ch_closed ch_follower ch_ahead ch_linkE ch_linkF ch_placeRight ch_placeLower ++ (gSe G qSe u.1 u.2.1 u.2.2.1 u.2.2.2.1 u.2.2.2.2.1 u.2.2.2.2.2.1 u.2.2.2.2.2.2))) 51 [] []) → V G p l e rmSe_cut s m args below meth c 4 A Q 0 0 (gSc G qSc sc_columns sc_count sc_cornerChange sc_voteApart sc_dots sc_cells sc_shotX sc_shotY sc_shotColumns ++ (gCh G qCh ch_taken ch_turn ch_drift ch_right ch_closed ch_follower ch_ahead ch_linkE ch_linkF ch_placeRight ch_placeLower ++ (gSe G qSe c23_se_cells c23_se_apart c23_se_surplus c23_se_seamCost c23_se_column c23_se_gap c23_se_cost))) 23 [(0, .ref (qSe 0)), (1, .ref (qSc 0)), (2, .ref (qCh 0)), (3, .int a23_3)] [] := by
    intro n
    induction n with
    | zero =>
      intro a23_3 c23_se_cells c23_se_apart c23_se_surplus c23_se_seamCost c23_se_column c23_se_gap c23_se_cost u hf hk
      rw [fSe_cut_L23] at hf
      cases hf
    | succ n ih =>
      intro a23_3 c23_se_cells c23_se_apart c23_se_surplus c23_se_seamCost c23_se_column c23_se_gap c23_se_cost u hf hk
      rw [fSe_cut_L23] at hf
      exact ih a23_3 c23_se_cells c23_se_apart c23_se_surplus c23_se_seamCost c23_se_column c23_se_gap c23_se_cost _ hf hk
  obtain ⟨u2, hu2, hf⟩ := bd hf
  refine L23 FU (0 : Int32) se_cells se_apart se_surplus se_seamCost u1 se_gap se_cost u2 hu2 ?_
  have h9 := hret 51 [] dX6_cut_51
  rw [← (Option.some.inj hf)] at h9
  exact h9
