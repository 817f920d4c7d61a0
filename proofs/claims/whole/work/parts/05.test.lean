def fRi_within (p0 : Int32) (p1 : Int32) (p2 : Int32) : Option (Int32) :=
  if p0 < p1 then
   some (0 : Int32)
  else
   if p2 < p0 then
    some (0 : Int32)
   else
    some (1 : Int32)
def fRi_isInner (p0 : Int32) (p1 : Int32) : Option (Int32) :=
  if p0 < (1 : Int32) then
   some (0 : Int32)
  else
   if (2 : Int32) < p0 then
    some (0 : Int32)
   else
    if p1 < (1 : Int32) then
     some (0 : Int32)
    else
     if (6 : Int32) < p1 then
      some (0 : Int32)
     else
      some (1 : Int32)
def fSc_hasDot (p1 : Int32) (p2 : Int32) (sc_columns : Int32) : Option (Int32) :=
  if p1 < 0 then
   some (0 : Int32)
  else
   if (6 : Int32) ≤ p1 then
    some (0 : Int32)
   else
    if p2 < 0 then
     some (0 : Int32)
    else
     if sc_columns ≤ p2 then
      some (0 : Int32)
     else
      if (32 : Int32) ≤ p2 then
       some (0 : Int32)
      else
       some (1 : Int32)
def fSc_dotAt (p1 : Int32) (p2 : Int32) (sc_columns : Int32) (sc_dots : Nat → Int32) : Option (Int32) :=
  (fSc_hasDot p1 p2 sc_columns).bind fun u1 =>
  if u1 = 0 then
   some (0 : Int32)
  else
   if 0 ≤ ((p1 * (32 : Int32)) + p2).toInt ∧ ((p1 * (32 : Int32)) + p2).toInt < 192 then
    some (sc_dots ((p1 * (32 : Int32)) + p2).toNatClampNeg)
   else none
def fSc_hasPicture (p1 : Int32) (sc_count : Int32) : Option (Int32) :=
  if p1 < 0 then
   some (0 : Int32)
  else
   if sc_count ≤ p1 then
    some (0 : Int32)
   else
    if (6 : Int32) ≤ p1 then
     some (0 : Int32)
    else
     some (1 : Int32)
def fSc_hasCell (p1 : Int32) (p2 : Int32) (p3 : Int32) (sc_count : Int32) : Option (Int32) :=
  if p1 < 0 then
   some (0 : Int32)
  else
   if sc_count ≤ p1 then
    some (0 : Int32)
   else
    if (6 : Int32) ≤ p1 then
     some (0 : Int32)
    else
     if p2 < 0 then
      some (0 : Int32)
     else
      if (4 : Int32) ≤ p2 then
       some (0 : Int32)
      else
       if p3 < 0 then
        some (0 : Int32)
       else
        if (8 : Int32) ≤ p3 then
         some (0 : Int32)
        else
         some (1 : Int32)
def fSc_cellAt (p1 : Int32) (p2 : Int32) (p3 : Int32) (sc_count : Int32) (sc_cells : Nat → Int32) : Option (Int32) :=
  (fSc_hasCell p1 p2 p3 sc_count).bind fun u1 =>
  if u1 = 0 then
   some (0 : Int32)
  else
   if 0 ≤ (((p1 * (32 : Int32)) + (p2 * (8 : Int32))) + p3).toInt ∧ (((p1 * (32 : Int32)) + (p2 * (8 : Int32))) + p3).toInt < 192 then
    some (sc_cells (((p1 * (32 : Int32)) + (p2 * (8 : Int32))) + p3).toNatClampNeg)
   else none
def fLi_areTwo (p0 : Int32) (p1 : Int32) : Option (Int32) :=
  (fRi_within p0 (0 : Int32) (5 : Int32)).bind fun u1 =>
  if u1 = 0 then
   some (0 : Int32)
  else
   (fRi_within p1 (0 : Int32) (5 : Int32)).bind fun u3 =>
   if u3 = 0 then
    some (0 : Int32)
   else
    some (1 : Int32)
def fLi_cornerBit (p0 : Int32) (p1 : Int32) : Option (Int32) :=
  some ((1 : Int32) <<< (((((6 : Int32) * (p0 - (1 : Int32))) + p1) - (1 : Int32)) &&& 31))
def fLi_changeAlong (p1 : Int32) (p2 : Int32) (p3 : Int32) (p4 : Int32) (p5 : Int32) (sc_count : Int32) (sc_cells : Nat → Int32) : Option (Int32) :=
  (fSc_cellAt p1 p2 p3 sc_count sc_cells).bind fun u1 =>
  (fSc_cellAt p1 (p2 - p4) (p3 - p5) sc_count sc_cells).bind fun u2 =>
  (fSc_cellAt p1 (p2 + p4) (p3 + p5) sc_count sc_cells).bind fun u3 =>
  some ((if 0 ≤ (u1 - u2) then (u1 - u2) else 0 - (u1 - u2)) + (if 0 ≤ (u1 - u3) then (u1 - u3) else 0 - (u1 - u3)))
def fLi_changeAt (p1 : Int32) (p2 : Int32) (p3 : Int32) (sc_count : Int32) (sc_cells : Nat → Int32) : Option (Int32) :=
  (fLi_changeAlong p1 p2 p3 (0 : Int32) (1 : Int32) sc_count sc_cells).bind fun u1 =>
  (fLi_changeAlong p1 p2 p3 (1 : Int32) (0 : Int32) sc_count sc_cells).bind fun u2 =>
  (fLi_changeAlong p1 p2 p3 (1 : Int32) (1 : Int32) sc_count sc_cells).bind fun u3 =>
  (some (if u3 < (if u2 < u1 then u2 else u1) then u3 else (if u2 < u1 then u2 else u1))).bind fun (t4 : Int32) =>
  (fLi_changeAlong p1 p2 p3 (1 : Int32) (-1 : Int32) sc_count sc_cells).bind fun u5 =>
  some (if u5 < t4 then u5 else t4)
abbrev rmRi_within : Room := { frames := 0, cells := 0, slots := 0, locals := 0 }
theorem wd_yX7_within : wdS yX7_within cX7_within 3 (some .boolean) 3 := ⟨wc_yX7_within, wst_yX7_within, wini_X7, by decide +kernel, by decide +kernel, by decide +kernel⟩
set_option maxHeartbeats 4000000 in
set_option maxRecDepth 100000 in
theorem kRi_within (l : Launch) (G : wG) (p0 : Int32) (p1 : Int32) (p2 : Int32) (o : Int32) (hf : fRi_within p0 p1 p2 = some o) : Ct G l yX7_within cX7_within 3 (some .boolean) rmRi_within [.int p0, .int p1, .int p2] [] (some (.int o)) [] := by
  refine Ct.ofZ (by decide +kernel) (Nat.le_of_ble_eq_true rfl) (fun p e s m args below meth c A Q E hret => ?_)
  unfold fRi_within at hf
  show V G p l e rmRi_within s m args below meth c 3 A Q [] 0 [(0, .int p0), (1, .int p1), (2, .int p2)] []
  refine V_iload_n E 0 rfl dX7_within_0 ?_
  refine V_iload_n E 1 rfl dX7_within_1 ?_
  refine V_icmp_lt E (tgt := 14) dX7_within_2 (by decide) (fun hc1 => ?_) (fun hc1 => ?_)
  · have hf := ip hc1 hf
    refine V_iconst E (v := (0 : Int32)) dX7_within_14 (by decide) ?_
    have h9 := hret 15 [(0, .int p0), (1, .int p1), (2, .int p2)] dX7_within_15
    rw [← (Option.some.inj hf)] at h9
    exact h9 (by decide)
  · have hf := iq hc1 hf
    refine V_iload_n E 0 rfl dX7_within_5 ?_
    refine V_iload_n E 2 rfl dX7_within_6 ?_
    refine V_icmp_gt E (tgt := 14) dX7_within_7 (by decide) (fun hc2 => ?_) (fun hc2 => ?_)
    · have hf := ip hc2 hf
      refine V_iconst E (v := (0 : Int32)) dX7_within_14 (by decide) ?_
      have h9 := hret 15 [(0, .int p0), (1, .int p1), (2, .int p2)] dX7_within_15
      rw [← (Option.some.inj hf)] at h9
      exact h9 (by decide)
    · have hf := iq hc2 hf
      refine V_iconst E (v := (1 : Int32)) dX7_within_10 (by decide) ?_
      refine V_goto E (tgt := 15) dX7_within_11 (by decide) ?_
      have h9 := hret 15 [(0, .int p0), (1, .int p1), (2, .int p2)] dX7_within_15
      rw [← (Option.some.inj hf)] at h9
      exact h9 (by decide)
abbrev rmRi_isInner : Room := { frames := 0, cells := 0, slots := 0, locals := 0 }
theorem wd_yX7_isInner : wdS yX7_isInner cX7_isInner 2 (some .boolean) 2 := ⟨wc_yX7_isInner, wst_yX7_isInner, wini_X7, by decide +kernel, by decide +kernel, by decide +kernel⟩
set_option maxHeartbeats 4000000 in
set_option maxRecDepth 100000 in
theorem kRi_isInner (l : Launch) (G : wG) (p0 : Int32) (p1 : Int32) (o : Int32) (hf : fRi_isInner p0 p1 = some o) : Ct G l yX7_isInner cX7_isInner 2 (some .boolean) rmRi_isInner [.int p0, .int p1] [] (some (.int o)) [] := by
  refine Ct.ofZ (by decide +kernel) (Nat.le_of_ble_eq_true rfl) (fun p e s m args below meth c A Q E hret => ?_)
  unfold fRi_isInner at hf
  show V G p l e rmRi_isInner s m args below meth c 2 A Q [] 0 [(0, .int p0), (1, .int p1)] []
  refine V_iload_n E 0 rfl dX7_isInner_0 ?_
  refine V_iconst E (v := (1 : Int32)) dX7_isInner_1 (by decide) ?_
  refine V_icmp_lt E (tgt := 25) dX7_isInner_2 (by decide) (fun hc1 => ?_) (fun hc1 => ?_)
  · have hf := ip hc1 hf
    refine V_iconst E (v := (0 : Int32)) dX7_isInner_25 (by decide) ?_
    have h9 := hret 26 [(0, .int p0), (1, .int p1)] dX7_isInner_26
    rw [← (Option.some.inj hf)] at h9
    exact h9 (by decide)
  · have hf := iq hc1 hf
    refine V_iload_n E 0 rfl dX7_isInner_5 ?_
    refine V_iconst E (v := (2 : Int32)) dX7_isInner_6 (by decide) ?_
    refine V_icmp_gt E (tgt := 25) dX7_isInner_7 (by decide) (fun hc2 => ?_) (fun hc2 => ?_)
    · have hf := ip hc2 hf
      refine V_iconst E (v := (0 : Int32)) dX7_isInner_25 (by decide) ?_
      have h9 := hret 26 [(0, .int p0), (1, .int p1)] dX7_isInner_26
      rw [← (Option.some.inj hf)] at h9
      exact h9 (by decide)
    · have hf := iq hc2 hf
      refine V_iload_n E 1 rfl dX7_isInner_10 ?_
      refine V_iconst E (v := (1 : Int32)) dX7_isInner_11 (by decide) ?_
      refine V_icmp_lt E (tgt := 25) dX7_isInner_12 (by decide) (fun hc3 => ?_) (fun hc3 => ?_)
      · have hf := ip hc3 hf
        refine V_iconst E (v := (0 : Int32)) dX7_isInner_25 (by decide) ?_
        have h9 := hret 26 [(0, .int p0), (1, .int p1)] dX7_isInner_26
        rw [← (Option.some.inj hf)] at h9
        exact h9 (by decide)
      · have hf := iq hc3 hf
        refine V_iload_n E 1 rfl dX7_isInner_15 ?_
        refine V_bipush E (v := (6 : Int32)) dX7_isInner_16 (by decide) ?_
        refine V_icmp_gt E (tgt := 25) dX7_isInner_18 (by decide) (fun hc4 => ?_) (fun hc4 => ?_)
        · have hf := ip hc4 hf
          refine V_iconst E (v := (0 : Int32)) dX7_isInner_25 (by decide) ?_
          have h9 := hret 26 [(0, .int p0), (1, .int p1)] dX7_isInner_26
          rw [← (Option.some.inj hf)] at h9
          exact h9 (by decide)
        · have hf := iq hc4 hf
          refine V_iconst E (v := (1 : Int32)) dX7_isInner_21 (by decide) ?_
          refine V_goto E (tgt := 26) dX7_isInner_22 (by decide) ?_
          have h9 := hret 26 [(0, .int p0), (1, .int p1)] dX7_isInner_26
          rw [← (Option.some.inj hf)] at h9
          exact h9 (by decide)
abbrev rmSc_hasDot : Room := { frames := 0, cells := 0, slots := 0, locals := 0 }
theorem wd_yX5_hasDot : wdV yX5_hasDot cX5_hasDot 3 (some .boolean) 2 := ⟨wc_yX5_hasDot, wi_yX5_hasDot, wse_yX5_hasDot, wini_X5, by decide +kernel, by decide +kernel, by decide +kernel⟩
set_option maxHeartbeats 4000000 in
set_option maxRecDepth 100000 in
theorem kSc_hasDot (l : Launch) (G : wG) (qSc : Nat → Nat) (p1 : Int32) (p2 : Int32) (sc_columns : Int32) (sc_count : Int32) (sc_cornerChange : Int32) (sc_voteApart : Int32) (sc_dots : Nat → Int32) (sc_cells : Nat → Int32) (sc_shotX : Nat → Int32) (sc_shotY : Nat → Int32) (sc_shotColumns : Nat → Int32) (o : Int32) (hf : fSc_hasDot p1 p2 sc_columns = some o) : Ct G l yX5_hasDot cX5_hasDot 3 (some .boolean) rmSc_hasDot [.ref (qSc 0), .int p1, .int p2] (gSc G qSc sc_columns sc_count sc_cornerChange sc_voteApart sc_dots sc_cells sc_shotX sc_shotY sc_shotColumns) (some (.int o)) (gSc G qSc sc_columns sc_count sc_cornerChange sc_voteApart sc_dots sc_cells sc_shotX sc_shotY sc_shotColumns) := by
  refine Ct.ofZ (by decide +kernel) (Nat.le_of_ble_eq_true rfl) (fun p e s m args below meth c A Q E hret => ?_)
  unfold fSc_hasDot at hf
  show V G p l e rmSc_hasDot s m args below meth c 3 A Q (gSc G qSc sc_columns sc_count sc_cornerChange sc_voteApart sc_dots sc_cells sc_shotX sc_shotY sc_shotColumns) 0 [(0, .ref (qSc 0)), (1, .int p1), (2, .int p2)] []
  refine V_iload_n E 1 rfl dX5_hasDot_0 ?_
  refine V_if_lt E (tgt := 32) dX5_hasDot_1 (by decide) (fun hc1 => ?_) (fun hc1 => ?_)
  · have hf := ip hc1 hf
    refine V_iconst E (v := (0 : Int32)) dX5_hasDot_32 (by decide) ?_
    have h9 := hret 33 [(0, .ref (qSc 0)), (1, .int p1), (2, .int p2)] dX5_hasDot_33
    rw [← (Option.some.inj hf)] at h9
    exact h9 (by decide)
  · have hf := iq hc1 hf
    refine V_iload_n E 1 rfl dX5_hasDot_4 ?_
    refine V_bipush E (v := (6 : Int32)) dX5_hasDot_5 (by decide) ?_
    refine V_icmp_ge E (tgt := 32) dX5_hasDot_7 (by decide) (fun hc2 => ?_) (fun hc2 => ?_)
    · have hf := ip hc2 hf
      refine V_iconst E (v := (0 : Int32)) dX5_hasDot_32 (by decide) ?_
      have h9 := hret 33 [(0, .ref (qSc 0)), (1, .int p1), (2, .int p2)] dX5_hasDot_33
      rw [← (Option.some.inj hf)] at h9
      exact h9 (by decide)
    · have hf := iq hc2 hf
      refine V_iload_n E 2 rfl dX5_hasDot_10 ?_
      refine V_if_lt E (tgt := 32) dX5_hasDot_11 (by decide) (fun hc3 => ?_) (fun hc3 => ?_)
      · have hf := ip hc3 hf
        refine V_iconst E (v := (0 : Int32)) dX5_hasDot_32 (by decide) ?_
        have h9 := hret 33 [(0, .ref (qSc 0)), (1, .int p1), (2, .int p2)] dX5_hasDot_33
        rw [← (Option.some.inj hf)] at h9
        exact h9 (by decide)
      · have hf := iq hc3 hf
        refine V_iload_n E 2 rfl dX5_hasDot_14 ?_
        refine V_aload_n E 0 rfl dX5_hasDot_15 ?_
        refine gfX5_34 E 0 rfl rfl dX5_hasDot_16 ?_
        refine V_icmp_ge E (tgt := 32) dX5_hasDot_19 (by decide) (fun hc4 => ?_) (fun hc4 => ?_)
        · have hf := ip hc4 hf
          refine V_iconst E (v := (0 : Int32)) dX5_hasDot_32 (by decide) ?_
          have h9 := hret 33 [(0, .ref (qSc 0)), (1, .int p1), (2, .int p2)] dX5_hasDot_33
          rw [← (Option.some.inj hf)] at h9
          exact h9 (by decide)
        · have hf := iq hc4 hf
          refine V_iload_n E 2 rfl dX5_hasDot_22 ?_
          refine V_bipush E (v := (32 : Int32)) dX5_hasDot_23 (by decide) ?_
          refine V_icmp_ge E (tgt := 32) dX5_hasDot_25 (by decide) (fun hc5 => ?_) (fun hc5 => ?_)
          · have hf := ip hc5 hf
            refine V_iconst E (v := (0 : Int32)) dX5_hasDot_32 (by decide) ?_
            have h9 := hret 33 [(0, .ref (qSc 0)), (1, .int p1), (2, .int p2)] dX5_hasDot_33
            rw [← (Option.some.inj hf)] at h9
            exact h9 (by decide)
          · have hf := iq hc5 hf
            refine V_iconst E (v := (1 : Int32)) dX5_hasDot_28 (by decide) ?_
            refine V_goto E (tgt := 33) dX5_hasDot_29 (by decide) ?_
            have h9 := hret 33 [(0, .ref (qSc 0)), (1, .int p1), (2, .int p2)] dX5_hasDot_33
            rw [← (Option.some.inj hf)] at h9
            exact h9 (by decide)
abbrev rmSc_dotAt : Room := { frames := 1, cells := 0, slots := 0, locals := 22 }
theorem wd_yX5_dotAt : wdV yX5_dotAt cX5_dotAt 3 (some .int) 2 := ⟨wc_yX5_dotAt, wi_yX5_dotAt, wse_yX5_dotAt, wini_X5, by decide +kernel, by decide +kernel, by decide +kernel⟩
set_option maxHeartbeats 4000000 in
set_option maxRecDepth 100000 in
theorem kSc_dotAt (l : Launch) (G : wG) (qSc : Nat → Nat) (p1 : Int32) (p2 : Int32) (sc_columns : Int32) (sc_count : Int32) (sc_cornerChange : Int32) (sc_voteApart : Int32) (sc_dots : Nat → Int32) (sc_cells : Nat → Int32) (sc_shotX : Nat → Int32) (sc_shotY : Nat → Int32) (sc_shotColumns : Nat → Int32) (o : Int32) (hf : fSc_dotAt p1 p2 sc_columns sc_dots = some o) : Ct G l yX5_dotAt cX5_dotAt 3 (some .int) rmSc_dotAt [.ref (qSc 0), .int p1, .int p2] (gSc G qSc sc_columns sc_count sc_cornerChange sc_voteApart sc_dots sc_cells sc_shotX sc_shotY sc_shotColumns) (some (.int o)) (gSc G qSc sc_columns sc_count sc_cornerChange sc_voteApart sc_dots sc_cells sc_shotX sc_shotY sc_shotColumns) := by
  refine Ct.ofI (by decide +kernel) (Nat.le_of_ble_eq_true rfl) (fun p e s m args below meth c A Q E hret => ?_)
  unfold fSc_dotAt at hf
  show V G p l e rmSc_dotAt s m args below meth c 3 A Q (gSc G qSc sc_columns sc_count sc_cornerChange sc_voteApart sc_dots sc_cells sc_shotX sc_shotY sc_shotColumns) 0 [(0, .ref (qSc 0)), (1, .int p1), (2, .int p2)] []
  refine V_aload_n E 0 rfl dX5_dotAt_0 ?_
  refine V_iload_n E 1 rfl dX5_dotAt_1 ?_
  refine V_iload_n E 2 rfl dX5_dotAt_2 ?_
  obtain ⟨u1, hu1, hf⟩ := bd hf
  refine V_frW E (Rn_V E (rest := []) mlX5_46 wd_yX5_hasDot (kSc_hasDot l G qSc p1 p2 sc_columns sc_count sc_cornerChange sc_voteApart sc_dots sc_cells sc_shotX sc_shotY sc_shotColumns u1 hu1) ⟨rfl, rfl, Nat.le_of_ble_eq_true rfl, Nat.le_of_ble_eq_true rfl⟩ 0 rfl rfl rfl rfl rfl (Nat.le_of_ble_eq_true rfl) dX5_dotAt_3) ?_
  show V G p l e rmSc_dotAt s m args below meth c 3 A Q (gSc G qSc sc_columns sc_count sc_cornerChange sc_voteApart sc_dots sc_cells sc_shotX sc_shotY sc_shotColumns) 6 [(0, .ref (qSc 0)), (1, .int p1), (2, .int p2)] [.int u1]
  refine V_if_eq E (tgt := 23) dX5_dotAt_6 (by decide) (fun hc2 => ?_) (fun hc2 => ?_)
  · have hf := ip hc2 hf
    refine V_iconst E (v := (0 : Int32)) dX5_dotAt_23 (by decide) ?_
    have h9 := hret 24 [(0, .ref (qSc 0)), (1, .int p1), (2, .int p2)] dX5_dotAt_24
    rw [← (Option.some.inj hf)] at h9
    exact h9
  · have hf := iq hc2 hf
    refine V_aload_n E 0 rfl dX5_dotAt_9 ?_
    refine gfX5_18 E 0 rfl rfl dX5_dotAt_10 ?_
    refine V_iload_n E 1 rfl dX5_dotAt_13 ?_
    refine V_bipush E (v := (32 : Int32)) dX5_dotAt_14 (by decide) ?_
    refine V_imul E dX5_dotAt_16 ?_
    refine V_iload_n E 2 rfl dX5_dotAt_17 ?_
    refine V_iadd E dX5_dotAt_18 ?_
    obtain ⟨hi3, hf⟩ := asr_ok hf
    refine V_iald E 1 rfl hi3 dX5_dotAt_19 ?_
    refine V_goto E (tgt := 24) dX5_dotAt_20 (by decide) ?_
    have h9 := hret 24 [(0, .ref (qSc 0)), (1, .int p1), (2, .int p2)] dX5_dotAt_24
    rw [← (Option.some.inj hf)] at h9
    exact h9
abbrev rmSc_hasPicture : Room := { frames := 0, cells := 0, slots := 0, locals := 0 }
theorem wd_yX5_hasPicture : wdV yX5_hasPicture cX5_hasPicture 2 (some .boolean) 1 := ⟨wc_yX5_hasPicture, wi_yX5_hasPicture, wse_yX5_hasPicture, wini_X5, by decide +kernel, by decide +kernel, by decide +kernel⟩
set_option maxHeartbeats 4000000 in
set_option maxRecDepth 100000 in
theorem kSc_hasPicture (l : Launch) (G : wG) (qSc : Nat → Nat) (p1 : Int32) (sc_columns : Int32) (sc_count : Int32) (sc_cornerChange : Int32) (sc_voteApart : Int32) (sc_dots : Nat → Int32) (sc_cells : Nat → Int32) (sc_shotX : Nat → Int32) (sc_shotY : Nat → Int32) (sc_shotColumns : Nat → Int32) (o : Int32) (hf : fSc_hasPicture p1 sc_count = some o) : Ct G l yX5_hasPicture cX5_hasPicture 2 (some .boolean) rmSc_hasPicture [.ref (qSc 0), .int p1] (gSc G qSc sc_columns sc_count sc_cornerChange sc_voteApart sc_dots sc_cells sc_shotX sc_shotY sc_shotColumns) (some (.int o)) (gSc G qSc sc_columns sc_count sc_cornerChange sc_voteApart sc_dots sc_cells sc_shotX sc_shotY sc_shotColumns) := by
  refine Ct.ofZ (by decide +kernel) (Nat.le_of_ble_eq_true rfl) (fun p e s m args below meth c A Q E hret => ?_)
  unfold fSc_hasPicture at hf
  show V G p l e rmSc_hasPicture s m args below meth c 2 A Q (gSc G qSc sc_columns sc_count sc_cornerChange sc_voteApart sc_dots sc_cells sc_shotX sc_shotY sc_shotColumns) 0 [(0, .ref (qSc 0)), (1, .int p1)] []
  refine V_iload_n E 1 rfl dX5_hasPicture_0 ?_
  refine V_if_lt E (tgt := 22) dX5_hasPicture_1 (by decide) (fun hc1 => ?_) (fun hc1 => ?_)
  · have hf := ip hc1 hf
    refine V_iconst E (v := (0 : Int32)) dX5_hasPicture_22 (by decide) ?_
    have h9 := hret 23 [(0, .ref (qSc 0)), (1, .int p1)] dX5_hasPicture_23
    rw [← (Option.some.inj hf)] at h9
    exact h9 (by decide)
  · have hf := iq hc1 hf
    refine V_iload_n E 1 rfl dX5_hasPicture_4 ?_
    refine V_aload_n E 0 rfl dX5_hasPicture_5 ?_
    refine gfX5_37 E 0 rfl rfl dX5_hasPicture_6 ?_
    refine V_icmp_ge E (tgt := 22) dX5_hasPicture_9 (by decide) (fun hc2 => ?_) (fun hc2 => ?_)
    · have hf := ip hc2 hf
      refine V_iconst E (v := (0 : Int32)) dX5_hasPicture_22 (by decide) ?_
      have h9 := hret 23 [(0, .ref (qSc 0)), (1, .int p1)] dX5_hasPicture_23
      rw [← (Option.some.inj hf)] at h9
      exact h9 (by decide)
    · have hf := iq hc2 hf
      refine V_iload_n E 1 rfl dX5_hasPicture_12 ?_
      refine V_bipush E (v := (6 : Int32)) dX5_hasPicture_13 (by decide) ?_
      refine V_icmp_ge E (tgt := 22) dX5_hasPicture_15 (by decide) (fun hc3 => ?_) (fun hc3 => ?_)
      · have hf := ip hc3 hf
        refine V_iconst E (v := (0 : Int32)) dX5_hasPicture_22 (by decide) ?_
        have h9 := hret 23 [(0, .ref (qSc 0)), (1, .int p1)] dX5_hasPicture_23
        rw [← (Option.some.inj hf)] at h9
        exact h9 (by decide)
      · have hf := iq hc3 hf
        refine V_iconst E (v := (1 : Int32)) dX5_hasPicture_18 (by decide) ?_
        refine V_goto E (tgt := 23) dX5_hasPicture_19 (by decide) ?_
        have h9 := hret 23 [(0, .ref (qSc 0)), (1, .int p1)] dX5_hasPicture_23
        rw [← (Option.some.inj hf)] at h9
        exact h9 (by decide)
abbrev rmSc_hasCell : Room := { frames := 0, cells := 0, slots := 0, locals := 0 }
theorem wd_yX5_hasCell : wdV yX5_hasCell cX5_hasCell 4 (some .boolean) 3 := ⟨wc_yX5_hasCell, wi_yX5_hasCell, wse_yX5_hasCell, wini_X5, by decide +kernel, by decide +kernel, by decide +kernel⟩
set_option maxHeartbeats 4000000 in
set_option maxRecDepth 100000 in
theorem kSc_hasCell (l : Launch) (G : wG) (qSc : Nat → Nat) (p1 : Int32) (p2 : Int32) (p3 : Int32) (sc_columns : Int32) (sc_count : Int32) (sc_cornerChange : Int32) (sc_voteApart : Int32) (sc_dots : Nat → Int32) (sc_cells : Nat → Int32) (sc_shotX : Nat → Int32) (sc_shotY : Nat → Int32) (sc_shotColumns : Nat → Int32) (o : Int32) (hf : fSc_hasCell p1 p2 p3 sc_count = some o) : Ct G l yX5_hasCell cX5_hasCell 4 (some .boolean) rmSc_hasCell [.ref (qSc 0), .int p1, .int p2, .int p3] (gSc G qSc sc_columns sc_count sc_cornerChange sc_voteApart sc_dots sc_cells sc_shotX sc_shotY sc_shotColumns) (some (.int o)) (gSc G qSc sc_columns sc_count sc_cornerChange sc_voteApart sc_dots sc_cells sc_shotX sc_shotY sc_shotColumns) := by
  refine Ct.ofZ (by decide +kernel) (Nat.le_of_ble_eq_true rfl) (fun p e s m args below meth c A Q E hret => ?_)
  unfold fSc_hasCell at hf
  show V G p l e rmSc_hasCell s m args below meth c 4 A Q (gSc G qSc sc_columns sc_count sc_cornerChange sc_voteApart sc_dots sc_cells sc_shotX sc_shotY sc_shotColumns) 0 [(0, .ref (qSc 0)), (1, .int p1), (2, .int p2), (3, .int p3)] []
  refine V_iload_n E 1 rfl dX5_hasCell_0 ?_
  refine V_if_lt E (tgt := 41) dX5_hasCell_1 (by decide) (fun hc1 => ?_) (fun hc1 => ?_)
  · have hf := ip hc1 hf
    refine V_iconst E (v := (0 : Int32)) dX5_hasCell_41 (by decide) ?_
    have h9 := hret 42 [(0, .ref (qSc 0)), (1, .int p1), (2, .int p2), (3, .int p3)] dX5_hasCell_42
    rw [← (Option.some.inj hf)] at h9
    exact h9 (by decide)
  · have hf := iq hc1 hf
    refine V_iload_n E 1 rfl dX5_hasCell_4 ?_
    refine V_aload_n E 0 rfl dX5_hasCell_5 ?_
    refine gfX5_37 E 0 rfl rfl dX5_hasCell_6 ?_
    refine V_icmp_ge E (tgt := 41) dX5_hasCell_9 (by decide) (fun hc2 => ?_) (fun hc2 => ?_)
    · have hf := ip hc2 hf
      refine V_iconst E (v := (0 : Int32)) dX5_hasCell_41 (by decide) ?_
      have h9 := hret 42 [(0, .ref (qSc 0)), (1, .int p1), (2, .int p2), (3, .int p3)] dX5_hasCell_42
      rw [← (Option.some.inj hf)] at h9
      exact h9 (by decide)
    · have hf := iq hc2 hf
      refine V_iload_n E 1 rfl dX5_hasCell_12 ?_
      refine V_bipush E (v := (6 : Int32)) dX5_hasCell_13 (by decide) ?_
      refine V_icmp_ge E (tgt := 41) dX5_hasCell_15 (by decide) (fun hc3 => ?_) (fun hc3 => ?_)
      · have hf := ip hc3 hf
        refine V_iconst E (v := (0 : Int32)) dX5_hasCell_41 (by decide) ?_
        have h9 := hret 42 [(0, .ref (qSc 0)), (1, .int p1), (2, .int p2), (3, .int p3)] dX5_hasCell_42
        rw [← (Option.some.inj hf)] at h9
        exact h9 (by decide)
      · have hf := iq hc3 hf
        refine V_iload_n E 2 rfl dX5_hasCell_18 ?_
        refine V_if_lt E (tgt := 41) dX5_hasCell_19 (by decide) (fun hc4 => ?_) (fun hc4 => ?_)
        · have hf := ip hc4 hf
          refine V_iconst E (v := (0 : Int32)) dX5_hasCell_41 (by decide) ?_
          have h9 := hret 42 [(0, .ref (qSc 0)), (1, .int p1), (2, .int p2), (3, .int p3)] dX5_hasCell_42
          rw [← (Option.some.inj hf)] at h9
          exact h9 (by decide)
        · have hf := iq hc4 hf
          refine V_iload_n E 2 rfl dX5_hasCell_22 ?_
          refine V_iconst E (v := (4 : Int32)) dX5_hasCell_23 (by decide) ?_
          refine V_icmp_ge E (tgt := 41) dX5_hasCell_24 (by decide) (fun hc5 => ?_) (fun hc5 => ?_)
          · have hf := ip hc5 hf
            refine V_iconst E (v := (0 : Int32)) dX5_hasCell_41 (by decide) ?_
            have h9 := hret 42 [(0, .ref (qSc 0)), (1, .int p1), (2, .int p2), (3, .int p3)] dX5_hasCell_42
            rw [← (Option.some.inj hf)] at h9
            exact h9 (by decide)
          · have hf := iq hc5 hf
            refine V_iload_n E 3 rfl dX5_hasCell_27 ?_
            refine V_if_lt E (tgt := 41) dX5_hasCell_28 (by decide) (fun hc6 => ?_) (fun hc6 => ?_)
            · have hf := ip hc6 hf
              refine V_iconst E (v := (0 : Int32)) dX5_hasCell_41 (by decide) ?_
              have h9 := hret 42 [(0, .ref (qSc 0)), (1, .int p1), (2, .int p2), (3, .int p3)] dX5_hasCell_42
              rw [← (Option.some.inj hf)] at h9
              exact h9 (by decide)
            · have hf := iq hc6 hf
              refine V_iload_n E 3 rfl dX5_hasCell_31 ?_
              refine V_bipush E (v := (8 : Int32)) dX5_hasCell_32 (by decide) ?_
              refine V_icmp_ge E (tgt := 41) dX5_hasCell_34 (by decide) (fun hc7 => ?_) (fun hc7 => ?_)
              · have hf := ip hc7 hf
                refine V_iconst E (v := (0 : Int32)) dX5_hasCell_41 (by decide) ?_
                have h9 := hret 42 [(0, .ref (qSc 0)), (1, .int p1), (2, .int p2), (3, .int p3)] dX5_hasCell_42
                rw [← (Option.some.inj hf)] at h9
                exact h9 (by decide)
              · have hf := iq hc7 hf
                refine V_iconst E (v := (1 : Int32)) dX5_hasCell_37 (by decide) ?_
                refine V_goto E (tgt := 42) dX5_hasCell_38 (by decide) ?_
                have h9 := hret 42 [(0, .ref (qSc 0)), (1, .int p1), (2, .int p2), (3, .int p3)] dX5_hasCell_42
                rw [← (Option.some.inj hf)] at h9
                exact h9 (by decide)
abbrev rmSc_cellAt : Room := { frames := 1, cells := 0, slots := 0, locals := 23 }
theorem wd_yX5_cellAt : wdV yX5_cellAt cX5_cellAt 4 (some .int) 3 := ⟨wc_yX5_cellAt, wi_yX5_cellAt, wse_yX5_cellAt, wini_X5, by decide +kernel, by decide +kernel, by decide +kernel⟩
set_option maxHeartbeats 4000000 in
set_option maxRecDepth 100000 in
theorem kSc_cellAt (l : Launch) (G : wG) (qSc : Nat → Nat) (p1 : Int32) (p2 : Int32) (p3 : Int32) (sc_columns : Int32) (sc_count : Int32) (sc_cornerChange : Int32) (sc_voteApart : Int32) (sc_dots : Nat → Int32) (sc_cells : Nat → Int32) (sc_shotX : Nat → Int32) (sc_shotY : Nat → Int32) (sc_shotColumns : Nat → Int32) (o : Int32) (hf : fSc_cellAt p1 p2 p3 sc_count sc_cells = some o) : Ct G l yX5_cellAt cX5_cellAt 4 (some .int) rmSc_cellAt [.ref (qSc 0), .int p1, .int p2, .int p3] (gSc G qSc sc_columns sc_count sc_cornerChange sc_voteApart sc_dots sc_cells sc_shotX sc_shotY sc_shotColumns) (some (.int o)) (gSc G qSc sc_columns sc_count sc_cornerChange sc_voteApart sc_dots sc_cells sc_shotX sc_shotY sc_shotColumns) := by
  refine Ct.ofI (by decide +kernel) (Nat.le_of_ble_eq_true rfl) (fun p e s m args below meth c A Q E hret => ?_)
  unfold fSc_cellAt at hf
  show V G p l e rmSc_cellAt s m args below meth c 4 A Q (gSc G qSc sc_columns sc_count sc_cornerChange sc_voteApart sc_dots sc_cells sc_shotX sc_shotY sc_shotColumns) 0 [(0, .ref (qSc 0)), (1, .int p1), (2, .int p2), (3, .int p3)] []
  refine V_aload_n E 0 rfl dX5_cellAt_0 ?_
  refine V_iload_n E 1 rfl dX5_cellAt_1 ?_
  refine V_iload_n E 2 rfl dX5_cellAt_2 ?_
  refine V_iload_n E 3 rfl dX5_cellAt_3 ?_
  obtain ⟨u1, hu1, hf⟩ := bd hf
  refine V_frW E (Rn_V E (rest := []) mlX5_50 wd_yX5_hasCell (kSc_hasCell l G qSc p1 p2 p3 sc_columns sc_count sc_cornerChange sc_voteApart sc_dots sc_cells sc_shotX sc_shotY sc_shotColumns u1 hu1) ⟨rfl, rfl, Nat.le_of_ble_eq_true rfl, Nat.le_of_ble_eq_true rfl⟩ 0 rfl rfl rfl rfl rfl (Nat.le_of_ble_eq_true rfl) dX5_cellAt_4) ?_
  show V G p l e rmSc_cellAt s m args below meth c 4 A Q (gSc G qSc sc_columns sc_count sc_cornerChange sc_voteApart sc_dots sc_cells sc_shotX sc_shotY sc_shotColumns) 7 [(0, .ref (qSc 0)), (1, .int p1), (2, .int p2), (3, .int p3)] [.int u1]
  refine V_if_eq E (tgt := 29) dX5_cellAt_7 (by decide) (fun hc2 => ?_) (fun hc2 => ?_)
  · have hf := ip hc2 hf
    refine V_iconst E (v := (0 : Int32)) dX5_cellAt_29 (by decide) ?_
    have h9 := hret 30 [(0, .ref (qSc 0)), (1, .int p1), (2, .int p2), (3, .int p3)] dX5_cellAt_30
    rw [← (Option.some.inj hf)] at h9
    exact h9
  · have hf := iq hc2 hf
    refine V_aload_n E 0 rfl dX5_cellAt_10 ?_
    refine gfX5_22 E 0 rfl rfl dX5_cellAt_11 ?_
    refine V_iload_n E 1 rfl dX5_cellAt_14 ?_
    refine V_bipush E (v := (32 : Int32)) dX5_cellAt_15 (by decide) ?_
    refine V_imul E dX5_cellAt_17 ?_
    refine V_iload_n E 2 rfl dX5_cellAt_18 ?_
    refine V_bipush E (v := (8 : Int32)) dX5_cellAt_19 (by decide) ?_
    refine V_imul E dX5_cellAt_21 ?_
    refine V_iadd E dX5_cellAt_22 ?_
    refine V_iload_n E 3 rfl dX5_cellAt_23 ?_
    refine V_iadd E dX5_cellAt_24 ?_
    obtain ⟨hi3, hf⟩ := asr_ok hf
    refine V_iald E 2 rfl hi3 dX5_cellAt_25 ?_
    refine V_goto E (tgt := 30) dX5_cellAt_26 (by decide) ?_
    have h9 := hret 30 [(0, .ref (qSc 0)), (1, .int p1), (2, .int p2), (3, .int p3)] dX5_cellAt_30
    rw [← (Option.some.inj hf)] at h9
    exact h9
abbrev rmLi_areTwo : Room := { frames := 1, cells := 0, slots := 0, locals := 22 }
theorem wd_yX3_areTwo : wdS yX3_areTwo cX3_areTwo 2 (some .boolean) 2 := ⟨wc_yX3_areTwo, wst_yX3_areTwo, wini_X3, by decide +kernel, by decide +kernel, by decide +kernel⟩
set_option maxHeartbeats 4000000 in
set_option maxRecDepth 100000 in
theorem kLi_areTwo (l : Launch) (G : wG) (p0 : Int32) (p1 : Int32) (o : Int32) (hf : fLi_areTwo p0 p1 = some o) : Ct G l yX3_areTwo cX3_areTwo 2 (some .boolean) rmLi_areTwo [.int p0, .int p1] [] (some (.int o)) [] := by
  refine Ct.ofZ (by decide +kernel) (Nat.le_of_ble_eq_true rfl) (fun p e s m args below meth c A Q E hret => ?_)
  unfold fLi_areTwo at hf
  show V G p l e rmLi_areTwo s m args below meth c 2 A Q [] 0 [(0, .int p0), (1, .int p1)] []
  refine V_iload_n E 0 rfl dX3_areTwo_0 ?_
  refine V_iconst E (v := (0 : Int32)) dX3_areTwo_1 (by decide) ?_
  refine V_iconst E (v := (5 : Int32)) dX3_areTwo_2 (by decide) ?_
  obtain ⟨u1, hu1, hf⟩ := bd hf
  refine V_fr0 E (Rn_N E (rest := []) 1 rfl wd_yX7_within (kRi_within l G p0 (0 : Int32) (5 : Int32) u1 hu1) ⟨rfl, rfl, Nat.le_of_ble_eq_true rfl, Nat.le_of_ble_eq_true rfl⟩ rfl rfl (Nat.le_of_ble_eq_true rfl) dX3_areTwo_3) ?_
  show V G p l e rmLi_areTwo s m args below meth c 2 A Q [] 6 [(0, .int p0), (1, .int p1)] [.int u1]
  refine V_if_eq E (tgt := 22) dX3_areTwo_6 (by decide) (fun hc2 => ?_) (fun hc2 => ?_)
  · have hf := ip hc2 hf
    refine V_iconst E (v := (0 : Int32)) dX3_areTwo_22 (by decide) ?_
    have h9 := hret 23 [(0, .int p0), (1, .int p1)] dX3_areTwo_23
    rw [← (Option.some.inj hf)] at h9
    exact h9 (by decide)
  · have hf := iq hc2 hf
    refine V_iload_n E 1 rfl dX3_areTwo_9 ?_
    refine V_iconst E (v := (0 : Int32)) dX3_areTwo_10 (by decide) ?_
    refine V_iconst E (v := (5 : Int32)) dX3_areTwo_11 (by decide) ?_
    obtain ⟨u3, hu3, hf⟩ := bd hf
    refine V_fr0 E (Rn_N E (rest := []) 1 rfl wd_yX7_within (kRi_within l G p1 (0 : Int32) (5 : Int32) u3 hu3) ⟨rfl, rfl, Nat.le_of_ble_eq_true rfl, Nat.le_of_ble_eq_true rfl⟩ rfl rfl (Nat.le_of_ble_eq_true rfl) dX3_areTwo_12) ?_
    show V G p l e rmLi_areTwo s m args below meth c 2 A Q [] 15 [(0, .int p0), (1, .int p1)] [.int u3]
    refine V_if_eq E (tgt := 22) dX3_areTwo_15 (by decide) (fun hc4 => ?_) (fun hc4 => ?_)
    · have hf := ip hc4 hf
      refine V_iconst E (v := (0 : Int32)) dX3_areTwo_22 (by decide) ?_
      have h9 := hret 23 [(0, .int p0), (1, .int p1)] dX3_areTwo_23
      rw [← (Option.some.inj hf)] at h9
      exact h9 (by decide)
    · have hf := iq hc4 hf
      refine V_iconst E (v := (1 : Int32)) dX3_areTwo_18 (by decide) ?_
      refine V_goto E (tgt := 23) dX3_areTwo_19 (by decide) ?_
      have h9 := hret 23 [(0, .int p0), (1, .int p1)] dX3_areTwo_23
      rw [← (Option.some.inj hf)] at h9
      exact h9 (by decide)
abbrev rmLi_cornerBit : Room := { frames := 0, cells := 0, slots := 0, locals := 0 }
theorem wd_yX3_cornerBit : wdS yX3_cornerBit cX3_cornerBit 2 (some .int) 2 := ⟨wc_yX3_cornerBit, wst_yX3_cornerBit, wini_X3, by decide +kernel, by decide +kernel, by decide +kernel⟩
set_option maxHeartbeats 4000000 in
set_option maxRecDepth 100000 in
theorem kLi_cornerBit (l : Launch) (G : wG) (p0 : Int32) (p1 : Int32) (o : Int32) (hf : fLi_cornerBit p0 p1 = some o) : Ct G l yX3_cornerBit cX3_cornerBit 2 (some .int) rmLi_cornerBit [.int p0, .int p1] [] (some (.int o)) [] := by
  refine Ct.ofI (by decide +kernel) (Nat.le_of_ble_eq_true rfl) (fun p e s m args below meth c A Q E hret => ?_)
  unfold fLi_cornerBit at hf
  show V G p l e rmLi_cornerBit s m args below meth c 2 A Q [] 0 [(0, .int p0), (1, .int p1)] []
  refine V_iconst E (v := (1 : Int32)) dX3_cornerBit_0 (by decide) ?_
  refine V_bipush E (v := (6 : Int32)) dX3_cornerBit_1 (by decide) ?_
  refine V_iload_n E 0 rfl dX3_cornerBit_3 ?_
  refine V_iconst E (v := (1 : Int32)) dX3_cornerBit_4 (by decide) ?_
  refine V_isub E dX3_cornerBit_5 ?_
  refine V_imul E dX3_cornerBit_6 ?_
  refine V_iload_n E 1 rfl dX3_cornerBit_7 ?_
  refine V_iadd E dX3_cornerBit_8 ?_
  refine V_iconst E (v := (1 : Int32)) dX3_cornerBit_9 (by decide) ?_
  refine V_isub E dX3_cornerBit_10 ?_
  refine V_ishl E dX3_cornerBit_11 ?_
  have h9 := hret 12 [(0, .int p0), (1, .int p1)] dX3_cornerBit_12
  rw [← (Option.some.inj hf)] at h9
  exact h9
abbrev rmLi_changeAlong : Room := { frames := 2, cells := 0, slots := 0, locals := 46 }
theorem wd_yX3_changeAlong : wdS yX3_changeAlong cX3_changeAlong 7 (some .int) 6 := ⟨wc_yX3_changeAlong, wst_yX3_changeAlong, wini_X3, by decide +kernel, by decide +kernel, by decide +kernel⟩
set_option maxHeartbeats 4000000 in
set_option maxRecDepth 100000 in
theorem kLi_changeAlong (l : Launch) (G : wG) (qSc : Nat → Nat) (p1 : Int32) (p2 : Int32) (p3 : Int32) (p4 : Int32) (p5 : Int32) (sc_columns : Int32) (sc_count : Int32) (sc_cornerChange : Int32) (sc_voteApart : Int32) (sc_dots : Nat → Int32) (sc_cells : Nat → Int32) (sc_shotX : Nat → Int32) (sc_shotY : Nat → Int32) (sc_shotColumns : Nat → Int32) (o : Int32) (hf : fLi_changeAlong p1 p2 p3 p4 p5 sc_count sc_cells = some o) : Ct G l yX3_changeAlong cX3_changeAlong 7 (some .int) rmLi_changeAlong [.ref (qSc 0), .int p1, .int p2, .int p3, .int p4, .int p5] (gSc G qSc sc_columns sc_count sc_cornerChange sc_voteApart sc_dots sc_cells sc_shotX sc_shotY sc_shotColumns) (some (.int o)) (gSc G qSc sc_columns sc_count sc_cornerChange sc_voteApart sc_dots sc_cells sc_shotX sc_shotY sc_shotColumns) := by
  refine Ct.ofI (by decide +kernel) (Nat.le_of_ble_eq_true rfl) (fun p e s m args below meth c A Q E hret => ?_)
  unfold fLi_changeAlong at hf
  show V G p l e rmLi_changeAlong s m args below meth c 7 A Q (gSc G qSc sc_columns sc_count sc_cornerChange sc_voteApart sc_dots sc_cells sc_shotX sc_shotY sc_shotColumns) 0 [(0, .ref (qSc 0)), (1, .int p1), (2, .int p2), (3, .int p3), (4, .int p4), (5, .int p5)] []
  refine V_aload_n E 0 rfl dX3_changeAlong_0 ?_
  refine V_iload_n E 1 rfl dX3_changeAlong_1 ?_
  refine V_iload_n E 2 rfl dX3_changeAlong_2 ?_
  refine V_iload_n E 3 rfl dX3_changeAlong_3 ?_
  obtain ⟨u1, hu1, hf⟩ := bd hf
  refine V_frW E (Rn_V E (rest := []) mlX3_43 wd_yX5_cellAt (kSc_cellAt l G qSc p1 p2 p3 sc_columns sc_count sc_cornerChange sc_voteApart sc_dots sc_cells sc_shotX sc_shotY sc_shotColumns u1 hu1) ⟨rfl, rfl, Nat.le_of_ble_eq_true rfl, Nat.le_of_ble_eq_true rfl⟩ 0 rfl rfl rfl rfl rfl (Nat.le_of_ble_eq_true rfl) dX3_changeAlong_4) ?_
  show V G p l e rmLi_changeAlong s m args below meth c 7 A Q (gSc G qSc sc_columns sc_count sc_cornerChange sc_voteApart sc_dots sc_cells sc_shotX sc_shotY sc_shotColumns) 7 [(0, .ref (qSc 0)), (1, .int p1), (2, .int p2), (3, .int p3), (4, .int p4), (5, .int p5)] [.int u1]
  refine V_istore E (lv' := [(0, .ref (qSc 0)), (1, .int p1), (2, .int p2), (3, .int p3), (4, .int p4), (5, .int p5), (6, .int u1)]) dX3_changeAlong_7 (by decide) rfl ?_
  refine V_iload E 6 rfl dX3_changeAlong_9 ?_
  refine V_aload_n E 0 rfl dX3_changeAlong_11 ?_
  refine V_iload_n E 1 rfl dX3_changeAlong_12 ?_
  refine V_iload_n E 2 rfl dX3_changeAlong_13 ?_
  refine V_iload E 4 rfl dX3_changeAlong_14 ?_
  refine V_isub E dX3_changeAlong_16 ?_
  refine V_iload_n E 3 rfl dX3_changeAlong_17 ?_
  refine V_iload E 5 rfl dX3_changeAlong_18 ?_
  refine V_isub E dX3_changeAlong_20 ?_
  obtain ⟨u2, hu2, hf⟩ := bd hf
  refine V_frW E (Rn_V E (rest := [.int u1]) mlX3_43 wd_yX5_cellAt (kSc_cellAt l G qSc p1 (p2 - p4) (p3 - p5) sc_columns sc_count sc_cornerChange sc_voteApart sc_dots sc_cells sc_shotX sc_shotY sc_shotColumns u2 hu2) ⟨rfl, rfl, Nat.le_of_ble_eq_true rfl, Nat.le_of_ble_eq_true rfl⟩ 0 rfl rfl rfl rfl rfl (Nat.le_of_ble_eq_true rfl) dX3_changeAlong_21) ?_
  show V G p l e rmLi_changeAlong s m args below meth c 7 A Q (gSc G qSc sc_columns sc_count sc_cornerChange sc_voteApart sc_dots sc_cells sc_shotX sc_shotY sc_shotColumns) 24 [(0, .ref (qSc 0)), (1, .int p1), (2, .int p2), (3, .int p3), (4, .int p4), (5, .int p5), (6, .int u1)] [.int u2, .int u1]
  refine V_isub E dX3_changeAlong_24 ?_
  refine V_mabs E mlX3_49 dX3_changeAlong_25 ⟨Nat.le_of_ble_eq_true rfl, Nat.le_of_ble_eq_true rfl⟩ ?_
  refine V_iload E 6 rfl dX3_changeAlong_28 ?_
  refine V_aload_n E 0 rfl dX3_changeAlong_30 ?_
  refine V_iload_n E 1 rfl dX3_changeAlong_31 ?_
  refine V_iload_n E 2 rfl dX3_changeAlong_32 ?_
  refine V_iload E 4 rfl dX3_changeAlong_33 ?_
  refine V_iadd E dX3_changeAlong_35 ?_
  refine V_iload_n E 3 rfl dX3_changeAlong_36 ?_
  refine V_iload E 5 rfl dX3_changeAlong_37 ?_
  refine V_iadd E dX3_changeAlong_39 ?_
  obtain ⟨u3, hu3, hf⟩ := bd hf
  refine V_frW E (Rn_V E (rest := [.int u1, .int (if 0 ≤ (u1 - u2) then (u1 - u2) else 0 - (u1 - u2))]) mlX3_43 wd_yX5_cellAt (kSc_cellAt l G qSc p1 (p2 + p4) (p3 + p5) sc_columns sc_count sc_cornerChange sc_voteApart sc_dots sc_cells sc_shotX sc_shotY sc_shotColumns u3 hu3) ⟨rfl, rfl, Nat.le_of_ble_eq_true rfl, Nat.le_of_ble_eq_true rfl⟩ 0 rfl rfl rfl rfl rfl (Nat.le_of_ble_eq_true rfl) dX3_changeAlong_40) ?_
  show V G p l e rmLi_changeAlong s m args below meth c 7 A Q (gSc G qSc sc_columns sc_count sc_cornerChange sc_voteApart sc_dots sc_cells sc_shotX sc_shotY sc_shotColumns) 43 [(0, .ref (qSc 0)), (1, .int p1), (2, .int p2), (3, .int p3), (4, .int p4), (5, .int p5), (6, .int u1)] [.int u3, .int u1, .int (if 0 ≤ (u1 - u2) then (u1 - u2) else 0 - (u1 - u2))]
  refine V_isub E dX3_changeAlong_43 ?_
  refine V_mabs E mlX3_49 dX3_changeAlong_44 ⟨Nat.le_of_ble_eq_true rfl, Nat.le_of_ble_eq_true rfl⟩ ?_
  refine V_iadd E dX3_changeAlong_47 ?_
  have h9 := hret 48 [(0, .ref (qSc 0)), (1, .int p1), (2, .int p2), (3, .int p3), (4, .int p4), (5, .int p5), (6, .int u1)] dX3_changeAlong_48
  rw [← (Option.some.inj hf)] at h9
  exact h9
abbrev rmLi_changeAt : Room := { frames := 3, cells := 0, slots := 0, locals := 72 }
theorem wd_yX3_changeAt : wdS yX3_changeAt cX3_changeAt 5 (some .int) 4 := ⟨wc_yX3_changeAt, wst_yX3_changeAt, wini_X3, by decide +kernel, by decide +kernel, by decide +kernel⟩
set_option maxHeartbeats 4000000 in
set_option maxRecDepth 100000 in
theorem kLi_changeAt (l : Launch) (G : wG) (qSc : Nat → Nat) (p1 : Int32) (p2 : Int32) (p3 : Int32) (sc_columns : Int32) (sc_count : Int32) (sc_cornerChange : Int32) (sc_voteApart : Int32) (sc_dots : Nat → Int32) (sc_cells : Nat → Int32) (sc_shotX : Nat → Int32) (sc_shotY : Nat → Int32) (sc_shotColumns : Nat → Int32) (o : Int32) (hf : fLi_changeAt p1 p2 p3 sc_count sc_cells = some o) : Ct G l yX3_changeAt cX3_changeAt 5 (some .int) rmLi_changeAt [.ref (qSc 0), .int p1, .int p2, .int p3] (gSc G qSc sc_columns sc_count sc_cornerChange sc_voteApart sc_dots sc_cells sc_shotX sc_shotY sc_shotColumns) (some (.int o)) (gSc G qSc sc_columns sc_count sc_cornerChange sc_voteApart sc_dots sc_cells sc_shotX sc_shotY sc_shotColumns) := by
  refine Ct.ofI (by decide +kernel) (Nat.le_of_ble_eq_true rfl) (fun p e s m args below meth c A Q E hret => ?_)
  unfold fLi_changeAt at hf
  show V G p l e rmLi_changeAt s m args below meth c 5 A Q (gSc G qSc sc_columns sc_count sc_cornerChange sc_voteApart sc_dots sc_cells sc_shotX sc_shotY sc_shotColumns) 0 [(0, .ref (qSc 0)), (1, .int p1), (2, .int p2), (3, .int p3)] []
  refine V_aload_n E 0 rfl dX3_changeAt_0 ?_
  refine V_iload_n E 1 rfl dX3_changeAt_1 ?_
  refine V_iload_n E 2 rfl dX3_changeAt_2 ?_
  refine V_iload_n E 3 rfl dX3_changeAt_3 ?_
  refine V_iconst E (v := (0 : Int32)) dX3_changeAt_4 (by decide) ?_
  refine V_iconst E (v := (1 : Int32)) dX3_changeAt_5 (by decide) ?_
  obtain ⟨u1, hu1, hf⟩ := bd hf
  refine V_frW E (Rn_S E (rest := []) mlX3_59 wd_yX3_changeAlong (kLi_changeAlong l G qSc p1 p2 p3 (0 : Int32) (1 : Int32) sc_columns sc_count sc_cornerChange sc_voteApart sc_dots sc_cells sc_shotX sc_shotY sc_shotColumns u1 hu1) ⟨rfl, rfl, Nat.le_of_ble_eq_true rfl, Nat.le_of_ble_eq_true rfl⟩ rfl rfl (Nat.le_of_ble_eq_true rfl) dX3_changeAt_6) ?_
  show V G p l e rmLi_changeAt s m args below meth c 5 A Q (gSc G qSc sc_columns sc_count sc_cornerChange sc_voteApart sc_dots sc_cells sc_shotX sc_shotY sc_shotColumns) 9 [(0, .ref (qSc 0)), (1, .int p1), (2, .int p2), (3, .int p3)] [.int u1]
  refine V_istore E (lv' := [(0, .ref (qSc 0)), (1, .int p1), (2, .int p2), (3, .int p3), (4, .int u1)]) dX3_changeAt_9 (by decide) rfl ?_
  refine V_iload E 4 rfl dX3_changeAt_11 ?_
  refine V_aload_n E 0 rfl dX3_changeAt_13 ?_
  refine V_iload_n E 1 rfl dX3_changeAt_14 ?_
  refine V_iload_n E 2 rfl dX3_changeAt_15 ?_
  refine V_iload_n E 3 rfl dX3_changeAt_16 ?_
  refine V_iconst E (v := (1 : Int32)) dX3_changeAt_17 (by decide) ?_
  refine V_iconst E (v := (0 : Int32)) dX3_changeAt_18 (by decide) ?_
  obtain ⟨u2, hu2, hf⟩ := bd hf
  refine V_frW E (Rn_S E (rest := [.int u1]) mlX3_59 wd_yX3_changeAlong (kLi_changeAlong l G qSc p1 p2 p3 (1 : Int32) (0 : Int32) sc_columns sc_count sc_cornerChange sc_voteApart sc_dots sc_cells sc_shotX sc_shotY sc_shotColumns u2 hu2) ⟨rfl, rfl, Nat.le_of_ble_eq_true rfl, Nat.le_of_ble_eq_true rfl⟩ rfl rfl (Nat.le_of_ble_eq_true rfl) dX3_changeAt_19) ?_
  show V G p l e rmLi_changeAt s m args below meth c 5 A Q (gSc G qSc sc_columns sc_count sc_cornerChange sc_voteApart sc_dots sc_cells sc_shotX sc_shotY sc_shotColumns) 22 [(0, .ref (qSc 0)), (1, .int p1), (2, .int p2), (3, .int p3), (4, .int u1)] [.int u2, .int u1]
  refine V_mmin E mlX3_63 dX3_changeAt_22 ⟨Nat.le_of_ble_eq_true rfl, Nat.le_of_ble_eq_true rfl⟩ ?_
  refine V_istore E (lv' := [(0, .ref (qSc 0)), (1, .int p1), (2, .int p2), (3, .int p3), (4, .int (if u2 < u1 then u2 else u1))]) dX3_changeAt_25 (by decide) rfl ?_
  refine V_iload E 4 rfl dX3_changeAt_27 ?_
  refine V_aload_n E 0 rfl dX3_changeAt_29 ?_
  refine V_iload_n E 1 rfl dX3_changeAt_30 ?_
  refine V_iload_n E 2 rfl dX3_changeAt_31 ?_
  refine V_iload_n E 3 rfl dX3_changeAt_32 ?_
  refine V_iconst E (v := (1 : Int32)) dX3_changeAt_33 (by decide) ?_
  refine V_iconst E (v := (1 : Int32)) dX3_changeAt_34 (by decide) ?_
  obtain ⟨u3, hu3, hf⟩ := bd hf
  refine V_frW E (Rn_S E (rest := [.int (if u2 < u1 then u2 else u1)]) mlX3_59 wd_yX3_changeAlong (kLi_changeAlong l G qSc p1 p2 p3 (1 : Int32) (1 : Int32) sc_columns sc_count sc_cornerChange sc_voteApart sc_dots sc_cells sc_shotX sc_shotY sc_shotColumns u3 hu3) ⟨rfl, rfl, Nat.le_of_ble_eq_true rfl, Nat.le_of_ble_eq_true rfl⟩ rfl rfl (Nat.le_of_ble_eq_true rfl) dX3_changeAt_35) ?_
  show V G p l e rmLi_changeAt s m args below meth c 5 A Q (gSc G qSc sc_columns sc_count sc_cornerChange sc_voteApart sc_dots sc_cells sc_shotX sc_shotY sc_shotColumns) 38 [(0, .ref (qSc 0)), (1, .int p1), (2, .int p2), (3, .int p3), (4, .int (if u2 < u1 then u2 else u1))] [.int u3, .int (if u2 < u1 then u2 else u1)]
  refine V_mmin E mlX3_63 dX3_changeAt_38 ⟨Nat.le_of_ble_eq_true rfl, Nat.le_of_ble_eq_true rfl⟩ ?_
  obtain ⟨t4, ht4, hf⟩ := bd hf
  have ht4 := Option.some.inj ht4
  rw [ht4]
  refine V_istore E (lv' := [(0, .ref (qSc 0)), (1, .int p1), (2, .int p2), (3, .int p3), (4, .int t4)]) dX3_changeAt_41 (by decide) rfl ?_
  refine V_iload E 4 rfl dX3_changeAt_43 ?_
  refine V_aload_n E 0 rfl dX3_changeAt_45 ?_
  refine V_iload_n E 1 rfl dX3_changeAt_46 ?_
  refine V_iload_n E 2 rfl dX3_changeAt_47 ?_
  refine V_iload_n E 3 rfl dX3_changeAt_48 ?_
  refine V_iconst E (v := (1 : Int32)) dX3_changeAt_49 (by decide) ?_
  refine V_iconst E (v := (-1 : Int32)) dX3_changeAt_50 (by decide) ?_
  obtain ⟨u5, hu5, hf⟩ := bd hf
  refine V_frW E (Rn_S E (rest := [.int t4]) mlX3_59 wd_yX3_changeAlong (kLi_changeAlong l G qSc p1 p2 p3 (1 : Int32) (-1 : Int32) sc_columns sc_count sc_cornerChange sc_voteApart sc_dots sc_cells sc_shotX sc_shotY sc_shotColumns u5 hu5) ⟨rfl, rfl, Nat.le_of_ble_eq_true rfl, Nat.le_of_ble_eq_true rfl⟩ rfl rfl (Nat.le_of_ble_eq_true rfl) dX3_changeAt_51) ?_
  show V G p l e rmLi_changeAt s m args below meth c 5 A Q (gSc G qSc sc_columns sc_count sc_cornerChange sc_voteApart sc_dots sc_cells sc_shotX sc_shotY sc_shotColumns) 54 [(0, .ref (qSc 0)), (1, .int p1), (2, .int p2), (3, .int p3), (4, .int t4)] [.int u5, .int t4]
  refine V_mmin E mlX3_63 dX3_changeAt_54 ⟨Nat.le_of_ble_eq_true rfl, Nat.le_of_ble_eq_true rfl⟩ ?_
  have h9 := hret 57 [(0, .ref (qSc 0)), (1, .int p1), (2, .int p2), (3, .int p3), (4, .int t4)] dX3_changeAt_57
  rw [← (Option.some.inj hf)] at h9
  exact h9
