
abbrev rmRi_within : Room := { frames := 0, cells := 0, slots := 0, locals := 0 }
theorem wd_yX7_within : wdS yX7_within cX7_within 3 (some .boolean) 3 := ⟨wc_yX7_within, wst_yX7_within, wini_X7, by decide +kernel, by decide +kernel, by decide +kernel⟩
set_option maxHeartbeats 4000000 in
set_option maxRecDepth 100000 in
theorem kRi_within (l : Launch) (G : wG) (p0 : Int32) (p1 : Int32) (p2 : Int32) (o : Int32) (hf : fRi_within p0 p1 p2 = some o) : Ct G l yX7_within cX7_within 3 (some .boolean) rmRi_within [.int p0, .int p1, .int p2] [] (some (.int o)) [] := by
  refine Ct.ofZ (by decide +kernel) (Nat.le_of_ble_eq_true rfl) (fun p e s m args below meth c A Q E hret => ?_)
  unfold fRi_within at hf
  show V G p l e rmRi_within s m args below meth c 3 A Q 0 0 [] 0 [(0, .int p0), (1, .int p1), (2, .int p2)] []
  refine V_iload_n E 0 rfl dX7_within_0 ?_
  refine V_iload_n E 1 rfl dX7_within_1 ?_
  refine V_icmp_lt E (tgt := 14) dX7_within_2 (by decide) (fun hc1 => ?_) (fun hc1 => ?_)
  · have hf := ip hc1 hf
    refine V_iconst E (v := (0 : Int32)) dX7_within_14 (by decide) ?_
    have h9 := hret 15 [(0, .int p0), (1, .int p1), (2, .int p2)] dX7_within_15
    rw [← (Option.some.inj hf)] at h9
    exact h9 (z01a (Or.inl rfl))
  · have hf := iq hc1 hf
    refine V_iload_n E 0 rfl dX7_within_5 ?_
    refine V_iload_n E 2 rfl dX7_within_6 ?_
    refine V_icmp_gt E (tgt := 14) dX7_within_7 (by decide) (fun hc2 => ?_) (fun hc2 => ?_)
    · have hf := ip hc2 hf
      refine V_iconst E (v := (0 : Int32)) dX7_within_14 (by decide) ?_
      have h9 := hret 15 [(0, .int p0), (1, .int p1), (2, .int p2)] dX7_within_15
      rw [← (Option.some.inj hf)] at h9
      exact h9 (z01a (Or.inl rfl))
    · have hf := iq hc2 hf
      refine V_iconst E (v := (1 : Int32)) dX7_within_10 (by decide) ?_
      refine V_goto E (tgt := 15) dX7_within_11 (by decide) ?_
      have h9 := hret 15 [(0, .int p0), (1, .int p1), (2, .int p2)] dX7_within_15
      rw [← (Option.some.inj hf)] at h9
      exact h9 (z01a (Or.inr rfl))
abbrev rmSc_hasPicture : Room := { frames := 0, cells := 0, slots := 0, locals := 0 }
theorem wd_yX5_hasPicture : wdV yX5_hasPicture cX5_hasPicture 2 (some .boolean) 1 := ⟨wc_yX5_hasPicture, wi_yX5_hasPicture, wse_yX5_hasPicture, wini_X5, by decide +kernel, by decide +kernel, by decide +kernel⟩
set_option maxHeartbeats 4000000 in
set_option maxRecDepth 100000 in
theorem kSc_hasPicture (l : Launch) (G : wG) (qSc : Nat → Nat) (p1 : Int32) (sc_columns : Int32) (sc_count : Int32) (sc_cornerChange : Int32) (sc_voteApart : Int32) (sc_dots : Nat → Int32) (sc_cells : Nat → Int32) (sc_shotX : Nat → Int32) (sc_shotY : Nat → Int32) (sc_shotColumns : Nat → Int32) (o : Int32) (hf : fSc_hasPicture p1 sc_count = some o) : Ct G l yX5_hasPicture cX5_hasPicture 2 (some .boolean) rmSc_hasPicture [.ref (qSc 0), .int p1] (gSc G qSc sc_columns sc_count sc_cornerChange sc_voteApart sc_dots sc_cells sc_shotX sc_shotY sc_shotColumns) (some (.int o)) (gSc G qSc sc_columns sc_count sc_cornerChange sc_voteApart sc_dots sc_cells sc_shotX sc_shotY sc_shotColumns) := by
  refine Ct.ofZ (by decide +kernel) (Nat.le_of_ble_eq_true rfl) (fun p e s m args below meth c A Q E hret => ?_)
  unfold fSc_hasPicture at hf
  show V G p l e rmSc_hasPicture s m args below meth c 2 A Q 0 0 (gSc G qSc sc_columns sc_count sc_cornerChange sc_voteApart sc_dots sc_cells sc_shotX sc_shotY sc_shotColumns) 0 [(0, .ref (qSc 0)), (1, .int p1)] []
  refine V_iload_n E 1 rfl dX5_hasPicture_0 ?_
  refine V_if_lt E (tgt := 22) dX5_hasPicture_1 (by decide) (fun hc1 => ?_) (fun hc1 => ?_)
  · have hf := ip hc1 hf
    refine V_iconst E (v := (0 : Int32)) dX5_hasPicture_22 (by decide) ?_
    have h9 := hret 23 [(0, .ref (qSc 0)), (1, .int p1)] dX5_hasPicture_23
    rw [← (Option.some.inj hf)] at h9
    exact h9 (z01a (Or.inl rfl))
  · have hf := iq hc1 hf
    refine V_iload_n E 1 rfl dX5_hasPicture_4 ?_
    refine V_aload_n E 0 rfl dX5_hasPicture_5 ?_
    refine gfX5_37 E 0 rfl rfl dX5_hasPicture_6 ?_
    refine V_icmp_ge E (tgt := 22) dX5_hasPicture_9 (by decide) (fun hc2 => ?_) (fun hc2 => ?_)
    · have hf := ip hc2 hf
      refine V_iconst E (v := (0 : Int32)) dX5_hasPicture_22 (by decide) ?_
      have h9 := hret 23 [(0, .ref (qSc 0)), (1, .int p1)] dX5_hasPicture_23
      rw [← (Option.some.inj hf)] at h9
      exact h9 (z01a (Or.inl rfl))
    · have hf := iq hc2 hf
      refine V_iload_n E 1 rfl dX5_hasPicture_12 ?_
      refine V_bipush E (v := (6 : Int32)) dX5_hasPicture_13 (by decide) ?_
      refine V_icmp_ge E (tgt := 22) dX5_hasPicture_15 (by decide) (fun hc3 => ?_) (fun hc3 => ?_)
      · have hf := ip hc3 hf
        refine V_iconst E (v := (0 : Int32)) dX5_hasPicture_22 (by decide) ?_
        have h9 := hret 23 [(0, .ref (qSc 0)), (1, .int p1)] dX5_hasPicture_23
        rw [← (Option.some.inj hf)] at h9
        exact h9 (z01a (Or.inl rfl))
      · have hf := iq hc3 hf
        refine V_iconst E (v := (1 : Int32)) dX5_hasPicture_18 (by decide) ?_
        refine V_goto E (tgt := 23) dX5_hasPicture_19 (by decide) ?_
        have h9 := hret 23 [(0, .ref (qSc 0)), (1, .int p1)] dX5_hasPicture_23
        rw [← (Option.some.inj hf)] at h9
        exact h9 (z01a (Or.inr rfl))
abbrev rmSc_isRight : Room := { frames := 1, cells := 0, slots := 0, locals := 21 }
theorem wd_yX5_isRight : wdV yX5_isRight cX5_isRight 6 (some .boolean) 4 := ⟨wc_yX5_isRight, wi_yX5_isRight, wse_yX5_isRight, wini_X5, by decide +kernel, by decide +kernel, by decide +kernel⟩
set_option maxHeartbeats 4000000 in
set_option maxRecDepth 100000 in
theorem kSc_isRight (l : Launch) (G : wG) (qSc : Nat → Nat) (p1 : Int32) (p2 : Int32) (p3 : Int32) (p4 : Int32) (sc_columns : Int32) (sc_count : Int32) (sc_cornerChange : Int32) (sc_voteApart : Int32) (sc_dots : Nat → Int32) (sc_cells : Nat → Int32) (sc_shotX : Nat → Int32) (sc_shotY : Nat → Int32) (sc_shotColumns : Nat → Int32) (o : Int32) (hf : fSc_isRight p1 p2 p3 p4 sc_count sc_shotX sc_shotY sc_shotColumns = some o) : Ct G l yX5_isRight cX5_isRight 6 (some .boolean) rmSc_isRight [.ref (qSc 0), .int p1, .int p2, .int p3, .int p4] (gSc G qSc sc_columns sc_count sc_cornerChange sc_voteApart sc_dots sc_cells sc_shotX sc_shotY sc_shotColumns) (some (.int o)) (gSc G qSc sc_columns sc_count sc_cornerChange sc_voteApart sc_dots sc_cells sc_shotX sc_shotY sc_shotColumns) := by
  refine Ct.ofZ (by decide +kernel) (Nat.le_of_ble_eq_true rfl) (fun p e s m args below meth c A Q E hret => ?_)
  unfold fSc_isRight at hf
  show V G p l e rmSc_isRight s m args below meth c 6 A Q 0 0 (gSc G qSc sc_columns sc_count sc_cornerChange sc_voteApart sc_dots sc_cells sc_shotX sc_shotY sc_shotColumns) 0 [(0, .ref (qSc 0)), (1, .int p1), (2, .int p2), (3, .int p3), (4, .int p4)] []
  refine V_aload_n E 0 rfl dX5_isRight_0 ?_
  refine V_iload_n E 1 rfl dX5_isRight_1 ?_
  obtain ⟨u1, hu1, hf⟩ := bd hf
  refine V_frW E (Rn_V E (rest := []) mlX5_80 wd_yX5_hasPicture (kSc_hasPicture l G qSc p1 sc_columns sc_count sc_cornerChange sc_voteApart sc_dots sc_cells sc_shotX sc_shotY sc_shotColumns u1 hu1) ⟨rfl, rfl, Nat.le_of_ble_eq_true rfl, Nat.le_of_ble_eq_true rfl⟩ 0 rfl rfl rfl rfl rfl (Nat.le_of_ble_eq_true rfl) dX5_isRight_2) ?_
  show V G p l e rmSc_isRight s m args below meth c 6 A Q 0 0 (gSc G qSc sc_columns sc_count sc_cornerChange sc_voteApart sc_dots sc_cells sc_shotX sc_shotY sc_shotColumns) 5 [(0, .ref (qSc 0)), (1, .int p1), (2, .int p2), (3, .int p3), (4, .int p4)] [.int u1]
  refine V_if_eq E (tgt := 16) dX5_isRight_5 (by decide) (fun hc2 => ?_) (fun hc2 => ?_)
  · have hf := ip hc2 hf
    refine V_iconst E (v := (0 : Int32)) dX5_isRight_16 (by decide) ?_
    have h9 := hret 17 [(0, .ref (qSc 0)), (1, .int p1), (2, .int p2), (3, .int p3), (4, .int p4)] dX5_isRight_17
    rw [← (Option.some.inj hf)] at h9
    exact h9 (z01a (Or.inl rfl))
  · have hf := iq hc2 hf
    refine V_aload_n E 0 rfl dX5_isRight_8 ?_
    refine V_iload_n E 2 rfl dX5_isRight_9 ?_
    obtain ⟨u3, hu3, hf⟩ := bd hf
    refine V_frW E (Rn_V E (rest := []) mlX5_80 wd_yX5_hasPicture (kSc_hasPicture l G qSc p2 sc_columns sc_count sc_cornerChange sc_voteApart sc_dots sc_cells sc_shotX sc_shotY sc_shotColumns u3 hu3) ⟨rfl, rfl, Nat.le_of_ble_eq_true rfl, Nat.le_of_ble_eq_true rfl⟩ 0 rfl rfl rfl rfl rfl (Nat.le_of_ble_eq_true rfl) dX5_isRight_10) ?_
    show V G p l e rmSc_isRight s m args below meth c 6 A Q 0 0 (gSc G qSc sc_columns sc_count sc_cornerChange sc_voteApart sc_dots sc_cells sc_shotX sc_shotY sc_shotColumns) 13 [(0, .ref (qSc 0)), (1, .int p1), (2, .int p2), (3, .int p3), (4, .int p4)] [.int u3]
    refine V_if_ne E (tgt := 18) dX5_isRight_13 (by decide) (fun hc4 => ?_) (fun hc4 => ?_)
    · have hf := iq hc4 hf
      refine V_aload_n E 0 rfl dX5_isRight_18 ?_
      refine gfX5_31 E 0 rfl rfl dX5_isRight_19 ?_
      refine V_iload_n E 1 rfl dX5_isRight_22 ?_
      obtain ⟨hi5, hf⟩ := asr_ok hf
      refine V_iald E 5 rfl hi5 dX5_isRight_23 ?_
      obtain ⟨t6, ht6, hf⟩ := bd hf
      have ht6 := Option.some.inj ht6
      rw [ht6]
      refine V_istore E (lv' := [(0, .ref (qSc 0)), (1, .int p1), (2, .int p2), (3, .int p3), (4, .int p4), (5, .int t6)]) dX5_isRight_24 (by decide) rfl ?_
      refine V_iload E 5 rfl dX5_isRight_26 ?_
      refine V_if_le E (tgt := 84) dX5_isRight_28 (by decide) (fun hc7 => ?_) (fun hc7 => ?_)
      · have hf := ip hc7 hf
        refine V_iconst E (v := (0 : Int32)) dX5_isRight_84 (by decide) ?_
        have h9 := hret 85 [(0, .ref (qSc 0)), (1, .int p1), (2, .int p2), (3, .int p3), (4, .int p4), (5, .int t6)] dX5_isRight_85
        rw [← (Option.some.inj hf)] at h9
        exact h9 (z01a (Or.inl rfl))
      · have hf := iq hc7 hf
        refine V_aload_n E 0 rfl dX5_isRight_31 ?_
        refine gfX5_31 E 0 rfl rfl dX5_isRight_32 ?_
        refine V_iload_n E 2 rfl dX5_isRight_35 ?_
        obtain ⟨hi8, hf⟩ := asr_ok hf
        refine V_iald E 5 rfl hi8 dX5_isRight_36 ?_
        refine V_iload E 5 rfl dX5_isRight_37 ?_
        refine V_icmp_ne E (tgt := 84) dX5_isRight_39 (by decide) (fun hc9 => ?_) (fun hc9 => ?_)
        · have hf := iq hc9 hf
          refine V_iconst E (v := (0 : Int32)) dX5_isRight_84 (by decide) ?_
          have h9 := hret 85 [(0, .ref (qSc 0)), (1, .int p1), (2, .int p2), (3, .int p3), (4, .int p4), (5, .int t6)] dX5_isRight_85
          rw [← (Option.some.inj hf)] at h9
          exact h9 (z01a (Or.inl rfl))
        · have hf := ip hc9 hf
          refine V_aload_n E 0 rfl dX5_isRight_42 ?_
          refine gfX5_28 E 0 rfl rfl dX5_isRight_43 ?_
          refine V_iload_n E 2 rfl dX5_isRight_46 ?_
          obtain ⟨hi10, hf⟩ := asr_ok hf
          refine V_iald E 4 rfl hi10 dX5_isRight_47 ?_
          refine V_aload_n E 0 rfl dX5_isRight_48 ?_
          refine gfX5_28 E 0 rfl rfl dX5_isRight_49 ?_
          refine V_iload_n E 1 rfl dX5_isRight_52 ?_
          obtain ⟨hi11, hf⟩ := asr_ok hf
          refine V_iald E 4 rfl hi11 dX5_isRight_53 ?_
          refine V_iload_n E 3 rfl dX5_isRight_54 ?_
          refine V_iadd E dX5_isRight_55 ?_
          refine V_icmp_ne E (tgt := 84) dX5_isRight_56 (by decide) (fun hc12 => ?_) (fun hc12 => ?_)
          · have hf := iq hc12 hf
            refine V_iconst E (v := (0 : Int32)) dX5_isRight_84 (by decide) ?_
            have h9 := hret 85 [(0, .ref (qSc 0)), (1, .int p1), (2, .int p2), (3, .int p3), (4, .int p4), (5, .int t6)] dX5_isRight_85
            rw [← (Option.some.inj hf)] at h9
            exact h9 (z01a (Or.inl rfl))
          · have hf := ip hc12 hf
            refine V_aload_n E 0 rfl dX5_isRight_59 ?_
            refine gfX5_25 E 0 rfl rfl dX5_isRight_60 ?_
            refine V_iload_n E 2 rfl dX5_isRight_63 ?_
            obtain ⟨hi13, hf⟩ := asr_ok hf
            refine V_iald E 3 rfl hi13 dX5_isRight_64 ?_
            refine V_aload_n E 0 rfl dX5_isRight_65 ?_
            refine gfX5_25 E 0 rfl rfl dX5_isRight_66 ?_
            refine V_iload_n E 1 rfl dX5_isRight_69 ?_
            obtain ⟨hi14, hf⟩ := asr_ok hf
            refine V_iald E 3 rfl hi14 dX5_isRight_70 ?_
            refine V_iload E 4 rfl dX5_isRight_71 ?_
            refine V_iadd E dX5_isRight_73 ?_
            refine V_iload E 5 rfl dX5_isRight_74 ?_
            obtain ⟨hz15, hf⟩ := asr_ok hf
            refine V_irem E dX5_isRight_76 hz15 ?_
            refine V_icmp_ne E (tgt := 84) dX5_isRight_77 (by decide) (fun hc16 => ?_) (fun hc16 => ?_)
            · have hf := iq hc16 hf
              refine V_iconst E (v := (0 : Int32)) dX5_isRight_84 (by decide) ?_
              have h9 := hret 85 [(0, .ref (qSc 0)), (1, .int p1), (2, .int p2), (3, .int p3), (4, .int p4), (5, .int t6)] dX5_isRight_85
              rw [← (Option.some.inj hf)] at h9
              exact h9 (z01a (Or.inl rfl))
            · have hf := ip hc16 hf
              refine V_iconst E (v := (1 : Int32)) dX5_isRight_80 (by decide) ?_
              refine V_goto E (tgt := 85) dX5_isRight_81 (by decide) ?_
              have h9 := hret 85 [(0, .ref (qSc 0)), (1, .int p1), (2, .int p2), (3, .int p3), (4, .int p4), (5, .int t6)] dX5_isRight_85
              rw [← (Option.some.inj hf)] at h9
              exact h9 (z01a (Or.inr rfl))
    · have hf := ip hc4 hf
      refine V_iconst E (v := (0 : Int32)) dX5_isRight_16 (by decide) ?_
      have h9 := hret 17 [(0, .ref (qSc 0)), (1, .int p1), (2, .int p2), (3, .int p3), (4, .int p4)] dX5_isRight_17
      rw [← (Option.some.inj hf)] at h9
      exact h9 (z01a (Or.inl rfl))
abbrev rmJ9_floorDiv_f86c9 : Room := { frames := 0, cells := 0, slots := 0, locals := 0 }
theorem wd_yJ9_floorDiv_f86c9 : wdS yJ9_floorDiv_f86c9 cJ9_floorDiv_f86c9 6 (some .long) 2 := ⟨wc_yJ9_floorDiv_f86c9, wst_yJ9_floorDiv_f86c9, wini_J9, by decide +kernel, by decide +kernel, by decide +kernel⟩
set_option maxHeartbeats 4000000 in
set_option maxRecDepth 100000 in
theorem kJ9_floorDiv_f86c9 (l : Launch) (G : wG) (p0 : Int64) (p2 : Int64) (o : Int64) (hf : fJ9_floorDiv_f86c9 p0 p2 = some o) : Ct G l yJ9_floorDiv_f86c9 cJ9_floorDiv_f86c9 6 (some .long) rmJ9_floorDiv_f86c9 [.long p0, .long p2] [] (some (.long o)) [] := by
  refine Ct.ofJ (by decide +kernel) (Nat.le_of_ble_eq_true rfl) (fun p e s m args below meth c A Q E hret => ?_)
  unfold fJ9_floorDiv_f86c9 at hf
  show V G p l e rmJ9_floorDiv_f86c9 s m args below meth c 6 A Q 0 0 [] 0 [(0, .long p0), (2, .long p2)] []
  refine V_lload_n E 0 rfl dJ9_floorDiv_f86c9_0 ?_
  refine V_lload_n E 1 rfl dJ9_floorDiv_f86c9_1 ?_
  obtain ⟨hz1, hf⟩ := asr_ok hf
  refine V_ldiv E dJ9_floorDiv_f86c9_2 hz1 ?_
  refine V_lstore E (lv' := [(0, .long p0), (2, .long p2), (4, .long (p0 / p2))]) dJ9_floorDiv_f86c9_3 (by decide) rfl ?_
  refine V_lload_n E 0 rfl dJ9_floorDiv_f86c9_5 ?_
  refine V_lload_n E 1 rfl dJ9_floorDiv_f86c9_6 ?_
  refine V_lxor E dJ9_floorDiv_f86c9_7 ?_
  refine V_lconst E (v := (0 : Int64)) dJ9_floorDiv_f86c9_8 (by decide) ?_
  refine V_lcmp E dJ9_floorDiv_f86c9_9 ?_
  refine V_if_ge E (tgt := 27) dJ9_floorDiv_f86c9_10 (by decide) (fun hc2 => ?_) (fun hc2 => ?_)
  · have hf := ip hc2 hf
    refine V_lload E 2 rfl dJ9_floorDiv_f86c9_27 ?_
    have h9 := hret 29 [(0, .long p0), (2, .long p2), (4, .long (p0 / p2))] dJ9_floorDiv_f86c9_29
    rw [← (Option.some.inj hf)] at h9
    exact h9
  · have hf := iq hc2 hf
    refine V_lload E 2 rfl dJ9_floorDiv_f86c9_13 ?_
    refine V_lload_n E 1 rfl dJ9_floorDiv_f86c9_15 ?_
    refine V_lmul E dJ9_floorDiv_f86c9_16 ?_
    refine V_lload_n E 0 rfl dJ9_floorDiv_f86c9_17 ?_
    refine V_lcmp E dJ9_floorDiv_f86c9_18 ?_
    refine V_if_eq E (tgt := 27) dJ9_floorDiv_f86c9_19 (by decide) (fun hc3 => ?_) (fun hc3 => ?_)
    · have hf := ip hc3 hf
      refine V_lload E 2 rfl dJ9_floorDiv_f86c9_27 ?_
      have h9 := hret 29 [(0, .long p0), (2, .long p2), (4, .long (p0 / p2))] dJ9_floorDiv_f86c9_29
      rw [← (Option.some.inj hf)] at h9
      exact h9
    · have hf := iq hc3 hf
      refine V_lload E 2 rfl dJ9_floorDiv_f86c9_22 ?_
      refine V_lconst E (v := (1 : Int64)) dJ9_floorDiv_f86c9_24 (by decide) ?_
      refine V_lsub E dJ9_floorDiv_f86c9_25 ?_
      have h9 := hret 26 [(0, .long p0), (2, .long p2), (4, .long (p0 / p2))] dJ9_floorDiv_f86c9_26
      rw [← (Option.some.inj hf)] at h9
      exact h9
abbrev rmRi_nearest : Room := { frames := 1, cells := 0, slots := 0, locals := 25 }
theorem wd_yX7_nearest : wdS yX7_nearest cX7_nearest 4 (some .long) 2 := ⟨wc_yX7_nearest, wst_yX7_nearest, wini_X7, by decide +kernel, by decide +kernel, by decide +kernel⟩
set_option maxHeartbeats 4000000 in
set_option maxRecDepth 100000 in
theorem kRi_nearest (l : Launch) (G : wG) (p0 : Int64) (p2 : Int64) (o : Int64) (hf : fRi_nearest p0 p2 = some o) : Ct G l yX7_nearest cX7_nearest 4 (some .long) rmRi_nearest [.long p0, .long p2] [] (some (.long o)) [] := by
  refine Ct.ofJ (by decide +kernel) (Nat.le_of_ble_eq_true rfl) (fun p e s m args below meth c A Q E hret => ?_)
  unfold fRi_nearest at hf
  show V G p l e rmRi_nearest s m args below meth c 4 A Q 0 0 [] 0 [(0, .long p0), (2, .long p2)] []
  refine V_lload_n E 1 rfl dX7_nearest_0 ?_
  refine V_lconst E (v := (0 : Int64)) dX7_nearest_1 (by decide) ?_
  refine V_lcmp E dX7_nearest_2 ?_
  refine V_if_le E (tgt := 24) dX7_nearest_3 (by decide) (fun hc1 => ?_) (fun hc1 => ?_)
  · have hf := ip hc1 hf
    refine V_lconst E (v := (0 : Int64)) dX7_nearest_24 (by decide) ?_
    have h9 := hret 25 [(0, .long p0), (2, .long p2)] dX7_nearest_25
    rw [← (Option.some.inj hf)] at h9
    exact h9
  · have hf := iq hc1 hf
    refine V_ldc2 E (v := (2 : Int64)) dX7_nearest_6 kX7_308 ?_
    refine V_lload_n E 0 rfl dX7_nearest_9 ?_
    refine V_lmul E dX7_nearest_10 ?_
    refine V_lload_n E 1 rfl dX7_nearest_11 ?_
    refine V_ladd E dX7_nearest_12 ?_
    refine V_ldc2 E (v := (2 : Int64)) dX7_nearest_13 kX7_308 ?_
    refine V_lload_n E 1 rfl dX7_nearest_16 ?_
    refine V_lmul E dX7_nearest_17 ?_
    obtain ⟨u2, hu2, hf⟩ := bd hf
    refine V_fr0 E (Rn_S E (rest := []) mlX7_310 wd_yJ9_floorDiv_f86c9 (kJ9_floorDiv_f86c9 l G (((2 : Int64) * p0) + p2) ((2 : Int64) * p2) u2 hu2) ⟨rfl, rfl, Nat.le_of_ble_eq_true rfl, Nat.le_of_ble_eq_true rfl⟩ rfl rfl (Nat.le_of_ble_eq_true rfl) dX7_nearest_18) ?_
    show V G p l e rmRi_nearest s m args below meth c 4 A Q 0 0 [] 21 [(0, .long p0), (2, .long p2)] [.long u2]
    refine V_goto E (tgt := 25) dX7_nearest_21 (by decide) ?_
    have h9 := hret 25 [(0, .long p0), (2, .long p2)] dX7_nearest_25
    rw [← (Option.some.inj hf)] at h9
    exact h9
abbrev rmSc_copyFrom : Room := { frames := 1, cells := 0, slots := 0, locals := 26 }
theorem wd_yX5_copyFrom : wdV yX5_copyFrom cX5_copyFrom 2 none 1 := ⟨wc_yX5_copyFrom, wi_yX5_copyFrom, wse_yX5_copyFrom, wini_X5, by decide +kernel, by decide +kernel, by decide +kernel⟩
set_option maxHeartbeats 4000000 in
set_option maxRecDepth 100000 in
theorem kSc_copyFrom (l : Launch) (G : wG) (qSc : Nat → Nat) (qS2 : Nat → Nat) (sc_columns : Int32) (sc_count : Int32) (sc_cornerChange : Int32) (sc_voteApart : Int32) (sc_dots : Nat → Int32) (sc_cells : Nat → Int32) (sc_shotX : Nat → Int32) (sc_shotY : Nat → Int32) (sc_shotColumns : Nat → Int32) (s2_columns : Int32) (s2_count : Int32) (s2_cornerChange : Int32) (s2_voteApart : Int32) (s2_dots : Nat → Int32) (s2_cells : Nat → Int32) (s2_shotX : Nat → Int32) (s2_shotY : Nat → Int32) (s2_shotColumns : Nat → Int32) (o : Int32 × Int32 × Int32 × Int32 × (Nat → Int32) × (Nat → Int32) × (Nat → Int32) × (Nat → Int32) × (Nat → Int32)) (hf : fSc_copyFrom sc_columns sc_count sc_cornerChange sc_voteApart sc_dots sc_cells sc_shotX sc_shotY sc_shotColumns s2_columns s2_count s2_cornerChange s2_voteApart s2_dots s2_cells s2_shotX s2_shotY s2_shotColumns = some o) : Ct G l yX5_copyFrom cX5_copyFrom 2 none rmSc_copyFrom [.ref (qSc 0), .ref (qS2 0)] (gSc G qSc sc_columns sc_count sc_cornerChange sc_voteApart sc_dots sc_cells sc_shotX sc_shotY sc_shotColumns ++ (gSc G qS2 s2_columns s2_count s2_cornerChange s2_voteApart s2_dots s2_cells s2_shotX s2_shotY s2_shotColumns)) none (gSc G qSc o.1 o.2.1 o.2.2.1 o.2.2.2.1 o.2.2.2.2.1 o.2.2.2.2.2.1 o.2.2.2.2.2.2.1 o.2.2.2.2.2.2.2.1 o.2.2.2.2.2.2.2.2 ++ (gSc G qS2 s2_columns s2_count s2_cornerChange s2_voteApart s2_dots s2_cells s2_shotX s2_shotY s2_shotColumns)) := by
  refine Ct.ofV (by decide +kernel) (Nat.le_of_ble_eq_true rfl) (fun p e s m args below meth c A Q E hret => ?_)
  unfold fSc_copyFrom at hf
  show V G p l e rmSc_copyFrom s m args below meth c 2 A Q 0 0 (gSc G qSc sc_columns sc_count sc_cornerChange sc_voteApart sc_dots sc_cells sc_shotX sc_shotY sc_shotColumns ++ (gSc G qS2 s2_columns s2_count s2_cornerChange s2_voteApart s2_dots s2_cells s2_shotX s2_shotY s2_shotColumns)) 0 [(0, .ref (qSc 0)), (1, .ref (qS2 0))] []
  refine V_aload_n E 0 rfl dX5_copyFrom_0 ?_
  refine V_aload_n E 1 rfl dX5_copyFrom_1 ?_
  refine gfX5_34 E 6 rfl rfl dX5_copyFrom_2 ?_
  refine pfX5_34 E (ws' := (gSc G qSc s2_columns sc_count sc_cornerChange sc_voteApart sc_dots sc_cells sc_shotX sc_shotY sc_shotColumns ++ (gSc G qS2 s2_columns s2_count s2_cornerChange s2_voteApart s2_dots s2_cells s2_shotX s2_shotY s2_shotColumns))) 0 rfl (Nat.le_of_ble_eq_true rfl) rfl rfl dX5_copyFrom_5 rfl ?_
  refine V_aload_n E 0 rfl dX5_copyFrom_8 ?_
  refine V_aload_n E 1 rfl dX5_copyFrom_9 ?_
  refine gfX5_37 E 6 rfl rfl dX5_copyFrom_10 ?_
  refine pfX5_37 E (ws' := (gSc G qSc s2_columns s2_count sc_cornerChange sc_voteApart sc_dots sc_cells sc_shotX sc_shotY sc_shotColumns ++ (gSc G qS2 s2_columns s2_count s2_cornerChange s2_voteApart s2_dots s2_cells s2_shotX s2_shotY s2_shotColumns))) 0 rfl (Nat.le_of_ble_eq_true rfl) rfl rfl dX5_copyFrom_13 rfl ?_
  refine V_aload_n E 0 rfl dX5_copyFrom_16 ?_
  refine V_aload_n E 1 rfl dX5_copyFrom_17 ?_
  refine gfX5_9 E 6 rfl rfl dX5_copyFrom_18 ?_
  refine pfX5_9 E (ws' := (gSc G qSc s2_columns s2_count s2_cornerChange sc_voteApart sc_dots sc_cells sc_shotX sc_shotY sc_shotColumns ++ (gSc G qS2 s2_columns s2_count s2_cornerChange s2_voteApart s2_dots s2_cells s2_shotX s2_shotY s2_shotColumns))) 0 rfl (Nat.le_of_ble_eq_true rfl) rfl rfl dX5_copyFrom_21 rfl ?_
  refine V_aload_n E 0 rfl dX5_copyFrom_24 ?_
  refine V_aload_n E 1 rfl dX5_copyFrom_25 ?_
  refine gfX5_15 E 6 rfl rfl dX5_copyFrom_26 ?_
  refine pfX5_15 E (ws' := (gSc G qSc s2_columns s2_count s2_cornerChange s2_voteApart sc_dots sc_cells sc_shotX sc_shotY sc_shotColumns ++ (gSc G qS2 s2_columns s2_count s2_cornerChange s2_voteApart s2_dots s2_cells s2_shotX s2_shotY s2_shotColumns))) 0 rfl (Nat.le_of_ble_eq_true rfl) rfl rfl dX5_copyFrom_29 rfl ?_
  refine V_aload_n E 1 rfl dX5_copyFrom_32 ?_
  refine gfX5_18 E 6 rfl rfl dX5_copyFrom_33 ?_
  refine V_iconst E (v := (0 : Int32)) dX5_copyFrom_36 (by decide) ?_
  refine V_aload_n E 0 rfl dX5_copyFrom_37 ?_
  refine gfX5_18 E 0 rfl rfl dX5_copyFrom_38 ?_
  refine V_iconst E (v := (0 : Int32)) dX5_copyFrom_41 (by decide) ?_
  refine V_sipush E (v := (192 : Int32)) dX5_copyFrom_42 (by decide) ?_
  obtain ⟨hi1, hf⟩ := asr_ok hf
  refine V_copyi E (ws' := (gSc G qSc s2_columns s2_count s2_cornerChange s2_voteApart (va_cpy s2_dots sc_dots (0 : Int32).toNatClampNeg (0 : Int32).toNatClampNeg (192 : Int32).toNatClampNeg) sc_cells sc_shotX sc_shotY sc_shotColumns ++ (gSc G qS2 s2_columns s2_count s2_cornerChange s2_voteApart s2_dots s2_cells s2_shotX s2_shotY s2_shotColumns))) mlX5_40 7 1 rfl rfl hi1 ⟨Nat.le_of_ble_eq_true rfl, Nat.le_of_ble_eq_true rfl⟩ dX5_copyFrom_45 rfl ?_
  refine V_aload_n E 1 rfl dX5_copyFrom_48 ?_
  refine gfX5_22 E 6 rfl rfl dX5_copyFrom_49 ?_
  refine V_iconst E (v := (0 : Int32)) dX5_copyFrom_52 (by decide) ?_
  refine V_aload_n E 0 rfl dX5_copyFrom_53 ?_
  refine gfX5_22 E 0 rfl rfl dX5_copyFrom_54 ?_
  refine V_iconst E (v := (0 : Int32)) dX5_copyFrom_57 (by decide) ?_
  refine V_sipush E (v := (192 : Int32)) dX5_copyFrom_58 (by decide) ?_
  obtain ⟨hi2, hf⟩ := asr_ok hf
  refine V_copyi E (ws' := (gSc G qSc s2_columns s2_count s2_cornerChange s2_voteApart (va_cpy s2_dots sc_dots (0 : Int32).toNatClampNeg (0 : Int32).toNatClampNeg (192 : Int32).toNatClampNeg) (va_cpy s2_cells sc_cells (0 : Int32).toNatClampNeg (0 : Int32).toNatClampNeg (192 : Int32).toNatClampNeg) sc_shotX sc_shotY sc_shotColumns ++ (gSc G qS2 s2_columns s2_count s2_cornerChange s2_voteApart s2_dots s2_cells s2_shotX s2_shotY s2_shotColumns))) mlX5_40 8 2 rfl rfl hi2 ⟨Nat.le_of_ble_eq_true rfl, Nat.le_of_ble_eq_true rfl⟩ dX5_copyFrom_61 rfl ?_
  refine V_aload_n E 1 rfl dX5_copyFrom_64 ?_
  refine gfX5_25 E 6 rfl rfl dX5_copyFrom_65 ?_
  refine V_iconst E (v := (0 : Int32)) dX5_copyFrom_68 (by decide) ?_
  refine V_aload_n E 0 rfl dX5_copyFrom_69 ?_
  refine gfX5_25 E 0 rfl rfl dX5_copyFrom_70 ?_
  refine V_iconst E (v := (0 : Int32)) dX5_copyFrom_73 (by decide) ?_
  refine V_bipush E (v := (6 : Int32)) dX5_copyFrom_74 (by decide) ?_
  obtain ⟨hi3, hf⟩ := asr_ok hf
  refine V_copyi E (ws' := (gSc G qSc s2_columns s2_count s2_cornerChange s2_voteApart (va_cpy s2_dots sc_dots (0 : Int32).toNatClampNeg (0 : Int32).toNatClampNeg (192 : Int32).toNatClampNeg) (va_cpy s2_cells sc_cells (0 : Int32).toNatClampNeg (0 : Int32).toNatClampNeg (192 : Int32).toNatClampNeg) (va_cpy s2_shotX sc_shotX (0 : Int32).toNatClampNeg (0 : Int32).toNatClampNeg (6 : Int32).toNatClampNeg) sc_shotY sc_shotColumns ++ (gSc G qS2 s2_columns s2_count s2_cornerChange s2_voteApart s2_dots s2_cells s2_shotX s2_shotY s2_shotColumns))) mlX5_40 9 3 rfl rfl hi3 ⟨Nat.le_of_ble_eq_true rfl, Nat.le_of_ble_eq_true rfl⟩ dX5_copyFrom_76 rfl ?_
  refine V_aload_n E 1 rfl dX5_copyFrom_79 ?_
  refine gfX5_28 E 6 rfl rfl dX5_copyFrom_80 ?_
  refine V_iconst E (v := (0 : Int32)) dX5_copyFrom_83 (by decide) ?_
  refine V_aload_n E 0 rfl dX5_copyFrom_84 ?_
  refine gfX5_28 E 0 rfl rfl dX5_copyFrom_85 ?_
  refine V_iconst E (v := (0 : Int32)) dX5_copyFrom_88 (by decide) ?_
  refine V_bipush E (v := (6 : Int32)) dX5_copyFrom_89 (by decide) ?_
  obtain ⟨hi4, hf⟩ := asr_ok hf
  refine V_copyi E (ws' := (gSc G qSc s2_columns s2_count s2_cornerChange s2_voteApart (va_cpy s2_dots sc_dots (0 : Int32).toNatClampNeg (0 : Int32).toNatClampNeg (192 : Int32).toNatClampNeg) (va_cpy s2_cells sc_cells (0 : Int32).toNatClampNeg (0 : Int32).toNatClampNeg (192 : Int32).toNatClampNeg) (va_cpy s2_shotX sc_shotX (0 : Int32).toNatClampNeg (0 : Int32).toNatClampNeg (6 : Int32).toNatClampNeg) (va_cpy s2_shotY sc_shotY (0 : Int32).toNatClampNeg (0 : Int32).toNatClampNeg (6 : Int32).toNatClampNeg) sc_shotColumns ++ (gSc G qS2 s2_columns s2_count s2_cornerChange s2_voteApart s2_dots s2_cells s2_shotX s2_shotY s2_shotColumns))) mlX5_40 10 4 rfl rfl hi4 ⟨Nat.le_of_ble_eq_true rfl, Nat.le_of_ble_eq_true rfl⟩ dX5_copyFrom_91 rfl ?_
  refine V_aload_n E 1 rfl dX5_copyFrom_94 ?_
  refine gfX5_31 E 6 rfl rfl dX5_copyFrom_95 ?_
  refine V_iconst E (v := (0 : Int32)) dX5_copyFrom_98 (by decide) ?_
  refine V_aload_n E 0 rfl dX5_copyFrom_99 ?_
  refine gfX5_31 E 0 rfl rfl dX5_copyFrom_100 ?_
  refine V_iconst E (v := (0 : Int32)) dX5_copyFrom_103 (by decide) ?_
  refine V_bipush E (v := (6 : Int32)) dX5_copyFrom_104 (by decide) ?_
  obtain ⟨hi5, hf⟩ := asr_ok hf
  refine V_copyi E (ws' := (gSc G qSc s2_columns s2_count s2_cornerChange s2_voteApart (va_cpy s2_dots sc_dots (0 : Int32).toNatClampNeg (0 : Int32).toNatClampNeg (192 : Int32).toNatClampNeg) (va_cpy s2_cells sc_cells (0 : Int32).toNatClampNeg (0 : Int32).toNatClampNeg (192 : Int32).toNatClampNeg) (va_cpy s2_shotX sc_shotX (0 : Int32).toNatClampNeg (0 : Int32).toNatClampNeg (6 : Int32).toNatClampNeg) (va_cpy s2_shotY sc_shotY (0 : Int32).toNatClampNeg (0 : Int32).toNatClampNeg (6 : Int32).toNatClampNeg) (va_cpy s2_shotColumns sc_shotColumns (0 : Int32).toNatClampNeg (0 : Int32).toNatClampNeg (6 : Int32).toNatClampNeg) ++ (gSc G qS2 s2_columns s2_count s2_cornerChange s2_voteApart s2_dots s2_cells s2_shotX s2_shotY s2_shotColumns))) mlX5_40 11 5 rfl rfl hi5 ⟨Nat.le_of_ble_eq_true rfl, Nat.le_of_ble_eq_true rfl⟩ dX5_copyFrom_106 rfl ?_
  have h9 := hret 109 [(0, .ref (qSc 0)), (1, .ref (qS2 0))] dX5_copyFrom_109
  rw [← (Option.some.inj hf)] at h9
  exact h9
abbrev rmRi_greatestDivisor : Room := { frames := 0, cells := 0, slots := 0, locals := 0 }
theorem wd_yX7_greatestDivisor : wdS yX7_greatestDivisor cX7_greatestDivisor 11 (some .long) 2 := ⟨wc_yX7_greatestDivisor, wst_yX7_greatestDivisor, wini_X7, by decide +kernel, by decide +kernel, by decide +kernel⟩
set_option maxHeartbeats 4000000 in
set_option maxRecDepth 100000 in
theorem kRi_greatestDivisor (l : Launch) (G : wG) (p0 : Int64) (p2 : Int64) (o : Int64) (hf : fRi_greatestDivisor p0 p2 = some o) : Ct G l yX7_greatestDivisor cX7_greatestDivisor 11 (some .long) rmRi_greatestDivisor [.long p0, .long p2] [] (some (.long o)) [] := by
  refine Ct.ofJ (by decide +kernel) (Nat.le_of_ble_eq_true rfl) (fun p e s m args below meth c A Q E hret => ?_)
  unfold fRi_greatestDivisor at hf
  show V G p l e rmRi_greatestDivisor s m args below meth c 11 A Q 0 0 [] 0 [(0, .long p0), (2, .long p2)] []
  refine V_lload_n E 0 rfl dX7_greatestDivisor_0 ?_
  refine V_lconst E (v := (0 : Int64)) dX7_greatestDivisor_1 (by decide) ?_
  refine V_lcmp E dX7_greatestDivisor_2 ?_
  obtain ⟨u2, hu2, hf⟩ := bd hf
  have J12 : V G p l e rmRi_greatestDivisor s m args below meth c 11 A Q 0 0 [] 12 [(2, .long p2)] [.long u2] := by
    refine V_lstore E (lv' := [(2, .long p2), (4, .long u2)]) dX7_greatestDivisor_12 (by decide) rfl ?_
    refine V_lload_n E 0 rfl dX7_greatestDivisor_14 ?_
    refine V_lconst E (v := (0 : Int64)) dX7_greatestDivisor_15 (by decide) ?_
    refine V_lcmp E dX7_greatestDivisor_16 ?_
    obtain ⟨u4, hu4, hf⟩ := bd hf
    have J26 : V G p l e rmRi_greatestDivisor s m args below meth c 11 A Q 0 0 [] 26 [(4, .long u2)] [.long u4] := by
      refine V_lstore E (lv' := [(4, .long u2), (6, .long u4)]) dX7_greatestDivisor_26 (by decide) rfl ?_
      refine V_iconst E (v := (0 : Int32)) dX7_greatestDivisor_28 (by decide) ?_
      refine V_istore E (lv' := [(4, .long u2), (6, .long u4), (8, .int (0 : Int32))]) dX7_greatestDivisor_29 (by decide) rfl ?_
      have L31 : ∀ (n : Nat) (a31_4 : Int64) (a31_6 : Int64) (a31_8 : Int32) (u : Int64), fRi_greatestDivisor_L31 n a31_4 a31_6 a31_8 = some u → (V G p l e rmRi_greatestDivisor s m args below meth c 11 A Q 0 0 [] 67 [(4, .long u)] []) → V G p l e rmRi_greatestDivisor s m args below meth c 11 A Q 0 0 [] 31 [(4, .long a31_4), (6, .long a31_6), (8, .int a31_8)] [] := by
        intro n
        induction n with
        | zero =>
          intro a31_4 a31_6 a31_8 u hf hk
          rw [fRi_greatestDivisor_L31] at hf
          cases hf
        | succ n ih =>
          intro a31_4 a31_6 a31_8 u hf hk
          rw [fRi_greatestDivisor_L31] at hf
          refine V_iload E 2 rfl dX7_greatestDivisor_31 ?_
          refine V_sipush E (v := (200 : Int32)) dX7_greatestDivisor_33 (by decide) ?_
          refine V_icmp_ge E (tgt := 67) dX7_greatestDivisor_36 (by decide) (fun hc6 => ?_) (fun hc6 => ?_)
          · have hf := ip hc6 hf
            refine V_sub [0] rfl ?_
            rw [← Option.some.inj hf] at hk
            exact hk
          · have hf := iq hc6 hf
            refine V_lload E 1 rfl dX7_greatestDivisor_39 ?_
            refine V_lconst E (v := (0 : Int64)) dX7_greatestDivisor_41 (by decide) ?_
            refine V_lcmp E dX7_greatestDivisor_42 ?_
            refine V_if_eq E (tgt := 67) dX7_greatestDivisor_43 (by decide) (fun hc7 => ?_) (fun hc7 => ?_)
            · have hf := ip hc7 hf
              refine V_sub [0] rfl ?_
              rw [← Option.some.inj hf] at hk
              exact hk
            · have hf := iq hc7 hf
              refine V_lload E 0 rfl dX7_greatestDivisor_46 ?_
              refine V_lload E 1 rfl dX7_greatestDivisor_48 ?_
              obtain ⟨hz8, hf⟩ := asr_ok hf
              refine V_lrem E dX7_greatestDivisor_50 hz8 ?_
              obtain ⟨t9, ht9, hf⟩ := bd hf
              have ht9 := Option.some.inj ht9
              rw [ht9]
              refine V_lstore E (lv' := [(4, .long a31_4), (6, .long a31_6), (8, .int a31_8), (9, .long t9)]) dX7_greatestDivisor_51 (by decide) rfl ?_
              refine V_lload E 1 rfl dX7_greatestDivisor_53 ?_
              refine V_lstore E (lv' := [(4, .long a31_6), (6, .long a31_6), (8, .int a31_8), (9, .long t9)]) dX7_greatestDivisor_55 (by decide) rfl ?_
              refine V_lload E 3 rfl dX7_greatestDivisor_57 ?_
              refine V_lstore E (lv' := [(4, .long a31_6), (6, .long t9), (8, .int a31_8), (9, .long t9)]) dX7_greatestDivisor_59 (by decide) rfl ?_
              refine V_iinc E (v := (a31_8 + (1 : Int32))) (lv' := [(4, .long a31_6), (6, .long t9), (8, .int (a31_8 + (1 : Int32))), (9, .long t9)]) 2 rfl dX7_greatestDivisor_61 rfl (by decide) rfl ?_
              refine V_goto E (tgt := 31) dX7_greatestDivisor_64 (by decide) ?_
              refine V_sub [0, 1, 2] rfl ?_
              exact ih a31_6 t9 (a31_8 + (1 : Int32)) _ hf hk
      obtain ⟨u5, hu5, hf⟩ := bd hf
      refine L31 FU u2 u4 (0 : Int32) u5 hu5 ?_
      refine V_lload E 0 rfl dX7_greatestDivisor_67 ?_
      have h9 := hret 69 [(4, .long u5)] dX7_greatestDivisor_69
      rw [← (Option.some.inj hf)] at h9
      exact h9
    clear hf
    have hf := hu4
    refine V_if_ge E (tgt := 25) dX7_greatestDivisor_17 (by decide) (fun hc3 => ?_) (fun hc3 => ?_)
    · have hf := ip hc3 hf
      refine V_lload_n E 0 rfl dX7_greatestDivisor_25 ?_
      refine V_sub [1] rfl ?_
      rw [← Option.some.inj hf] at J26
      exact J26
    · have hf := iq hc3 hf
      refine V_lload_n E 0 rfl dX7_greatestDivisor_20 ?_
      refine V_lneg E dX7_greatestDivisor_21 ?_
      refine V_goto E (tgt := 26) dX7_greatestDivisor_22 (by decide) ?_
      refine V_sub [1] rfl ?_
      rw [← Option.some.inj hf] at J26
      exact J26
  clear hf
  have hf := hu2
  refine V_if_ge E (tgt := 11) dX7_greatestDivisor_3 (by decide) (fun hc1 => ?_) (fun hc1 => ?_)
  · have hf := ip hc1 hf
    refine V_lload_n E 0 rfl dX7_greatestDivisor_11 ?_
    refine V_sub [1] rfl ?_
    rw [← Option.some.inj hf] at J12
    exact J12
  · have hf := iq hc1 hf
    refine V_lload_n E 0 rfl dX7_greatestDivisor_6 ?_
    refine V_lneg E dX7_greatestDivisor_7 ?_
    refine V_goto E (tgt := 12) dX7_greatestDivisor_8 (by decide) ?_
    refine V_sub [1] rfl ?_
    rw [← Option.some.inj hf] at J12
    exact J12
abbrev rmSc_hasCell : Room := { frames := 0, cells := 0, slots := 0, locals := 0 }
theorem wd_yX5_hasCell : wdV yX5_hasCell cX5_hasCell 4 (some .boolean) 3 := ⟨wc_yX5_hasCell, wi_yX5_hasCell, wse_yX5_hasCell, wini_X5, by decide +kernel, by decide +kernel, by decide +kernel⟩
set_option maxHeartbeats 4000000 in
set_option maxRecDepth 100000 in
theorem kSc_hasCell (l : Launch) (G : wG) (qSc : Nat → Nat) (p1 : Int32) (p2 : Int32) (p3 : Int32) (sc_columns : Int32) (sc_count : Int32) (sc_cornerChange : Int32) (sc_voteApart : Int32) (sc_dots : Nat → Int32) (sc_cells : Nat → Int32) (sc_shotX : Nat → Int32) (sc_shotY : Nat → Int32) (sc_shotColumns : Nat → Int32) (o : Int32) (hf : fSc_hasCell p1 p2 p3 sc_count = some o) : Ct G l yX5_hasCell cX5_hasCell 4 (some .boolean) rmSc_hasCell [.ref (qSc 0), .int p1, .int p2, .int p3] (gSc G qSc sc_columns sc_count sc_cornerChange sc_voteApart sc_dots sc_cells sc_shotX sc_shotY sc_shotColumns) (some (.int o)) (gSc G qSc sc_columns sc_count sc_cornerChange sc_voteApart sc_dots sc_cells sc_shotX sc_shotY sc_shotColumns) := by
  refine Ct.ofZ (by decide +kernel) (Nat.le_of_ble_eq_true rfl) (fun p e s m args below meth c A Q E hret => ?_)
  unfold fSc_hasCell at hf
  show V G p l e rmSc_hasCell s m args below meth c 4 A Q 0 0 (gSc G qSc sc_columns sc_count sc_cornerChange sc_voteApart sc_dots sc_cells sc_shotX sc_shotY sc_shotColumns) 0 [(0, .ref (qSc 0)), (1, .int p1), (2, .int p2), (3, .int p3)] []
  refine V_iload_n E 1 rfl dX5_hasCell_0 ?_
  refine V_if_lt E (tgt := 41) dX5_hasCell_1 (by decide) (fun hc1 => ?_) (fun hc1 => ?_)
  · have hf := ip hc1 hf
    refine V_iconst E (v := (0 : Int32)) dX5_hasCell_41 (by decide) ?_
    have h9 := hret 42 [(0, .ref (qSc 0)), (1, .int p1), (2, .int p2), (3, .int p3)] dX5_hasCell_42
    rw [← (Option.some.inj hf)] at h9
    exact h9 (z01a (Or.inl rfl))
  · have hf := iq hc1 hf
    refine V_iload_n E 1 rfl dX5_hasCell_4 ?_
    refine V_aload_n E 0 rfl dX5_hasCell_5 ?_
    refine gfX5_37 E 0 rfl rfl dX5_hasCell_6 ?_
    refine V_icmp_ge E (tgt := 41) dX5_hasCell_9 (by decide) (fun hc2 => ?_) (fun hc2 => ?_)
    · have hf := ip hc2 hf
      refine V_iconst E (v := (0 : Int32)) dX5_hasCell_41 (by decide) ?_
      have h9 := hret 42 [(0, .ref (qSc 0)), (1, .int p1), (2, .int p2), (3, .int p3)] dX5_hasCell_42
      rw [← (Option.some.inj hf)] at h9
      exact h9 (z01a (Or.inl rfl))
    · have hf := iq hc2 hf
      refine V_iload_n E 1 rfl dX5_hasCell_12 ?_
      refine V_bipush E (v := (6 : Int32)) dX5_hasCell_13 (by decide) ?_
      refine V_icmp_ge E (tgt := 41) dX5_hasCell_15 (by decide) (fun hc3 => ?_) (fun hc3 => ?_)
      · have hf := ip hc3 hf
        refine V_iconst E (v := (0 : Int32)) dX5_hasCell_41 (by decide) ?_
        have h9 := hret 42 [(0, .ref (qSc 0)), (1, .int p1), (2, .int p2), (3, .int p3)] dX5_hasCell_42
        rw [← (Option.some.inj hf)] at h9
        exact h9 (z01a (Or.inl rfl))
      · have hf := iq hc3 hf
        refine V_iload_n E 2 rfl dX5_hasCell_18 ?_
        refine V_if_lt E (tgt := 41) dX5_hasCell_19 (by decide) (fun hc4 => ?_) (fun hc4 => ?_)
        · have hf := ip hc4 hf
          refine V_iconst E (v := (0 : Int32)) dX5_hasCell_41 (by decide) ?_
          have h9 := hret 42 [(0, .ref (qSc 0)), (1, .int p1), (2, .int p2), (3, .int p3)] dX5_hasCell_42
          rw [← (Option.some.inj hf)] at h9
          exact h9 (z01a (Or.inl rfl))
        · have hf := iq hc4 hf
          refine V_iload_n E 2 rfl dX5_hasCell_22 ?_
          refine V_iconst E (v := (4 : Int32)) dX5_hasCell_23 (by decide) ?_
          refine V_icmp_ge E (tgt := 41) dX5_hasCell_24 (by decide) (fun hc5 => ?_) (fun hc5 => ?_)
          · have hf := ip hc5 hf
            refine V_iconst E (v := (0 : Int32)) dX5_hasCell_41 (by decide) ?_
            have h9 := hret 42 [(0, .ref (qSc 0)), (1, .int p1), (2, .int p2), (3, .int p3)] dX5_hasCell_42
            rw [← (Option.some.inj hf)] at h9
            exact h9 (z01a (Or.inl rfl))
          · have hf := iq hc5 hf
            refine V_iload_n E 3 rfl dX5_hasCell_27 ?_
            refine V_if_lt E (tgt := 41) dX5_hasCell_28 (by decide) (fun hc6 => ?_) (fun hc6 => ?_)
            · have hf := ip hc6 hf
              refine V_iconst E (v := (0 : Int32)) dX5_hasCell_41 (by decide) ?_
              have h9 := hret 42 [(0, .ref (qSc 0)), (1, .int p1), (2, .int p2), (3, .int p3)] dX5_hasCell_42
              rw [← (Option.some.inj hf)] at h9
              exact h9 (z01a (Or.inl rfl))
            · have hf := iq hc6 hf
              refine V_iload_n E 3 rfl dX5_hasCell_31 ?_
              refine V_bipush E (v := (8 : Int32)) dX5_hasCell_32 (by decide) ?_
              refine V_icmp_ge E (tgt := 41) dX5_hasCell_34 (by decide) (fun hc7 => ?_) (fun hc7 => ?_)
              · have hf := ip hc7 hf
                refine V_iconst E (v := (0 : Int32)) dX5_hasCell_41 (by decide) ?_
                have h9 := hret 42 [(0, .ref (qSc 0)), (1, .int p1), (2, .int p2), (3, .int p3)] dX5_hasCell_42
                rw [← (Option.some.inj hf)] at h9
                exact h9 (z01a (Or.inl rfl))
              · have hf := iq hc7 hf
                refine V_iconst E (v := (1 : Int32)) dX5_hasCell_37 (by decide) ?_
                refine V_goto E (tgt := 42) dX5_hasCell_38 (by decide) ?_
                have h9 := hret 42 [(0, .ref (qSc 0)), (1, .int p1), (2, .int p2), (3, .int p3)] dX5_hasCell_42
                rw [← (Option.some.inj hf)] at h9
                exact h9 (z01a (Or.inr rfl))
abbrev rmSc_cellAt : Room := { frames := 1, cells := 0, slots := 0, locals := 23 }
theorem wd_yX5_cellAt : wdV yX5_cellAt cX5_cellAt 4 (some .int) 3 := ⟨wc_yX5_cellAt, wi_yX5_cellAt, wse_yX5_cellAt, wini_X5, by decide +kernel, by decide +kernel, by decide +kernel⟩
set_option maxHeartbeats 4000000 in
set_option maxRecDepth 100000 in
theorem kSc_cellAt (l : Launch) (G : wG) (qSc : Nat → Nat) (p1 : Int32) (p2 : Int32) (p3 : Int32) (sc_columns : Int32) (sc_count : Int32) (sc_cornerChange : Int32) (sc_voteApart : Int32) (sc_dots : Nat → Int32) (sc_cells : Nat → Int32) (sc_shotX : Nat → Int32) (sc_shotY : Nat → Int32) (sc_shotColumns : Nat → Int32) (o : Int32) (hf : fSc_cellAt p1 p2 p3 sc_count sc_cells = some o) : Ct G l yX5_cellAt cX5_cellAt 4 (some .int) rmSc_cellAt [.ref (qSc 0), .int p1, .int p2, .int p3] (gSc G qSc sc_columns sc_count sc_cornerChange sc_voteApart sc_dots sc_cells sc_shotX sc_shotY sc_shotColumns) (some (.int o)) (gSc G qSc sc_columns sc_count sc_cornerChange sc_voteApart sc_dots sc_cells sc_shotX sc_shotY sc_shotColumns) := by
  refine Ct.ofI (by decide +kernel) (Nat.le_of_ble_eq_true rfl) (fun p e s m args below meth c A Q E hret => ?_)
  unfold fSc_cellAt at hf
  show V G p l e rmSc_cellAt s m args below meth c 4 A Q 0 0 (gSc G qSc sc_columns sc_count sc_cornerChange sc_voteApart sc_dots sc_cells sc_shotX sc_shotY sc_shotColumns) 0 [(0, .ref (qSc 0)), (1, .int p1), (2, .int p2), (3, .int p3)] []
  refine V_aload_n E 0 rfl dX5_cellAt_0 ?_
  refine V_iload_n E 1 rfl dX5_cellAt_1 ?_
  refine V_iload_n E 2 rfl dX5_cellAt_2 ?_
  refine V_iload_n E 3 rfl dX5_cellAt_3 ?_
  obtain ⟨u1, hu1, hf⟩ := bd hf
  refine V_frW E (Rn_V E (rest := []) mlX5_50 wd_yX5_hasCell (kSc_hasCell l G qSc p1 p2 p3 sc_columns sc_count sc_cornerChange sc_voteApart sc_dots sc_cells sc_shotX sc_shotY sc_shotColumns u1 hu1) ⟨rfl, rfl, Nat.le_of_ble_eq_true rfl, Nat.le_of_ble_eq_true rfl⟩ 0 rfl rfl rfl rfl rfl (Nat.le_of_ble_eq_true rfl) dX5_cellAt_4) ?_
  show V G p l e rmSc_cellAt s m args below meth c 4 A Q 0 0 (gSc G qSc sc_columns sc_count sc_cornerChange sc_voteApart sc_dots sc_cells sc_shotX sc_shotY sc_shotColumns) 7 [(0, .ref (qSc 0)), (1, .int p1), (2, .int p2), (3, .int p3)] [.int u1]
  refine V_if_eq E (tgt := 29) dX5_cellAt_7 (by decide) (fun hc2 => ?_) (fun hc2 => ?_)
  · have hf := ip hc2 hf
    refine V_iconst E (v := (0 : Int32)) dX5_cellAt_29 (by decide) ?_
    have h9 := hret 30 [(0, .ref (qSc 0)), (1, .int p1), (2, .int p2), (3, .int p3)] dX5_cellAt_30
    rw [← (Option.some.inj hf)] at h9
    exact h9
  · have hf := iq hc2 hf
    refine V_aload_n E 0 rfl dX5_cellAt_10 ?_
    refine gfX5_22 E 0 rfl rfl dX5_cellAt_11 ?_
    refine V_iload_n E 1 rfl dX5_cellAt_14 ?_
    refine V_bipush E (v := (32 : Int32)) dX5_cellAt_15 (by decide) ?_
    refine V_imul E dX5_cellAt_17 ?_
    refine V_iload_n E 2 rfl dX5_cellAt_18 ?_
    refine V_bipush E (v := (8 : Int32)) dX5_cellAt_19 (by decide) ?_
    refine V_imul E dX5_cellAt_21 ?_
    refine V_iadd E dX5_cellAt_22 ?_
    refine V_iload_n E 3 rfl dX5_cellAt_23 ?_
    refine V_iadd E dX5_cellAt_24 ?_
    obtain ⟨hi3, hf⟩ := asr_ok hf
    refine V_iald E 2 rfl hi3 dX5_cellAt_25 ?_
    refine V_goto E (tgt := 30) dX5_cellAt_26 (by decide) ?_
    have h9 := hret 30 [(0, .ref (qSc 0)), (1, .int p1), (2, .int p2), (3, .int p3)] dX5_cellAt_30
    rw [← (Option.some.inj hf)] at h9
    exact h9
abbrev rmRi_isInner : Room := { frames := 0, cells := 0, slots := 0, locals := 0 }
theorem wd_yX7_isInner : wdS yX7_isInner cX7_isInner 2 (some .boolean) 2 := ⟨wc_yX7_isInner, wst_yX7_isInner, wini_X7, by decide +kernel, by decide +kernel, by decide +kernel⟩
set_option maxHeartbeats 4000000 in
set_option maxRecDepth 100000 in
theorem kRi_isInner (l : Launch) (G : wG) (p0 : Int32) (p1 : Int32) (o : Int32) (hf : fRi_isInner p0 p1 = some o) : Ct G l yX7_isInner cX7_isInner 2 (some .boolean) rmRi_isInner [.int p0, .int p1] [] (some (.int o)) [] := by
  refine Ct.ofZ (by decide +kernel) (Nat.le_of_ble_eq_true rfl) (fun p e s m args below meth c A Q E hret => ?_)
  unfold fRi_isInner at hf
  show V G p l e rmRi_isInner s m args below meth c 2 A Q 0 0 [] 0 [(0, .int p0), (1, .int p1)] []
  refine V_iload_n E 0 rfl dX7_isInner_0 ?_
  refine V_iconst E (v := (1 : Int32)) dX7_isInner_1 (by decide) ?_
  refine V_icmp_lt E (tgt := 25) dX7_isInner_2 (by decide) (fun hc1 => ?_) (fun hc1 => ?_)
  · have hf := ip hc1 hf
    refine V_iconst E (v := (0 : Int32)) dX7_isInner_25 (by decide) ?_
    have h9 := hret 26 [(0, .int p0), (1, .int p1)] dX7_isInner_26
    rw [← (Option.some.inj hf)] at h9
    exact h9 (z01a (Or.inl rfl))
  · have hf := iq hc1 hf
    refine V_iload_n E 0 rfl dX7_isInner_5 ?_
    refine V_iconst E (v := (2 : Int32)) dX7_isInner_6 (by decide) ?_
    refine V_icmp_gt E (tgt := 25) dX7_isInner_7 (by decide) (fun hc2 => ?_) (fun hc2 => ?_)
    · have hf := ip hc2 hf
      refine V_iconst E (v := (0 : Int32)) dX7_isInner_25 (by decide) ?_
      have h9 := hret 26 [(0, .int p0), (1, .int p1)] dX7_isInner_26
      rw [← (Option.some.inj hf)] at h9
      exact h9 (z01a (Or.inl rfl))
    · have hf := iq hc2 hf
      refine V_iload_n E 1 rfl dX7_isInner_10 ?_
      refine V_iconst E (v := (1 : Int32)) dX7_isInner_11 (by decide) ?_
      refine V_icmp_lt E (tgt := 25) dX7_isInner_12 (by decide) (fun hc3 => ?_) (fun hc3 => ?_)
      · have hf := ip hc3 hf
        refine V_iconst E (v := (0 : Int32)) dX7_isInner_25 (by decide) ?_
        have h9 := hret 26 [(0, .int p0), (1, .int p1)] dX7_isInner_26
        rw [← (Option.some.inj hf)] at h9
        exact h9 (z01a (Or.inl rfl))
      · have hf := iq hc3 hf
        refine V_iload_n E 1 rfl dX7_isInner_15 ?_
        refine V_bipush E (v := (6 : Int32)) dX7_isInner_16 (by decide) ?_
        refine V_icmp_gt E (tgt := 25) dX7_isInner_18 (by decide) (fun hc4 => ?_) (fun hc4 => ?_)
        · have hf := ip hc4 hf
          refine V_iconst E (v := (0 : Int32)) dX7_isInner_25 (by decide) ?_
          have h9 := hret 26 [(0, .int p0), (1, .int p1)] dX7_isInner_26
          rw [← (Option.some.inj hf)] at h9
          exact h9 (z01a (Or.inl rfl))
        · have hf := iq hc4 hf
          refine V_iconst E (v := (1 : Int32)) dX7_isInner_21 (by decide) ?_
          refine V_goto E (tgt := 26) dX7_isInner_22 (by decide) ?_
          have h9 := hret 26 [(0, .int p0), (1, .int p1)] dX7_isInner_26
          rw [← (Option.some.inj hf)] at h9
          exact h9 (z01a (Or.inr rfl))
abbrev rmSc_drawWorld : Room := { frames := 1, cells := 0, slots := 0, locals := 22 }
theorem wd_yX5_drawWorld : wdV yX5_drawWorld cX5_drawWorld 8 (some .int) 2 := ⟨wc_yX5_drawWorld, wi_yX5_drawWorld, wse_yX5_drawWorld, wini_X5, by decide +kernel, by decide +kernel, by decide +kernel⟩
set_option maxHeartbeats 4000000 in
set_option maxRecDepth 100000 in
theorem kSc_drawWorld (l : Launch) (G : wG) (qSc : Nat → Nat) (p1 : Int32) (p2 : Int32) (sc_columns : Int32) (sc_count : Int32) (sc_cornerChange : Int32) (sc_voteApart : Int32) (sc_dots : Nat → Int32) (sc_cells : Nat → Int32) (sc_shotX : Nat → Int32) (sc_shotY : Nat → Int32) (sc_shotColumns : Nat → Int32) (o : Int32 × Int32 × (Nat → Int32)) (hf : fSc_drawWorld p1 p2 sc_columns sc_dots = some o) : Ct G l yX5_drawWorld cX5_drawWorld 8 (some .int) rmSc_drawWorld [.ref (qSc 0), .int p1, .int p2] (gSc G qSc sc_columns sc_count sc_cornerChange sc_voteApart sc_dots sc_cells sc_shotX sc_shotY sc_shotColumns) (some (.int o.1)) (gSc G qSc o.2.1 sc_count sc_cornerChange sc_voteApart o.2.2 sc_cells sc_shotX sc_shotY sc_shotColumns) := by
  refine Ct.ofI (by decide +kernel) (Nat.le_of_ble_eq_true rfl) (fun p e s m args below meth c A Q E hret => ?_)
  unfold fSc_drawWorld at hf
  show V G p l e rmSc_drawWorld s m args below meth c 8 A Q 0 0 (gSc G qSc sc_columns sc_count sc_cornerChange sc_voteApart sc_dots sc_cells sc_shotX sc_shotY sc_shotColumns) 0 [(0, .ref (qSc 0)), (1, .int p1), (2, .int p2)] []
  refine V_iload_n E 1 rfl dX5_drawWorld_0 ?_
  refine V_iconst E (v := (0 : Int32)) dX5_drawWorld_1 (by decide) ?_
  refine V_ldc E (v := (999999 : Int32)) dX5_drawWorld_2 kX5_54 ?_
  obtain ⟨u1, hu1, hf⟩ := bd hf
  refine V_fr0 E (Rn_N E (rest := []) 0 rfl wd_yX7_within (kRi_within l G p1 (0 : Int32) (999999 : Int32) u1 hu1) ⟨rfl, rfl, Nat.le_of_ble_eq_true rfl, Nat.le_of_ble_eq_true rfl⟩ rfl rfl (Nat.le_of_ble_eq_true rfl) dX5_drawWorld_4) ?_
  show V G p l e rmSc_drawWorld s m args below meth c 8 A Q 0 0 (gSc G qSc sc_columns sc_count sc_cornerChange sc_voteApart sc_dots sc_cells sc_shotX sc_shotY sc_shotColumns) 7 [(0, .ref (qSc 0)), (1, .int p1), (2, .int p2)] [.int u1]
  refine V_if_eq E (tgt := 21) dX5_drawWorld_7 (by decide) (fun hc2 => ?_) (fun hc2 => ?_)
  · have hf := ip hc2 hf
    refine V_bipush E (v := (-2 : Int32)) dX5_drawWorld_21 (by decide) ?_
    have h9 := hret 23 [(0, .ref (qSc 0)), (1, .int p1), (2, .int p2)] dX5_drawWorld_23
    rw [← (Option.some.inj hf)] at h9
    exact h9
  · have hf := iq hc2 hf
    refine V_iload_n E 2 rfl dX5_drawWorld_10 ?_
    refine V_bipush E (v := (12 : Int32)) dX5_drawWorld_11 (by decide) ?_
    refine V_bipush E (v := (32 : Int32)) dX5_drawWorld_13 (by decide) ?_
    obtain ⟨u3, hu3, hf⟩ := bd hf
    refine V_fr0 E (Rn_N E (rest := []) 0 rfl wd_yX7_within (kRi_within l G p2 (12 : Int32) (32 : Int32) u3 hu3) ⟨rfl, rfl, Nat.le_of_ble_eq_true rfl, Nat.le_of_ble_eq_true rfl⟩ rfl rfl (Nat.le_of_ble_eq_true rfl) dX5_drawWorld_15) ?_
    show V G p l e rmSc_drawWorld s m args below meth c 8 A Q 0 0 (gSc G qSc sc_columns sc_count sc_cornerChange sc_voteApart sc_dots sc_cells sc_shotX sc_shotY sc_shotColumns) 18 [(0, .ref (qSc 0)), (1, .int p1), (2, .int p2)] [.int u3]
    refine V_if_ne E (tgt := 24) dX5_drawWorld_18 (by decide) (fun hc4 => ?_) (fun hc4 => ?_)
    · have hf := iq hc4 hf
      refine V_aload_n E 0 rfl dX5_drawWorld_24 ?_
      refine gfX5_34 E 0 rfl rfl dX5_drawWorld_25 ?_
      refine V_istore_n E (lv' := [(0, .ref (qSc 0)), (1, .int p1), (2, .int p2), (3, .int sc_columns)]) dX5_drawWorld_28 (by decide) rfl ?_
      refine V_aload_n E 0 rfl dX5_drawWorld_29 ?_
      refine V_iload_n E 2 rfl dX5_drawWorld_30 ?_
      refine pfX5_34 E (ws' := (gSc G qSc p2 sc_count sc_cornerChange sc_voteApart sc_dots sc_cells sc_shotX sc_shotY sc_shotColumns)) 0 rfl (Nat.le_of_ble_eq_true rfl) rfl rfl dX5_drawWorld_31 rfl ?_
      refine V_iload_n E 1 rfl dX5_drawWorld_34 ?_
      refine V_i2l E dX5_drawWorld_35 ?_
      refine V_lstore E (lv' := [(0, .ref (qSc 0)), (1, .int p1), (2, .int p2), (3, .int sc_columns), (4, .long p1.toInt64)]) dX5_drawWorld_36 (by decide) rfl ?_
      refine V_iconst E (v := (0 : Int32)) dX5_drawWorld_38 (by decide) ?_
      refine V_istore E (lv' := [(0, .ref (qSc 0)), (1, .int p1), (2, .int p2), (3, .int sc_columns), (4, .long p1.toInt64), (6, .int (0 : Int32))]) dX5_drawWorld_39 (by decide) rfl ?_
      have L41 : ∀ (n : Nat) (a41_4 : Int64) (a41_6 : Int32) (c41_sc_dots : Nat → Int32) (u : (Nat → Int32)), fSc_drawWorld_L41 p2 n a41_4 a41_6 c41_sc_dots = some u → (V G p l e rmSc_drawWorld s m args below meth c 8 A Q 0 0 (gSc G qSc p2 sc_count sc_cornerChange sc_voteApart u sc_cells sc_shotX sc_shotY sc_shotColumns) 116 [(3, .int sc_columns)] []) → V G p l e rmSc_drawWorld s m args below meth c 8 A Q 0 0 (gSc G qSc p2 sc_count sc_cornerChange sc_voteApart c41_sc_dots sc_cells sc_shotX sc_shotY sc_shotColumns) 41 [(0, .ref (qSc 0)), (2, .int p2), (3, .int sc_columns), (4, .long a41_4), (6, .int a41_6)] [] := by
        intro n
        induction n with
        | zero =>
          intro a41_4 a41_6 c41_sc_dots u hf hk
          rw [fSc_drawWorld_L41] at hf
          cases hf
        | succ n ih =>
          intro a41_4 a41_6 c41_sc_dots u hf hk
          rw [fSc_drawWorld_L41] at hf
          refine V_iload E 4 rfl dX5_drawWorld_41 ?_
          refine V_bipush E (v := (32 : Int32)) dX5_drawWorld_43 (by decide) ?_
          refine V_icmp_ge E (tgt := 116) dX5_drawWorld_45 (by decide) (fun hc6 => ?_) (fun hc6 => ?_)
          · have hf := ip hc6 hf
            refine V_sub [2] rfl ?_
            rw [← Option.some.inj hf] at hk
            exact hk
          · have hf := iq hc6 hf
            refine V_iload E 4 rfl dX5_drawWorld_48 ?_
            refine V_iload_n E 1 rfl dX5_drawWorld_50 ?_
            refine V_icmp_ge E (tgt := 116) dX5_drawWorld_51 (by decide) (fun hc7 => ?_) (fun hc7 => ?_)
            · have hf := ip hc7 hf
              refine V_sub [2] rfl ?_
              rw [← Option.some.inj hf] at hk
              exact hk
            · have hf := iq hc7 hf
              refine V_iconst E (v := (0 : Int32)) dX5_drawWorld_54 (by decide) ?_
              refine V_istore E (lv' := [(0, .ref (qSc 0)), (2, .int p2), (3, .int sc_columns), (4, .long a41_4), (6, .int a41_6), (7, .int (0 : Int32))]) dX5_drawWorld_55 (by decide) rfl ?_
              have L57 : ∀ (n : Nat) (a57_4 : Int64) (a57_7 : Int32) (c57_sc_dots : Nat → Int32) (u : Int64 × (Nat → Int32)), fSc_drawWorld_L57 a41_6 n a57_4 a57_7 c57_sc_dots = some u → (V G p l e rmSc_drawWorld s m args below meth c 8 A Q 0 0 (gSc G qSc p2 sc_count sc_cornerChange sc_voteApart u.2 sc_cells sc_shotX sc_shotY sc_shotColumns) 110 [(0, .ref (qSc 0)), (2, .int p2), (3, .int sc_columns), (4, .long u.1), (6, .int a41_6)] []) → V G p l e rmSc_drawWorld s m args below meth c 8 A Q 0 0 (gSc G qSc p2 sc_count sc_cornerChange sc_voteApart c57_sc_dots sc_cells sc_shotX sc_shotY sc_shotColumns) 57 [(0, .ref (qSc 0)), (2, .int p2), (3, .int sc_columns), (4, .long a57_4), (6, .int a41_6), (7, .int a57_7)] [] := by
                intro n
                induction n with
                | zero =>
                  intro a57_4 a57_7 c57_sc_dots u hf hk
                  rw [fSc_drawWorld_L57] at hf
                  cases hf
                | succ n ih =>
                  intro a57_4 a57_7 c57_sc_dots u hf hk
                  rw [fSc_drawWorld_L57] at hf
                  refine V_iload E 5 rfl dX5_drawWorld_57 ?_
                  refine V_bipush E (v := (6 : Int32)) dX5_drawWorld_59 (by decide) ?_
                  refine V_icmp_ge E (tgt := 110) dX5_drawWorld_61 (by decide) (fun hc9 => ?_) (fun hc9 => ?_)
                  · have hf := ip hc9 hf
                    refine V_sub [0, 1, 2, 3, 4] rfl ?_
                    rw [← Option.some.inj hf] at hk
                    exact hk
                  · have hf := iq hc9 hf
                    refine V_lload E 3 rfl dX5_drawWorld_64 ?_
                    refine V_ldc2 E (v := (1103515245 : Int64)) dX5_drawWorld_66 kX5_58 ?_
                    refine V_lmul E dX5_drawWorld_69 ?_
                    refine V_ldc2 E (v := (12345 : Int64)) dX5_drawWorld_70 kX5_60 ?_
                    refine V_ladd E dX5_drawWorld_73 ?_
                    refine V_ldc2 E (v := (2147483648 : Int64)) dX5_drawWorld_74 kX5_62 ?_
                    obtain ⟨hz10, hf⟩ := asr_ok hf
                    refine V_lrem E dX5_drawWorld_77 hz10 ?_
                    obtain ⟨t11, ht11, hf⟩ := bd hf
                    have ht11 := Option.some.inj ht11
                    rw [ht11]
                    refine V_lstore E (lv' := [(0, .ref (qSc 0)), (2, .int p2), (3, .int sc_columns), (4, .long t11), (6, .int a41_6), (7, .int a57_7)]) dX5_drawWorld_78 (by decide) rfl ?_
                    refine V_aload_n E 0 rfl dX5_drawWorld_80 ?_
                    refine gfX5_18 E 0 rfl rfl dX5_drawWorld_81 ?_
                    refine V_iload E 5 rfl dX5_drawWorld_84 ?_
                    refine V_bipush E (v := (32 : Int32)) dX5_drawWorld_86 (by decide) ?_
                    refine V_imul E dX5_drawWorld_88 ?_
                    refine V_iload E 4 rfl dX5_drawWorld_89 ?_
                    refine V_iadd E dX5_drawWorld_91 ?_
                    refine V_lload E 3 rfl dX5_drawWorld_92 ?_
                    refine V_ldc2 E (v := (65536 : Int64)) dX5_drawWorld_94 kX5_64 ?_
                    obtain ⟨hz12, hf⟩ := asr_ok hf
                    refine V_ldiv E dX5_drawWorld_97 hz12 ?_
                    refine V_ldc2 E (v := (64 : Int64)) dX5_drawWorld_98 kX5_66 ?_
                    obtain ⟨hz13, hf⟩ := asr_ok hf
                    refine V_lrem E dX5_drawWorld_101 hz13 ?_
                    refine V_l2i E dX5_drawWorld_102 ?_
                    obtain ⟨hi14, hf⟩ := asr_ok hf
                    refine V_iast E (ws' := (gSc G qSc p2 sc_count sc_cornerChange sc_voteApart (upd c57_sc_dots ((a57_7 * (32 : Int32)) + a41_6).toNatClampNeg (((t11 / (65536 : Int64)) - (t11 / (65536 : Int64)) / (64 : Int64) * (64 : Int64)).toInt32)) sc_cells sc_shotX sc_shotY sc_shotColumns)) 1 rfl hi14 dX5_drawWorld_103 rfl ?_
                    refine V_iinc E (v := (a57_7 + (1 : Int32))) (lv' := [(0, .ref (qSc 0)), (2, .int p2), (3, .int sc_columns), (4, .long t11), (6, .int a41_6), (7, .int (a57_7 + (1 : Int32)))]) 5 rfl dX5_drawWorld_104 rfl (by decide) rfl ?_
                    refine V_goto E (tgt := 57) dX5_drawWorld_107 (by decide) ?_
                    exact ih t11 (a57_7 + (1 : Int32)) (upd c57_sc_dots ((a57_7 * (32 : Int32)) + a41_6).toNatClampNeg (((t11 / (65536 : Int64)) - (t11 / (65536 : Int64)) / (64 : Int64) * (64 : Int64)).toInt32)) _ hf hk
              obtain ⟨u8, hu8, hf⟩ := bd hf
              refine L57 FU a41_4 (0 : Int32) c41_sc_dots u8 hu8 ?_
              refine V_iinc E (v := (a41_6 + (1 : Int32))) (lv' := [(0, .ref (qSc 0)), (2, .int p2), (3, .int sc_columns), (4, .long u8.1), (6, .int (a41_6 + (1 : Int32)))]) 4 rfl dX5_drawWorld_110 rfl (by decide) rfl ?_
              refine V_goto E (tgt := 41) dX5_drawWorld_113 (by decide) ?_
              exact ih u8.1 (a41_6 + (1 : Int32)) u8.2 _ hf hk
      refine V_sub [0, 2, 3, 4, 5] rfl ?_
      obtain ⟨u5, hu5, hf⟩ := bd hf
      refine L41 FU p1.toInt64 (0 : Int32) sc_dots u5 hu5 ?_
      refine V_iload_n E 0 rfl dX5_drawWorld_116 ?_
      have h9 := hret 117 [(3, .int sc_columns)] dX5_drawWorld_117
      rw [← (Option.some.inj hf)] at h9
      exact h9
    · have hf := ip hc4 hf
      refine V_bipush E (v := (-2 : Int32)) dX5_drawWorld_21 (by decide) ?_
      have h9 := hret 23 [(0, .ref (qSc 0)), (1, .int p1), (2, .int p2)] dX5_drawWorld_23
      rw [← (Option.some.inj hf)] at h9
      exact h9
abbrev rmSc_hasDot : Room := { frames := 0, cells := 0, slots := 0, locals := 0 }
theorem wd_yX5_hasDot : wdV yX5_hasDot cX5_hasDot 3 (some .boolean) 2 := ⟨wc_yX5_hasDot, wi_yX5_hasDot, wse_yX5_hasDot, wini_X5, by decide +kernel, by decide +kernel, by decide +kernel⟩
set_option maxHeartbeats 4000000 in
set_option maxRecDepth 100000 in
theorem kSc_hasDot (l : Launch) (G : wG) (qSc : Nat → Nat) (p1 : Int32) (p2 : Int32) (sc_columns : Int32) (sc_count : Int32) (sc_cornerChange : Int32) (sc_voteApart : Int32) (sc_dots : Nat → Int32) (sc_cells : Nat → Int32) (sc_shotX : Nat → Int32) (sc_shotY : Nat → Int32) (sc_shotColumns : Nat → Int32) (o : Int32) (hf : fSc_hasDot p1 p2 sc_columns = some o) : Ct G l yX5_hasDot cX5_hasDot 3 (some .boolean) rmSc_hasDot [.ref (qSc 0), .int p1, .int p2] (gSc G qSc sc_columns sc_count sc_cornerChange sc_voteApart sc_dots sc_cells sc_shotX sc_shotY sc_shotColumns) (some (.int o)) (gSc G qSc sc_columns sc_count sc_cornerChange sc_voteApart sc_dots sc_cells sc_shotX sc_shotY sc_shotColumns) := by
  refine Ct.ofZ (by decide +kernel) (Nat.le_of_ble_eq_true rfl) (fun p e s m args below meth c A Q E hret => ?_)
  unfold fSc_hasDot at hf
  show V G p l e rmSc_hasDot s m args below meth c 3 A Q 0 0 (gSc G qSc sc_columns sc_count sc_cornerChange sc_voteApart sc_dots sc_cells sc_shotX sc_shotY sc_shotColumns) 0 [(0, .ref (qSc 0)), (1, .int p1), (2, .int p2)] []
  refine V_iload_n E 1 rfl dX5_hasDot_0 ?_
  refine V_if_lt E (tgt := 32) dX5_hasDot_1 (by decide) (fun hc1 => ?_) (fun hc1 => ?_)
  · have hf := ip hc1 hf
    refine V_iconst E (v := (0 : Int32)) dX5_hasDot_32 (by decide) ?_
    have h9 := hret 33 [(0, .ref (qSc 0)), (1, .int p1), (2, .int p2)] dX5_hasDot_33
    rw [← (Option.some.inj hf)] at h9
    exact h9 (z01a (Or.inl rfl))
  · have hf := iq hc1 hf
    refine V_iload_n E 1 rfl dX5_hasDot_4 ?_
    refine V_bipush E (v := (6 : Int32)) dX5_hasDot_5 (by decide) ?_
    refine V_icmp_ge E (tgt := 32) dX5_hasDot_7 (by decide) (fun hc2 => ?_) (fun hc2 => ?_)
    · have hf := ip hc2 hf
      refine V_iconst E (v := (0 : Int32)) dX5_hasDot_32 (by decide) ?_
      have h9 := hret 33 [(0, .ref (qSc 0)), (1, .int p1), (2, .int p2)] dX5_hasDot_33
      rw [← (Option.some.inj hf)] at h9
      exact h9 (z01a (Or.inl rfl))
    · have hf := iq hc2 hf
      refine V_iload_n E 2 rfl dX5_hasDot_10 ?_
      refine V_if_lt E (tgt := 32) dX5_hasDot_11 (by decide) (fun hc3 => ?_) (fun hc3 => ?_)
      · have hf := ip hc3 hf
        refine V_iconst E (v := (0 : Int32)) dX5_hasDot_32 (by decide) ?_
        have h9 := hret 33 [(0, .ref (qSc 0)), (1, .int p1), (2, .int p2)] dX5_hasDot_33
        rw [← (Option.some.inj hf)] at h9
        exact h9 (z01a (Or.inl rfl))
      · have hf := iq hc3 hf
        refine V_iload_n E 2 rfl dX5_hasDot_14 ?_
        refine V_aload_n E 0 rfl dX5_hasDot_15 ?_
        refine gfX5_34 E 0 rfl rfl dX5_hasDot_16 ?_
        refine V_icmp_ge E (tgt := 32) dX5_hasDot_19 (by decide) (fun hc4 => ?_) (fun hc4 => ?_)
        · have hf := ip hc4 hf
          refine V_iconst E (v := (0 : Int32)) dX5_hasDot_32 (by decide) ?_
          have h9 := hret 33 [(0, .ref (qSc 0)), (1, .int p1), (2, .int p2)] dX5_hasDot_33
          rw [← (Option.some.inj hf)] at h9
          exact h9 (z01a (Or.inl rfl))
        · have hf := iq hc4 hf
          refine V_iload_n E 2 rfl dX5_hasDot_22 ?_
          refine V_bipush E (v := (32 : Int32)) dX5_hasDot_23 (by decide) ?_
          refine V_icmp_ge E (tgt := 32) dX5_hasDot_25 (by decide) (fun hc5 => ?_) (fun hc5 => ?_)
          · have hf := ip hc5 hf
            refine V_iconst E (v := (0 : Int32)) dX5_hasDot_32 (by decide) ?_
            have h9 := hret 33 [(0, .ref (qSc 0)), (1, .int p1), (2, .int p2)] dX5_hasDot_33
            rw [← (Option.some.inj hf)] at h9
            exact h9 (z01a (Or.inl rfl))
          · have hf := iq hc5 hf
            refine V_iconst E (v := (1 : Int32)) dX5_hasDot_28 (by decide) ?_
            refine V_goto E (tgt := 33) dX5_hasDot_29 (by decide) ?_
            have h9 := hret 33 [(0, .ref (qSc 0)), (1, .int p1), (2, .int p2)] dX5_hasDot_33
            rw [← (Option.some.inj hf)] at h9
            exact h9 (z01a (Or.inr rfl))
abbrev rmSc_dotAt : Room := { frames := 1, cells := 0, slots := 0, locals := 22 }
theorem wd_yX5_dotAt : wdV yX5_dotAt cX5_dotAt 3 (some .int) 2 := ⟨wc_yX5_dotAt, wi_yX5_dotAt, wse_yX5_dotAt, wini_X5, by decide +kernel, by decide +kernel, by decide +kernel⟩
set_option maxHeartbeats 4000000 in
set_option maxRecDepth 100000 in
theorem kSc_dotAt (l : Launch) (G : wG) (qSc : Nat → Nat) (p1 : Int32) (p2 : Int32) (sc_columns : Int32) (sc_count : Int32) (sc_cornerChange : Int32) (sc_voteApart : Int32) (sc_dots : Nat → Int32) (sc_cells : Nat → Int32) (sc_shotX : Nat → Int32) (sc_shotY : Nat → Int32) (sc_shotColumns : Nat → Int32) (o : Int32) (hf : fSc_dotAt p1 p2 sc_columns sc_dots = some o) : Ct G l yX5_dotAt cX5_dotAt 3 (some .int) rmSc_dotAt [.ref (qSc 0), .int p1, .int p2] (gSc G qSc sc_columns sc_count sc_cornerChange sc_voteApart sc_dots sc_cells sc_shotX sc_shotY sc_shotColumns) (some (.int o)) (gSc G qSc sc_columns sc_count sc_cornerChange sc_voteApart sc_dots sc_cells sc_shotX sc_shotY sc_shotColumns) := by
  refine Ct.ofI (by decide +kernel) (Nat.le_of_ble_eq_true rfl) (fun p e s m args below meth c A Q E hret => ?_)
  unfold fSc_dotAt at hf
  show V G p l e rmSc_dotAt s m args below meth c 3 A Q 0 0 (gSc G qSc sc_columns sc_count sc_cornerChange sc_voteApart sc_dots sc_cells sc_shotX sc_shotY sc_shotColumns) 0 [(0, .ref (qSc 0)), (1, .int p1), (2, .int p2)] []
  refine V_aload_n E 0 rfl dX5_dotAt_0 ?_
  refine V_iload_n E 1 rfl dX5_dotAt_1 ?_
  refine V_iload_n E 2 rfl dX5_dotAt_2 ?_
  obtain ⟨u1, hu1, hf⟩ := bd hf
  refine V_frW E (Rn_V E (rest := []) mlX5_46 wd_yX5_hasDot (kSc_hasDot l G qSc p1 p2 sc_columns sc_count sc_cornerChange sc_voteApart sc_dots sc_cells sc_shotX sc_shotY sc_shotColumns u1 hu1) ⟨rfl, rfl, Nat.le_of_ble_eq_true rfl, Nat.le_of_ble_eq_true rfl⟩ 0 rfl rfl rfl rfl rfl (Nat.le_of_ble_eq_true rfl) dX5_dotAt_3) ?_
  show V G p l e rmSc_dotAt s m args below meth c 3 A Q 0 0 (gSc G qSc sc_columns sc_count sc_cornerChange sc_voteApart sc_dots sc_cells sc_shotX sc_shotY sc_shotColumns) 6 [(0, .ref (qSc 0)), (1, .int p1), (2, .int p2)] [.int u1]
  refine V_if_eq E (tgt := 23) dX5_dotAt_6 (by decide) (fun hc2 => ?_) (fun hc2 => ?_)
  · have hf := ip hc2 hf
    refine V_iconst E (v := (0 : Int32)) dX5_dotAt_23 (by decide) ?_
    have h9 := hret 24 [(0, .ref (qSc 0)), (1, .int p1), (2, .int p2)] dX5_dotAt_24
    rw [← (Option.some.inj hf)] at h9
    exact h9
  · have hf := iq hc2 hf
    refine V_aload_n E 0 rfl dX5_dotAt_9 ?_
    refine gfX5_18 E 0 rfl rfl dX5_dotAt_10 ?_
    refine V_iload_n E 1 rfl dX5_dotAt_13 ?_
    refine V_bipush E (v := (32 : Int32)) dX5_dotAt_14 (by decide) ?_
    refine V_imul E dX5_dotAt_16 ?_
    refine V_iload_n E 2 rfl dX5_dotAt_17 ?_
    refine V_iadd E dX5_dotAt_18 ?_
    obtain ⟨hi3, hf⟩ := asr_ok hf
    refine V_iald E 1 rfl hi3 dX5_dotAt_19 ?_
    refine V_goto E (tgt := 24) dX5_dotAt_20 (by decide) ?_
    have h9 := hret 24 [(0, .ref (qSc 0)), (1, .int p1), (2, .int p2)] dX5_dotAt_24
    rw [← (Option.some.inj hf)] at h9
    exact h9
abbrev rmSc_takeShot : Room := { frames := 2, cells := 0, slots := 0, locals := 44 }
theorem wd_yX5_takeShot : wdV yX5_takeShot cX5_takeShot 8 (some .int) 3 := ⟨wc_yX5_takeShot, wi_yX5_takeShot, wse_yX5_takeShot, wini_X5, by decide +kernel, by decide +kernel, by decide +kernel⟩
set_option maxHeartbeats 4000000 in
set_option maxRecDepth 100000 in
theorem kSc_takeShot (l : Launch) (G : wG) (qSc : Nat → Nat) (p1 : Int32) (p2 : Int32) (p3 : Int32) (sc_columns : Int32) (sc_count : Int32) (sc_cornerChange : Int32) (sc_voteApart : Int32) (sc_dots : Nat → Int32) (sc_cells : Nat → Int32) (sc_shotX : Nat → Int32) (sc_shotY : Nat → Int32) (sc_shotColumns : Nat → Int32) (o : Int32 × Int32 × (Nat → Int32) × (Nat → Int32) × (Nat → Int32) × (Nat → Int32)) (hf : fSc_takeShot p1 p2 p3 sc_columns sc_count sc_dots sc_cells sc_shotX sc_shotY sc_shotColumns = some o) : Ct G l yX5_takeShot cX5_takeShot 8 (some .int) rmSc_takeShot [.ref (qSc 0), .int p1, .int p2, .int p3] (gSc G qSc sc_columns sc_count sc_cornerChange sc_voteApart sc_dots sc_cells sc_shotX sc_shotY sc_shotColumns) (some (.int o.1)) (gSc G qSc sc_columns o.2.1 sc_cornerChange sc_voteApart sc_dots o.2.2.1 o.2.2.2.1 o.2.2.2.2.1 o.2.2.2.2.2) := by
  refine Ct.ofI (by decide +kernel) (Nat.le_of_ble_eq_true rfl) (fun p e s m args below meth c A Q E hret => ?_)
  unfold fSc_takeShot at hf
  show V G p l e rmSc_takeShot s m args below meth c 8 A Q 0 0 (gSc G qSc sc_columns sc_count sc_cornerChange sc_voteApart sc_dots sc_cells sc_shotX sc_shotY sc_shotColumns) 0 [(0, .ref (qSc 0)), (1, .int p1), (2, .int p2), (3, .int p3)] []
  refine V_iload_n E 1 rfl dX5_takeShot_0 ?_
  refine V_iconst E (v := (0 : Int32)) dX5_takeShot_1 (by decide) ?_
  refine V_aload_n E 0 rfl dX5_takeShot_2 ?_
  refine gfX5_34 E 0 rfl rfl dX5_takeShot_3 ?_
  refine V_iconst E (v := (1 : Int32)) dX5_takeShot_6 (by decide) ?_
  refine V_isub E dX5_takeShot_7 ?_
  obtain ⟨u1, hu1, hf⟩ := bd hf
  refine V_fr0 E (Rn_N E (rest := []) 0 rfl wd_yX7_within (kRi_within l G p1 (0 : Int32) (sc_columns - (1 : Int32)) u1 hu1) ⟨rfl, rfl, Nat.le_of_ble_eq_true rfl, Nat.le_of_ble_eq_true rfl⟩ rfl rfl (Nat.le_of_ble_eq_true rfl) dX5_takeShot_8) ?_
  show V G p l e rmSc_takeShot s m args below meth c 8 A Q 0 0 (gSc G qSc sc_columns sc_count sc_cornerChange sc_voteApart sc_dots sc_cells sc_shotX sc_shotY sc_shotColumns) 11 [(0, .ref (qSc 0)), (1, .int p1), (2, .int p2), (3, .int p3)] [.int u1]
  refine V_if_eq E (tgt := 34) dX5_takeShot_11 (by decide) (fun hc2 => ?_) (fun hc2 => ?_)
  · have hf := ip hc2 hf
    refine V_bipush E (v := (-2 : Int32)) dX5_takeShot_34 (by decide) ?_
    have h9 := hret 36 [(0, .ref (qSc 0)), (1, .int p1), (2, .int p2), (3, .int p3)] dX5_takeShot_36
    rw [← (Option.some.inj hf)] at h9
    exact h9
  · have hf := iq hc2 hf
    refine V_iload_n E 2 rfl dX5_takeShot_14 ?_
    refine V_iconst E (v := (0 : Int32)) dX5_takeShot_15 (by decide) ?_
    refine V_iconst E (v := (2 : Int32)) dX5_takeShot_16 (by decide) ?_
    obtain ⟨u3, hu3, hf⟩ := bd hf
    refine V_fr0 E (Rn_N E (rest := []) 0 rfl wd_yX7_within (kRi_within l G p2 (0 : Int32) (2 : Int32) u3 hu3) ⟨rfl, rfl, Nat.le_of_ble_eq_true rfl, Nat.le_of_ble_eq_true rfl⟩ rfl rfl (Nat.le_of_ble_eq_true rfl) dX5_takeShot_17) ?_
    show V G p l e rmSc_takeShot s m args below meth c 8 A Q 0 0 (gSc G qSc sc_columns sc_count sc_cornerChange sc_voteApart sc_dots sc_cells sc_shotX sc_shotY sc_shotColumns) 20 [(0, .ref (qSc 0)), (1, .int p1), (2, .int p2), (3, .int p3)] [.int u3]
    refine V_if_eq E (tgt := 34) dX5_takeShot_20 (by decide) (fun hc4 => ?_) (fun hc4 => ?_)
    · have hf := ip hc4 hf
      refine V_bipush E (v := (-2 : Int32)) dX5_takeShot_34 (by decide) ?_
      have h9 := hret 36 [(0, .ref (qSc 0)), (1, .int p1), (2, .int p2), (3, .int p3)] dX5_takeShot_36
      rw [← (Option.some.inj hf)] at h9
      exact h9
    · have hf := iq hc4 hf
      refine V_iload_n E 3 rfl dX5_takeShot_23 ?_
      refine V_bipush E (v := (-20 : Int32)) dX5_takeShot_24 (by decide) ?_
      refine V_bipush E (v := (20 : Int32)) dX5_takeShot_26 (by decide) ?_
      obtain ⟨u5, hu5, hf⟩ := bd hf
      refine V_fr0 E (Rn_N E (rest := []) 0 rfl wd_yX7_within (kRi_within l G p3 (-20 : Int32) (20 : Int32) u5 hu5) ⟨rfl, rfl, Nat.le_of_ble_eq_true rfl, Nat.le_of_ble_eq_true rfl⟩ rfl rfl (Nat.le_of_ble_eq_true rfl) dX5_takeShot_28) ?_
      show V G p l e rmSc_takeShot s m args below meth c 8 A Q 0 0 (gSc G qSc sc_columns sc_count sc_cornerChange sc_voteApart sc_dots sc_cells sc_shotX sc_shotY sc_shotColumns) 31 [(0, .ref (qSc 0)), (1, .int p1), (2, .int p2), (3, .int p3)] [.int u5]
      refine V_if_ne E (tgt := 37) dX5_takeShot_31 (by decide) (fun hc6 => ?_) (fun hc6 => ?_)
      · have hf := iq hc6 hf
        refine V_aload_n E 0 rfl dX5_takeShot_37 ?_
        refine gfX5_37 E 0 rfl rfl dX5_takeShot_38 ?_
        refine V_istore E (lv' := [(0, .ref (qSc 0)), (1, .int p1), (2, .int p2), (3, .int p3), (4, .int sc_count)]) dX5_takeShot_41 (by decide) rfl ?_
        refine V_iload E 4 rfl dX5_takeShot_43 ?_
        refine V_if_lt E (tgt := 55) dX5_takeShot_45 (by decide) (fun hc7 => ?_) (fun hc7 => ?_)
        · have hf := ip hc7 hf
          refine V_bipush E (v := (-4 : Int32)) dX5_takeShot_55 (by decide) ?_
          have h9 := hret 57 [(0, .ref (qSc 0)), (1, .int p1), (2, .int p2), (3, .int p3), (4, .int sc_count)] dX5_takeShot_57
          rw [← (Option.some.inj hf)] at h9
          exact h9
        · have hf := iq hc7 hf
          refine V_iload E 4 rfl dX5_takeShot_48 ?_
          refine V_bipush E (v := (6 : Int32)) dX5_takeShot_50 (by decide) ?_
          refine V_icmp_lt E (tgt := 58) dX5_takeShot_52 (by decide) (fun hc8 => ?_) (fun hc8 => ?_)
          · have hf := ip hc8 hf
            refine V_aload_n E 0 rfl dX5_takeShot_58 ?_
            refine V_dup E dX5_takeShot_59 rfl ?_
            refine gfX5_37 E 0 rfl rfl dX5_takeShot_60 ?_
            refine V_iconst E (v := (1 : Int32)) dX5_takeShot_63 (by decide) ?_
            refine V_iadd E dX5_takeShot_64 ?_
            refine pfX5_37 E (ws' := (gSc G qSc sc_columns (sc_count + (1 : Int32)) sc_cornerChange sc_voteApart sc_dots sc_cells sc_shotX sc_shotY sc_shotColumns)) 0 rfl (Nat.le_of_ble_eq_true rfl) rfl rfl dX5_takeShot_65 rfl ?_
            refine V_aload_n E 0 rfl dX5_takeShot_68 ?_
            refine gfX5_25 E 0 rfl rfl dX5_takeShot_69 ?_
            refine V_iload E 4 rfl dX5_takeShot_72 ?_
            refine V_iload_n E 1 rfl dX5_takeShot_74 ?_
            obtain ⟨hi9, hf⟩ := asr_ok hf
            refine V_iast E (ws' := (gSc G qSc sc_columns (sc_count + (1 : Int32)) sc_cornerChange sc_voteApart sc_dots sc_cells (upd sc_shotX sc_count.toNatClampNeg p1) sc_shotY sc_shotColumns)) 3 rfl hi9 dX5_takeShot_75 rfl ?_
            refine V_aload_n E 0 rfl dX5_takeShot_76 ?_
            refine gfX5_28 E 0 rfl rfl dX5_takeShot_77 ?_
            refine V_iload E 4 rfl dX5_takeShot_80 ?_
            refine V_iload_n E 2 rfl dX5_takeShot_82 ?_
            obtain ⟨hi10, hf⟩ := asr_ok hf
            refine V_iast E (ws' := (gSc G qSc sc_columns (sc_count + (1 : Int32)) sc_cornerChange sc_voteApart sc_dots sc_cells (upd sc_shotX sc_count.toNatClampNeg p1) (upd sc_shotY sc_count.toNatClampNeg p2) sc_shotColumns)) 4 rfl hi10 dX5_takeShot_83 rfl ?_
            refine V_aload_n E 0 rfl dX5_takeShot_84 ?_
            refine gfX5_31 E 0 rfl rfl dX5_takeShot_85 ?_
            refine V_iload E 4 rfl dX5_takeShot_88 ?_
            refine V_aload_n E 0 rfl dX5_takeShot_90 ?_
            refine gfX5_34 E 0 rfl rfl dX5_takeShot_91 ?_
            obtain ⟨hi11, hf⟩ := asr_ok hf
            refine V_iast E (ws' := (gSc G qSc sc_columns (sc_count + (1 : Int32)) sc_cornerChange sc_voteApart sc_dots sc_cells (upd sc_shotX sc_count.toNatClampNeg p1) (upd sc_shotY sc_count.toNatClampNeg p2) (upd sc_shotColumns sc_count.toNatClampNeg sc_columns))) 5 rfl hi11 dX5_takeShot_94 rfl ?_
            refine V_iconst E (v := (0 : Int32)) dX5_takeShot_95 (by decide) ?_
            refine V_istore E (lv' := [(0, .ref (qSc 0)), (1, .int p1), (2, .int p2), (3, .int p3), (4, .int sc_count), (5, .int (0 : Int32))]) dX5_takeShot_96 (by decide) rfl ?_
            have L98 : ∀ (n : Nat) (a98_5 : Int32) (c98_sc_cells : Nat → Int32) (u : (Nat → Int32)), fSc_takeShot_L98 p1 p2 p3 sc_count sc_columns sc_dots n a98_5 c98_sc_cells = some u → (V G p l e rmSc_takeShot s m args below meth c 8 A Q 0 0 (gSc G qSc sc_columns (sc_count + (1 : Int32)) sc_cornerChange sc_voteApart sc_dots u (upd sc_shotX sc_count.toNatClampNeg p1) (upd sc_shotY sc_count.toNatClampNeg p2) (upd sc_shotColumns sc_count.toNatClampNeg sc_columns)) 195 [(4, .int sc_count)] []) → V G p l e rmSc_takeShot s m args below meth c 8 A Q 0 0 (gSc G qSc sc_columns (sc_count + (1 : Int32)) sc_cornerChange sc_voteApart sc_dots c98_sc_cells (upd sc_shotX sc_count.toNatClampNeg p1) (upd sc_shotY sc_count.toNatClampNeg p2) (upd sc_shotColumns sc_count.toNatClampNeg sc_columns)) 98 [(0, .ref (qSc 0)), (1, .int p1), (2, .int p2), (3, .int p3), (4, .int sc_count), (5, .int a98_5)] [] := by
              intro n
              induction n with
              | zero =>
                intro a98_5 c98_sc_cells u hf hk
                rw [fSc_takeShot_L98] at hf
                cases hf
              | succ n ih =>
                intro a98_5 c98_sc_cells u hf hk
                rw [fSc_takeShot_L98] at hf
                refine V_iload E 5 rfl dX5_takeShot_98 ?_
                refine V_iconst E (v := (4 : Int32)) dX5_takeShot_100 (by decide) ?_
                refine V_icmp_ge E (tgt := 195) dX5_takeShot_101 (by decide) (fun hc13 => ?_) (fun hc13 => ?_)
                · have hf := ip hc13 hf
                  refine V_sub [4] rfl ?_
                  rw [← Option.some.inj hf] at hk
                  exact hk
                · have hf := iq hc13 hf
                  refine V_iconst E (v := (0 : Int32)) dX5_takeShot_104 (by decide) ?_
                  refine V_istore E (lv' := [(0, .ref (qSc 0)), (1, .int p1), (2, .int p2), (3, .int p3), (4, .int sc_count), (5, .int a98_5), (6, .int (0 : Int32))]) dX5_takeShot_105 (by decide) rfl ?_
                  have L107 : ∀ (n : Nat) (a107_6 : Int32) (c107_sc_cells : Nat → Int32) (u : (Nat → Int32)), fSc_takeShot_L107 p1 p2 p3 sc_count a98_5 sc_columns sc_dots n a107_6 c107_sc_cells = some u → (V G p l e rmSc_takeShot s m args below meth c 8 A Q 0 0 (gSc G qSc sc_columns (sc_count + (1 : Int32)) sc_cornerChange sc_voteApart sc_dots u (upd sc_shotX sc_count.toNatClampNeg p1) (upd sc_shotY sc_count.toNatClampNeg p2) (upd sc_shotColumns sc_count.toNatClampNeg sc_columns)) 189 [(0, .ref (qSc 0)), (1, .int p1), (2, .int p2), (3, .int p3), (4, .int sc_count), (5, .int a98_5)] []) → V G p l e rmSc_takeShot s m args below meth c 8 A Q 0 0 (gSc G qSc sc_columns (sc_count + (1 : Int32)) sc_cornerChange sc_voteApart sc_dots c107_sc_cells (upd sc_shotX sc_count.toNatClampNeg p1) (upd sc_shotY sc_count.toNatClampNeg p2) (upd sc_shotColumns sc_count.toNatClampNeg sc_columns)) 107 [(0, .ref (qSc 0)), (1, .int p1), (2, .int p2), (3, .int p3), (4, .int sc_count), (5, .int a98_5), (6, .int a107_6)] [] := by
                    intro n
                    induction n with
                    | zero =>
                      intro a107_6 c107_sc_cells u hf hk
                      rw [fSc_takeShot_L107] at hf
                      cases hf
                    | succ n ih =>
                      intro a107_6 c107_sc_cells u hf hk
                      rw [fSc_takeShot_L107] at hf
                      refine V_iload E 6 rfl dX5_takeShot_107 ?_
                      refine V_bipush E (v := (8 : Int32)) dX5_takeShot_109 (by decide) ?_
                      refine V_icmp_ge E (tgt := 189) dX5_takeShot_111 (by decide) (fun hc15 => ?_) (fun hc15 => ?_)
                      · have hf := ip hc15 hf
                        refine V_sub [0, 1, 2, 3, 4, 5] rfl ?_
                        rw [← Option.some.inj hf] at hk
                        exact hk
                      · have hf := iq hc15 hf
                        refine V_aload_n E 0 rfl dX5_takeShot_114 ?_
                        refine V_iload_n E 2 rfl dX5_takeShot_115 ?_
                        refine V_iload E 5 rfl dX5_takeShot_116 ?_
                        refine V_iadd E dX5_takeShot_118 ?_
                        refine V_iload_n E 1 rfl dX5_takeShot_119 ?_
                        refine V_iload E 6 rfl dX5_takeShot_120 ?_
                        refine V_iadd E dX5_takeShot_122 ?_
                        refine V_aload_n E 0 rfl dX5_takeShot_123 ?_
                        refine gfX5_34 E 0 rfl rfl dX5_takeShot_124 ?_
                        obtain ⟨u17, hu17, hf⟩ := bd hf
                        have J146 : V G p l e rmSc_takeShot s m args below meth c 8 A Q 0 0 (gSc G qSc sc_columns (sc_count + (1 : Int32)) sc_cornerChange sc_voteApart sc_dots c107_sc_cells (upd sc_shotX sc_count.toNatClampNeg p1) (upd sc_shotY sc_count.toNatClampNeg p2) (upd sc_shotColumns sc_count.toNatClampNeg sc_columns)) 146 [(0, .ref (qSc 0)), (1, .int p1), (2, .int p2), (3, .int p3), (4, .int sc_count), (5, .int a98_5), (6, .int a107_6)] [.int u17, .int (p2 + a98_5), .ref (qSc 0)] := by
                          obtain ⟨u18, hu18, hf⟩ := bd hf
                          refine V_frW E (Rn_V E (rest := []) mlX5_68 wd_yX5_dotAt (kSc_dotAt l G qSc (p2 + a98_5) u17 sc_columns (sc_count + (1 : Int32)) sc_cornerChange sc_voteApart sc_dots c107_sc_cells (upd sc_shotX sc_count.toNatClampNeg p1) (upd sc_shotY sc_count.toNatClampNeg p2) (upd sc_shotColumns sc_count.toNatClampNeg sc_columns) u18 hu18) ⟨rfl, rfl, Nat.le_of_ble_eq_true rfl, Nat.le_of_ble_eq_true rfl⟩ 0 rfl rfl rfl rfl rfl (Nat.le_of_ble_eq_true rfl) dX5_takeShot_146) ?_
                          show V G p l e rmSc_takeShot s m args below meth c 8 A Q 0 0 (gSc G qSc sc_columns (sc_count + (1 : Int32)) sc_cornerChange sc_voteApart sc_dots c107_sc_cells (upd sc_shotX sc_count.toNatClampNeg p1) (upd sc_shotY sc_count.toNatClampNeg p2) (upd sc_shotColumns sc_count.toNatClampNeg sc_columns)) 149 [(0, .ref (qSc 0)), (1, .int p1), (2, .int p2), (3, .int p3), (4, .int sc_count), (5, .int a98_5), (6, .int a107_6)] [.int u18]
                          refine V_istore E (lv' := [(0, .ref (qSc 0)), (1, .int p1), (2, .int p2), (3, .int p3), (4, .int sc_count), (5, .int a98_5), (6, .int a107_6), (7, .int u18)]) dX5_takeShot_149 (by decide) rfl ?_
                          refine V_aload_n E 0 rfl dX5_takeShot_151 ?_
                          refine gfX5_22 E 0 rfl rfl dX5_takeShot_152 ?_
                          refine V_iload E 4 rfl dX5_takeShot_155 ?_
                          refine V_bipush E (v := (32 : Int32)) dX5_takeShot_157 (by decide) ?_
                          refine V_imul E dX5_takeShot_159 ?_
                          refine V_iload E 5 rfl dX5_takeShot_160 ?_
                          refine V_bipush E (v := (8 : Int32)) dX5_takeShot_162 (by decide) ?_
                          refine V_imul E dX5_takeShot_164 ?_
                          refine V_iadd E dX5_takeShot_165 ?_
                          refine V_iload E 6 rfl dX5_takeShot_166 ?_
                          refine V_iadd E dX5_takeShot_168 ?_
                          refine V_iconst E (v := (0 : Int32)) dX5_takeShot_169 (by decide) ?_
                          refine V_bipush E (v := (63 : Int32)) dX5_takeShot_170 (by decide) ?_
                          refine V_iload E 7 rfl dX5_takeShot_172 ?_
                          refine V_iload_n E 3 rfl dX5_takeShot_174 ?_
                          refine V_iadd E dX5_takeShot_175 ?_
                          refine V_mmin E mlX5_72 dX5_takeShot_176 ⟨Nat.le_of_ble_eq_true rfl, Nat.le_of_ble_eq_true rfl⟩ ?_
                          refine V_mmax E mlX5_77 dX5_takeShot_179 ⟨Nat.le_of_ble_eq_true rfl, Nat.le_of_ble_eq_true rfl⟩ ?_
                          obtain ⟨hi19, hf⟩ := asr_ok hf
                          refine V_iast E (ws' := (gSc G qSc sc_columns (sc_count + (1 : Int32)) sc_cornerChange sc_voteApart sc_dots (upd c107_sc_cells (((sc_count * (32 : Int32)) + (a98_5 * (8 : Int32))) + a107_6).toNatClampNeg (if (0 : Int32) < (if (u18 + p3) < (63 : Int32) then (u18 + p3) else (63 : Int32)) then (if (u18 + p3) < (63 : Int32) then (u18 + p3) else (63 : Int32)) else (0 : Int32))) (upd sc_shotX sc_count.toNatClampNeg p1) (upd sc_shotY sc_count.toNatClampNeg p2) (upd sc_shotColumns sc_count.toNatClampNeg sc_columns))) 2 rfl hi19 dX5_takeShot_182 rfl ?_
                          refine V_iinc E (v := (a107_6 + (1 : Int32))) (lv' := [(0, .ref (qSc 0)), (1, .int p1), (2, .int p2), (3, .int p3), (4, .int sc_count), (5, .int a98_5), (6, .int (a107_6 + (1 : Int32))), (7, .int u18)]) 6 rfl dX5_takeShot_183 rfl (by decide) rfl ?_
                          refine V_goto E (tgt := 107) dX5_takeShot_186 (by decide) ?_
                          refine V_sub [0, 1, 2, 3, 4, 5, 6] rfl ?_
                          exact ih (a107_6 + (1 : Int32)) (upd c107_sc_cells (((sc_count * (32 : Int32)) + (a98_5 * (8 : Int32))) + a107_6).toNatClampNeg (if (0 : Int32) < (if (u18 + p3) < (63 : Int32) then (u18 + p3) else (63 : Int32)) then (if (u18 + p3) < (63 : Int32) then (u18 + p3) else (63 : Int32)) else (0 : Int32))) _ hf hk
                        clear hf
                        have hf := hu17
                        refine V_icmp_ge E (tgt := 137) dX5_takeShot_127 (by decide) (fun hc16 => ?_) (fun hc16 => ?_)
                        · have hf := ip hc16 hf
                          refine V_iload_n E 1 rfl dX5_takeShot_137 ?_
                          refine V_iload E 6 rfl dX5_takeShot_138 ?_
                          refine V_iadd E dX5_takeShot_140 ?_
                          refine V_aload_n E 0 rfl dX5_takeShot_141 ?_
                          refine gfX5_34 E 0 rfl rfl dX5_takeShot_142 ?_
                          refine V_isub E dX5_takeShot_145 ?_
                          rw [← Option.some.inj hf] at J146
                          exact J146
                        · have hf := iq hc16 hf
                          refine V_iload_n E 1 rfl dX5_takeShot_130 ?_
                          refine V_iload E 6 rfl dX5_takeShot_131 ?_
                          refine V_iadd E dX5_takeShot_133 ?_
                          refine V_goto E (tgt := 146) dX5_takeShot_134 (by decide) ?_
                          rw [← Option.some.inj hf] at J146
                          exact J146
                  obtain ⟨u14, hu14, hf⟩ := bd hf
                  refine L107 FU (0 : Int32) c98_sc_cells u14 hu14 ?_
                  refine V_iinc E (v := (a98_5 + (1 : Int32))) (lv' := [(0, .ref (qSc 0)), (1, .int p1), (2, .int p2), (3, .int p3), (4, .int sc_count), (5, .int (a98_5 + (1 : Int32)))]) 5 rfl dX5_takeShot_189 rfl (by decide) rfl ?_
                  refine V_goto E (tgt := 98) dX5_takeShot_192 (by decide) ?_
                  exact ih (a98_5 + (1 : Int32)) u14 _ hf hk
            obtain ⟨u12, hu12, hf⟩ := bd hf
            refine L98 FU (0 : Int32) sc_cells u12 hu12 ?_
            refine V_iload E 0 rfl dX5_takeShot_195 ?_
            have h9 := hret 197 [(4, .int sc_count)] dX5_takeShot_197
            rw [← (Option.some.inj hf)] at h9
            exact h9
          · have hf := iq hc8 hf
            refine V_bipush E (v := (-4 : Int32)) dX5_takeShot_55 (by decide) ?_
            have h9 := hret 57 [(0, .ref (qSc 0)), (1, .int p1), (2, .int p2), (3, .int p3), (4, .int sc_count)] dX5_takeShot_57
            rw [← (Option.some.inj hf)] at h9
            exact h9
      · have hf := ip hc6 hf
        refine V_bipush E (v := (-2 : Int32)) dX5_takeShot_34 (by decide) ?_
        have h9 := hret 36 [(0, .ref (qSc 0)), (1, .int p1), (2, .int p2), (3, .int p3)] dX5_takeShot_36
        rw [← (Option.some.inj hf)] at h9
        exact h9
abbrev rmSc_putCell : Room := { frames := 1, cells := 0, slots := 0, locals := 23 }
theorem wd_yX5_putCell : wdV yX5_putCell cX5_putCell 6 (some .int) 4 := ⟨wc_yX5_putCell, wi_yX5_putCell, wse_yX5_putCell, wini_X5, by decide +kernel, by decide +kernel, by decide +kernel⟩
set_option maxHeartbeats 4000000 in
set_option maxRecDepth 100000 in
theorem kSc_putCell (l : Launch) (G : wG) (qSc : Nat → Nat) (p1 : Int32) (p2 : Int32) (p3 : Int32) (p4 : Int32) (sc_columns : Int32) (sc_count : Int32) (sc_cornerChange : Int32) (sc_voteApart : Int32) (sc_dots : Nat → Int32) (sc_cells : Nat → Int32) (sc_shotX : Nat → Int32) (sc_shotY : Nat → Int32) (sc_shotColumns : Nat → Int32) (o : Int32 × (Nat → Int32)) (hf : fSc_putCell p1 p2 p3 p4 sc_count sc_cells = some o) : Ct G l yX5_putCell cX5_putCell 6 (some .int) rmSc_putCell [.ref (qSc 0), .int p1, .int p2, .int p3, .int p4] (gSc G qSc sc_columns sc_count sc_cornerChange sc_voteApart sc_dots sc_cells sc_shotX sc_shotY sc_shotColumns) (some (.int o.1)) (gSc G qSc sc_columns sc_count sc_cornerChange sc_voteApart sc_dots o.2 sc_shotX sc_shotY sc_shotColumns) := by
  refine Ct.ofI (by decide +kernel) (Nat.le_of_ble_eq_true rfl) (fun p e s m args below meth c A Q E hret => ?_)
  unfold fSc_putCell at hf
  show V G p l e rmSc_putCell s m args below meth c 6 A Q 0 0 (gSc G qSc sc_columns sc_count sc_cornerChange sc_voteApart sc_dots sc_cells sc_shotX sc_shotY sc_shotColumns) 0 [(0, .ref (qSc 0)), (1, .int p1), (2, .int p2), (3, .int p3), (4, .int p4)] []
  refine V_aload_n E 0 rfl dX5_putCell_0 ?_
  refine V_iload_n E 1 rfl dX5_putCell_1 ?_
  refine V_iload_n E 2 rfl dX5_putCell_2 ?_
  refine V_iload_n E 3 rfl dX5_putCell_3 ?_
  obtain ⟨u1, hu1, hf⟩ := bd hf
  refine V_frW E (Rn_V E (rest := []) mlX5_50 wd_yX5_hasCell (kSc_hasCell l G qSc p1 p2 p3 sc_columns sc_count sc_cornerChange sc_voteApart sc_dots sc_cells sc_shotX sc_shotY sc_shotColumns u1 hu1) ⟨rfl, rfl, Nat.le_of_ble_eq_true rfl, Nat.le_of_ble_eq_true rfl⟩ 0 rfl rfl rfl rfl rfl (Nat.le_of_ble_eq_true rfl) dX5_putCell_4) ?_
  show V G p l e rmSc_putCell s m args below meth c 6 A Q 0 0 (gSc G qSc sc_columns sc_count sc_cornerChange sc_voteApart sc_dots sc_cells sc_shotX sc_shotY sc_shotColumns) 7 [(0, .ref (qSc 0)), (1, .int p1), (2, .int p2), (3, .int p3), (4, .int p4)] [.int u1]
  refine V_if_eq E (tgt := 21) dX5_putCell_7 (by decide) (fun hc2 => ?_) (fun hc2 => ?_)
  · have hf := ip hc2 hf
    refine V_bipush E (v := (-2 : Int32)) dX5_putCell_21 (by decide) ?_
    have h9 := hret 23 [(0, .ref (qSc 0)), (1, .int p1), (2, .int p2), (3, .int p3), (4, .int p4)] dX5_putCell_23
    rw [← (Option.some.inj hf)] at h9
    exact h9
  · have hf := iq hc2 hf
    refine V_iload E 4 rfl dX5_putCell_10 ?_
    refine V_iconst E (v := (0 : Int32)) dX5_putCell_12 (by decide) ?_
    refine V_bipush E (v := (63 : Int32)) dX5_putCell_13 (by decide) ?_
    obtain ⟨u3, hu3, hf⟩ := bd hf
    refine V_fr0 E (Rn_N E (rest := []) 0 rfl wd_yX7_within (kRi_within l G p4 (0 : Int32) (63 : Int32) u3 hu3) ⟨rfl, rfl, Nat.le_of_ble_eq_true rfl, Nat.le_of_ble_eq_true rfl⟩ rfl rfl (Nat.le_of_ble_eq_true rfl) dX5_putCell_15) ?_
    show V G p l e rmSc_putCell s m args below meth c 6 A Q 0 0 (gSc G qSc sc_columns sc_count sc_cornerChange sc_voteApart sc_dots sc_cells sc_shotX sc_shotY sc_shotColumns) 18 [(0, .ref (qSc 0)), (1, .int p1), (2, .int p2), (3, .int p3), (4, .int p4)] [.int u3]
    refine V_if_ne E (tgt := 24) dX5_putCell_18 (by decide) (fun hc4 => ?_) (fun hc4 => ?_)
    · have hf := iq hc4 hf
      refine V_aload_n E 0 rfl dX5_putCell_24 ?_
      refine gfX5_22 E 0 rfl rfl dX5_putCell_25 ?_
      refine V_iload_n E 1 rfl dX5_putCell_28 ?_
      refine V_bipush E (v := (32 : Int32)) dX5_putCell_29 (by decide) ?_
      refine V_imul E dX5_putCell_31 ?_
      refine V_iload_n E 2 rfl dX5_putCell_32 ?_
      refine V_bipush E (v := (8 : Int32)) dX5_putCell_33 (by decide) ?_
      refine V_imul E dX5_putCell_35 ?_
      refine V_iadd E dX5_putCell_36 ?_
      refine V_iload_n E 3 rfl dX5_putCell_37 ?_
      refine V_iadd E dX5_putCell_38 ?_
      obtain ⟨hi5, hf⟩ := asr_ok hf
      refine V_iald E 2 rfl hi5 dX5_putCell_39 ?_
      obtain ⟨t6, ht6, hf⟩ := bd hf
      have ht6 := Option.some.inj ht6
      rw [ht6]
      refine V_istore E (lv' := [(0, .ref (qSc 0)), (1, .int p1), (2, .int p2), (3, .int p3), (4, .int p4), (5, .int t6)]) dX5_putCell_40 (by decide) rfl ?_
      refine V_aload_n E 0 rfl dX5_putCell_42 ?_
      refine gfX5_22 E 0 rfl rfl dX5_putCell_43 ?_
      refine V_iload_n E 1 rfl dX5_putCell_46 ?_
      refine V_bipush E (v := (32 : Int32)) dX5_putCell_47 (by decide) ?_
      refine V_imul E dX5_putCell_49 ?_
      refine V_iload_n E 2 rfl dX5_putCell_50 ?_
      refine V_bipush E (v := (8 : Int32)) dX5_putCell_51 (by decide) ?_
      refine V_imul E dX5_putCell_53 ?_
      refine V_iadd E dX5_putCell_54 ?_
      refine V_iload_n E 3 rfl dX5_putCell_55 ?_
      refine V_iadd E dX5_putCell_56 ?_
      refine V_iload E 4 rfl dX5_putCell_57 ?_
      obtain ⟨hi7, hf⟩ := asr_ok hf
      refine V_iast E (ws' := (gSc G qSc sc_columns sc_count sc_cornerChange sc_voteApart sc_dots (upd sc_cells (((p1 * (32 : Int32)) + (p2 * (8 : Int32))) + p3).toNatClampNeg p4) sc_shotX sc_shotY sc_shotColumns)) 2 rfl hi7 dX5_putCell_59 rfl ?_
      refine V_iload E 5 rfl dX5_putCell_60 ?_
      have h9 := hret 62 [(0, .ref (qSc 0)), (1, .int p1), (2, .int p2), (3, .int p3), (4, .int p4), (5, .int t6)] dX5_putCell_62
      rw [← (Option.some.inj hf)] at h9
      exact h9
    · have hf := ip hc4 hf
      refine V_bipush E (v := (-2 : Int32)) dX5_putCell_21 (by decide) ?_
      have h9 := hret 23 [(0, .ref (qSc 0)), (1, .int p1), (2, .int p2), (3, .int p3), (4, .int p4)] dX5_putCell_23
      rw [← (Option.some.inj hf)] at h9
      exact h9
abbrev rmSc_putDot : Room := { frames := 1, cells := 0, slots := 0, locals := 22 }
theorem wd_yX5_putDot : wdV yX5_putDot cX5_putDot 5 (some .int) 3 := ⟨wc_yX5_putDot, wi_yX5_putDot, wse_yX5_putDot, wini_X5, by decide +kernel, by decide +kernel, by decide +kernel⟩
set_option maxHeartbeats 4000000 in
set_option maxRecDepth 100000 in
theorem kSc_putDot (l : Launch) (G : wG) (qSc : Nat → Nat) (p1 : Int32) (p2 : Int32) (p3 : Int32) (sc_columns : Int32) (sc_count : Int32) (sc_cornerChange : Int32) (sc_voteApart : Int32) (sc_dots : Nat → Int32) (sc_cells : Nat → Int32) (sc_shotX : Nat → Int32) (sc_shotY : Nat → Int32) (sc_shotColumns : Nat → Int32) (o : Int32 × (Nat → Int32)) (hf : fSc_putDot p1 p2 p3 sc_columns sc_dots = some o) : Ct G l yX5_putDot cX5_putDot 5 (some .int) rmSc_putDot [.ref (qSc 0), .int p1, .int p2, .int p3] (gSc G qSc sc_columns sc_count sc_cornerChange sc_voteApart sc_dots sc_cells sc_shotX sc_shotY sc_shotColumns) (some (.int o.1)) (gSc G qSc sc_columns sc_count sc_cornerChange sc_voteApart o.2 sc_cells sc_shotX sc_shotY sc_shotColumns) := by
  refine Ct.ofI (by decide +kernel) (Nat.le_of_ble_eq_true rfl) (fun p e s m args below meth c A Q E hret => ?_)
  unfold fSc_putDot at hf
  show V G p l e rmSc_putDot s m args below meth c 5 A Q 0 0 (gSc G qSc sc_columns sc_count sc_cornerChange sc_voteApart sc_dots sc_cells sc_shotX sc_shotY sc_shotColumns) 0 [(0, .ref (qSc 0)), (1, .int p1), (2, .int p2), (3, .int p3)] []
  refine V_aload_n E 0 rfl dX5_putDot_0 ?_
  refine V_iload_n E 1 rfl dX5_putDot_1 ?_
  refine V_iload_n E 2 rfl dX5_putDot_2 ?_
  obtain ⟨u1, hu1, hf⟩ := bd hf
  refine V_frW E (Rn_V E (rest := []) mlX5_46 wd_yX5_hasDot (kSc_hasDot l G qSc p1 p2 sc_columns sc_count sc_cornerChange sc_voteApart sc_dots sc_cells sc_shotX sc_shotY sc_shotColumns u1 hu1) ⟨rfl, rfl, Nat.le_of_ble_eq_true rfl, Nat.le_of_ble_eq_true rfl⟩ 0 rfl rfl rfl rfl rfl (Nat.le_of_ble_eq_true rfl) dX5_putDot_3) ?_
  show V G p l e rmSc_putDot s m args below meth c 5 A Q 0 0 (gSc G qSc sc_columns sc_count sc_cornerChange sc_voteApart sc_dots sc_cells sc_shotX sc_shotY sc_shotColumns) 6 [(0, .ref (qSc 0)), (1, .int p1), (2, .int p2), (3, .int p3)] [.int u1]
  refine V_if_eq E (tgt := 19) dX5_putDot_6 (by decide) (fun hc2 => ?_) (fun hc2 => ?_)
  · have hf := ip hc2 hf
    refine V_bipush E (v := (-2 : Int32)) dX5_putDot_19 (by decide) ?_
    have h9 := hret 21 [(0, .ref (qSc 0)), (1, .int p1), (2, .int p2), (3, .int p3)] dX5_putDot_21
    rw [← (Option.some.inj hf)] at h9
    exact h9
  · have hf := iq hc2 hf
    refine V_iload_n E 3 rfl dX5_putDot_9 ?_
    refine V_iconst E (v := (0 : Int32)) dX5_putDot_10 (by decide) ?_
    refine V_bipush E (v := (63 : Int32)) dX5_putDot_11 (by decide) ?_
    obtain ⟨u3, hu3, hf⟩ := bd hf
    refine V_fr0 E (Rn_N E (rest := []) 0 rfl wd_yX7_within (kRi_within l G p3 (0 : Int32) (63 : Int32) u3 hu3) ⟨rfl, rfl, Nat.le_of_ble_eq_true rfl, Nat.le_of_ble_eq_true rfl⟩ rfl rfl (Nat.le_of_ble_eq_true rfl) dX5_putDot_13) ?_
    show V G p l e rmSc_putDot s m args below meth c 5 A Q 0 0 (gSc G qSc sc_columns sc_count sc_cornerChange sc_voteApart sc_dots sc_cells sc_shotX sc_shotY sc_shotColumns) 16 [(0, .ref (qSc 0)), (1, .int p1), (2, .int p2), (3, .int p3)] [.int u3]
    refine V_if_ne E (tgt := 22) dX5_putDot_16 (by decide) (fun hc4 => ?_) (fun hc4 => ?_)
    · have hf := iq hc4 hf
      refine V_aload_n E 0 rfl dX5_putDot_22 ?_
      refine gfX5_18 E 0 rfl rfl dX5_putDot_23 ?_
      refine V_iload_n E 1 rfl dX5_putDot_26 ?_
      refine V_bipush E (v := (32 : Int32)) dX5_putDot_27 (by decide) ?_
      refine V_imul E dX5_putDot_29 ?_
      refine V_iload_n E 2 rfl dX5_putDot_30 ?_
      refine V_iadd E dX5_putDot_31 ?_
      obtain ⟨hi5, hf⟩ := asr_ok hf
      refine V_iald E 1 rfl hi5 dX5_putDot_32 ?_
      obtain ⟨t6, ht6, hf⟩ := bd hf
      have ht6 := Option.some.inj ht6
      rw [ht6]
      refine V_istore E (lv' := [(0, .ref (qSc 0)), (1, .int p1), (2, .int p2), (3, .int p3), (4, .int t6)]) dX5_putDot_33 (by decide) rfl ?_
      refine V_aload_n E 0 rfl dX5_putDot_35 ?_
      refine gfX5_18 E 0 rfl rfl dX5_putDot_36 ?_
      refine V_iload_n E 1 rfl dX5_putDot_39 ?_
      refine V_bipush E (v := (32 : Int32)) dX5_putDot_40 (by decide) ?_
      refine V_imul E dX5_putDot_42 ?_
      refine V_iload_n E 2 rfl dX5_putDot_43 ?_
      refine V_iadd E dX5_putDot_44 ?_
      refine V_iload_n E 3 rfl dX5_putDot_45 ?_
      obtain ⟨hi7, hf⟩ := asr_ok hf
      refine V_iast E (ws' := (gSc G qSc sc_columns sc_count sc_cornerChange sc_voteApart (upd sc_dots ((p1 * (32 : Int32)) + p2).toNatClampNeg p3) sc_cells sc_shotX sc_shotY sc_shotColumns)) 1 rfl hi7 dX5_putDot_46 rfl ?_
      refine V_iload E 4 rfl dX5_putDot_47 ?_
      have h9 := hret 49 [(0, .ref (qSc 0)), (1, .int p1), (2, .int p2), (3, .int p3), (4, .int t6)] dX5_putDot_49
      rw [← (Option.some.inj hf)] at h9
      exact h9
    · have hf := ip hc4 hf
      refine V_bipush E (v := (-2 : Int32)) dX5_putDot_19 (by decide) ?_
      have h9 := hret 21 [(0, .ref (qSc 0)), (1, .int p1), (2, .int p2), (3, .int p3)] dX5_putDot_21
      rw [← (Option.some.inj hf)] at h9
      exact h9
abbrev rmSc_setNumber : Room := { frames := 1, cells := 0, slots := 0, locals := 22 }
theorem wd_yX5_setNumber : wdV yX5_setNumber cX5_setNumber 4 (some .int) 2 := ⟨wc_yX5_setNumber, wi_yX5_setNumber, wse_yX5_setNumber, wini_X5, by decide +kernel, by decide +kernel, by decide +kernel⟩
set_option maxHeartbeats 4000000 in
set_option maxRecDepth 100000 in
theorem kSc_setNumber (l : Launch) (G : wG) (qSc : Nat → Nat) (p1 : Int32) (p2 : Int32) (sc_columns : Int32) (sc_count : Int32) (sc_cornerChange : Int32) (sc_voteApart : Int32) (sc_dots : Nat → Int32) (sc_cells : Nat → Int32) (sc_shotX : Nat → Int32) (sc_shotY : Nat → Int32) (sc_shotColumns : Nat → Int32) (o : Int32 × Int32 × Int32) (hf : fSc_setNumber p1 p2 sc_cornerChange sc_voteApart = some o) : Ct G l yX5_setNumber cX5_setNumber 4 (some .int) rmSc_setNumber [.ref (qSc 0), .int p1, .int p2] (gSc G qSc sc_columns sc_count sc_cornerChange sc_voteApart sc_dots sc_cells sc_shotX sc_shotY sc_shotColumns) (some (.int o.1)) (gSc G qSc sc_columns sc_count o.2.1 o.2.2 sc_dots sc_cells sc_shotX sc_shotY sc_shotColumns) := by
  refine Ct.ofI (by decide +kernel) (Nat.le_of_ble_eq_true rfl) (fun p e s m args below meth c A Q E hret => ?_)
  unfold fSc_setNumber at hf
  show V G p l e rmSc_setNumber s m args below meth c 4 A Q 0 0 (gSc G qSc sc_columns sc_count sc_cornerChange sc_voteApart sc_dots sc_cells sc_shotX sc_shotY sc_shotColumns) 0 [(0, .ref (qSc 0)), (1, .int p1), (2, .int p2)] []
  refine V_iload_n E 1 rfl dX5_setNumber_0 ?_
  refine V_if_ne E (tgt := 26) dX5_setNumber_1 (by decide) (fun hc1 => ?_) (fun hc1 => ?_)
  · have hf := iq hc1 hf
    refine V_iload_n E 1 rfl dX5_setNumber_26 ?_
    refine V_iconst E (v := (1 : Int32)) dX5_setNumber_27 (by decide) ?_
    refine V_icmp_ne E (tgt := 53) dX5_setNumber_28 (by decide) (fun hc2 => ?_) (fun hc2 => ?_)
    · have hf := iq hc2 hf
      refine V_bipush E (v := (-2 : Int32)) dX5_setNumber_53 (by decide) ?_
      have h9 := hret 55 [(0, .ref (qSc 0)), (1, .int p1), (2, .int p2)] dX5_setNumber_55
      rw [← (Option.some.inj hf)] at h9
      exact h9
    · have hf := ip hc2 hf
      refine V_iload_n E 2 rfl dX5_setNumber_31 ?_
      refine V_iconst E (v := (0 : Int32)) dX5_setNumber_32 (by decide) ?_
      refine V_bipush E (v := (63 : Int32)) dX5_setNumber_33 (by decide) ?_
      obtain ⟨u3, hu3, hf⟩ := bd hf
      refine V_fr0 E (Rn_N E (rest := []) 0 rfl wd_yX7_within (kRi_within l G p2 (0 : Int32) (63 : Int32) u3 hu3) ⟨rfl, rfl, Nat.le_of_ble_eq_true rfl, Nat.le_of_ble_eq_true rfl⟩ rfl rfl (Nat.le_of_ble_eq_true rfl) dX5_setNumber_35) ?_
      show V G p l e rmSc_setNumber s m args below meth c 4 A Q 0 0 (gSc G qSc sc_columns sc_count sc_cornerChange sc_voteApart sc_dots sc_cells sc_shotX sc_shotY sc_shotColumns) 38 [(0, .ref (qSc 0)), (1, .int p1), (2, .int p2)] [.int u3]
      refine V_if_eq E (tgt := 53) dX5_setNumber_38 (by decide) (fun hc4 => ?_) (fun hc4 => ?_)
      · have hf := ip hc4 hf
        refine V_bipush E (v := (-2 : Int32)) dX5_setNumber_53 (by decide) ?_
        have h9 := hret 55 [(0, .ref (qSc 0)), (1, .int p1), (2, .int p2)] dX5_setNumber_55
        rw [← (Option.some.inj hf)] at h9
        exact h9
      · have hf := iq hc4 hf
        refine V_aload_n E 0 rfl dX5_setNumber_41 ?_
        refine gfX5_15 E 0 rfl rfl dX5_setNumber_42 ?_
        refine V_istore_n E (lv' := [(0, .ref (qSc 0)), (1, .int p1), (2, .int p2), (3, .int sc_voteApart)]) dX5_setNumber_45 (by decide) rfl ?_
        refine V_aload_n E 0 rfl dX5_setNumber_46 ?_
        refine V_iload_n E 2 rfl dX5_setNumber_47 ?_
        refine pfX5_15 E (ws' := (gSc G qSc sc_columns sc_count sc_cornerChange p2 sc_dots sc_cells sc_shotX sc_shotY sc_shotColumns)) 0 rfl (Nat.le_of_ble_eq_true rfl) rfl rfl dX5_setNumber_48 rfl ?_
        refine V_iload_n E 3 rfl dX5_setNumber_51 ?_
        have h9 := hret 52 [(0, .ref (qSc 0)), (1, .int p1), (2, .int p2), (3, .int sc_voteApart)] dX5_setNumber_52
        rw [← (Option.some.inj hf)] at h9
        exact h9
  · have hf := ip hc1 hf
    refine V_iload_n E 2 rfl dX5_setNumber_4 ?_
    refine V_iconst E (v := (1 : Int32)) dX5_setNumber_5 (by decide) ?_
    refine V_bipush E (v := (126 : Int32)) dX5_setNumber_6 (by decide) ?_
    obtain ⟨u5, hu5, hf⟩ := bd hf
    refine V_fr0 E (Rn_N E (rest := []) 0 rfl wd_yX7_within (kRi_within l G p2 (1 : Int32) (126 : Int32) u5 hu5) ⟨rfl, rfl, Nat.le_of_ble_eq_true rfl, Nat.le_of_ble_eq_true rfl⟩ rfl rfl (Nat.le_of_ble_eq_true rfl) dX5_setNumber_8) ?_
    show V G p l e rmSc_setNumber s m args below meth c 4 A Q 0 0 (gSc G qSc sc_columns sc_count sc_cornerChange sc_voteApart sc_dots sc_cells sc_shotX sc_shotY sc_shotColumns) 11 [(0, .ref (qSc 0)), (1, .int p1), (2, .int p2)] [.int u5]
    refine V_if_eq E (tgt := 26) dX5_setNumber_11 (by decide) (fun hc6 => ?_) (fun hc6 => ?_)
    · have hf := ip hc6 hf
      refine V_iload_n E 1 rfl dX5_setNumber_26 ?_
      refine V_iconst E (v := (1 : Int32)) dX5_setNumber_27 (by decide) ?_
      refine V_icmp_ne E (tgt := 53) dX5_setNumber_28 (by decide) (fun hc7 => ?_) (fun hc7 => ?_)
      · have hf := iq hc7 hf
        refine V_bipush E (v := (-2 : Int32)) dX5_setNumber_53 (by decide) ?_
        have h9 := hret 55 [(0, .ref (qSc 0)), (1, .int p1), (2, .int p2)] dX5_setNumber_55
        rw [← (Option.some.inj hf)] at h9
        exact h9
      · have hf := ip hc7 hf
        refine V_iload_n E 2 rfl dX5_setNumber_31 ?_
        refine V_iconst E (v := (0 : Int32)) dX5_setNumber_32 (by decide) ?_
        refine V_bipush E (v := (63 : Int32)) dX5_setNumber_33 (by decide) ?_
        obtain ⟨u8, hu8, hf⟩ := bd hf
        refine V_fr0 E (Rn_N E (rest := []) 0 rfl wd_yX7_within (kRi_within l G p2 (0 : Int32) (63 : Int32) u8 hu8) ⟨rfl, rfl, Nat.le_of_ble_eq_true rfl, Nat.le_of_ble_eq_true rfl⟩ rfl rfl (Nat.le_of_ble_eq_true rfl) dX5_setNumber_35) ?_
        show V G p l e rmSc_setNumber s m args below meth c 4 A Q 0 0 (gSc G qSc sc_columns sc_count sc_cornerChange sc_voteApart sc_dots sc_cells sc_shotX sc_shotY sc_shotColumns) 38 [(0, .ref (qSc 0)), (1, .int p1), (2, .int p2)] [.int u8]
        refine V_if_eq E (tgt := 53) dX5_setNumber_38 (by decide) (fun hc9 => ?_) (fun hc9 => ?_)
        · have hf := ip hc9 hf
          refine V_bipush E (v := (-2 : Int32)) dX5_setNumber_53 (by decide) ?_
          have h9 := hret 55 [(0, .ref (qSc 0)), (1, .int p1), (2, .int p2)] dX5_setNumber_55
          rw [← (Option.some.inj hf)] at h9
          exact h9
        · have hf := iq hc9 hf
          refine V_aload_n E 0 rfl dX5_setNumber_41 ?_
          refine gfX5_15 E 0 rfl rfl dX5_setNumber_42 ?_
          refine V_istore_n E (lv' := [(0, .ref (qSc 0)), (1, .int p1), (2, .int p2), (3, .int sc_voteApart)]) dX5_setNumber_45 (by decide) rfl ?_
          refine V_aload_n E 0 rfl dX5_setNumber_46 ?_
          refine V_iload_n E 2 rfl dX5_setNumber_47 ?_
          refine pfX5_15 E (ws' := (gSc G qSc sc_columns sc_count sc_cornerChange p2 sc_dots sc_cells sc_shotX sc_shotY sc_shotColumns)) 0 rfl (Nat.le_of_ble_eq_true rfl) rfl rfl dX5_setNumber_48 rfl ?_
          refine V_iload_n E 3 rfl dX5_setNumber_51 ?_
          have h9 := hret 52 [(0, .ref (qSc 0)), (1, .int p1), (2, .int p2), (3, .int sc_voteApart)] dX5_setNumber_52
          rw [← (Option.some.inj hf)] at h9
          exact h9
    · have hf := iq hc6 hf
      refine V_aload_n E 0 rfl dX5_setNumber_14 ?_
      refine gfX5_9 E 0 rfl rfl dX5_setNumber_15 ?_
      refine V_istore_n E (lv' := [(0, .ref (qSc 0)), (1, .int p1), (2, .int p2), (3, .int sc_cornerChange)]) dX5_setNumber_18 (by decide) rfl ?_
      refine V_aload_n E 0 rfl dX5_setNumber_19 ?_
      refine V_iload_n E 2 rfl dX5_setNumber_20 ?_
      refine pfX5_9 E (ws' := (gSc G qSc sc_columns sc_count p2 sc_voteApart sc_dots sc_cells sc_shotX sc_shotY sc_shotColumns)) 0 rfl (Nat.le_of_ble_eq_true rfl) rfl rfl dX5_setNumber_21 rfl ?_
      refine V_iload_n E 3 rfl dX5_setNumber_24 ?_
      have h9 := hret 25 [(0, .ref (qSc 0)), (1, .int p1), (2, .int p2), (3, .int sc_cornerChange)] dX5_setNumber_25
      rw [← (Option.some.inj hf)] at h9
      exact h9
abbrev rmSc_dropPicture : Room := { frames := 1, cells := 0, slots := 0, locals := 26 }
theorem wd_yX5_dropPicture : wdV yX5_dropPicture cX5_dropPicture 3 (some .int) 1 := ⟨wc_yX5_dropPicture, wi_yX5_dropPicture, wse_yX5_dropPicture, wini_X5, by decide +kernel, by decide +kernel, by decide +kernel⟩
set_option maxHeartbeats 4000000 in
set_option maxRecDepth 100000 in
theorem kSc_dropPicture (l : Launch) (G : wG) (qSc : Nat → Nat) (p1 : Int32) (sc_columns : Int32) (sc_count : Int32) (sc_cornerChange : Int32) (sc_voteApart : Int32) (sc_dots : Nat → Int32) (sc_cells : Nat → Int32) (sc_shotX : Nat → Int32) (sc_shotY : Nat → Int32) (sc_shotColumns : Nat → Int32) (o : Int32 × Int32 × (Nat → Int32) × (Nat → Int32) × (Nat → Int32) × (Nat → Int32)) (hf : fSc_dropPicture p1 sc_count sc_cells sc_shotX sc_shotY sc_shotColumns = some o) : Ct G l yX5_dropPicture cX5_dropPicture 3 (some .int) rmSc_dropPicture [.ref (qSc 0), .int p1] (gSc G qSc sc_columns sc_count sc_cornerChange sc_voteApart sc_dots sc_cells sc_shotX sc_shotY sc_shotColumns) (some (.int o.1)) (gSc G qSc sc_columns o.2.1 sc_cornerChange sc_voteApart sc_dots o.2.2.1 o.2.2.2.1 o.2.2.2.2.1 o.2.2.2.2.2) := by
  refine Ct.ofI (by decide +kernel) (Nat.le_of_ble_eq_true rfl) (fun p e s m args below meth c A Q E hret => ?_)
  unfold fSc_dropPicture at hf
  show V G p l e rmSc_dropPicture s m args below meth c 3 A Q 0 0 (gSc G qSc sc_columns sc_count sc_cornerChange sc_voteApart sc_dots sc_cells sc_shotX sc_shotY sc_shotColumns) 0 [(0, .ref (qSc 0)), (1, .int p1)] []
  refine V_aload_n E 0 rfl dX5_dropPicture_0 ?_
  refine V_iload_n E 1 rfl dX5_dropPicture_1 ?_
  obtain ⟨u1, hu1, hf⟩ := bd hf
  refine V_frW E (Rn_V E (rest := []) mlX5_80 wd_yX5_hasPicture (kSc_hasPicture l G qSc p1 sc_columns sc_count sc_cornerChange sc_voteApart sc_dots sc_cells sc_shotX sc_shotY sc_shotColumns u1 hu1) ⟨rfl, rfl, Nat.le_of_ble_eq_true rfl, Nat.le_of_ble_eq_true rfl⟩ 0 rfl rfl rfl rfl rfl (Nat.le_of_ble_eq_true rfl) dX5_dropPicture_2) ?_
  show V G p l e rmSc_dropPicture s m args below meth c 3 A Q 0 0 (gSc G qSc sc_columns sc_count sc_cornerChange sc_voteApart sc_dots sc_cells sc_shotX sc_shotY sc_shotColumns) 5 [(0, .ref (qSc 0)), (1, .int p1)] [.int u1]
  refine V_if_ne E (tgt := 11) dX5_dropPicture_5 (by decide) (fun hc2 => ?_) (fun hc2 => ?_)
  · have hf := iq hc2 hf
    refine V_iload_n E 1 rfl dX5_dropPicture_11 ?_
    refine V_istore_n E (lv' := [(0, .ref (qSc 0)), (1, .int p1), (2, .int p1)]) dX5_dropPicture_12 (by decide) rfl ?_
    have L13 : ∀ (n : Nat) (a13_2 : Int32) (c13_sc_cells : Nat → Int32) (c13_sc_shotX : Nat → Int32) (c13_sc_shotY : Nat → Int32) (c13_sc_shotColumns : Nat → Int32) (u : (Nat → Int32) × (Nat → Int32) × (Nat → Int32) × (Nat → Int32)), fSc_dropPicture_L13 sc_count n a13_2 c13_sc_cells c13_sc_shotX c13_sc_shotY c13_sc_shotColumns = some u → (V G p l e rmSc_dropPicture s m args below meth c 3 A Q 0 0 (gSc G qSc sc_columns sc_count sc_cornerChange sc_voteApart sc_dots u.1 u.2.1 u.2.2.1 u.2.2.2) 99 [(0, .ref (qSc 0))] []) → V G p l e rmSc_dropPicture s m args below meth c 3 A Q 0 0 (gSc G qSc sc_columns sc_count sc_cornerChange sc_voteApart sc_dots c13_sc_cells c13_sc_shotX c13_sc_shotY c13_sc_shotColumns) 13 [(0, .ref (qSc 0)), (2, .int a13_2)] [] := by
      intro n
      induction n with
      | zero =>
        intro a13_2 c13_sc_cells c13_sc_shotX c13_sc_shotY c13_sc_shotColumns u hf hk
        rw [fSc_dropPicture_L13] at hf
        cases hf
      | succ n ih =>
        intro a13_2 c13_sc_cells c13_sc_shotX c13_sc_shotY c13_sc_shotColumns u hf hk
        rw [fSc_dropPicture_L13] at hf
        refine V_iload_n E 1 rfl dX5_dropPicture_13 ?_
        refine V_aload_n E 0 rfl dX5_dropPicture_14 ?_
        refine gfX5_37 E 0 rfl rfl dX5_dropPicture_15 ?_
        refine V_iconst E (v := (1 : Int32)) dX5_dropPicture_18 (by decide) ?_
        refine V_isub E dX5_dropPicture_19 ?_
        refine V_icmp_ge E (tgt := 99) dX5_dropPicture_20 (by decide) (fun hc4 => ?_) (fun hc4 => ?_)
        · have hf := ip hc4 hf
          refine V_sub [0] rfl ?_
          rw [← Option.some.inj hf] at hk
          exact hk
        · have hf := iq hc4 hf
          refine V_iload_n E 1 rfl dX5_dropPicture_23 ?_
          refine V_iconst E (v := (5 : Int32)) dX5_dropPicture_24 (by decide) ?_
          refine V_icmp_ge E (tgt := 99) dX5_dropPicture_25 (by decide) (fun hc5 => ?_) (fun hc5 => ?_)
          · have hf := ip hc5 hf
            refine V_sub [0] rfl ?_
            rw [← Option.some.inj hf] at hk
            exact hk
          · have hf := iq hc5 hf
            refine V_aload_n E 0 rfl dX5_dropPicture_28 ?_
            refine gfX5_22 E 0 rfl rfl dX5_dropPicture_29 ?_
            refine V_iload_n E 1 rfl dX5_dropPicture_32 ?_
            refine V_iconst E (v := (1 : Int32)) dX5_dropPicture_33 (by decide) ?_
            refine V_iadd E dX5_dropPicture_34 ?_
            refine V_bipush E (v := (32 : Int32)) dX5_dropPicture_35 (by decide) ?_
            refine V_imul E dX5_dropPicture_37 ?_
            refine V_aload_n E 0 rfl dX5_dropPicture_38 ?_
            refine gfX5_22 E 0 rfl rfl dX5_dropPicture_39 ?_
            refine V_iload_n E 1 rfl dX5_dropPicture_42 ?_
            refine V_bipush E (v := (32 : Int32)) dX5_dropPicture_43 (by decide) ?_
            refine V_imul E dX5_dropPicture_45 ?_
            refine V_bipush E (v := (32 : Int32)) dX5_dropPicture_46 (by decide) ?_
            obtain ⟨hi6, hf⟩ := asr_ok hf
            refine V_copyi E (ws' := (gSc G qSc sc_columns sc_count sc_cornerChange sc_voteApart sc_dots (va_cpy c13_sc_cells c13_sc_cells ((a13_2 + (1 : Int32)) * (32 : Int32)).toNatClampNeg (a13_2 * (32 : Int32)).toNatClampNeg (32 : Int32).toNatClampNeg) c13_sc_shotX c13_sc_shotY c13_sc_shotColumns)) mlX5_40 2 2 rfl rfl hi6 ⟨Nat.le_of_ble_eq_true rfl, Nat.le_of_ble_eq_true rfl⟩ dX5_dropPicture_48 rfl ?_
            refine V_aload_n E 0 rfl dX5_dropPicture_51 ?_
            refine gfX5_25 E 0 rfl rfl dX5_dropPicture_52 ?_
            refine V_iload_n E 1 rfl dX5_dropPicture_55 ?_
            refine V_aload_n E 0 rfl dX5_dropPicture_56 ?_
            refine gfX5_25 E 0 rfl rfl dX5_dropPicture_57 ?_
            refine V_iload_n E 1 rfl dX5_dropPicture_60 ?_
            refine V_iconst E (v := (1 : Int32)) dX5_dropPicture_61 (by decide) ?_
            refine V_iadd E dX5_dropPicture_62 ?_
            obtain ⟨hi7, hf⟩ := asr_ok hf
            refine V_iald E 3 rfl hi7 dX5_dropPicture_63 ?_
            obtain ⟨hi8, hf⟩ := asr_ok hf
            refine V_iast E (ws' := (gSc G qSc sc_columns sc_count sc_cornerChange sc_voteApart sc_dots (va_cpy c13_sc_cells c13_sc_cells ((a13_2 + (1 : Int32)) * (32 : Int32)).toNatClampNeg (a13_2 * (32 : Int32)).toNatClampNeg (32 : Int32).toNatClampNeg) (upd c13_sc_shotX a13_2.toNatClampNeg (c13_sc_shotX (a13_2 + (1 : Int32)).toNatClampNeg)) c13_sc_shotY c13_sc_shotColumns)) 3 rfl hi8 dX5_dropPicture_64 rfl ?_
            refine V_aload_n E 0 rfl dX5_dropPicture_65 ?_
            refine gfX5_28 E 0 rfl rfl dX5_dropPicture_66 ?_
            refine V_iload_n E 1 rfl dX5_dropPicture_69 ?_
            refine V_aload_n E 0 rfl dX5_dropPicture_70 ?_
            refine gfX5_28 E 0 rfl rfl dX5_dropPicture_71 ?_
            refine V_iload_n E 1 rfl dX5_dropPicture_74 ?_
            refine V_iconst E (v := (1 : Int32)) dX5_dropPicture_75 (by decide) ?_
            refine V_iadd E dX5_dropPicture_76 ?_
            obtain ⟨hi9, hf⟩ := asr_ok hf
            refine V_iald E 4 rfl hi9 dX5_dropPicture_77 ?_
            obtain ⟨hi10, hf⟩ := asr_ok hf
            refine V_iast E (ws' := (gSc G qSc sc_columns sc_count sc_cornerChange sc_voteApart sc_dots (va_cpy c13_sc_cells c13_sc_cells ((a13_2 + (1 : Int32)) * (32 : Int32)).toNatClampNeg (a13_2 * (32 : Int32)).toNatClampNeg (32 : Int32).toNatClampNeg) (upd c13_sc_shotX a13_2.toNatClampNeg (c13_sc_shotX (a13_2 + (1 : Int32)).toNatClampNeg)) (upd c13_sc_shotY a13_2.toNatClampNeg (c13_sc_shotY (a13_2 + (1 : Int32)).toNatClampNeg)) c13_sc_shotColumns)) 4 rfl hi10 dX5_dropPicture_78 rfl ?_
            refine V_aload_n E 0 rfl dX5_dropPicture_79 ?_
            refine gfX5_31 E 0 rfl rfl dX5_dropPicture_80 ?_
            refine V_iload_n E 1 rfl dX5_dropPicture_83 ?_
            refine V_aload_n E 0 rfl dX5_dropPicture_84 ?_
            refine gfX5_31 E 0 rfl rfl dX5_dropPicture_85 ?_
            refine V_iload_n E 1 rfl dX5_dropPicture_88 ?_
            refine V_iconst E (v := (1 : Int32)) dX5_dropPicture_89 (by decide) ?_
            refine V_iadd E dX5_dropPicture_90 ?_
            obtain ⟨hi11, hf⟩ := asr_ok hf
            refine V_iald E 5 rfl hi11 dX5_dropPicture_91 ?_
            obtain ⟨hi12, hf⟩ := asr_ok hf
            refine V_iast E (ws' := (gSc G qSc sc_columns sc_count sc_cornerChange sc_voteApart sc_dots (va_cpy c13_sc_cells c13_sc_cells ((a13_2 + (1 : Int32)) * (32 : Int32)).toNatClampNeg (a13_2 * (32 : Int32)).toNatClampNeg (32 : Int32).toNatClampNeg) (upd c13_sc_shotX a13_2.toNatClampNeg (c13_sc_shotX (a13_2 + (1 : Int32)).toNatClampNeg)) (upd c13_sc_shotY a13_2.toNatClampNeg (c13_sc_shotY (a13_2 + (1 : Int32)).toNatClampNeg)) (upd c13_sc_shotColumns a13_2.toNatClampNeg (c13_sc_shotColumns (a13_2 + (1 : Int32)).toNatClampNeg)))) 5 rfl hi12 dX5_dropPicture_92 rfl ?_
            refine V_iinc E (v := (a13_2 + (1 : Int32))) (lv' := [(0, .ref (qSc 0)), (2, .int (a13_2 + (1 : Int32)))]) 1 rfl dX5_dropPicture_93 rfl (by decide) rfl ?_
            refine V_goto E (tgt := 13) dX5_dropPicture_96 (by decide) ?_
            exact ih (a13_2 + (1 : Int32)) (va_cpy c13_sc_cells c13_sc_cells ((a13_2 + (1 : Int32)) * (32 : Int32)).toNatClampNeg (a13_2 * (32 : Int32)).toNatClampNeg (32 : Int32).toNatClampNeg) (upd c13_sc_shotX a13_2.toNatClampNeg (c13_sc_shotX (a13_2 + (1 : Int32)).toNatClampNeg)) (upd c13_sc_shotY a13_2.toNatClampNeg (c13_sc_shotY (a13_2 + (1 : Int32)).toNatClampNeg)) (upd c13_sc_shotColumns a13_2.toNatClampNeg (c13_sc_shotColumns (a13_2 + (1 : Int32)).toNatClampNeg)) _ hf hk
    refine V_sub [0, 2] rfl ?_
    obtain ⟨u3, hu3, hf⟩ := bd hf
    refine L13 FU p1 sc_cells sc_shotX sc_shotY sc_shotColumns u3 hu3 ?_
    refine V_aload_n E 0 rfl dX5_dropPicture_99 ?_
    refine V_dup E dX5_dropPicture_100 rfl ?_
    refine gfX5_37 E 0 rfl rfl dX5_dropPicture_101 ?_
    refine V_iconst E (v := (1 : Int32)) dX5_dropPicture_104 (by decide) ?_
    refine V_isub E dX5_dropPicture_105 ?_
    refine pfX5_37 E (ws' := (gSc G qSc sc_columns (sc_count - (1 : Int32)) sc_cornerChange sc_voteApart sc_dots u3.1 u3.2.1 u3.2.2.1 u3.2.2.2)) 0 rfl (Nat.le_of_ble_eq_true rfl) rfl rfl dX5_dropPicture_106 rfl ?_
    refine V_aload_n E 0 rfl dX5_dropPicture_109 ?_
    refine gfX5_37 E 0 rfl rfl dX5_dropPicture_110 ?_
    have h9 := hret 113 [(0, .ref (qSc 0))] dX5_dropPicture_113
    rw [← (Option.some.inj hf)] at h9
    exact h9
  · have hf := ip hc2 hf
    refine V_bipush E (v := (-2 : Int32)) dX5_dropPicture_8 (by decide) ?_
    have h9 := hret 10 [(0, .ref (qSc 0)), (1, .int p1)] dX5_dropPicture_10
    rw [← (Option.some.inj hf)] at h9
    exact h9
