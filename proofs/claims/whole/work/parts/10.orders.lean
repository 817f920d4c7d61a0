
abbrev rmOr_numbersOf : Room := { frames := 0, cells := 0, slots := 0, locals := 0 }
theorem wd_yX4_numbersOf : wdS yX4_numbersOf cX4_numbersOf 1 (some .int) 1 := ⟨wc_yX4_numbersOf, wst_yX4_numbersOf, wini_X4, by decide +kernel, by decide +kernel, by decide +kernel⟩
set_option maxHeartbeats 4000000 in
set_option maxRecDepth 100000 in
theorem kOr_numbersOf (l : Launch) (G : wG) (p0 : Int32) (o : Int32) (hf : fOr_numbersOf p0 = some o) : Ct G l yX4_numbersOf cX4_numbersOf 1 (some .int) rmOr_numbersOf [.int p0] [] (some (.int o)) [] := by
  refine Ct.ofI (by decide +kernel) (Nat.le_of_ble_eq_true rfl) (fun p e s m args below meth c A Q E hret => ?_)
  unfold fOr_numbersOf at hf
  show V G p l e rmOr_numbersOf s m args below meth c 1 A Q 0 0 [] 0 [(0, .int p0)] []
  refine V_iload_n E 0 rfl dX4_numbersOf_0 ?_
  by_cases hc1 : p0 = (97 : Int32)
  · have hf := ip hc1 hf
    refine V_tsIn E (tgt := 118) (off := 117) dX4_numbersOf_1 (by rw [hc1]; decide) (by decide) ?_
    refine V_iconst E (v := (1 : Int32)) dX4_numbersOf_118 (by decide) ?_
    have h9 := hret 119 [(0, .int p0)] dX4_numbersOf_119
    rw [← (Option.some.inj hf)] at h9
    exact h9
  · have hf := iq hc1 hf
    by_cases hc2 : p0 = (99 : Int32)
    · have hf := ip hc2 hf
      refine V_tsIn E (tgt := 114) (off := 113) dX4_numbersOf_1 (by rw [hc2]; decide) (by decide) ?_
      refine V_iconst E (v := (3 : Int32)) dX4_numbersOf_114 (by decide) ?_
      have h9 := hret 115 [(0, .int p0)] dX4_numbersOf_115
      rw [← (Option.some.inj hf)] at h9
      exact h9
    · have hf := iq hc2 hf
      by_cases hc3 : p0 = (112 : Int32)
      · have hf := ip hc3 hf
        refine V_tsIn E (tgt := 116) (off := 115) dX4_numbersOf_1 (by rw [hc3]; decide) (by decide) ?_
        refine V_iconst E (v := (4 : Int32)) dX4_numbersOf_116 (by decide) ?_
        have h9 := hret 117 [(0, .int p0)] dX4_numbersOf_117
        rw [← (Option.some.inj hf)] at h9
        exact h9
      · have hf := iq hc3 hf
        by_cases hc4 : p0 = (115 : Int32)
        · have hf := ip hc4 hf
          refine V_tsIn E (tgt := 114) (off := 113) dX4_numbersOf_1 (by rw [hc4]; decide) (by decide) ?_
          refine V_iconst E (v := (3 : Int32)) dX4_numbersOf_114 (by decide) ?_
          have h9 := hret 115 [(0, .int p0)] dX4_numbersOf_115
          rw [← (Option.some.inj hf)] at h9
          exact h9
        · have hf := iq hc4 hf
          by_cases hc5 : p0 = (116 : Int32)
          · have hf := ip hc5 hf
            refine V_tsIn E (tgt := 118) (off := 117) dX4_numbersOf_1 (by rw [hc5]; decide) (by decide) ?_
            refine V_iconst E (v := (1 : Int32)) dX4_numbersOf_118 (by decide) ?_
            have h9 := hret 119 [(0, .int p0)] dX4_numbersOf_119
            rw [← (Option.some.inj hf)] at h9
            exact h9
          · have hf := iq hc5 hf
            by_cases hc6 : p0 = (119 : Int32)
            · have hf := ip hc6 hf
              refine V_tsIn E (tgt := 112) (off := 111) dX4_numbersOf_1 (by rw [hc6]; decide) (by decide) ?_
              refine V_iconst E (v := (2 : Int32)) dX4_numbersOf_112 (by decide) ?_
              have h9 := hret 113 [(0, .int p0)] dX4_numbersOf_113
              rw [← (Option.some.inj hf)] at h9
              exact h9
            · have hf := iq hc6 hf
              by_cases hc7 : p0 = (120 : Int32)
              · have hf := ip hc7 hf
                refine V_tsIn E (tgt := 118) (off := 117) dX4_numbersOf_1 (by rw [hc7]; decide) (by decide) ?_
                refine V_iconst E (v := (1 : Int32)) dX4_numbersOf_118 (by decide) ?_
                have h9 := hret 119 [(0, .int p0)] dX4_numbersOf_119
                rw [← (Option.some.inj hf)] at h9
                exact h9
              · have hf := iq hc7 hf
                refine V_tsD E (tgt := 120) [97, 99, 112, 115, 116, 119, 120] dX4_numbersOf_1 (List.forall_mem_cons.mpr ⟨tsne hc1 (by decide), List.forall_mem_cons.mpr ⟨tsne hc2 (by decide), List.forall_mem_cons.mpr ⟨tsne hc3 (by decide), List.forall_mem_cons.mpr ⟨tsne hc4 (by decide), List.forall_mem_cons.mpr ⟨tsne hc5 (by decide), List.forall_mem_cons.mpr ⟨tsne hc6 (by decide), List.forall_mem_cons.mpr ⟨tsne hc7 (by decide), fun _ h => absurd h List.not_mem_nil⟩⟩⟩⟩⟩⟩⟩) (by decide) (by decide) (by decide) ?_
                refine V_iconst E (v := (0 : Int32)) dX4_numbersOf_120 (by decide) ?_
                have h9 := hret 121 [(0, .int p0)] dX4_numbersOf_121
                rw [← (Option.some.inj hf)] at h9
                exact h9
abbrev rmOr_acceptLetter : Room := { frames := 1, cells := 0, slots := 0, locals := 22 }
theorem wd_yX4_acceptLetter : wdV yX4_acceptLetter cX4_acceptLetter 2 (some .boolean) 1 := ⟨wc_yX4_acceptLetter, wi_yX4_acceptLetter, wse_yX4_acceptLetter, wini_X4, by decide +kernel, by decide +kernel, by decide +kernel⟩
set_option maxHeartbeats 4000000 in
set_option maxRecDepth 100000 in
theorem kOr_acceptLetter (l : Launch) (G : wG) (qOr : Nat → Nat) (p1 : Int32) (or_count : Int32) (or_stopKind : Int32) (or_letters : Nat → Int32) (or_numbers : Nat → Int32) (or_state : Int32) (or_letter : Int32) (or_filled : Int32) (or_figures : Int32) (or_number : Int32) (or_below : Int32) (o : Int32 × Int32 × Int32 × Int32) (hf : fOr_acceptLetter p1 or_count or_state or_letter or_filled = some o) : Ct G l yX4_acceptLetter cX4_acceptLetter 2 (some .boolean) rmOr_acceptLetter [.ref (qOr 0), .int p1] (gOr G qOr or_count or_stopKind or_letters or_numbers or_state or_letter or_filled or_figures or_number or_below) (some (.int o.1)) (gOr G qOr or_count or_stopKind or_letters or_numbers o.2.1 o.2.2.1 o.2.2.2 or_figures or_number or_below) := by
  refine Ct.ofZ (by decide +kernel) (Nat.le_of_ble_eq_true rfl) (fun p e s m args below meth c A Q E hret => ?_)
  unfold fOr_acceptLetter at hf
  show V G p l e rmOr_acceptLetter s m args below meth c 2 A Q 0 0 (gOr G qOr or_count or_stopKind or_letters or_numbers or_state or_letter or_filled or_figures or_number or_below) 0 [(0, .ref (qOr 0)), (1, .int p1)] []
  refine V_iload_n E 1 rfl dX4_acceptLetter_0 ?_
  obtain ⟨u1, hu1, hf⟩ := bd hf
  refine V_fr0 E (Rn_S E (rest := []) mlX4_79 wd_yX4_numbersOf (kOr_numbersOf l G p1 u1 hu1) ⟨rfl, rfl, Nat.le_of_ble_eq_true rfl, Nat.le_of_ble_eq_true rfl⟩ rfl rfl (Nat.le_of_ble_eq_true rfl) dX4_acceptLetter_1) ?_
  show V G p l e rmOr_acceptLetter s m args below meth c 2 A Q 0 0 (gOr G qOr or_count or_stopKind or_letters or_numbers or_state or_letter or_filled or_figures or_number or_below) 4 [(0, .ref (qOr 0)), (1, .int p1)] [.int u1]
  refine V_if_eq E (tgt := 20) dX4_acceptLetter_4 (by decide) (fun hc2 => ?_) (fun hc2 => ?_)
  · have hf := ip hc2 hf
    refine V_iconst E (v := (0 : Int32)) dX4_acceptLetter_20 (by decide) ?_
    have h9 := hret 21 [(0, .ref (qOr 0)), (1, .int p1)] dX4_acceptLetter_21
    rw [← (Option.some.inj hf)] at h9
    exact h9 (z01a (Or.inl rfl))
  · have hf := iq hc2 hf
    refine V_aload_n E 0 rfl dX4_acceptLetter_7 ?_
    refine gfX4_18 E 0 rfl rfl dX4_acceptLetter_8 ?_
    refine V_iconst E (v := (0 : Int32)) dX4_acceptLetter_11 (by decide) ?_
    refine V_bipush E (v := (39 : Int32)) dX4_acceptLetter_12 (by decide) ?_
    obtain ⟨u3, hu3, hf⟩ := bd hf
    refine V_fr0 E (Rn_N E (rest := []) 8 rfl wd_yX7_within (kRi_within l G or_count (0 : Int32) (39 : Int32) u3 hu3) ⟨rfl, rfl, Nat.le_of_ble_eq_true rfl, Nat.le_of_ble_eq_true rfl⟩ rfl rfl (Nat.le_of_ble_eq_true rfl) dX4_acceptLetter_14) ?_
    show V G p l e rmOr_acceptLetter s m args below meth c 2 A Q 0 0 (gOr G qOr or_count or_stopKind or_letters or_numbers or_state or_letter or_filled or_figures or_number or_below) 17 [(0, .ref (qOr 0)), (1, .int p1)] [.int u3]
    refine V_if_ne E (tgt := 22) dX4_acceptLetter_17 (by decide) (fun hc4 => ?_) (fun hc4 => ?_)
    · have hf := iq hc4 hf
      refine V_aload_n E 0 rfl dX4_acceptLetter_22 ?_
      refine V_iload_n E 1 rfl dX4_acceptLetter_23 ?_
      refine pfX4_82 E (ws' := (gOr G qOr or_count or_stopKind or_letters or_numbers or_state p1 or_filled or_figures or_number or_below)) 0 rfl (Nat.le_of_ble_eq_true rfl) rfl rfl dX4_acceptLetter_24 rfl ?_
      refine V_aload_n E 0 rfl dX4_acceptLetter_27 ?_
      refine V_iconst E (v := (0 : Int32)) dX4_acceptLetter_28 (by decide) ?_
      refine pfX4_85 E (ws' := (gOr G qOr or_count or_stopKind or_letters or_numbers or_state p1 (0 : Int32) or_figures or_number or_below)) 0 rfl (Nat.le_of_ble_eq_true rfl) rfl rfl dX4_acceptLetter_29 rfl ?_
      refine V_aload_n E 0 rfl dX4_acceptLetter_32 ?_
      refine V_iconst E (v := (1 : Int32)) dX4_acceptLetter_33 (by decide) ?_
      refine pfX4_22 E (ws' := (gOr G qOr or_count or_stopKind or_letters or_numbers (1 : Int32) p1 (0 : Int32) or_figures or_number or_below)) 0 rfl (Nat.le_of_ble_eq_true rfl) rfl rfl dX4_acceptLetter_34 rfl ?_
      refine V_iconst E (v := (1 : Int32)) dX4_acceptLetter_37 (by decide) ?_
      have h9 := hret 38 [(0, .ref (qOr 0)), (1, .int p1)] dX4_acceptLetter_38
      rw [← (Option.some.inj hf)] at h9
      exact h9 (z01a (Or.inr rfl))
    · have hf := ip hc4 hf
      refine V_iconst E (v := (0 : Int32)) dX4_acceptLetter_20 (by decide) ?_
      have h9 := hret 21 [(0, .ref (qOr 0)), (1, .int p1)] dX4_acceptLetter_21
      rw [← (Option.some.inj hf)] at h9
      exact h9 (z01a (Or.inl rfl))
abbrev rmOr_isFigure : Room := { frames := 0, cells := 0, slots := 0, locals := 0 }
theorem wd_yX4_isFigure : wdS yX4_isFigure cX4_isFigure 1 (some .boolean) 1 := ⟨wc_yX4_isFigure, wst_yX4_isFigure, wini_X4, by decide +kernel, by decide +kernel, by decide +kernel⟩
set_option maxHeartbeats 4000000 in
set_option maxRecDepth 100000 in
theorem kOr_isFigure (l : Launch) (G : wG) (p0 : Int32) (o : Int32) (hf : fOr_isFigure p0 = some o) : Ct G l yX4_isFigure cX4_isFigure 1 (some .boolean) rmOr_isFigure [.int p0] [] (some (.int o)) [] := by
  refine Ct.ofZ (by decide +kernel) (Nat.le_of_ble_eq_true rfl) (fun p e s m args below meth c A Q E hret => ?_)
  unfold fOr_isFigure at hf
  show V G p l e rmOr_isFigure s m args below meth c 1 A Q 0 0 [] 0 [(0, .int p0)] []
  refine V_iload_n E 0 rfl dX4_isFigure_0 ?_
  refine V_bipush E (v := (48 : Int32)) dX4_isFigure_1 (by decide) ?_
  refine V_icmp_lt E (tgt := 16) dX4_isFigure_3 (by decide) (fun hc1 => ?_) (fun hc1 => ?_)
  · have hf := ip hc1 hf
    refine V_iconst E (v := (0 : Int32)) dX4_isFigure_16 (by decide) ?_
    have h9 := hret 17 [(0, .int p0)] dX4_isFigure_17
    rw [← (Option.some.inj hf)] at h9
    exact h9 (z01a (Or.inl rfl))
  · have hf := iq hc1 hf
    refine V_iload_n E 0 rfl dX4_isFigure_6 ?_
    refine V_bipush E (v := (57 : Int32)) dX4_isFigure_7 (by decide) ?_
    refine V_icmp_gt E (tgt := 16) dX4_isFigure_9 (by decide) (fun hc2 => ?_) (fun hc2 => ?_)
    · have hf := ip hc2 hf
      refine V_iconst E (v := (0 : Int32)) dX4_isFigure_16 (by decide) ?_
      have h9 := hret 17 [(0, .int p0)] dX4_isFigure_17
      rw [← (Option.some.inj hf)] at h9
      exact h9 (z01a (Or.inl rfl))
    · have hf := iq hc2 hf
      refine V_iconst E (v := (1 : Int32)) dX4_isFigure_12 (by decide) ?_
      refine V_goto E (tgt := 17) dX4_isFigure_13 (by decide) ?_
      have h9 := hret 17 [(0, .int p0)] dX4_isFigure_17
      rw [← (Option.some.inj hf)] at h9
      exact h9 (z01a (Or.inr rfl))
abbrev rmOr_acceptFigure : Room := { frames := 0, cells := 0, slots := 0, locals := 0 }
theorem wd_yX4_acceptFigure : wdV yX4_acceptFigure cX4_acceptFigure 2 (some .boolean) 1 := ⟨wc_yX4_acceptFigure, wi_yX4_acceptFigure, wse_yX4_acceptFigure, wini_X4, by decide +kernel, by decide +kernel, by decide +kernel⟩
set_option maxHeartbeats 4000000 in
set_option maxRecDepth 100000 in
theorem kOr_acceptFigure (l : Launch) (G : wG) (qOr : Nat → Nat) (p1 : Int32) (or_count : Int32) (or_stopKind : Int32) (or_letters : Nat → Int32) (or_numbers : Nat → Int32) (or_state : Int32) (or_letter : Int32) (or_filled : Int32) (or_figures : Int32) (or_number : Int32) (or_below : Int32) (o : Int32 × Int32 × Int32 × Int32) (hf : fOr_acceptFigure p1 or_state or_figures or_number = some o) : Ct G l yX4_acceptFigure cX4_acceptFigure 2 (some .boolean) rmOr_acceptFigure [.ref (qOr 0), .int p1] (gOr G qOr or_count or_stopKind or_letters or_numbers or_state or_letter or_filled or_figures or_number or_below) (some (.int o.1)) (gOr G qOr or_count or_stopKind or_letters or_numbers o.2.1 or_letter or_filled o.2.2.1 o.2.2.2 or_below) := by
  refine Ct.ofZ (by decide +kernel) (Nat.le_of_ble_eq_true rfl) (fun p e s m args below meth c A Q E hret => ?_)
  unfold fOr_acceptFigure at hf
  show V G p l e rmOr_acceptFigure s m args below meth c 2 A Q 0 0 (gOr G qOr or_count or_stopKind or_letters or_numbers or_state or_letter or_filled or_figures or_number or_below) 0 [(0, .ref (qOr 0)), (1, .int p1)] []
  refine V_aload_n E 0 rfl dX4_acceptFigure_0 ?_
  refine gfX4_95 E 0 rfl rfl dX4_acceptFigure_1 ?_
  refine V_bipush E (v := (6 : Int32)) dX4_acceptFigure_4 (by decide) ?_
  refine V_icmp_lt E (tgt := 11) dX4_acceptFigure_6 (by decide) (fun hc1 => ?_) (fun hc1 => ?_)
  · have hf := ip hc1 hf
    refine V_aload_n E 0 rfl dX4_acceptFigure_11 ?_
    refine V_dup E dX4_acceptFigure_12 rfl ?_
    refine gfX4_95 E 0 rfl rfl dX4_acceptFigure_13 ?_
    refine V_iconst E (v := (1 : Int32)) dX4_acceptFigure_16 (by decide) ?_
    refine V_iadd E dX4_acceptFigure_17 ?_
    refine pfX4_95 E (ws' := (gOr G qOr or_count or_stopKind or_letters or_numbers or_state or_letter or_filled (or_figures + (1 : Int32)) or_number or_below)) 0 rfl (Nat.le_of_ble_eq_true rfl) rfl rfl dX4_acceptFigure_18 rfl ?_
    refine V_aload_n E 0 rfl dX4_acceptFigure_21 ?_
    refine V_bipush E (v := (10 : Int32)) dX4_acceptFigure_22 (by decide) ?_
    refine V_aload_n E 0 rfl dX4_acceptFigure_24 ?_
    refine gfX4_92 E 0 rfl rfl dX4_acceptFigure_25 ?_
    refine V_imul E dX4_acceptFigure_28 ?_
    refine V_iload_n E 1 rfl dX4_acceptFigure_29 ?_
    refine V_iadd E dX4_acceptFigure_30 ?_
    refine V_bipush E (v := (48 : Int32)) dX4_acceptFigure_31 (by decide) ?_
    refine V_isub E dX4_acceptFigure_33 ?_
    refine pfX4_92 E (ws' := (gOr G qOr or_count or_stopKind or_letters or_numbers or_state or_letter or_filled (or_figures + (1 : Int32)) ((((10 : Int32) * or_number) + p1) - (48 : Int32)) or_below)) 0 rfl (Nat.le_of_ble_eq_true rfl) rfl rfl dX4_acceptFigure_34 rfl ?_
    refine V_aload_n E 0 rfl dX4_acceptFigure_37 ?_
    refine V_iconst E (v := (3 : Int32)) dX4_acceptFigure_38 (by decide) ?_
    refine pfX4_22 E (ws' := (gOr G qOr or_count or_stopKind or_letters or_numbers (3 : Int32) or_letter or_filled (or_figures + (1 : Int32)) ((((10 : Int32) * or_number) + p1) - (48 : Int32)) or_below)) 0 rfl (Nat.le_of_ble_eq_true rfl) rfl rfl dX4_acceptFigure_39 rfl ?_
    refine V_iconst E (v := (1 : Int32)) dX4_acceptFigure_42 (by decide) ?_
    have h9 := hret 43 [(0, .ref (qOr 0)), (1, .int p1)] dX4_acceptFigure_43
    rw [← (Option.some.inj hf)] at h9
    exact h9 (z01a (Or.inr rfl))
  · have hf := iq hc1 hf
    refine V_iconst E (v := (0 : Int32)) dX4_acceptFigure_9 (by decide) ?_
    have h9 := hret 10 [(0, .ref (qOr 0)), (1, .int p1)] dX4_acceptFigure_10
    rw [← (Option.some.inj hf)] at h9
    exact h9 (z01a (Or.inl rfl))
abbrev rmOr_endNumber : Room := { frames := 1, cells := 0, slots := 0, locals := 22 }
theorem wd_yX4_endNumber : wdV yX4_endNumber cX4_endNumber 2 none 0 := ⟨wc_yX4_endNumber, wi_yX4_endNumber, wse_yX4_endNumber, wini_X4, by decide +kernel, by decide +kernel, by decide +kernel⟩
set_option maxHeartbeats 4000000 in
set_option maxRecDepth 100000 in
theorem kOr_endNumber (l : Launch) (G : wG) (qOr : Nat → Nat) (or_count : Int32) (or_stopKind : Int32) (or_letters : Nat → Int32) (or_numbers : Nat → Int32) (or_state : Int32) (or_letter : Int32) (or_filled : Int32) (or_figures : Int32) (or_number : Int32) (or_below : Int32) (o : (Nat → Int32) × Int32 × Int32) (hf : fOr_endNumber or_count or_numbers or_state or_filled or_number or_below = some o) : Ct G l yX4_endNumber cX4_endNumber 2 none rmOr_endNumber [.ref (qOr 0)] (gOr G qOr or_count or_stopKind or_letters or_numbers or_state or_letter or_filled or_figures or_number or_below) none (gOr G qOr or_count or_stopKind or_letters o.1 o.2.1 or_letter o.2.2 or_figures or_number or_below) := by
  refine Ct.ofV (by decide +kernel) (Nat.le_of_ble_eq_true rfl) (fun p e s m args below meth c A Q E hret => ?_)
  unfold fOr_endNumber at hf
  show V G p l e rmOr_endNumber s m args below meth c 2 A Q 0 0 (gOr G qOr or_count or_stopKind or_letters or_numbers or_state or_letter or_filled or_figures or_number or_below) 0 [(0, .ref (qOr 0))] []
  refine V_aload_n E 0 rfl dX4_endNumber_0 ?_
  refine gfX4_18 E 0 rfl rfl dX4_endNumber_1 ?_
  refine V_iconst E (v := (4 : Int32)) dX4_endNumber_4 (by decide) ?_
  refine V_imul E dX4_endNumber_5 ?_
  refine V_aload_n E 0 rfl dX4_endNumber_6 ?_
  refine gfX4_85 E 0 rfl rfl dX4_endNumber_7 ?_
  refine V_iadd E dX4_endNumber_10 ?_
  obtain ⟨t1, ht1, hf⟩ := bd hf
  have ht1 := Option.some.inj ht1
  rw [ht1]
  refine V_istore_n E (lv' := [(0, .ref (qOr 0)), (1, .int t1)]) dX4_endNumber_11 (by decide) rfl ?_
  refine V_iload_n E 1 rfl dX4_endNumber_12 ?_
  refine V_iconst E (v := (0 : Int32)) dX4_endNumber_13 (by decide) ?_
  refine V_sipush E (v := (159 : Int32)) dX4_endNumber_14 (by decide) ?_
  obtain ⟨u2, hu2, hf⟩ := bd hf
  refine V_fr0 E (Rn_N E (rest := []) 8 rfl wd_yX7_within (kRi_within l G t1 (0 : Int32) (159 : Int32) u2 hu2) ⟨rfl, rfl, Nat.le_of_ble_eq_true rfl, Nat.le_of_ble_eq_true rfl⟩ rfl rfl (Nat.le_of_ble_eq_true rfl) dX4_endNumber_17) ?_
  show V G p l e rmOr_endNumber s m args below meth c 2 A Q 0 0 (gOr G qOr or_count or_stopKind or_letters or_numbers or_state or_letter or_filled or_figures or_number or_below) 20 [(0, .ref (qOr 0)), (1, .int t1)] [.int u2]
  obtain ⟨u4, hu4, hf⟩ := bd hf
  have J48 : V G p l e rmOr_endNumber s m args below meth c 2 A Q 0 0 (gOr G qOr or_count or_stopKind or_letters u4 or_state or_letter or_filled or_figures or_number or_below) 48 [(0, .ref (qOr 0))] [] := by
    refine V_aload_n E 0 rfl dX4_endNumber_48 ?_
    refine V_dup E dX4_endNumber_49 rfl ?_
    refine gfX4_85 E 0 rfl rfl dX4_endNumber_50 ?_
    refine V_iconst E (v := (1 : Int32)) dX4_endNumber_53 (by decide) ?_
    refine V_iadd E dX4_endNumber_54 ?_
    refine pfX4_85 E (ws' := (gOr G qOr or_count or_stopKind or_letters u4 or_state or_letter (or_filled + (1 : Int32)) or_figures or_number or_below)) 0 rfl (Nat.le_of_ble_eq_true rfl) rfl rfl dX4_endNumber_55 rfl ?_
    refine V_aload_n E 0 rfl dX4_endNumber_58 ?_
    refine V_iconst E (v := (1 : Int32)) dX4_endNumber_59 (by decide) ?_
    refine pfX4_22 E (ws' := (gOr G qOr or_count or_stopKind or_letters u4 (1 : Int32) or_letter (or_filled + (1 : Int32)) or_figures or_number or_below)) 0 rfl (Nat.le_of_ble_eq_true rfl) rfl rfl dX4_endNumber_60 rfl ?_
    have h9 := hret 63 [(0, .ref (qOr 0))] dX4_endNumber_63
    rw [← (Option.some.inj hf)] at h9
    exact h9
  clear hf
  have hf := hu4
  refine V_if_eq E (tgt := 48) dX4_endNumber_20 (by decide) (fun hc3 => ?_) (fun hc3 => ?_)
  · have hf := ip hc3 hf
    refine V_sub [0] rfl ?_
    rw [← Option.some.inj hf] at J48
    exact J48
  · have hf := iq hc3 hf
    refine V_aload_n E 0 rfl dX4_endNumber_23 ?_
    refine gfX4_15 E 0 rfl rfl dX4_endNumber_24 ?_
    refine V_iload_n E 1 rfl dX4_endNumber_27 ?_
    refine V_aload_n E 0 rfl dX4_endNumber_28 ?_
    refine gfX4_98 E 0 rfl rfl dX4_endNumber_29 ?_
    refine V_if_eq E (tgt := 43) dX4_endNumber_32 (by decide) (fun hc5 => ?_) (fun hc5 => ?_)
    · have hf := ip hc5 hf
      refine V_aload_n E 0 rfl dX4_endNumber_43 ?_
      refine gfX4_92 E 0 rfl rfl dX4_endNumber_44 ?_
      obtain ⟨hi6, hf⟩ := asr_ok hf
      refine V_iast E (ws' := (gOr G qOr or_count or_stopKind or_letters (upd or_numbers t1.toNatClampNeg or_number) or_state or_letter or_filled or_figures or_number or_below)) 2 rfl hi6 dX4_endNumber_47 rfl ?_
      refine V_sub [0] rfl ?_
      rw [← Option.some.inj hf] at J48
      exact J48
    · have hf := iq hc5 hf
      refine V_aload_n E 0 rfl dX4_endNumber_35 ?_
      refine gfX4_92 E 0 rfl rfl dX4_endNumber_36 ?_
      refine V_ineg E dX4_endNumber_39 ?_
      refine V_goto E (tgt := 47) dX4_endNumber_40 (by decide) ?_
      obtain ⟨hi7, hf⟩ := asr_ok hf
      refine V_iast E (ws' := (gOr G qOr or_count or_stopKind or_letters (upd or_numbers t1.toNatClampNeg (-or_number)) or_state or_letter or_filled or_figures or_number or_below)) 2 rfl hi7 dX4_endNumber_47 rfl ?_
      refine V_sub [0] rfl ?_
      rw [← Option.some.inj hf] at J48
      exact J48
abbrev rmOr_endOrder : Room := { frames := 1, cells := 0, slots := 0, locals := 22 }
theorem wd_yX4_endOrder : wdV yX4_endOrder cX4_endOrder 1 (some .boolean) 0 := ⟨wc_yX4_endOrder, wi_yX4_endOrder, wse_yX4_endOrder, wini_X4, by decide +kernel, by decide +kernel, by decide +kernel⟩
set_option maxHeartbeats 4000000 in
set_option maxRecDepth 100000 in
theorem kOr_endOrder (l : Launch) (G : wG) (qOr : Nat → Nat) (or_count : Int32) (or_stopKind : Int32) (or_letters : Nat → Int32) (or_numbers : Nat → Int32) (or_state : Int32) (or_letter : Int32) (or_filled : Int32) (or_figures : Int32) (or_number : Int32) (or_below : Int32) (o : Int32 × Int32 × (Nat → Int32) × Int32) (hf : fOr_endOrder or_count or_letters or_state or_letter = some o) : Ct G l yX4_endOrder cX4_endOrder 1 (some .boolean) rmOr_endOrder [.ref (qOr 0)] (gOr G qOr or_count or_stopKind or_letters or_numbers or_state or_letter or_filled or_figures or_number or_below) (some (.int o.1)) (gOr G qOr o.2.1 or_stopKind o.2.2.1 or_numbers o.2.2.2 or_letter or_filled or_figures or_number or_below) := by
  refine Ct.ofZ (by decide +kernel) (Nat.le_of_ble_eq_true rfl) (fun p e s m args below meth c A Q E hret => ?_)
  unfold fOr_endOrder at hf
  show V G p l e rmOr_endOrder s m args below meth c 1 A Q 0 0 (gOr G qOr or_count or_stopKind or_letters or_numbers or_state or_letter or_filled or_figures or_number or_below) 0 [(0, .ref (qOr 0))] []
  refine V_aload_n E 0 rfl dX4_endOrder_0 ?_
  refine gfX4_18 E 0 rfl rfl dX4_endOrder_1 ?_
  refine V_iconst E (v := (0 : Int32)) dX4_endOrder_4 (by decide) ?_
  refine V_bipush E (v := (39 : Int32)) dX4_endOrder_5 (by decide) ?_
  obtain ⟨u1, hu1, hf⟩ := bd hf
  refine V_fr0 E (Rn_N E (rest := []) 8 rfl wd_yX7_within (kRi_within l G or_count (0 : Int32) (39 : Int32) u1 hu1) ⟨rfl, rfl, Nat.le_of_ble_eq_true rfl, Nat.le_of_ble_eq_true rfl⟩ rfl rfl (Nat.le_of_ble_eq_true rfl) dX4_endOrder_7) ?_
  show V G p l e rmOr_endOrder s m args below meth c 1 A Q 0 0 (gOr G qOr or_count or_stopKind or_letters or_numbers or_state or_letter or_filled or_figures or_number or_below) 10 [(0, .ref (qOr 0))] [.int u1]
  refine V_if_ne E (tgt := 15) dX4_endOrder_10 (by decide) (fun hc2 => ?_) (fun hc2 => ?_)
  · have hf := iq hc2 hf
    refine V_aload_n E 0 rfl dX4_endOrder_15 ?_
    refine gfX4_9 E 0 rfl rfl dX4_endOrder_16 ?_
    refine V_aload_n E 0 rfl dX4_endOrder_19 ?_
    refine gfX4_18 E 0 rfl rfl dX4_endOrder_20 ?_
    refine V_aload_n E 0 rfl dX4_endOrder_23 ?_
    refine gfX4_82 E 0 rfl rfl dX4_endOrder_24 ?_
    obtain ⟨hi3, hf⟩ := asr_ok hf
    refine V_iast E (ws' := (gOr G qOr or_count or_stopKind (upd or_letters or_count.toNatClampNeg or_letter) or_numbers or_state or_letter or_filled or_figures or_number or_below)) 1 rfl hi3 dX4_endOrder_27 rfl ?_
    refine V_aload_n E 0 rfl dX4_endOrder_28 ?_
    refine V_dup E dX4_endOrder_29 rfl ?_
    refine gfX4_18 E 0 rfl rfl dX4_endOrder_30 ?_
    refine V_iconst E (v := (1 : Int32)) dX4_endOrder_33 (by decide) ?_
    refine V_iadd E dX4_endOrder_34 ?_
    refine pfX4_18 E (ws' := (gOr G qOr (or_count + (1 : Int32)) or_stopKind (upd or_letters or_count.toNatClampNeg or_letter) or_numbers or_state or_letter or_filled or_figures or_number or_below)) 0 rfl (Nat.le_of_ble_eq_true rfl) rfl rfl dX4_endOrder_35 rfl ?_
    refine V_aload_n E 0 rfl dX4_endOrder_38 ?_
    refine V_iconst E (v := (0 : Int32)) dX4_endOrder_39 (by decide) ?_
    refine pfX4_22 E (ws' := (gOr G qOr (or_count + (1 : Int32)) or_stopKind (upd or_letters or_count.toNatClampNeg or_letter) or_numbers (0 : Int32) or_letter or_filled or_figures or_number or_below)) 0 rfl (Nat.le_of_ble_eq_true rfl) rfl rfl dX4_endOrder_40 rfl ?_
    refine V_iconst E (v := (1 : Int32)) dX4_endOrder_43 (by decide) ?_
    have h9 := hret 44 [(0, .ref (qOr 0))] dX4_endOrder_44
    rw [← (Option.some.inj hf)] at h9
    exact h9 (z01a (Or.inr rfl))
  · have hf := ip hc2 hf
    refine V_iconst E (v := (0 : Int32)) dX4_endOrder_13 (by decide) ?_
    have h9 := hret 14 [(0, .ref (qOr 0))] dX4_endOrder_14
    rw [← (Option.some.inj hf)] at h9
    exact h9 (z01a (Or.inl rfl))
abbrev rmOr_acceptInGap : Room := { frames := 2, cells := 0, slots := 0, locals := 42 }
theorem wd_yX4_acceptInGap : wdV yX4_acceptInGap cX4_acceptInGap 3 (some .boolean) 1 := ⟨wc_yX4_acceptInGap, wi_yX4_acceptInGap, wse_yX4_acceptInGap, wini_X4, by decide +kernel, by decide +kernel, by decide +kernel⟩
set_option maxHeartbeats 4000000 in
set_option maxRecDepth 100000 in
theorem kOr_acceptInGap (l : Launch) (G : wG) (qOr : Nat → Nat) (p1 : Int32) (or_count : Int32) (or_stopKind : Int32) (or_letters : Nat → Int32) (or_numbers : Nat → Int32) (or_state : Int32) (or_letter : Int32) (or_filled : Int32) (or_figures : Int32) (or_number : Int32) (or_below : Int32) (o : Int32 × Int32 × (Nat → Int32) × Int32 × Int32 × Int32 × Int32) (hf : fOr_acceptInGap p1 or_count or_letters or_state or_letter or_filled or_figures or_number or_below = some o) : Ct G l yX4_acceptInGap cX4_acceptInGap 3 (some .boolean) rmOr_acceptInGap [.ref (qOr 0), .int p1] (gOr G qOr or_count or_stopKind or_letters or_numbers or_state or_letter or_filled or_figures or_number or_below) (some (.int o.1)) (gOr G qOr o.2.1 or_stopKind o.2.2.1 or_numbers o.2.2.2.1 or_letter or_filled o.2.2.2.2.1 o.2.2.2.2.2.1 o.2.2.2.2.2.2) := by
  refine Ct.ofZ (by decide +kernel) (Nat.le_of_ble_eq_true rfl) (fun p e s m args below meth c A Q E hret => ?_)
  unfold fOr_acceptInGap at hf
  show V G p l e rmOr_acceptInGap s m args below meth c 3 A Q 0 0 (gOr G qOr or_count or_stopKind or_letters or_numbers or_state or_letter or_filled or_figures or_number or_below) 0 [(0, .ref (qOr 0)), (1, .int p1)] []
  refine V_iload_n E 1 rfl dX4_acceptInGap_0 ?_
  refine V_bipush E (v := (32 : Int32)) dX4_acceptInGap_1 (by decide) ?_
  refine V_icmp_ne E (tgt := 8) dX4_acceptInGap_3 (by decide) (fun hc1 => ?_) (fun hc1 => ?_)
  · have hf := iq hc1 hf
    refine V_aload_n E 0 rfl dX4_acceptInGap_8 ?_
    refine gfX4_85 E 0 rfl rfl dX4_acceptInGap_9 ?_
    refine V_aload_n E 0 rfl dX4_acceptInGap_12 ?_
    refine gfX4_82 E 0 rfl rfl dX4_acceptInGap_13 ?_
    obtain ⟨u2, hu2, hf⟩ := bd hf
    refine V_fr0 E (Rn_S E (rest := [.int or_filled]) mlX4_79 wd_yX4_numbersOf (kOr_numbersOf l G or_letter u2 hu2) ⟨rfl, rfl, Nat.le_of_ble_eq_true rfl, Nat.le_of_ble_eq_true rfl⟩ rfl rfl (Nat.le_of_ble_eq_true rfl) dX4_acceptInGap_16) ?_
    show V G p l e rmOr_acceptInGap s m args below meth c 3 A Q 0 0 (gOr G qOr or_count or_stopKind or_letters or_numbers or_state or_letter or_filled or_figures or_number or_below) 19 [(0, .ref (qOr 0)), (1, .int p1)] [.int u2, .int or_filled]
    refine V_icmp_lt E (tgt := 41) dX4_acceptInGap_19 (by decide) (fun hc3 => ?_) (fun hc3 => ?_)
    · have hf := ip hc3 hf
      refine V_iload_n E 1 rfl dX4_acceptInGap_41 ?_
      refine V_bipush E (v := (45 : Int32)) dX4_acceptInGap_42 (by decide) ?_
      obtain ⟨u5, hu5, hf⟩ := bd hf
      have J69 : V G p l e rmOr_acceptInGap s m args below meth c 3 A Q 0 0 (gOr G qOr or_count or_stopKind or_letters or_numbers or_state or_letter or_filled or_figures or_number or_below) 69 [(0, .ref (qOr 0)), (1, .int p1)] [.int u5] := by
        refine V_istore_n E (lv' := [(0, .ref (qOr 0)), (1, .int p1), (2, .int u5)]) dX4_acceptInGap_69 (by decide) rfl ?_
        refine V_iload_n E 2 rfl dX4_acceptInGap_70 ?_
        refine V_if_ne E (tgt := 83) dX4_acceptInGap_71 (by decide) (fun hc8 => ?_) (fun hc8 => ?_)
        · have hf := iq hc8 hf
          refine V_aload_n E 0 rfl dX4_acceptInGap_83 ?_
          refine V_iconst E (v := (0 : Int32)) dX4_acceptInGap_84 (by decide) ?_
          refine pfX4_92 E (ws' := (gOr G qOr or_count or_stopKind or_letters or_numbers or_state or_letter or_filled or_figures (0 : Int32) or_below)) 0 rfl (Nat.le_of_ble_eq_true rfl) rfl rfl dX4_acceptInGap_85 rfl ?_
          refine V_aload_n E 0 rfl dX4_acceptInGap_88 ?_
          refine V_iconst E (v := (0 : Int32)) dX4_acceptInGap_89 (by decide) ?_
          refine pfX4_95 E (ws' := (gOr G qOr or_count or_stopKind or_letters or_numbers or_state or_letter or_filled (0 : Int32) (0 : Int32) or_below)) 0 rfl (Nat.le_of_ble_eq_true rfl) rfl rfl dX4_acceptInGap_90 rfl ?_
          refine V_aload_n E 0 rfl dX4_acceptInGap_93 ?_
          refine V_iload_n E 2 rfl dX4_acceptInGap_94 ?_
          obtain ⟨hz9, hf⟩ := asr_ok hf
          refine pfX4_98 E (ws' := (gOr G qOr or_count or_stopKind or_letters or_numbers or_state or_letter or_filled (0 : Int32) (0 : Int32) u5)) 0 rfl (Nat.le_of_ble_eq_true rfl) (z01n hz9) (z01f hz9) dX4_acceptInGap_95 rfl ?_
          refine V_aload_n E 0 rfl dX4_acceptInGap_98 ?_
          refine V_iconst E (v := (2 : Int32)) dX4_acceptInGap_99 (by decide) ?_
          refine pfX4_22 E (ws' := (gOr G qOr or_count or_stopKind or_letters or_numbers (2 : Int32) or_letter or_filled (0 : Int32) (0 : Int32) u5)) 0 rfl (Nat.le_of_ble_eq_true rfl) rfl rfl dX4_acceptInGap_100 rfl ?_
          refine V_iload_n E 2 rfl dX4_acceptInGap_103 ?_
          refine V_if_ne E (tgt := 115) dX4_acceptInGap_104 (by decide) (fun hc10 => ?_) (fun hc10 => ?_)
          · have hf := iq hc10 hf
            refine V_iconst E (v := (1 : Int32)) dX4_acceptInGap_115 (by decide) ?_
            refine V_goto E (tgt := 120) dX4_acceptInGap_116 (by decide) ?_
            have h9 := hret 120 [(0, .ref (qOr 0)), (1, .int p1), (2, .int u5)] dX4_acceptInGap_120
            rw [← (Option.some.inj hf)] at h9
            exact h9 (z01a (Or.inr rfl))
          · have hf := ip hc10 hf
            refine V_aload_n E 0 rfl dX4_acceptInGap_107 ?_
            refine V_iload_n E 1 rfl dX4_acceptInGap_108 ?_
            obtain ⟨u11, hu11, hf⟩ := bd hf
            refine V_frW E (Rn_V E (rest := []) mlX4_70 wd_yX4_acceptFigure (kOr_acceptFigure l G qOr p1 or_count or_stopKind or_letters or_numbers (2 : Int32) or_letter or_filled (0 : Int32) (0 : Int32) u5 u11 hu11) ⟨rfl, rfl, Nat.le_of_ble_eq_true rfl, Nat.le_of_ble_eq_true rfl⟩ 0 rfl rfl rfl rfl rfl (Nat.le_of_ble_eq_true rfl) dX4_acceptInGap_109) ?_
            show V G p l e rmOr_acceptInGap s m args below meth c 3 A Q 0 0 (gOr G qOr or_count or_stopKind or_letters or_numbers u11.2.1 or_letter or_filled u11.2.2.1 u11.2.2.2 u5) 112 [(0, .ref (qOr 0)), (1, .int p1), (2, .int u5)] [.int u11.1]
            refine V_if_eq E (tgt := 119) dX4_acceptInGap_112 (by decide) (fun hc12 => ?_) (fun hc12 => ?_)
            · have hf := ip hc12 hf
              refine V_iconst E (v := (0 : Int32)) dX4_acceptInGap_119 (by decide) ?_
              have h9 := hret 120 [(0, .ref (qOr 0)), (1, .int p1), (2, .int u5)] dX4_acceptInGap_120
              rw [← (Option.some.inj hf)] at h9
              exact h9 (z01a (Or.inl rfl))
            · have hf := iq hc12 hf
              refine V_iconst E (v := (1 : Int32)) dX4_acceptInGap_115 (by decide) ?_
              refine V_goto E (tgt := 120) dX4_acceptInGap_116 (by decide) ?_
              have h9 := hret 120 [(0, .ref (qOr 0)), (1, .int p1), (2, .int u5)] dX4_acceptInGap_120
              rw [← (Option.some.inj hf)] at h9
              exact h9 (z01a (Or.inr rfl))
        · have hf := ip hc8 hf
          refine V_iload_n E 1 rfl dX4_acceptInGap_74 ?_
          obtain ⟨u13, hu13, hf⟩ := bd hf
          refine V_fr0 E (Rn_S E (rest := []) mlX4_67 wd_yX4_isFigure (kOr_isFigure l G p1 u13 hu13) ⟨rfl, rfl, Nat.le_of_ble_eq_true rfl, Nat.le_of_ble_eq_true rfl⟩ rfl rfl (Nat.le_of_ble_eq_true rfl) dX4_acceptInGap_75) ?_
          show V G p l e rmOr_acceptInGap s m args below meth c 3 A Q 0 0 (gOr G qOr or_count or_stopKind or_letters or_numbers or_state or_letter or_filled or_figures or_number or_below) 78 [(0, .ref (qOr 0)), (1, .int p1), (2, .int u5)] [.int u13]
          refine V_if_ne E (tgt := 83) dX4_acceptInGap_78 (by decide) (fun hc14 => ?_) (fun hc14 => ?_)
          · have hf := iq hc14 hf
            refine V_aload_n E 0 rfl dX4_acceptInGap_83 ?_
            refine V_iconst E (v := (0 : Int32)) dX4_acceptInGap_84 (by decide) ?_
            refine pfX4_92 E (ws' := (gOr G qOr or_count or_stopKind or_letters or_numbers or_state or_letter or_filled or_figures (0 : Int32) or_below)) 0 rfl (Nat.le_of_ble_eq_true rfl) rfl rfl dX4_acceptInGap_85 rfl ?_
            refine V_aload_n E 0 rfl dX4_acceptInGap_88 ?_
            refine V_iconst E (v := (0 : Int32)) dX4_acceptInGap_89 (by decide) ?_
            refine pfX4_95 E (ws' := (gOr G qOr or_count or_stopKind or_letters or_numbers or_state or_letter or_filled (0 : Int32) (0 : Int32) or_below)) 0 rfl (Nat.le_of_ble_eq_true rfl) rfl rfl dX4_acceptInGap_90 rfl ?_
            refine V_aload_n E 0 rfl dX4_acceptInGap_93 ?_
            refine V_iload_n E 2 rfl dX4_acceptInGap_94 ?_
            obtain ⟨hz15, hf⟩ := asr_ok hf
            refine pfX4_98 E (ws' := (gOr G qOr or_count or_stopKind or_letters or_numbers or_state or_letter or_filled (0 : Int32) (0 : Int32) u5)) 0 rfl (Nat.le_of_ble_eq_true rfl) (z01n hz15) (z01f hz15) dX4_acceptInGap_95 rfl ?_
            refine V_aload_n E 0 rfl dX4_acceptInGap_98 ?_
            refine V_iconst E (v := (2 : Int32)) dX4_acceptInGap_99 (by decide) ?_
            refine pfX4_22 E (ws' := (gOr G qOr or_count or_stopKind or_letters or_numbers (2 : Int32) or_letter or_filled (0 : Int32) (0 : Int32) u5)) 0 rfl (Nat.le_of_ble_eq_true rfl) rfl rfl dX4_acceptInGap_100 rfl ?_
            refine V_iload_n E 2 rfl dX4_acceptInGap_103 ?_
            refine V_if_ne E (tgt := 115) dX4_acceptInGap_104 (by decide) (fun hc16 => ?_) (fun hc16 => ?_)
            · have hf := iq hc16 hf
              refine V_iconst E (v := (1 : Int32)) dX4_acceptInGap_115 (by decide) ?_
              refine V_goto E (tgt := 120) dX4_acceptInGap_116 (by decide) ?_
              have h9 := hret 120 [(0, .ref (qOr 0)), (1, .int p1), (2, .int u5)] dX4_acceptInGap_120
              rw [← (Option.some.inj hf)] at h9
              exact h9 (z01a (Or.inr rfl))
            · have hf := ip hc16 hf
              refine V_aload_n E 0 rfl dX4_acceptInGap_107 ?_
              refine V_iload_n E 1 rfl dX4_acceptInGap_108 ?_
              obtain ⟨u17, hu17, hf⟩ := bd hf
              refine V_frW E (Rn_V E (rest := []) mlX4_70 wd_yX4_acceptFigure (kOr_acceptFigure l G qOr p1 or_count or_stopKind or_letters or_numbers (2 : Int32) or_letter or_filled (0 : Int32) (0 : Int32) u5 u17 hu17) ⟨rfl, rfl, Nat.le_of_ble_eq_true rfl, Nat.le_of_ble_eq_true rfl⟩ 0 rfl rfl rfl rfl rfl (Nat.le_of_ble_eq_true rfl) dX4_acceptInGap_109) ?_
              show V G p l e rmOr_acceptInGap s m args below meth c 3 A Q 0 0 (gOr G qOr or_count or_stopKind or_letters or_numbers u17.2.1 or_letter or_filled u17.2.2.1 u17.2.2.2 u5) 112 [(0, .ref (qOr 0)), (1, .int p1), (2, .int u5)] [.int u17.1]
              refine V_if_eq E (tgt := 119) dX4_acceptInGap_112 (by decide) (fun hc18 => ?_) (fun hc18 => ?_)
              · have hf := ip hc18 hf
                refine V_iconst E (v := (0 : Int32)) dX4_acceptInGap_119 (by decide) ?_
                have h9 := hret 120 [(0, .ref (qOr 0)), (1, .int p1), (2, .int u5)] dX4_acceptInGap_120
                rw [← (Option.some.inj hf)] at h9
                exact h9 (z01a (Or.inl rfl))
              · have hf := iq hc18 hf
                refine V_iconst E (v := (1 : Int32)) dX4_acceptInGap_115 (by decide) ?_
                refine V_goto E (tgt := 120) dX4_acceptInGap_116 (by decide) ?_
                have h9 := hret 120 [(0, .ref (qOr 0)), (1, .int p1), (2, .int u5)] dX4_acceptInGap_120
                rw [← (Option.some.inj hf)] at h9
                exact h9 (z01a (Or.inr rfl))
          · have hf := ip hc14 hf
            refine V_iconst E (v := (0 : Int32)) dX4_acceptInGap_81 (by decide) ?_
            have h9 := hret 82 [(0, .ref (qOr 0)), (1, .int p1), (2, .int u5)] dX4_acceptInGap_82
            rw [← (Option.some.inj hf)] at h9
            exact h9 (z01a (Or.inl rfl))
      clear hf
      have hf := hu5
      refine V_icmp_ne E (tgt := 68) dX4_acceptInGap_44 (by decide) (fun hc4 => ?_) (fun hc4 => ?_)
      · have hf := iq hc4 hf
        refine V_iconst E (v := (0 : Int32)) dX4_acceptInGap_68 (by decide) ?_
        rw [← Option.some.inj hf] at J69
        exact J69
      · have hf := ip hc4 hf
        refine V_aload_n E 0 rfl dX4_acceptInGap_47 ?_
        refine gfX4_82 E 0 rfl rfl dX4_acceptInGap_48 ?_
        refine V_bipush E (v := (115 : Int32)) dX4_acceptInGap_51 (by decide) ?_
        refine V_icmp_ne E (tgt := 68) dX4_acceptInGap_53 (by decide) (fun hc6 => ?_) (fun hc6 => ?_)
        · have hf := iq hc6 hf
          refine V_iconst E (v := (0 : Int32)) dX4_acceptInGap_68 (by decide) ?_
          rw [← Option.some.inj hf] at J69
          exact J69
        · have hf := ip hc6 hf
          refine V_aload_n E 0 rfl dX4_acceptInGap_56 ?_
          refine gfX4_85 E 0 rfl rfl dX4_acceptInGap_57 ?_
          refine V_iconst E (v := (2 : Int32)) dX4_acceptInGap_60 (by decide) ?_
          refine V_icmp_ne E (tgt := 68) dX4_acceptInGap_61 (by decide) (fun hc7 => ?_) (fun hc7 => ?_)
          · have hf := iq hc7 hf
            refine V_iconst E (v := (0 : Int32)) dX4_acceptInGap_68 (by decide) ?_
            rw [← Option.some.inj hf] at J69
            exact J69
          · have hf := ip hc7 hf
            refine V_iconst E (v := (1 : Int32)) dX4_acceptInGap_64 (by decide) ?_
            refine V_goto E (tgt := 69) dX4_acceptInGap_65 (by decide) ?_
            rw [← Option.some.inj hf] at J69
            exact J69
    · have hf := iq hc3 hf
      refine V_iload_n E 1 rfl dX4_acceptInGap_22 ?_
      refine V_bipush E (v := (59 : Int32)) dX4_acceptInGap_23 (by decide) ?_
      refine V_icmp_ne E (tgt := 39) dX4_acceptInGap_25 (by decide) (fun hc19 => ?_) (fun hc19 => ?_)
      · have hf := iq hc19 hf
        refine V_iconst E (v := (0 : Int32)) dX4_acceptInGap_39 (by decide) ?_
        have h9 := hret 40 [(0, .ref (qOr 0)), (1, .int p1)] dX4_acceptInGap_40
        rw [← (Option.some.inj hf)] at h9
        exact h9 (z01a (Or.inl rfl))
      · have hf := ip hc19 hf
        refine V_aload_n E 0 rfl dX4_acceptInGap_28 ?_
        obtain ⟨u20, hu20, hf⟩ := bd hf
        refine V_frW E (Rn_V E (rest := []) mlX4_88 wd_yX4_endOrder (kOr_endOrder l G qOr or_count or_stopKind or_letters or_numbers or_state or_letter or_filled or_figures or_number or_below u20 hu20) ⟨rfl, rfl, Nat.le_of_ble_eq_true rfl, Nat.le_of_ble_eq_true rfl⟩ 0 rfl rfl rfl rfl rfl (Nat.le_of_ble_eq_true rfl) dX4_acceptInGap_29) ?_
        show V G p l e rmOr_acceptInGap s m args below meth c 3 A Q 0 0 (gOr G qOr u20.2.1 or_stopKind u20.2.2.1 or_numbers u20.2.2.2 or_letter or_filled or_figures or_number or_below) 32 [(0, .ref (qOr 0)), (1, .int p1)] [.int u20.1]
        refine V_if_eq E (tgt := 39) dX4_acceptInGap_32 (by decide) (fun hc21 => ?_) (fun hc21 => ?_)
        · have hf := ip hc21 hf
          refine V_iconst E (v := (0 : Int32)) dX4_acceptInGap_39 (by decide) ?_
          have h9 := hret 40 [(0, .ref (qOr 0)), (1, .int p1)] dX4_acceptInGap_40
          rw [← (Option.some.inj hf)] at h9
          exact h9 (z01a (Or.inl rfl))
        · have hf := iq hc21 hf
          refine V_iconst E (v := (1 : Int32)) dX4_acceptInGap_35 (by decide) ?_
          refine V_goto E (tgt := 40) dX4_acceptInGap_36 (by decide) ?_
          have h9 := hret 40 [(0, .ref (qOr 0)), (1, .int p1)] dX4_acceptInGap_40
          rw [← (Option.some.inj hf)] at h9
          exact h9 (z01a (Or.inr rfl))
  · have hf := ip hc1 hf
    refine V_iconst E (v := (1 : Int32)) dX4_acceptInGap_6 (by decide) ?_
    have h9 := hret 7 [(0, .ref (qOr 0)), (1, .int p1)] dX4_acceptInGap_7
    rw [← (Option.some.inj hf)] at h9
    exact h9 (z01a (Or.inr rfl))
abbrev rmOr_accept : Room := { frames := 3, cells := 0, slots := 0, locals := 64 }
theorem wd_yX4_accept : wdV yX4_accept cX4_accept 2 (some .boolean) 1 := ⟨wc_yX4_accept, wi_yX4_accept, wse_yX4_accept, wini_X4, by decide +kernel, by decide +kernel, by decide +kernel⟩
set_option maxHeartbeats 4000000 in
set_option maxRecDepth 100000 in
theorem kOr_accept (l : Launch) (G : wG) (qOr : Nat → Nat) (p1 : Int32) (or_count : Int32) (or_stopKind : Int32) (or_letters : Nat → Int32) (or_numbers : Nat → Int32) (or_state : Int32) (or_letter : Int32) (or_filled : Int32) (or_figures : Int32) (or_number : Int32) (or_below : Int32) (o : Int32 × Int32 × (Nat → Int32) × (Nat → Int32) × Int32 × Int32 × Int32 × Int32 × Int32 × Int32) (hf : fOr_accept p1 or_count or_letters or_numbers or_state or_letter or_filled or_figures or_number or_below = some o) : Ct G l yX4_accept cX4_accept 2 (some .boolean) rmOr_accept [.ref (qOr 0), .int p1] (gOr G qOr or_count or_stopKind or_letters or_numbers or_state or_letter or_filled or_figures or_number or_below) (some (.int o.1)) (gOr G qOr o.2.1 or_stopKind o.2.2.1 o.2.2.2.1 o.2.2.2.2.1 o.2.2.2.2.2.1 o.2.2.2.2.2.2.1 o.2.2.2.2.2.2.2.1 o.2.2.2.2.2.2.2.2.1 o.2.2.2.2.2.2.2.2.2) := by
  refine Ct.ofZ (by decide +kernel) (Nat.le_of_ble_eq_true rfl) (fun p e s m args below meth c A Q E hret => ?_)
  unfold fOr_accept at hf
  show V G p l e rmOr_accept s m args below meth c 2 A Q 0 0 (gOr G qOr or_count or_stopKind or_letters or_numbers or_state or_letter or_filled or_figures or_number or_below) 0 [(0, .ref (qOr 0)), (1, .int p1)] []
  refine V_aload_n E 0 rfl dX4_accept_0 ?_
  refine gfX4_22 E 0 rfl rfl dX4_accept_1 ?_
  by_cases hc1 : or_state = (0 : Int32)
  · have hf := ip hc1 hf
    refine V_tsIn E (tgt := 36) (off := 32) dX4_accept_4 (by rw [hc1]; decide) (by decide) ?_
    refine V_iload_n E 1 rfl dX4_accept_36 ?_
    refine V_bipush E (v := (32 : Int32)) dX4_accept_37 (by decide) ?_
    refine V_icmp_eq E (tgt := 50) dX4_accept_39 (by decide) (fun hc2 => ?_) (fun hc2 => ?_)
    · have hf := ip hc2 hf
      refine V_iconst E (v := (1 : Int32)) dX4_accept_50 (by decide) ?_
      refine V_goto E (tgt := 55) dX4_accept_51 (by decide) ?_
      have h9 := hret 55 [(0, .ref (qOr 0)), (1, .int p1)] dX4_accept_55
      rw [← (Option.some.inj hf)] at h9
      exact h9 (z01a (Or.inr rfl))
    · have hf := iq hc2 hf
      refine V_aload_n E 0 rfl dX4_accept_42 ?_
      refine V_iload_n E 1 rfl dX4_accept_43 ?_
      obtain ⟨u3, hu3, hf⟩ := bd hf
      refine V_frW E (Rn_V E (rest := []) mlX4_64 wd_yX4_acceptLetter (kOr_acceptLetter l G qOr p1 or_count or_stopKind or_letters or_numbers or_state or_letter or_filled or_figures or_number or_below u3 hu3) ⟨rfl, rfl, Nat.le_of_ble_eq_true rfl, Nat.le_of_ble_eq_true rfl⟩ 0 rfl rfl rfl rfl rfl (Nat.le_of_ble_eq_true rfl) dX4_accept_44) ?_
      show V G p l e rmOr_accept s m args below meth c 2 A Q 0 0 (gOr G qOr or_count or_stopKind or_letters or_numbers u3.2.1 u3.2.2.1 u3.2.2.2 or_figures or_number or_below) 47 [(0, .ref (qOr 0)), (1, .int p1)] [.int u3.1]
      refine V_if_eq E (tgt := 54) dX4_accept_47 (by decide) (fun hc4 => ?_) (fun hc4 => ?_)
      · have hf := ip hc4 hf
        refine V_iconst E (v := (0 : Int32)) dX4_accept_54 (by decide) ?_
        have h9 := hret 55 [(0, .ref (qOr 0)), (1, .int p1)] dX4_accept_55
        rw [← (Option.some.inj hf)] at h9
        exact h9 (z01a (Or.inl rfl))
      · have hf := iq hc4 hf
        refine V_iconst E (v := (1 : Int32)) dX4_accept_50 (by decide) ?_
        refine V_goto E (tgt := 55) dX4_accept_51 (by decide) ?_
        have h9 := hret 55 [(0, .ref (qOr 0)), (1, .int p1)] dX4_accept_55
        rw [← (Option.some.inj hf)] at h9
        exact h9 (z01a (Or.inr rfl))
  · have hf := iq hc1 hf
    by_cases hc5 : or_state = (2 : Int32)
    · have hf := ip hc5 hf
      refine V_tsIn E (tgt := 56) (off := 52) dX4_accept_4 (by rw [hc5]; decide) (by decide) ?_
      refine V_iload_n E 1 rfl dX4_accept_56 ?_
      obtain ⟨u6, hu6, hf⟩ := bd hf
      refine V_fr0 E (Rn_S E (rest := []) mlX4_67 wd_yX4_isFigure (kOr_isFigure l G p1 u6 hu6) ⟨rfl, rfl, Nat.le_of_ble_eq_true rfl, Nat.le_of_ble_eq_true rfl⟩ rfl rfl (Nat.le_of_ble_eq_true rfl) dX4_accept_57) ?_
      show V G p l e rmOr_accept s m args below meth c 2 A Q 0 0 (gOr G qOr or_count or_stopKind or_letters or_numbers or_state or_letter or_filled or_figures or_number or_below) 60 [(0, .ref (qOr 0)), (1, .int p1)] [.int u6]
      refine V_if_eq E (tgt := 75) dX4_accept_60 (by decide) (fun hc7 => ?_) (fun hc7 => ?_)
      · have hf := ip hc7 hf
        refine V_iconst E (v := (0 : Int32)) dX4_accept_75 (by decide) ?_
        have h9 := hret 76 [(0, .ref (qOr 0)), (1, .int p1)] dX4_accept_76
        rw [← (Option.some.inj hf)] at h9
        exact h9 (z01a (Or.inl rfl))
      · have hf := iq hc7 hf
        refine V_aload_n E 0 rfl dX4_accept_63 ?_
        refine V_iload_n E 1 rfl dX4_accept_64 ?_
        obtain ⟨u8, hu8, hf⟩ := bd hf
        refine V_frW E (Rn_V E (rest := []) mlX4_70 wd_yX4_acceptFigure (kOr_acceptFigure l G qOr p1 or_count or_stopKind or_letters or_numbers or_state or_letter or_filled or_figures or_number or_below u8 hu8) ⟨rfl, rfl, Nat.le_of_ble_eq_true rfl, Nat.le_of_ble_eq_true rfl⟩ 0 rfl rfl rfl rfl rfl (Nat.le_of_ble_eq_true rfl) dX4_accept_65) ?_
        show V G p l e rmOr_accept s m args below meth c 2 A Q 0 0 (gOr G qOr or_count or_stopKind or_letters or_numbers u8.2.1 or_letter or_filled u8.2.2.1 u8.2.2.2 or_below) 68 [(0, .ref (qOr 0)), (1, .int p1)] [.int u8.1]
        refine V_if_eq E (tgt := 75) dX4_accept_68 (by decide) (fun hc9 => ?_) (fun hc9 => ?_)
        · have hf := ip hc9 hf
          refine V_iconst E (v := (0 : Int32)) dX4_accept_75 (by decide) ?_
          have h9 := hret 76 [(0, .ref (qOr 0)), (1, .int p1)] dX4_accept_76
          rw [← (Option.some.inj hf)] at h9
          exact h9 (z01a (Or.inl rfl))
        · have hf := iq hc9 hf
          refine V_iconst E (v := (1 : Int32)) dX4_accept_71 (by decide) ?_
          refine V_goto E (tgt := 76) dX4_accept_72 (by decide) ?_
          have h9 := hret 76 [(0, .ref (qOr 0)), (1, .int p1)] dX4_accept_76
          rw [← (Option.some.inj hf)] at h9
          exact h9 (z01a (Or.inr rfl))
    · have hf := iq hc5 hf
      by_cases hc10 : or_state = (3 : Int32)
      · have hf := ip hc10 hf
        refine V_tsIn E (tgt := 77) (off := 73) dX4_accept_4 (by rw [hc10]; decide) (by decide) ?_
        refine V_iload_n E 1 rfl dX4_accept_77 ?_
        obtain ⟨u11, hu11, hf⟩ := bd hf
        refine V_fr0 E (Rn_S E (rest := []) mlX4_67 wd_yX4_isFigure (kOr_isFigure l G p1 u11 hu11) ⟨rfl, rfl, Nat.le_of_ble_eq_true rfl, Nat.le_of_ble_eq_true rfl⟩ rfl rfl (Nat.le_of_ble_eq_true rfl) dX4_accept_78) ?_
        show V G p l e rmOr_accept s m args below meth c 2 A Q 0 0 (gOr G qOr or_count or_stopKind or_letters or_numbers or_state or_letter or_filled or_figures or_number or_below) 81 [(0, .ref (qOr 0)), (1, .int p1)] [.int u11]
        refine V_if_eq E (tgt := 90) dX4_accept_81 (by decide) (fun hc12 => ?_) (fun hc12 => ?_)
        · have hf := ip hc12 hf
          refine V_aload_n E 0 rfl dX4_accept_90 ?_
          obtain ⟨u13, hu13, hf⟩ := bd hf
          refine V_frW E (Rn_V E (rest := []) mlX4_73 wd_yX4_endNumber (kOr_endNumber l G qOr or_count or_stopKind or_letters or_numbers or_state or_letter or_filled or_figures or_number or_below u13 hu13) ⟨rfl, rfl, Nat.le_of_ble_eq_true rfl, Nat.le_of_ble_eq_true rfl⟩ 0 rfl rfl rfl rfl rfl (Nat.le_of_ble_eq_true rfl) dX4_accept_91) ?_
          show V G p l e rmOr_accept s m args below meth c 2 A Q 0 0 (gOr G qOr or_count or_stopKind or_letters u13.1 u13.2.1 or_letter u13.2.2 or_figures or_number or_below) 94 [(0, .ref (qOr 0)), (1, .int p1)] []
          refine V_aload_n E 0 rfl dX4_accept_94 ?_
          refine V_iload_n E 1 rfl dX4_accept_95 ?_
          obtain ⟨u14, hu14, hf⟩ := bd hf
          refine V_frW E (Rn_V E (rest := []) mlX4_76 wd_yX4_acceptInGap (kOr_acceptInGap l G qOr p1 or_count or_stopKind or_letters u13.1 u13.2.1 or_letter u13.2.2 or_figures or_number or_below u14 hu14) ⟨rfl, rfl, Nat.le_of_ble_eq_true rfl, Nat.le_of_ble_eq_true rfl⟩ 0 rfl rfl rfl rfl rfl (Nat.le_of_ble_eq_true rfl) dX4_accept_96) ?_
          show V G p l e rmOr_accept s m args below meth c 2 A Q 0 0 (gOr G qOr u14.2.1 or_stopKind u14.2.2.1 u13.1 u14.2.2.2.1 or_letter u13.2.2 u14.2.2.2.2.1 u14.2.2.2.2.2.1 u14.2.2.2.2.2.2) 99 [(0, .ref (qOr 0)), (1, .int p1)] [.int u14.1]
          obtain ⟨hz, hf⟩ := asr_ok hf
          have h9 := hret 99 [(0, .ref (qOr 0)), (1, .int p1)] dX4_accept_99
          rw [← (Option.some.inj hf)] at h9
          exact h9 (z01a hz)
        · have hf := iq hc12 hf
          refine V_aload_n E 0 rfl dX4_accept_84 ?_
          refine V_iload_n E 1 rfl dX4_accept_85 ?_
          obtain ⟨u15, hu15, hf⟩ := bd hf
          refine V_frW E (Rn_V E (rest := []) mlX4_70 wd_yX4_acceptFigure (kOr_acceptFigure l G qOr p1 or_count or_stopKind or_letters or_numbers or_state or_letter or_filled or_figures or_number or_below u15 hu15) ⟨rfl, rfl, Nat.le_of_ble_eq_true rfl, Nat.le_of_ble_eq_true rfl⟩ 0 rfl rfl rfl rfl rfl (Nat.le_of_ble_eq_true rfl) dX4_accept_86) ?_
          show V G p l e rmOr_accept s m args below meth c 2 A Q 0 0 (gOr G qOr or_count or_stopKind or_letters or_numbers u15.2.1 or_letter or_filled u15.2.2.1 u15.2.2.2 or_below) 89 [(0, .ref (qOr 0)), (1, .int p1)] [.int u15.1]
          obtain ⟨hz, hf⟩ := asr_ok hf
          have h9 := hret 89 [(0, .ref (qOr 0)), (1, .int p1)] dX4_accept_89
          rw [← (Option.some.inj hf)] at h9
          exact h9 (z01a hz)
      · have hf := iq hc10 hf
        refine V_tsD E (tgt := 100) [0, 2, 3] dX4_accept_4 (List.forall_mem_cons.mpr ⟨tsne hc1 (by decide), List.forall_mem_cons.mpr ⟨tsne hc5 (by decide), List.forall_mem_cons.mpr ⟨tsne hc10 (by decide), fun _ h => absurd h List.not_mem_nil⟩⟩⟩) (by decide) (by decide) (by decide) ?_
        refine V_aload_n E 0 rfl dX4_accept_100 ?_
        refine V_iload_n E 1 rfl dX4_accept_101 ?_
        obtain ⟨u16, hu16, hf⟩ := bd hf
        refine V_frW E (Rn_V E (rest := []) mlX4_76 wd_yX4_acceptInGap (kOr_acceptInGap l G qOr p1 or_count or_stopKind or_letters or_numbers or_state or_letter or_filled or_figures or_number or_below u16 hu16) ⟨rfl, rfl, Nat.le_of_ble_eq_true rfl, Nat.le_of_ble_eq_true rfl⟩ 0 rfl rfl rfl rfl rfl (Nat.le_of_ble_eq_true rfl) dX4_accept_102) ?_
        show V G p l e rmOr_accept s m args below meth c 2 A Q 0 0 (gOr G qOr u16.2.1 or_stopKind u16.2.2.1 or_numbers u16.2.2.2.1 or_letter or_filled u16.2.2.2.2.1 u16.2.2.2.2.2.1 u16.2.2.2.2.2.2) 105 [(0, .ref (qOr 0)), (1, .int p1)] [.int u16.1]
        obtain ⟨hz, hf⟩ := asr_ok hf
        have h9 := hret 105 [(0, .ref (qOr 0)), (1, .int p1)] dX4_accept_105
        rw [← (Option.some.inj hf)] at h9
        exact h9 (z01a hz)
abbrev rmOr_findFault : Room := { frames := 4, cells := 0, slots := 0, locals := 85 }
theorem wd_yX4_findFault : wdV yX4_findFault cX4_findFault 4 (some .int) 2 := ⟨wc_yX4_findFault, wi_yX4_findFault, wse_yX4_findFault, wini_X4, by decide +kernel, by decide +kernel, by decide +kernel⟩
set_option maxHeartbeats 4000000 in
set_option maxRecDepth 100000 in
theorem kOr_findFault (l : Launch) (G : wG) (qOr : Nat → Nat) (qTx : Nat → Nat) (p2 : Int32) (or_count : Int32) (or_stopKind : Int32) (or_letters : Nat → Int32) (or_numbers : Nat → Int32) (or_state : Int32) (or_letter : Int32) (or_filled : Int32) (or_figures : Int32) (or_number : Int32) (or_below : Int32) (tx_text : Nat → Int32) (o : Int32 × Int32 × (Nat → Int32) × (Nat → Int32) × Int32 × Int32 × Int32 × Int32 × Int32 × Int32) (hf : fOr_findFault p2 or_count or_letters or_numbers or_state or_letter or_filled or_figures or_number or_below tx_text = some o) : Ct G l yX4_findFault cX4_findFault 4 (some .int) rmOr_findFault [.ref (qOr 0), .ref (qTx 0), .int p2] (gOr G qOr or_count or_stopKind or_letters or_numbers or_state or_letter or_filled or_figures or_number or_below ++ (gTx G qTx tx_text)) (some (.int o.1)) (gOr G qOr o.2.1 or_stopKind o.2.2.1 o.2.2.2.1 o.2.2.2.2.1 o.2.2.2.2.2.1 o.2.2.2.2.2.2.1 o.2.2.2.2.2.2.2.1 o.2.2.2.2.2.2.2.2.1 o.2.2.2.2.2.2.2.2.2 ++ (gTx G qTx tx_text)) := by
  refine Ct.ofI (by decide +kernel) (Nat.le_of_ble_eq_true rfl) (fun p e s m args below meth c A Q E hret => ?_)
  unfold fOr_findFault at hf
  show V G p l e rmOr_findFault s m args below meth c 4 A Q 0 0 (gOr G qOr or_count or_stopKind or_letters or_numbers or_state or_letter or_filled or_figures or_number or_below ++ (gTx G qTx tx_text)) 0 [(0, .ref (qOr 0)), (1, .ref (qTx 0)), (2, .int p2)] []
  refine V_aload_n E 0 rfl dX4_findFault_0 ?_
  refine V_iconst E (v := (0 : Int32)) dX4_findFault_1 (by decide) ?_
  refine pfX4_18 E (ws' := (gOr G qOr (0 : Int32) or_stopKind or_letters or_numbers or_state or_letter or_filled or_figures or_number or_below ++ (gTx G qTx tx_text))) 0 rfl (Nat.le_of_ble_eq_true rfl) rfl rfl dX4_findFault_2 rfl ?_
  refine V_aload_n E 0 rfl dX4_findFault_5 ?_
  refine V_iconst E (v := (0 : Int32)) dX4_findFault_6 (by decide) ?_
  refine pfX4_22 E (ws' := (gOr G qOr (0 : Int32) or_stopKind or_letters or_numbers (0 : Int32) or_letter or_filled or_figures or_number or_below ++ (gTx G qTx tx_text))) 0 rfl (Nat.le_of_ble_eq_true rfl) rfl rfl dX4_findFault_7 rfl ?_
  refine V_iconst E (v := (0 : Int32)) dX4_findFault_10 (by decide) ?_
  refine V_istore_n E (lv' := [(0, .ref (qOr 0)), (1, .ref (qTx 0)), (2, .int p2), (3, .int (0 : Int32))]) dX4_findFault_11 (by decide) rfl ?_
  have L12 : ∀ (n : Nat) (a12_3 : Int32) (c12_or_count : Int32) (c12_or_letters : Nat → Int32) (c12_or_numbers : Nat → Int32) (c12_or_state : Int32) (c12_or_letter : Int32) (c12_or_filled : Int32) (c12_or_figures : Int32) (c12_or_number : Int32) (c12_or_below : Int32) (u : Sum (Int32 × Int32 × (Nat → Int32) × (Nat → Int32) × Int32 × Int32 × Int32 × Int32 × Int32 × Int32) (Int32 × (Nat → Int32) × (Nat → Int32) × Int32 × Int32 × Int32 × Int32 × Int32 × Int32)), fOr_findFault_L12 p2 tx_text n a12_3 c12_or_count c12_or_letters c12_or_numbers c12_or_state c12_or_letter c12_or_filled c12_or_figures c12_or_number c12_or_below = some u → (∀ x, u = .inr x → V G p l e rmOr_findFault s m args below meth c 4 A Q 0 0 (gOr G qOr x.1 or_stopKind x.2.1 x.2.2.1 x.2.2.2.1 x.2.2.2.2.1 x.2.2.2.2.2.1 x.2.2.2.2.2.2.1 x.2.2.2.2.2.2.2.1 x.2.2.2.2.2.2.2.2 ++ (gTx G qTx tx_text)) 41 [(0, .ref (qOr 0)), (2, .int p2)] []) → (∀ r, u = .inl r → r = o) → V G p l e rmOr_findFault s m args below meth c 4 A Q 0 0 (gOr G qOr c12_or_count or_stopKind c12_or_letters c12_or_numbers c12_or_state c12_or_letter c12_or_filled c12_or_figures c12_or_number c12_or_below ++ (gTx G qTx tx_text)) 12 [(0, .ref (qOr 0)), (1, .ref (qTx 0)), (2, .int p2), (3, .int a12_3)] [] := by
    intro n
    induction n with
    | zero =>
      intro a12_3 c12_or_count c12_or_letters c12_or_numbers c12_or_state c12_or_letter c12_or_filled c12_or_figures c12_or_number c12_or_below u hf hk hr
      rw [fOr_findFault_L12] at hf
      cases hf
    | succ n ih =>
      intro a12_3 c12_or_count c12_or_letters c12_or_numbers c12_or_state c12_or_letter c12_or_filled c12_or_figures c12_or_number c12_or_below u hf hk hr
      rw [fOr_findFault_L12] at hf
      refine V_iload_n E 3 rfl dX4_findFault_12 ?_
      refine V_iload_n E 2 rfl dX4_findFault_13 ?_
      refine V_icmp_ge E (tgt := 41) dX4_findFault_14 (by decide) (fun hc2 => ?_) (fun hc2 => ?_)
      · have hf := ip hc2 hf
        refine V_sub [0, 2] rfl ?_
        exact hk _ (Option.some.inj hf).symm
      · have hf := iq hc2 hf
        refine V_iload_n E 3 rfl dX4_findFault_17 ?_
        refine V_aload_n E 1 rfl dX4_findFault_18 ?_
        refine V_alen E (v := (120 : Int32)) 3 rfl rfl dX4_findFault_19 ?_
        refine V_icmp_ge E (tgt := 41) dX4_findFault_20 (by decide) (fun hc3 => ?_) (fun hc3 => ?_)
        · have hf := ip hc3 hf
          refine V_sub [0, 2] rfl ?_
          exact hk _ (Option.some.inj hf).symm
        · have hf := iq hc3 hf
          refine V_aload_n E 0 rfl dX4_findFault_23 ?_
          refine V_aload_n E 1 rfl dX4_findFault_24 ?_
          refine V_iload_n E 3 rfl dX4_findFault_25 ?_
          obtain ⟨hi4, hf⟩ := asr_ok hf
          refine V_iald E 3 rfl hi4 dX4_findFault_26 ?_
          obtain ⟨u5, hu5, hf⟩ := bd hf
          refine V_frG E (wr := (gTx G qTx tx_text)) (ws' := (gOr G qOr u5.2.1 or_stopKind u5.2.2.1 u5.2.2.2.1 u5.2.2.2.2.1 u5.2.2.2.2.2.1 u5.2.2.2.2.2.2.1 u5.2.2.2.2.2.2.2.1 u5.2.2.2.2.2.2.2.2.1 u5.2.2.2.2.2.2.2.2.2 ++ (gTx G qTx tx_text))) [0, 1, 2] [3] [1, 2, 3, 0] rfl rfl ⟨rfl, rfl, rfl, rfl⟩ rfl (Rn_V E (rest := []) mlX4_25 wd_yX4_accept (kOr_accept l G qOr (tx_text a12_3.toNatClampNeg) c12_or_count or_stopKind c12_or_letters c12_or_numbers c12_or_state c12_or_letter c12_or_filled c12_or_figures c12_or_number c12_or_below u5 hu5) ⟨rfl, rfl, Nat.le_of_ble_eq_true rfl, Nat.le_of_ble_eq_true rfl⟩ 0 rfl rfl rfl rfl rfl (Nat.le_of_ble_eq_true rfl) dX4_findFault_27) ?_
          show V G p l e rmOr_findFault s m args below meth c 4 A Q 0 0 (gOr G qOr u5.2.1 or_stopKind u5.2.2.1 u5.2.2.2.1 u5.2.2.2.2.1 u5.2.2.2.2.2.1 u5.2.2.2.2.2.2.1 u5.2.2.2.2.2.2.2.1 u5.2.2.2.2.2.2.2.2.1 u5.2.2.2.2.2.2.2.2.2 ++ (gTx G qTx tx_text)) 30 [(0, .ref (qOr 0)), (1, .ref (qTx 0)), (2, .int p2), (3, .int a12_3)] [.int u5.1]
          refine V_if_ne E (tgt := 35) dX4_findFault_30 (by decide) (fun hc6 => ?_) (fun hc6 => ?_)
          · have hf := iq hc6 hf
            refine V_iinc E (v := (a12_3 + (1 : Int32))) (lv' := [(0, .ref (qOr 0)), (1, .ref (qTx 0)), (2, .int p2), (3, .int (a12_3 + (1 : Int32)))]) 3 rfl dX4_findFault_35 rfl (by decide) rfl ?_
            refine V_goto E (tgt := 12) dX4_findFault_38 (by decide) ?_
            exact ih (a12_3 + (1 : Int32)) u5.2.1 u5.2.2.1 u5.2.2.2.1 u5.2.2.2.2.1 u5.2.2.2.2.2.1 u5.2.2.2.2.2.2.1 u5.2.2.2.2.2.2.2.1 u5.2.2.2.2.2.2.2.2.1 u5.2.2.2.2.2.2.2.2.2 _ hf hk hr
          · have hf := ip hc6 hf
            refine V_iload_n E 3 rfl dX4_findFault_33 ?_
            have h9 := hret 34 [(0, .ref (qOr 0)), (1, .ref (qTx 0)), (2, .int p2), (3, .int a12_3)] dX4_findFault_34
            rw [← (hr _ (Option.some.inj hf).symm)] at h9
            exact h9
  obtain ⟨u1, hu1, hf⟩ := bd hf
  refine L12 FU (0 : Int32) (0 : Int32) or_letters or_numbers (0 : Int32) or_letter or_filled or_figures or_number or_below u1 hu1 (fun x7 hx => ?_) (fun r hx => ?_)
  · rw [hx, Sum.elim_inr] at hf
    refine V_aload_n E 0 rfl dX4_findFault_41 ?_
    refine gfX4_18 E 0 rfl rfl dX4_findFault_42 ?_
    refine V_if_le E (tgt := 59) dX4_findFault_45 (by decide) (fun hc8 => ?_) (fun hc8 => ?_)
    · have hf := ip hc8 hf
      refine V_iload_n E 1 rfl dX4_findFault_59 ?_
      have h9 := hret 60 [(0, .ref (qOr 0)), (2, .int p2)] dX4_findFault_60
      rw [← (Option.some.inj hf)] at h9
      exact h9
    · have hf := iq hc8 hf
      refine V_aload_n E 0 rfl dX4_findFault_48 ?_
      refine gfX4_22 E 0 rfl rfl dX4_findFault_49 ?_
      refine V_if_ne E (tgt := 59) dX4_findFault_52 (by decide) (fun hc9 => ?_) (fun hc9 => ?_)
      · have hf := iq hc9 hf
        refine V_iload_n E 1 rfl dX4_findFault_59 ?_
        have h9 := hret 60 [(0, .ref (qOr 0)), (2, .int p2)] dX4_findFault_60
        rw [← (Option.some.inj hf)] at h9
        exact h9
      · have hf := ip hc9 hf
        refine V_iconst E (v := (-1 : Int32)) dX4_findFault_55 (by decide) ?_
        refine V_goto E (tgt := 60) dX4_findFault_56 (by decide) ?_
        have h9 := hret 60 [(0, .ref (qOr 0)), (2, .int p2)] dX4_findFault_60
        rw [← (Option.some.inj hf)] at h9
        exact h9
  · rw [hx, Sum.elim_inl] at hf
    exact Option.some.inj hf
abbrev rmOr_carryOutOne : Room := { frames := 3, cells := 0, slots := 0, locals := 71 }
theorem wd_yX4_carryOutOne : wdV yX4_carryOutOne cX4_carryOutOne 7 (some .int) 3 := ⟨wc_yX4_carryOutOne, wi_yX4_carryOutOne, wse_yX4_carryOutOne, wini_X4, by decide +kernel, by decide +kernel, by decide +kernel⟩
set_option maxHeartbeats 4000000 in
set_option maxRecDepth 100000 in
theorem kOr_carryOutOne (l : Launch) (G : wG) (qSc : Nat → Nat) (qOr : Nat → Nat) (p2 : Int32) (p3 : Int32) (sc_columns : Int32) (sc_count : Int32) (sc_cornerChange : Int32) (sc_voteApart : Int32) (sc_dots : Nat → Int32) (sc_cells : Nat → Int32) (sc_shotX : Nat → Int32) (sc_shotY : Nat → Int32) (sc_shotColumns : Nat → Int32) (or_count : Int32) (or_stopKind : Int32) (or_letters : Nat → Int32) (or_numbers : Nat → Int32) (or_state : Int32) (or_letter : Int32) (or_filled : Int32) (or_figures : Int32) (or_number : Int32) (or_below : Int32) (o : Int32 × Int32 × Int32 × Int32 × Int32 × (Nat → Int32) × (Nat → Int32) × (Nat → Int32) × (Nat → Int32) × (Nat → Int32)) (hf : fOr_carryOutOne p2 p3 sc_columns sc_count sc_cornerChange sc_voteApart sc_dots sc_cells sc_shotX sc_shotY sc_shotColumns or_numbers = some o) : Ct G l yX4_carryOutOne cX4_carryOutOne 7 (some .int) rmOr_carryOutOne [.ref (qOr 0), .ref (qSc 0), .int p2, .int p3] (gSc G qSc sc_columns sc_count sc_cornerChange sc_voteApart sc_dots sc_cells sc_shotX sc_shotY sc_shotColumns ++ (gOr G qOr or_count or_stopKind or_letters or_numbers or_state or_letter or_filled or_figures or_number or_below)) (some (.int o.1)) (gSc G qSc o.2.1 o.2.2.1 o.2.2.2.1 o.2.2.2.2.1 o.2.2.2.2.2.1 o.2.2.2.2.2.2.1 o.2.2.2.2.2.2.2.1 o.2.2.2.2.2.2.2.2.1 o.2.2.2.2.2.2.2.2.2 ++ (gOr G qOr or_count or_stopKind or_letters or_numbers or_state or_letter or_filled or_figures or_number or_below)) := by
  refine Ct.ofI (by decide +kernel) (Nat.le_of_ble_eq_true rfl) (fun p e s m args below meth c A Q E hret => ?_)
  unfold fOr_carryOutOne at hf
  show V G p l e rmOr_carryOutOne s m args below meth c 7 A Q 0 0 (gSc G qSc sc_columns sc_count sc_cornerChange sc_voteApart sc_dots sc_cells sc_shotX sc_shotY sc_shotColumns ++ (gOr G qOr or_count or_stopKind or_letters or_numbers or_state or_letter or_filled or_figures or_number or_below)) 0 [(0, .ref (qOr 0)), (1, .ref (qSc 0)), (2, .int p2), (3, .int p3)] []
  refine V_iload_n E 3 rfl dX4_carryOutOne_0 ?_
  refine V_iconst E (v := (0 : Int32)) dX4_carryOutOne_1 (by decide) ?_
  refine V_sipush E (v := (156 : Int32)) dX4_carryOutOne_2 (by decide) ?_
  obtain ⟨u1, hu1, hf⟩ := bd hf
  refine V_fr0 E (Rn_N E (rest := []) 8 rfl wd_yX7_within (kRi_within l G p3 (0 : Int32) (156 : Int32) u1 hu1) ⟨rfl, rfl, Nat.le_of_ble_eq_true rfl, Nat.le_of_ble_eq_true rfl⟩ rfl rfl (Nat.le_of_ble_eq_true rfl) dX4_carryOutOne_5) ?_
  show V G p l e rmOr_carryOutOne s m args below meth c 7 A Q 0 0 (gSc G qSc sc_columns sc_count sc_cornerChange sc_voteApart sc_dots sc_cells sc_shotX sc_shotY sc_shotColumns ++ (gOr G qOr or_count or_stopKind or_letters or_numbers or_state or_letter or_filled or_figures or_number or_below)) 8 [(0, .ref (qOr 0)), (1, .ref (qSc 0)), (2, .int p2), (3, .int p3)] [.int u1]
  refine V_if_ne E (tgt := 14) dX4_carryOutOne_8 (by decide) (fun hc2 => ?_) (fun hc2 => ?_)
  · have hf := iq hc2 hf
    refine V_aload_n E 0 rfl dX4_carryOutOne_14 ?_
    refine gfX4_15 E 6 rfl rfl dX4_carryOutOne_15 ?_
    refine V_iload_n E 3 rfl dX4_carryOutOne_18 ?_
    obtain ⟨hi3, hf⟩ := asr_ok hf
    refine V_iald E 8 rfl hi3 dX4_carryOutOne_19 ?_
    refine V_istore E (lv' := [(0, .ref (qOr 0)), (1, .ref (qSc 0)), (2, .int p2), (3, .int p3), (4, .int (or_numbers p3.toNatClampNeg))]) dX4_carryOutOne_20 (by decide) rfl ?_
    refine V_aload_n E 0 rfl dX4_carryOutOne_22 ?_
    refine gfX4_15 E 6 rfl rfl dX4_carryOutOne_23 ?_
    refine V_iload_n E 3 rfl dX4_carryOutOne_26 ?_
    refine V_iconst E (v := (1 : Int32)) dX4_carryOutOne_27 (by decide) ?_
    refine V_iadd E dX4_carryOutOne_28 ?_
    obtain ⟨hi4, hf⟩ := asr_ok hf
    refine V_iald E 8 rfl hi4 dX4_carryOutOne_29 ?_
    obtain ⟨t5, ht5, hf⟩ := bd hf
    have ht5 := Option.some.inj ht5
    rw [ht5]
    refine V_istore E (lv' := [(0, .ref (qOr 0)), (1, .ref (qSc 0)), (2, .int p2), (3, .int p3), (4, .int (or_numbers p3.toNatClampNeg)), (5, .int t5)]) dX4_carryOutOne_30 (by decide) rfl ?_
    refine V_aload_n E 0 rfl dX4_carryOutOne_32 ?_
    refine gfX4_15 E 6 rfl rfl dX4_carryOutOne_33 ?_
    refine V_iload_n E 3 rfl dX4_carryOutOne_36 ?_
    refine V_iconst E (v := (2 : Int32)) dX4_carryOutOne_37 (by decide) ?_
    refine V_iadd E dX4_carryOutOne_38 ?_
    obtain ⟨hi6, hf⟩ := asr_ok hf
    refine V_iald E 8 rfl hi6 dX4_carryOutOne_39 ?_
    obtain ⟨t7, ht7, hf⟩ := bd hf
    have ht7 := Option.some.inj ht7
    rw [ht7]
    refine V_istore E (lv' := [(0, .ref (qOr 0)), (1, .ref (qSc 0)), (2, .int p2), (3, .int p3), (4, .int (or_numbers p3.toNatClampNeg)), (5, .int t5), (6, .int t7)]) dX4_carryOutOne_40 (by decide) rfl ?_
    refine V_iload_n E 2 rfl dX4_carryOutOne_42 ?_
    by_cases hc8 : p2 = (97 : Int32)
    · have hf := ip hc8 hf
      refine V_tsIn E (tgt := 210) (off := 167) dX4_carryOutOne_43 (by rw [hc8]; decide) (by decide) ?_
      refine V_aload_n E 1 rfl dX4_carryOutOne_210 ?_
      refine V_iconst E (v := (1 : Int32)) dX4_carryOutOne_211 (by decide) ?_
      refine V_iload E 4 rfl dX4_carryOutOne_212 ?_
      obtain ⟨u9, hu9, hf⟩ := bd hf
      refine V_frG E (wr := (gOr G qOr or_count or_stopKind or_letters or_numbers or_state or_letter or_filled or_figures or_number or_below)) (ws' := (gSc G qSc sc_columns sc_count u9.2.1 u9.2.2 sc_dots sc_cells sc_shotX sc_shotY sc_shotColumns ++ (gOr G qOr or_count or_stopKind or_letters or_numbers or_state or_letter or_filled or_figures or_number or_below))) [0, 1, 2, 3, 4, 5] [6, 7, 8] [3, 4, 5, 6, 7, 8, 0, 1, 2] rfl rfl ⟨rfl, rfl, rfl, rfl⟩ rfl (Rn_V E (rest := []) mlX4_57 wd_yX5_setNumber (kSc_setNumber l G qSc (1 : Int32) (or_numbers p3.toNatClampNeg) sc_columns sc_count sc_cornerChange sc_voteApart sc_dots sc_cells sc_shotX sc_shotY sc_shotColumns u9 hu9) ⟨rfl, rfl, Nat.le_of_ble_eq_true rfl, Nat.le_of_ble_eq_true rfl⟩ 0 rfl rfl rfl rfl rfl (Nat.le_of_ble_eq_true rfl) dX4_carryOutOne_214) ?_
      show V G p l e rmOr_carryOutOne s m args below meth c 7 A Q 0 0 (gSc G qSc sc_columns sc_count u9.2.1 u9.2.2 sc_dots sc_cells sc_shotX sc_shotY sc_shotColumns ++ (gOr G qOr or_count or_stopKind or_letters or_numbers or_state or_letter or_filled or_figures or_number or_below)) 217 [(0, .ref (qOr 0)), (1, .ref (qSc 0)), (2, .int p2), (3, .int p3), (4, .int (or_numbers p3.toNatClampNeg)), (5, .int t5), (6, .int t7)] [.int u9.1]
      have h9 := hret 217 [(0, .ref (qOr 0)), (1, .ref (qSc 0)), (2, .int p2), (3, .int p3), (4, .int (or_numbers p3.toNatClampNeg)), (5, .int t5), (6, .int t7)] dX4_carryOutOne_217
      rw [← (Option.some.inj hf)] at h9
      exact h9
    · have hf := iq hc8 hf
      by_cases hc10 : p2 = (99 : Int32)
      · have hf := ip hc10 hf
        refine V_tsIn E (tgt := 191) (off := 148) dX4_carryOutOne_43 (by rw [hc10]; decide) (by decide) ?_
        refine V_aload_n E 1 rfl dX4_carryOutOne_191 ?_
        refine V_iload E 4 rfl dX4_carryOutOne_192 ?_
        refine V_iload E 5 rfl dX4_carryOutOne_194 ?_
        refine V_iload E 6 rfl dX4_carryOutOne_196 ?_
        obtain ⟨u11, hu11, hf⟩ := bd hf
        refine V_frG E (wr := (gOr G qOr or_count or_stopKind or_letters or_numbers or_state or_letter or_filled or_figures or_number or_below)) (ws' := (gSc G qSc sc_columns sc_count sc_cornerChange sc_voteApart u11.2 sc_cells sc_shotX sc_shotY sc_shotColumns ++ (gOr G qOr or_count or_stopKind or_letters or_numbers or_state or_letter or_filled or_figures or_number or_below))) [0, 1, 2, 3, 4, 5] [6, 7, 8] [3, 4, 5, 6, 7, 8, 0, 1, 2] rfl rfl ⟨rfl, rfl, rfl, rfl⟩ rfl (Rn_V E (rest := []) mlX4_54 wd_yX5_putDot (kSc_putDot l G qSc (or_numbers p3.toNatClampNeg) t5 t7 sc_columns sc_count sc_cornerChange sc_voteApart sc_dots sc_cells sc_shotX sc_shotY sc_shotColumns u11 hu11) ⟨rfl, rfl, Nat.le_of_ble_eq_true rfl, Nat.le_of_ble_eq_true rfl⟩ 0 rfl rfl rfl rfl rfl (Nat.le_of_ble_eq_true rfl) dX4_carryOutOne_198) ?_
        show V G p l e rmOr_carryOutOne s m args below meth c 7 A Q 0 0 (gSc G qSc sc_columns sc_count sc_cornerChange sc_voteApart u11.2 sc_cells sc_shotX sc_shotY sc_shotColumns ++ (gOr G qOr or_count or_stopKind or_letters or_numbers or_state or_letter or_filled or_figures or_number or_below)) 201 [(0, .ref (qOr 0)), (1, .ref (qSc 0)), (2, .int p2), (3, .int p3), (4, .int (or_numbers p3.toNatClampNeg)), (5, .int t5), (6, .int t7)] [.int u11.1]
        have h9 := hret 201 [(0, .ref (qOr 0)), (1, .ref (qSc 0)), (2, .int p2), (3, .int p3), (4, .int (or_numbers p3.toNatClampNeg)), (5, .int t5), (6, .int t7)] dX4_carryOutOne_201
        rw [← (Option.some.inj hf)] at h9
        exact h9
      · have hf := iq hc10 hf
        by_cases hc12 : p2 = (112 : Int32)
        · have hf := ip hc12 hf
          refine V_tsIn E (tgt := 172) (off := 129) dX4_carryOutOne_43 (by rw [hc12]; decide) (by decide) ?_
          refine V_aload_n E 1 rfl dX4_carryOutOne_172 ?_
          refine V_iload E 4 rfl dX4_carryOutOne_173 ?_
          refine V_iload E 5 rfl dX4_carryOutOne_175 ?_
          refine V_iload E 6 rfl dX4_carryOutOne_177 ?_
          refine V_aload_n E 0 rfl dX4_carryOutOne_179 ?_
          refine gfX4_15 E 6 rfl rfl dX4_carryOutOne_180 ?_
          refine V_iload_n E 3 rfl dX4_carryOutOne_183 ?_
          refine V_iconst E (v := (3 : Int32)) dX4_carryOutOne_184 (by decide) ?_
          refine V_iadd E dX4_carryOutOne_185 ?_
          obtain ⟨hi13, hf⟩ := asr_ok hf
          refine V_iald E 8 rfl hi13 dX4_carryOutOne_186 ?_
          obtain ⟨u14, hu14, hf⟩ := bd hf
          refine V_frG E (wr := (gOr G qOr or_count or_stopKind or_letters or_numbers or_state or_letter or_filled or_figures or_number or_below)) (ws' := (gSc G qSc sc_columns sc_count sc_cornerChange sc_voteApart sc_dots u14.2 sc_shotX sc_shotY sc_shotColumns ++ (gOr G qOr or_count or_stopKind or_letters or_numbers or_state or_letter or_filled or_figures or_number or_below))) [0, 1, 2, 3, 4, 5] [6, 7, 8] [3, 4, 5, 6, 7, 8, 0, 1, 2] rfl rfl ⟨rfl, rfl, rfl, rfl⟩ rfl (Rn_V E (rest := []) mlX4_50 wd_yX5_putCell (kSc_putCell l G qSc (or_numbers p3.toNatClampNeg) t5 t7 (or_numbers (p3 + (3 : Int32)).toNatClampNeg) sc_columns sc_count sc_cornerChange sc_voteApart sc_dots sc_cells sc_shotX sc_shotY sc_shotColumns u14 hu14) ⟨rfl, rfl, Nat.le_of_ble_eq_true rfl, Nat.le_of_ble_eq_true rfl⟩ 0 rfl rfl rfl rfl rfl (Nat.le_of_ble_eq_true rfl) dX4_carryOutOne_187) ?_
          show V G p l e rmOr_carryOutOne s m args below meth c 7 A Q 0 0 (gSc G qSc sc_columns sc_count sc_cornerChange sc_voteApart sc_dots u14.2 sc_shotX sc_shotY sc_shotColumns ++ (gOr G qOr or_count or_stopKind or_letters or_numbers or_state or_letter or_filled or_figures or_number or_below)) 190 [(0, .ref (qOr 0)), (1, .ref (qSc 0)), (2, .int p2), (3, .int p3), (4, .int (or_numbers p3.toNatClampNeg)), (5, .int t5), (6, .int t7)] [.int u14.1]
          have h9 := hret 190 [(0, .ref (qOr 0)), (1, .ref (qSc 0)), (2, .int p2), (3, .int p3), (4, .int (or_numbers p3.toNatClampNeg)), (5, .int t5), (6, .int t7)] dX4_carryOutOne_190
          rw [← (Option.some.inj hf)] at h9
          exact h9
        · have hf := iq hc12 hf
          by_cases hc15 : p2 = (115 : Int32)
          · have hf := ip hc15 hf
            refine V_tsIn E (tgt := 161) (off := 118) dX4_carryOutOne_43 (by rw [hc15]; decide) (by decide) ?_
            refine V_aload_n E 1 rfl dX4_carryOutOne_161 ?_
            refine V_iload E 4 rfl dX4_carryOutOne_162 ?_
            refine V_iload E 5 rfl dX4_carryOutOne_164 ?_
            refine V_iload E 6 rfl dX4_carryOutOne_166 ?_
            obtain ⟨u16, hu16, hf⟩ := bd hf
            refine V_frG E (wr := (gOr G qOr or_count or_stopKind or_letters or_numbers or_state or_letter or_filled or_figures or_number or_below)) (ws' := (gSc G qSc sc_columns u16.2.1 sc_cornerChange sc_voteApart sc_dots u16.2.2.1 u16.2.2.2.1 u16.2.2.2.2.1 u16.2.2.2.2.2 ++ (gOr G qOr or_count or_stopKind or_letters or_numbers or_state or_letter or_filled or_figures or_number or_below))) [0, 1, 2, 3, 4, 5] [6, 7, 8] [3, 4, 5, 6, 7, 8, 0, 1, 2] rfl rfl ⟨rfl, rfl, rfl, rfl⟩ rfl (Rn_V E (rest := []) mlX4_46 wd_yX5_takeShot (kSc_takeShot l G qSc (or_numbers p3.toNatClampNeg) t5 t7 sc_columns sc_count sc_cornerChange sc_voteApart sc_dots sc_cells sc_shotX sc_shotY sc_shotColumns u16 hu16) ⟨rfl, rfl, Nat.le_of_ble_eq_true rfl, Nat.le_of_ble_eq_true rfl⟩ 0 rfl rfl rfl rfl rfl (Nat.le_of_ble_eq_true rfl) dX4_carryOutOne_168) ?_
            show V G p l e rmOr_carryOutOne s m args below meth c 7 A Q 0 0 (gSc G qSc sc_columns u16.2.1 sc_cornerChange sc_voteApart sc_dots u16.2.2.1 u16.2.2.2.1 u16.2.2.2.2.1 u16.2.2.2.2.2 ++ (gOr G qOr or_count or_stopKind or_letters or_numbers or_state or_letter or_filled or_figures or_number or_below)) 171 [(0, .ref (qOr 0)), (1, .ref (qSc 0)), (2, .int p2), (3, .int p3), (4, .int (or_numbers p3.toNatClampNeg)), (5, .int t5), (6, .int t7)] [.int u16.1]
            have h9 := hret 171 [(0, .ref (qOr 0)), (1, .ref (qSc 0)), (2, .int p2), (3, .int p3), (4, .int (or_numbers p3.toNatClampNeg)), (5, .int t5), (6, .int t7)] dX4_carryOutOne_171
            rw [← (Option.some.inj hf)] at h9
            exact h9
          · have hf := iq hc15 hf
            by_cases hc17 : p2 = (116 : Int32)
            · have hf := ip hc17 hf
              refine V_tsIn E (tgt := 202) (off := 159) dX4_carryOutOne_43 (by rw [hc17]; decide) (by decide) ?_
              refine V_aload_n E 1 rfl dX4_carryOutOne_202 ?_
              refine V_iconst E (v := (0 : Int32)) dX4_carryOutOne_203 (by decide) ?_
              refine V_iload E 4 rfl dX4_carryOutOne_204 ?_
              obtain ⟨u18, hu18, hf⟩ := bd hf
              refine V_frG E (wr := (gOr G qOr or_count or_stopKind or_letters or_numbers or_state or_letter or_filled or_figures or_number or_below)) (ws' := (gSc G qSc sc_columns sc_count u18.2.1 u18.2.2 sc_dots sc_cells sc_shotX sc_shotY sc_shotColumns ++ (gOr G qOr or_count or_stopKind or_letters or_numbers or_state or_letter or_filled or_figures or_number or_below))) [0, 1, 2, 3, 4, 5] [6, 7, 8] [3, 4, 5, 6, 7, 8, 0, 1, 2] rfl rfl ⟨rfl, rfl, rfl, rfl⟩ rfl (Rn_V E (rest := []) mlX4_57 wd_yX5_setNumber (kSc_setNumber l G qSc (0 : Int32) (or_numbers p3.toNatClampNeg) sc_columns sc_count sc_cornerChange sc_voteApart sc_dots sc_cells sc_shotX sc_shotY sc_shotColumns u18 hu18) ⟨rfl, rfl, Nat.le_of_ble_eq_true rfl, Nat.le_of_ble_eq_true rfl⟩ 0 rfl rfl rfl rfl rfl (Nat.le_of_ble_eq_true rfl) dX4_carryOutOne_206) ?_
              show V G p l e rmOr_carryOutOne s m args below meth c 7 A Q 0 0 (gSc G qSc sc_columns sc_count u18.2.1 u18.2.2 sc_dots sc_cells sc_shotX sc_shotY sc_shotColumns ++ (gOr G qOr or_count or_stopKind or_letters or_numbers or_state or_letter or_filled or_figures or_number or_below)) 209 [(0, .ref (qOr 0)), (1, .ref (qSc 0)), (2, .int p2), (3, .int p3), (4, .int (or_numbers p3.toNatClampNeg)), (5, .int t5), (6, .int t7)] [.int u18.1]
              have h9 := hret 209 [(0, .ref (qOr 0)), (1, .ref (qSc 0)), (2, .int p2), (3, .int p3), (4, .int (or_numbers p3.toNatClampNeg)), (5, .int t5), (6, .int t7)] dX4_carryOutOne_209
              rw [← (Option.some.inj hf)] at h9
              exact h9
            · have hf := iq hc17 hf
              by_cases hc19 : p2 = (119 : Int32)
              · have hf := ip hc19 hf
                refine V_tsIn E (tgt := 152) (off := 109) dX4_carryOutOne_43 (by rw [hc19]; decide) (by decide) ?_
                refine V_aload_n E 1 rfl dX4_carryOutOne_152 ?_
                refine V_iload E 4 rfl dX4_carryOutOne_153 ?_
                refine V_iload E 5 rfl dX4_carryOutOne_155 ?_
                obtain ⟨u20, hu20, hf⟩ := bd hf
                refine V_frG E (wr := (gOr G qOr or_count or_stopKind or_letters or_numbers or_state or_letter or_filled or_figures or_number or_below)) (ws' := (gSc G qSc u20.2.1 sc_count sc_cornerChange sc_voteApart u20.2.2 sc_cells sc_shotX sc_shotY sc_shotColumns ++ (gOr G qOr or_count or_stopKind or_letters or_numbers or_state or_letter or_filled or_figures or_number or_below))) [0, 1, 2, 3, 4, 5] [6, 7, 8] [3, 4, 5, 6, 7, 8, 0, 1, 2] rfl rfl ⟨rfl, rfl, rfl, rfl⟩ rfl (Rn_V E (rest := []) mlX4_40 wd_yX5_drawWorld (kSc_drawWorld l G qSc (or_numbers p3.toNatClampNeg) t5 sc_columns sc_count sc_cornerChange sc_voteApart sc_dots sc_cells sc_shotX sc_shotY sc_shotColumns u20 hu20) ⟨rfl, rfl, Nat.le_of_ble_eq_true rfl, Nat.le_of_ble_eq_true rfl⟩ 0 rfl rfl rfl rfl rfl (Nat.le_of_ble_eq_true rfl) dX4_carryOutOne_157) ?_
                show V G p l e rmOr_carryOutOne s m args below meth c 7 A Q 0 0 (gSc G qSc u20.2.1 sc_count sc_cornerChange sc_voteApart u20.2.2 sc_cells sc_shotX sc_shotY sc_shotColumns ++ (gOr G qOr or_count or_stopKind or_letters or_numbers or_state or_letter or_filled or_figures or_number or_below)) 160 [(0, .ref (qOr 0)), (1, .ref (qSc 0)), (2, .int p2), (3, .int p3), (4, .int (or_numbers p3.toNatClampNeg)), (5, .int t5), (6, .int t7)] [.int u20.1]
                have h9 := hret 160 [(0, .ref (qOr 0)), (1, .ref (qSc 0)), (2, .int p2), (3, .int p3), (4, .int (or_numbers p3.toNatClampNeg)), (5, .int t5), (6, .int t7)] dX4_carryOutOne_160
                rw [← (Option.some.inj hf)] at h9
                exact h9
              · have hf := iq hc19 hf
                by_cases hc21 : p2 = (120 : Int32)
                · have hf := ip hc21 hf
                  refine V_tsIn E (tgt := 218) (off := 175) dX4_carryOutOne_43 (by rw [hc21]; decide) (by decide) ?_
                  refine V_aload_n E 1 rfl dX4_carryOutOne_218 ?_
                  refine V_iload E 4 rfl dX4_carryOutOne_219 ?_
                  obtain ⟨u22, hu22, hf⟩ := bd hf
                  refine V_frG E (wr := (gOr G qOr or_count or_stopKind or_letters or_numbers or_state or_letter or_filled or_figures or_number or_below)) (ws' := (gSc G qSc sc_columns u22.2.1 sc_cornerChange sc_voteApart sc_dots u22.2.2.1 u22.2.2.2.1 u22.2.2.2.2.1 u22.2.2.2.2.2 ++ (gOr G qOr or_count or_stopKind or_letters or_numbers or_state or_letter or_filled or_figures or_number or_below))) [0, 1, 2, 3, 4, 5] [6, 7, 8] [3, 4, 5, 6, 7, 8, 0, 1, 2] rfl rfl ⟨rfl, rfl, rfl, rfl⟩ rfl (Rn_V E (rest := []) mlX4_60 wd_yX5_dropPicture (kSc_dropPicture l G qSc (or_numbers p3.toNatClampNeg) sc_columns sc_count sc_cornerChange sc_voteApart sc_dots sc_cells sc_shotX sc_shotY sc_shotColumns u22 hu22) ⟨rfl, rfl, Nat.le_of_ble_eq_true rfl, Nat.le_of_ble_eq_true rfl⟩ 0 rfl rfl rfl rfl rfl (Nat.le_of_ble_eq_true rfl) dX4_carryOutOne_221) ?_
                  show V G p l e rmOr_carryOutOne s m args below meth c 7 A Q 0 0 (gSc G qSc sc_columns u22.2.1 sc_cornerChange sc_voteApart sc_dots u22.2.2.1 u22.2.2.2.1 u22.2.2.2.2.1 u22.2.2.2.2.2 ++ (gOr G qOr or_count or_stopKind or_letters or_numbers or_state or_letter or_filled or_figures or_number or_below)) 224 [(0, .ref (qOr 0)), (1, .ref (qSc 0)), (2, .int p2), (3, .int p3), (4, .int (or_numbers p3.toNatClampNeg)), (5, .int t5), (6, .int t7)] [.int u22.1]
                  have h9 := hret 224 [(0, .ref (qOr 0)), (1, .ref (qSc 0)), (2, .int p2), (3, .int p3), (4, .int (or_numbers p3.toNatClampNeg)), (5, .int t5), (6, .int t7)] dX4_carryOutOne_224
                  rw [← (Option.some.inj hf)] at h9
                  exact h9
                · have hf := iq hc21 hf
                  refine V_tsD E (tgt := 225) [97, 99, 112, 115, 116, 119, 120] dX4_carryOutOne_43 (List.forall_mem_cons.mpr ⟨tsne hc8 (by decide), List.forall_mem_cons.mpr ⟨tsne hc10 (by decide), List.forall_mem_cons.mpr ⟨tsne hc12 (by decide), List.forall_mem_cons.mpr ⟨tsne hc15 (by decide), List.forall_mem_cons.mpr ⟨tsne hc17 (by decide), List.forall_mem_cons.mpr ⟨tsne hc19 (by decide), List.forall_mem_cons.mpr ⟨tsne hc21 (by decide), fun _ h => absurd h List.not_mem_nil⟩⟩⟩⟩⟩⟩⟩) (by decide) (by decide) (by decide) ?_
                  refine V_bipush E (v := (-2 : Int32)) dX4_carryOutOne_225 (by decide) ?_
                  have h9 := hret 227 [(0, .ref (qOr 0)), (1, .ref (qSc 0)), (2, .int p2), (3, .int p3), (4, .int (or_numbers p3.toNatClampNeg)), (5, .int t5), (6, .int t7)] dX4_carryOutOne_227
                  rw [← (Option.some.inj hf)] at h9
                  exact h9
  · have hf := ip hc2 hf
    refine V_bipush E (v := (-2 : Int32)) dX4_carryOutOne_11 (by decide) ?_
    have h9 := hret 13 [(0, .ref (qOr 0)), (1, .ref (qSc 0)), (2, .int p2), (3, .int p3)] dX4_carryOutOne_13
    rw [← (Option.some.inj hf)] at h9
    exact h9
abbrev rmOr_carryOut : Room := { frames := 4, cells := 0, slots := 0, locals := 97 }
theorem wd_yX4_carryOut : wdV yX4_carryOut cX4_carryOut 4 (some .int) 1 := ⟨wc_yX4_carryOut, wi_yX4_carryOut, wse_yX4_carryOut, wini_X4, by decide +kernel, by decide +kernel, by decide +kernel⟩
set_option maxHeartbeats 4000000 in
set_option maxRecDepth 100000 in
theorem kOr_carryOut (l : Launch) (G : wG) (qSc : Nat → Nat) (qOr : Nat → Nat) (sc_columns : Int32) (sc_count : Int32) (sc_cornerChange : Int32) (sc_voteApart : Int32) (sc_dots : Nat → Int32) (sc_cells : Nat → Int32) (sc_shotX : Nat → Int32) (sc_shotY : Nat → Int32) (sc_shotColumns : Nat → Int32) (or_count : Int32) (or_stopKind : Int32) (or_letters : Nat → Int32) (or_numbers : Nat → Int32) (or_state : Int32) (or_letter : Int32) (or_filled : Int32) (or_figures : Int32) (or_number : Int32) (or_below : Int32) (o : Int32 × Int32 × Int32 × Int32 × Int32 × (Nat → Int32) × (Nat → Int32) × (Nat → Int32) × (Nat → Int32) × (Nat → Int32) × Int32) (hf : fOr_carryOut sc_columns sc_count sc_cornerChange sc_voteApart sc_dots sc_cells sc_shotX sc_shotY sc_shotColumns or_count or_stopKind or_letters or_numbers = some o) : Ct G l yX4_carryOut cX4_carryOut 4 (some .int) rmOr_carryOut [.ref (qOr 0), .ref (qSc 0)] (gSc G qSc sc_columns sc_count sc_cornerChange sc_voteApart sc_dots sc_cells sc_shotX sc_shotY sc_shotColumns ++ (gOr G qOr or_count or_stopKind or_letters or_numbers or_state or_letter or_filled or_figures or_number or_below)) (some (.int o.1)) (gSc G qSc o.2.1 o.2.2.1 o.2.2.2.1 o.2.2.2.2.1 o.2.2.2.2.2.1 o.2.2.2.2.2.2.1 o.2.2.2.2.2.2.2.1 o.2.2.2.2.2.2.2.2.1 o.2.2.2.2.2.2.2.2.2.1 ++ (gOr G qOr or_count o.2.2.2.2.2.2.2.2.2.2 or_letters or_numbers or_state or_letter or_filled or_figures or_number or_below)) := by
  refine Ct.ofI (by decide +kernel) (Nat.le_of_ble_eq_true rfl) (fun p e s m args below meth c A Q E hret => ?_)
  unfold fOr_carryOut at hf
  show V G p l e rmOr_carryOut s m args below meth c 4 A Q 0 0 (gSc G qSc sc_columns sc_count sc_cornerChange sc_voteApart sc_dots sc_cells sc_shotX sc_shotY sc_shotColumns ++ (gOr G qOr or_count or_stopKind or_letters or_numbers or_state or_letter or_filled or_figures or_number or_below)) 0 [(0, .ref (qOr 0)), (1, .ref (qSc 0))] []
  refine V_iconst E (v := (0 : Int32)) dX4_carryOut_0 (by decide) ?_
  refine V_istore_n E (lv' := [(0, .ref (qOr 0)), (1, .ref (qSc 0)), (2, .int (0 : Int32))]) dX4_carryOut_1 (by decide) rfl ?_
  have L2 : ∀ (n : Nat) (a2_2 : Int32) (c2_sc_columns : Int32) (c2_sc_count : Int32) (c2_sc_cornerChange : Int32) (c2_sc_voteApart : Int32) (c2_sc_dots : Nat → Int32) (c2_sc_cells : Nat → Int32) (c2_sc_shotX : Nat → Int32) (c2_sc_shotY : Nat → Int32) (c2_sc_shotColumns : Nat → Int32) (c2_or_stopKind : Int32) (u : Sum (Int32 × Int32 × Int32 × Int32 × Int32 × (Nat → Int32) × (Nat → Int32) × (Nat → Int32) × (Nat → Int32) × (Nat → Int32) × Int32) (Int32 × Int32 × Int32 × Int32 × (Nat → Int32) × (Nat → Int32) × (Nat → Int32) × (Nat → Int32) × (Nat → Int32) × Int32)), fOr_carryOut_L2 or_count or_letters or_numbers n a2_2 c2_sc_columns c2_sc_count c2_sc_cornerChange c2_sc_voteApart c2_sc_dots c2_sc_cells c2_sc_shotX c2_sc_shotY c2_sc_shotColumns c2_or_stopKind = some u → (∀ x, u = .inr x → V G p l e rmOr_carryOut s m args below meth c 4 A Q 0 0 (gSc G qSc x.1 x.2.1 x.2.2.1 x.2.2.2.1 x.2.2.2.2.1 x.2.2.2.2.2.1 x.2.2.2.2.2.2.1 x.2.2.2.2.2.2.2.1 x.2.2.2.2.2.2.2.2.1 ++ (gOr G qOr or_count x.2.2.2.2.2.2.2.2.2 or_letters or_numbers or_state or_letter or_filled or_figures or_number or_below)) 49 [] []) → (∀ r, u = .inl r → r = o) → V G p l e rmOr_carryOut s m args below meth c 4 A Q 0 0 (gSc G qSc c2_sc_columns c2_sc_count c2_sc_cornerChange c2_sc_voteApart c2_sc_dots c2_sc_cells c2_sc_shotX c2_sc_shotY c2_sc_shotColumns ++ (gOr G qOr or_count c2_or_stopKind or_letters or_numbers or_state or_letter or_filled or_figures or_number or_below)) 2 [(0, .ref (qOr 0)), (1, .ref (qSc 0)), (2, .int a2_2)] [] := by
    intro n
    induction n with
    | zero =>
      intro a2_2 c2_sc_columns c2_sc_count c2_sc_cornerChange c2_sc_voteApart c2_sc_dots c2_sc_cells c2_sc_shotX c2_sc_shotY c2_sc_shotColumns c2_or_stopKind u hf hk hr
      rw [fOr_carryOut_L2] at hf
      cases hf
    | succ n ih =>
      intro a2_2 c2_sc_columns c2_sc_count c2_sc_cornerChange c2_sc_voteApart c2_sc_dots c2_sc_cells c2_sc_shotX c2_sc_shotY c2_sc_shotColumns c2_or_stopKind u hf hk hr
      rw [fOr_carryOut_L2] at hf
      refine V_iload_n E 2 rfl dX4_carryOut_2 ?_
      refine V_aload_n E 0 rfl dX4_carryOut_3 ?_
      refine gfX4_18 E 6 rfl rfl dX4_carryOut_4 ?_
      refine V_icmp_ge E (tgt := 49) dX4_carryOut_7 (by decide) (fun hc2 => ?_) (fun hc2 => ?_)
      · have hf := ip hc2 hf
        refine V_sub [] rfl ?_
        exact hk _ (Option.some.inj hf).symm
      · have hf := iq hc2 hf
        refine V_iload_n E 2 rfl dX4_carryOut_10 ?_
        refine V_bipush E (v := (40 : Int32)) dX4_carryOut_11 (by decide) ?_
        refine V_icmp_ge E (tgt := 49) dX4_carryOut_13 (by decide) (fun hc3 => ?_) (fun hc3 => ?_)
        · have hf := ip hc3 hf
          refine V_sub [] rfl ?_
          exact hk _ (Option.some.inj hf).symm
        · have hf := iq hc3 hf
          refine V_aload_n E 0 rfl dX4_carryOut_16 ?_
          refine V_aload_n E 1 rfl dX4_carryOut_17 ?_
          refine V_aload_n E 0 rfl dX4_carryOut_18 ?_
          refine gfX4_9 E 6 rfl rfl dX4_carryOut_19 ?_
          refine V_iload_n E 2 rfl dX4_carryOut_22 ?_
          obtain ⟨hi4, hf⟩ := asr_ok hf
          refine V_iald E 7 rfl hi4 dX4_carryOut_23 ?_
          refine V_iload_n E 2 rfl dX4_carryOut_24 ?_
          refine V_iconst E (v := (4 : Int32)) dX4_carryOut_25 (by decide) ?_
          refine V_imul E dX4_carryOut_26 ?_
          obtain ⟨u5, hu5, hf⟩ := bd hf
          refine V_frW E (Rn_V E (rest := []) mlX4_29 wd_yX4_carryOutOne (kOr_carryOutOne l G qSc qOr (or_letters a2_2.toNatClampNeg) (a2_2 * (4 : Int32)) c2_sc_columns c2_sc_count c2_sc_cornerChange c2_sc_voteApart c2_sc_dots c2_sc_cells c2_sc_shotX c2_sc_shotY c2_sc_shotColumns or_count c2_or_stopKind or_letters or_numbers or_state or_letter or_filled or_figures or_number or_below u5 hu5) ⟨rfl, rfl, Nat.le_of_ble_eq_true rfl, Nat.le_of_ble_eq_true rfl⟩ 6 rfl rfl rfl rfl rfl (Nat.le_of_ble_eq_true rfl) dX4_carryOut_27) ?_
          show V G p l e rmOr_carryOut s m args below meth c 4 A Q 0 0 (gSc G qSc u5.2.1 u5.2.2.1 u5.2.2.2.1 u5.2.2.2.2.1 u5.2.2.2.2.2.1 u5.2.2.2.2.2.2.1 u5.2.2.2.2.2.2.2.1 u5.2.2.2.2.2.2.2.2.1 u5.2.2.2.2.2.2.2.2.2 ++ (gOr G qOr or_count c2_or_stopKind or_letters or_numbers or_state or_letter or_filled or_figures or_number or_below)) 30 [(0, .ref (qOr 0)), (1, .ref (qSc 0)), (2, .int a2_2)] [.int u5.1]
          refine V_istore_n E (lv' := [(0, .ref (qOr 0)), (1, .ref (qSc 0)), (2, .int a2_2), (3, .int u5.1)]) dX4_carryOut_30 (by decide) rfl ?_
          refine V_iload_n E 3 rfl dX4_carryOut_31 ?_
          refine V_if_ge E (tgt := 43) dX4_carryOut_32 (by decide) (fun hc6 => ?_) (fun hc6 => ?_)
          · have hf := ip hc6 hf
            refine V_iinc E (v := (a2_2 + (1 : Int32))) (lv' := [(0, .ref (qOr 0)), (1, .ref (qSc 0)), (2, .int (a2_2 + (1 : Int32))), (3, .int u5.1)]) 2 rfl dX4_carryOut_43 rfl (by decide) rfl ?_
            refine V_goto E (tgt := 2) dX4_carryOut_46 (by decide) ?_
            refine V_sub [0, 1, 2] rfl ?_
            exact ih (a2_2 + (1 : Int32)) u5.2.1 u5.2.2.1 u5.2.2.2.1 u5.2.2.2.2.1 u5.2.2.2.2.2.1 u5.2.2.2.2.2.2.1 u5.2.2.2.2.2.2.2.1 u5.2.2.2.2.2.2.2.2.1 u5.2.2.2.2.2.2.2.2.2 c2_or_stopKind _ hf hk hr
          · have hf := iq hc6 hf
            refine V_aload_n E 0 rfl dX4_carryOut_35 ?_
            refine V_iload_n E 3 rfl dX4_carryOut_36 ?_
            refine V_ineg E dX4_carryOut_37 ?_
            refine pfX4_33 E (ws' := (gSc G qSc u5.2.1 u5.2.2.1 u5.2.2.2.1 u5.2.2.2.2.1 u5.2.2.2.2.2.1 u5.2.2.2.2.2.2.1 u5.2.2.2.2.2.2.2.1 u5.2.2.2.2.2.2.2.2.1 u5.2.2.2.2.2.2.2.2.2 ++ (gOr G qOr or_count (-u5.1) or_letters or_numbers or_state or_letter or_filled or_figures or_number or_below))) 6 rfl (Nat.le_of_ble_eq_true rfl) rfl rfl dX4_carryOut_38 rfl ?_
            refine V_iload_n E 2 rfl dX4_carryOut_41 ?_
            have h9 := hret 42 [(0, .ref (qOr 0)), (1, .ref (qSc 0)), (2, .int a2_2), (3, .int u5.1)] dX4_carryOut_42
            rw [← (hr _ (Option.some.inj hf).symm)] at h9
            exact h9
  obtain ⟨u1, hu1, hf⟩ := bd hf
  refine L2 FU (0 : Int32) sc_columns sc_count sc_cornerChange sc_voteApart sc_dots sc_cells sc_shotX sc_shotY sc_shotColumns or_stopKind u1 hu1 (fun x7 hx => ?_) (fun r hx => ?_)
  · rw [hx, Sum.elim_inr] at hf
    refine V_iconst E (v := (-1 : Int32)) dX4_carryOut_49 (by decide) ?_
    have h9 := hret 50 [] dX4_carryOut_50
    rw [← (Option.some.inj hf)] at h9
    exact h9
  · rw [hx, Sum.elim_inl] at hf
    exact Option.some.inj hf
