abbrev rmMo_differences : Room := { frames := 2, cells := 0, slots := 0, locals := 47 }
theorem wd_yX8_differences : wdV yX8_differences cX8_differences 6 (some .int) 2 := ⟨wc_yX8_differences, wi_yX8_differences, wse_yX8_differences, wini_X8, by decide +kernel, by decide +kernel, by decide +kernel⟩
set_option maxHeartbeats 4000000 in
set_option maxRecDepth 100000 in
theorem kMo_differences (l : Launch) (G : wG) (qMo : Nat → Nat) (p1 : Int32) (p2 : Int32) (mo_all : Nat → Int32) (mo_past : Nat → Int32) (mo_aside : Nat → Int32) (mo_states : Int32) (mo_refused : Nat → Int32) (mo_causeKind : Int32) (mo_causeOrder : Int32) (mo_corner : Nat → Int32) (mo_linkVotes : Nat → Int32) (mo_linkE : Nat → Int32) (mo_linkF : Nat → Int32) (mo_follower : Nat → Int32) (mo_ahead : Nat → Int32) (mo_least : Nat → Int32) (mo_seam : Nat → Int32) (mo_above : Int64) (mo_below : Int64) (mo_text : Nat → Int32) (mo_textLong : Int32) (mo_place : Int32) (mo_value : Int32) (mo_numbers : Nat → Int32) (mo_not : Int32) (o : Int32) (hf : fMo_differences p1 p2 mo_all mo_linkE mo_linkF mo_follower = some o) : Ct G l yX8_differences cX8_differences 6 (some .int) rmMo_differences [.ref (qMo 0), .int p1, .int p2] (gMo G qMo mo_all mo_past mo_aside mo_states mo_refused mo_causeKind mo_causeOrder mo_corner mo_linkVotes mo_linkE mo_linkF mo_follower mo_ahead mo_least mo_seam mo_above mo_below mo_text mo_textLong mo_place mo_value mo_numbers mo_not) (some (.int o)) (gMo G qMo mo_all mo_past mo_aside mo_states mo_refused mo_causeKind mo_causeOrder mo_corner mo_linkVotes mo_linkE mo_linkF mo_follower mo_ahead mo_least mo_seam mo_above mo_below mo_text mo_textLong mo_place mo_value mo_numbers mo_not) := by
  refine Ct.ofI (by decide +kernel) (Nat.le_of_ble_eq_true rfl) (fun p e s m args below meth c A Q E hret => ?_)
  unfold fMo_differences at hf
  show V G p l e rmMo_differences s m args below meth c 6 A Q 0 0 (gMo G qMo mo_all mo_past mo_aside mo_states mo_refused mo_causeKind mo_causeOrder mo_corner mo_linkVotes mo_linkE mo_linkF mo_follower mo_ahead mo_least mo_seam mo_above mo_below mo_text mo_textLong mo_place mo_value mo_numbers mo_not) 0 [(0, .ref (qMo 0)), (1, .int p1), (2, .int p2)] []
  refine V_iconst E (v := (0 : Int32)) dX8_differences_0 (by decide) ?_
  refine V_istore_n E (lv' := [(0, .ref (qMo 0)), (1, .int p1), (2, .int p2), (3, .int (0 : Int32))]) dX8_differences_1 (by decide) rfl ?_
  refine V_iconst E (v := (0 : Int32)) dX8_differences_2 (by decide) ?_
  refine V_istore E (lv' := [(0, .ref (qMo 0)), (1, .int p1), (2, .int p2), (3, .int (0 : Int32)), (4, .int (0 : Int32))]) dX8_differences_3 (by decide) rfl ?_
  have L5 : ∀ (n : Nat) (a5_3 : Int32) (a5_4 : Int32) (u : Int32), fMo_differences_L5 p1 p2 mo_all mo_linkE mo_linkF mo_follower n a5_3 a5_4 = some u → (V G p l e rmMo_differences s m args below meth c 6 A Q 0 0 (gMo G qMo mo_all mo_past mo_aside mo_states mo_refused mo_causeKind mo_causeOrder mo_corner mo_linkVotes mo_linkE mo_linkF mo_follower mo_ahead mo_least mo_seam mo_above mo_below mo_text mo_textLong mo_place mo_value mo_numbers mo_not) 78 [(3, .int u)] []) → V G p l e rmMo_differences s m args below meth c 6 A Q 0 0 (gMo G qMo mo_all mo_past mo_aside mo_states mo_refused mo_causeKind mo_causeOrder mo_corner mo_linkVotes mo_linkE mo_linkF mo_follower mo_ahead mo_least mo_seam mo_above mo_below mo_text mo_textLong mo_place mo_value mo_numbers mo_not) 5 [(0, .ref (qMo 0)), (1, .int p1), (2, .int p2), (3, .int a5_3), (4, .int a5_4)] [] := by
    intro n
    induction n with
    | zero =>
      intro a5_3 a5_4 u hf hk
      rw [fMo_differences_L5] at hf
      cases hf
    | succ n ih =>
      intro a5_3 a5_4 u hf hk
      rw [fMo_differences_L5] at hf
      refine V_iload E 4 rfl dX8_differences_5 ?_
      refine V_iconst E (v := (4 : Int32)) dX8_differences_7 (by decide) ?_
      refine V_icmp_ge E (tgt := 78) dX8_differences_8 (by decide) (fun hc2 => ?_) (fun hc2 => ?_)
      · have hf := ip hc2 hf
        refine V_sub [3] rfl ?_
        rw [← Option.some.inj hf] at hk
        exact hk
      · have hf := iq hc2 hf
        refine V_aload_n E 0 rfl dX8_differences_11 ?_
        refine V_iload_n E 1 rfl dX8_differences_12 ?_
        obtain ⟨u3, hu3, hf⟩ := bd hf
        refine V_frW E (Rn_V E (rest := []) mlX8_205 wd_yX8_fOf (kMo_fOf l G qMo p1 mo_all mo_past mo_aside mo_states mo_refused mo_causeKind mo_causeOrder mo_corner mo_linkVotes mo_linkE mo_linkF mo_follower mo_ahead mo_least mo_seam mo_above mo_below mo_text mo_textLong mo_place mo_value mo_numbers mo_not u3 hu3) ⟨rfl, rfl, Nat.le_of_ble_eq_true rfl, Nat.le_of_ble_eq_true rfl⟩ 0 rfl rfl rfl rfl rfl (Nat.le_of_ble_eq_true rfl) dX8_differences_13) ?_
        show V G p l e rmMo_differences s m args below meth c 6 A Q 0 0 (gMo G qMo mo_all mo_past mo_aside mo_states mo_refused mo_causeKind mo_causeOrder mo_corner mo_linkVotes mo_linkE mo_linkF mo_follower mo_ahead mo_least mo_seam mo_above mo_below mo_text mo_textLong mo_place mo_value mo_numbers mo_not) 16 [(0, .ref (qMo 0)), (1, .int p1), (2, .int p2), (3, .int a5_3), (4, .int a5_4)] [.int u3]
        refine V_istore E (lv' := [(0, .ref (qMo 0)), (1, .int p1), (2, .int p2), (3, .int a5_3), (4, .int a5_4), (5, .int u3)]) dX8_differences_16 (by decide) rfl ?_
        have L18 : ∀ (n : Nat) (a18_3 : Int32) (a18_5 : Int32) (u : Int32), fMo_differences_L18 p1 p2 a5_4 mo_all mo_linkE mo_linkF mo_follower n a18_3 a18_5 = some u → (V G p l e rmMo_differences s m args below meth c 6 A Q 0 0 (gMo G qMo mo_all mo_past mo_aside mo_states mo_refused mo_causeKind mo_causeOrder mo_corner mo_linkVotes mo_linkE mo_linkF mo_follower mo_ahead mo_least mo_seam mo_above mo_below mo_text mo_textLong mo_place mo_value mo_numbers mo_not) 72 [(0, .ref (qMo 0)), (1, .int p1), (2, .int p2), (3, .int u), (4, .int a5_4)] []) → V G p l e rmMo_differences s m args below meth c 6 A Q 0 0 (gMo G qMo mo_all mo_past mo_aside mo_states mo_refused mo_causeKind mo_causeOrder mo_corner mo_linkVotes mo_linkE mo_linkF mo_follower mo_ahead mo_least mo_seam mo_above mo_below mo_text mo_textLong mo_place mo_value mo_numbers mo_not) 18 [(0, .ref (qMo 0)), (1, .int p1), (2, .int p2), (3, .int a18_3), (4, .int a5_4), (5, .int a18_5)] [] := by
          intro n
          induction n with
          | zero =>
            intro a18_3 a18_5 u hf hk
            rw [fMo_differences_L18] at hf
            cases hf
          | succ n ih =>
            intro a18_3 a18_5 u hf hk
            rw [fMo_differences_L18] at hf
            refine V_iload E 5 rfl dX8_differences_18 ?_
            refine V_bipush E (v := (8 : Int32)) dX8_differences_20 (by decide) ?_
            refine V_icmp_ge E (tgt := 72) dX8_differences_22 (by decide) (fun hc5 => ?_) (fun hc5 => ?_)
            · have hf := ip hc5 hf
              refine V_sub [0, 1, 2, 3, 4] rfl ?_
              rw [← Option.some.inj hf] at hk
              exact hk
            · have hf := iq hc5 hf
              refine V_aload_n E 0 rfl dX8_differences_25 ?_
              refine V_iload_n E 1 rfl dX8_differences_26 ?_
              refine V_iload E 4 rfl dX8_differences_27 ?_
              obtain ⟨u6, hu6, hf⟩ := bd hf
              refine V_frW E (Rn_V E (rest := []) mlX8_228 wd_yX8_hasRow (kMo_hasRow l G qMo p1 a5_4 mo_all mo_past mo_aside mo_states mo_refused mo_causeKind mo_causeOrder mo_corner mo_linkVotes mo_linkE mo_linkF mo_follower mo_ahead mo_least mo_seam mo_above mo_below mo_text mo_textLong mo_place mo_value mo_numbers mo_not u6 hu6) ⟨rfl, rfl, Nat.le_of_ble_eq_true rfl, Nat.le_of_ble_eq_true rfl⟩ 0 rfl rfl rfl rfl rfl (Nat.le_of_ble_eq_true rfl) dX8_differences_29) ?_
              show V G p l e rmMo_differences s m args below meth c 6 A Q 0 0 (gMo G qMo mo_all mo_past mo_aside mo_states mo_refused mo_causeKind mo_causeOrder mo_corner mo_linkVotes mo_linkE mo_linkF mo_follower mo_ahead mo_least mo_seam mo_above mo_below mo_text mo_textLong mo_place mo_value mo_numbers mo_not) 32 [(0, .ref (qMo 0)), (1, .int p1), (2, .int p2), (3, .int a18_3), (4, .int a5_4), (5, .int a18_5)] [.int u6]
              refine V_if_eq E (tgt := 72) dX8_differences_32 (by decide) (fun hc7 => ?_) (fun hc7 => ?_)
              · have hf := ip hc7 hf
                refine V_sub [0, 1, 2, 3, 4] rfl ?_
                rw [← Option.some.inj hf] at hk
                exact hk
              · have hf := iq hc7 hf
                refine V_iload_n E 3 rfl dX8_differences_35 ?_
                refine V_iload_n E 2 rfl dX8_differences_36 ?_
                refine V_if_eq E (tgt := 52) dX8_differences_37 (by decide) (fun hc8 => ?_) (fun hc8 => ?_)
                · have hf := ip hc8 hf
                  refine V_aload_n E 0 rfl dX8_differences_52 ?_
                  refine V_iload_n E 1 rfl dX8_differences_53 ?_
                  refine V_iload E 4 rfl dX8_differences_54 ?_
                  refine V_iload E 5 rfl dX8_differences_56 ?_
                  obtain ⟨u9, hu9, hf⟩ := bd hf
                  refine V_frW E (Rn_V E (rest := [.int a18_3]) mlX8_234 wd_yX8_differs (kMo_differs l G qMo p1 a5_4 a18_5 mo_all mo_past mo_aside mo_states mo_refused mo_causeKind mo_causeOrder mo_corner mo_linkVotes mo_linkE mo_linkF mo_follower mo_ahead mo_least mo_seam mo_above mo_below mo_text mo_textLong mo_place mo_value mo_numbers mo_not u9 hu9) ⟨rfl, rfl, Nat.le_of_ble_eq_true rfl, Nat.le_of_ble_eq_true rfl⟩ 0 rfl rfl rfl rfl rfl (Nat.le_of_ble_eq_true rfl) dX8_differences_58) ?_
                  show V G p l e rmMo_differences s m args below meth c 6 A Q 0 0 (gMo G qMo mo_all mo_past mo_aside mo_states mo_refused mo_causeKind mo_causeOrder mo_corner mo_linkVotes mo_linkE mo_linkF mo_follower mo_ahead mo_least mo_seam mo_above mo_below mo_text mo_textLong mo_place mo_value mo_numbers mo_not) 61 [(0, .ref (qMo 0)), (1, .int p1), (2, .int p2), (3, .int a18_3), (4, .int a5_4), (5, .int a18_5)] [.int u9, .int a18_3]
                  obtain ⟨u10, hu10, hf⟩ := bd hf
                  refine V_fr0 E (Rn_S E (rest := [.int a18_3]) mlX8_146 wd_yX8_abs (kMo_abs l G u9 u10 hu10) ⟨rfl, rfl, Nat.le_of_ble_eq_true rfl, Nat.le_of_ble_eq_true rfl⟩ rfl rfl (Nat.le_of_ble_eq_true rfl) dX8_differences_61) ?_
                  show V G p l e rmMo_differences s m args below meth c 6 A Q 0 0 (gMo G qMo mo_all mo_past mo_aside mo_states mo_refused mo_causeKind mo_causeOrder mo_corner mo_linkVotes mo_linkE mo_linkF mo_follower mo_ahead mo_least mo_seam mo_above mo_below mo_text mo_textLong mo_place mo_value mo_numbers mo_not) 64 [(0, .ref (qMo 0)), (1, .int p1), (2, .int p2), (3, .int a18_3), (4, .int a5_4), (5, .int a18_5)] [.int u10, .int a18_3]
                  refine V_iadd E dX8_differences_64 ?_
                  refine V_istore_n E (lv' := [(0, .ref (qMo 0)), (1, .int p1), (2, .int p2), (3, .int (a18_3 + u10)), (4, .int a5_4), (5, .int a18_5)]) dX8_differences_65 (by decide) rfl ?_
                  refine V_iinc E (v := (a18_5 + (1 : Int32))) (lv' := [(0, .ref (qMo 0)), (1, .int p1), (2, .int p2), (3, .int (a18_3 + u10)), (4, .int a5_4), (5, .int (a18_5 + (1 : Int32)))]) 5 rfl dX8_differences_66 rfl (by decide) rfl ?_
                  refine V_goto E (tgt := 18) dX8_differences_69 (by decide) ?_
                  exact ih (a18_3 + u10) (a18_5 + (1 : Int32)) _ hf hk
                · have hf := iq hc8 hf
                  refine V_aload_n E 0 rfl dX8_differences_40 ?_
                  refine V_iload_n E 1 rfl dX8_differences_41 ?_
                  refine V_iload E 4 rfl dX8_differences_42 ?_
                  refine V_iload E 5 rfl dX8_differences_44 ?_
                  obtain ⟨u11, hu11, hf⟩ := bd hf
                  refine V_frW E (Rn_V E (rest := [.int a18_3]) mlX8_234 wd_yX8_differs (kMo_differs l G qMo p1 a5_4 a18_5 mo_all mo_past mo_aside mo_states mo_refused mo_causeKind mo_causeOrder mo_corner mo_linkVotes mo_linkE mo_linkF mo_follower mo_ahead mo_least mo_seam mo_above mo_below mo_text mo_textLong mo_place mo_value mo_numbers mo_not u11 hu11) ⟨rfl, rfl, Nat.le_of_ble_eq_true rfl, Nat.le_of_ble_eq_true rfl⟩ 0 rfl rfl rfl rfl rfl (Nat.le_of_ble_eq_true rfl) dX8_differences_46) ?_
                  show V G p l e rmMo_differences s m args below meth c 6 A Q 0 0 (gMo G qMo mo_all mo_past mo_aside mo_states mo_refused mo_causeKind mo_causeOrder mo_corner mo_linkVotes mo_linkE mo_linkF mo_follower mo_ahead mo_least mo_seam mo_above mo_below mo_text mo_textLong mo_place mo_value mo_numbers mo_not) 49 [(0, .ref (qMo 0)), (1, .int p1), (2, .int p2), (3, .int a18_3), (4, .int a5_4), (5, .int a18_5)] [.int u11, .int a18_3]
                  refine V_goto E (tgt := 64) dX8_differences_49 (by decide) ?_
                  refine V_iadd E dX8_differences_64 ?_
                  refine V_istore_n E (lv' := [(0, .ref (qMo 0)), (1, .int p1), (2, .int p2), (3, .int (a18_3 + u11)), (4, .int a5_4), (5, .int a18_5)]) dX8_differences_65 (by decide) rfl ?_
                  refine V_iinc E (v := (a18_5 + (1 : Int32))) (lv' := [(0, .ref (qMo 0)), (1, .int p1), (2, .int p2), (3, .int (a18_3 + u11)), (4, .int a5_4), (5, .int (a18_5 + (1 : Int32)))]) 5 rfl dX8_differences_66 rfl (by decide) rfl ?_
                  refine V_goto E (tgt := 18) dX8_differences_69 (by decide) ?_
                  exact ih (a18_3 + u11) (a18_5 + (1 : Int32)) _ hf hk
        obtain ⟨u4, hu4, hf⟩ := bd hf
        refine L18 FU a5_3 u3 u4 hu4 ?_
        refine V_iinc E (v := (a5_4 + (1 : Int32))) (lv' := [(0, .ref (qMo 0)), (1, .int p1), (2, .int p2), (3, .int u4), (4, .int (a5_4 + (1 : Int32)))]) 4 rfl dX8_differences_72 rfl (by decide) rfl ?_
        refine V_goto E (tgt := 5) dX8_differences_75 (by decide) ?_
        exact ih u4 (a5_4 + (1 : Int32)) _ hf hk
  obtain ⟨u1, hu1, hf⟩ := bd hf
  refine L5 FU (0 : Int32) (0 : Int32) u1 hu1 ?_
  refine V_iload_n E 0 rfl dX8_differences_78 ?_
  have h9 := hret 79 [(3, .int u1)] dX8_differences_79
  rw [← (Option.some.inj hf)] at h9
  exact h9
abbrev rmMo_overlap : Room := { frames := 8, cells := 0, slots := 0, locals := 186 }
theorem wd_yX8_overlap : wdV yX8_overlap cX8_overlap 3 (some .int) 2 := ⟨wc_yX8_overlap, wi_yX8_overlap, wse_yX8_overlap, wini_X8, by decide +kernel, by decide +kernel, by decide +kernel⟩
set_option maxHeartbeats 4000000 in
set_option maxRecDepth 100000 in
theorem kMo_overlap (l : Launch) (G : wG) (qMo : Nat → Nat) (p1 : Int32) (p2 : Int32) (mo_all : Nat → Int32) (mo_past : Nat → Int32) (mo_aside : Nat → Int32) (mo_states : Int32) (mo_refused : Nat → Int32) (mo_causeKind : Int32) (mo_causeOrder : Int32) (mo_corner : Nat → Int32) (mo_linkVotes : Nat → Int32) (mo_linkE : Nat → Int32) (mo_linkF : Nat → Int32) (mo_follower : Nat → Int32) (mo_ahead : Nat → Int32) (mo_least : Nat → Int32) (mo_seam : Nat → Int32) (mo_above : Int64) (mo_below : Int64) (mo_text : Nat → Int32) (mo_textLong : Int32) (mo_place : Int32) (mo_value : Int32) (mo_numbers : Nat → Int32) (mo_not : Int32) (o : Int32 × (Nat → Int32) × (Nat → Int32) × (Nat → Int32) × (Nat → Int32) × (Nat → Int32) × (Nat → Int32) × (Nat → Int32) × (Nat → Int32) × (Nat → Int32)) (hf : fMo_overlap p1 p2 mo_all mo_refused mo_corner mo_linkVotes mo_linkE mo_linkF mo_follower mo_ahead mo_least mo_seam = some o) : Ct G l yX8_overlap cX8_overlap 3 (some .int) rmMo_overlap [.ref (qMo 0), .int p1, .int p2] (gMo G qMo mo_all mo_past mo_aside mo_states mo_refused mo_causeKind mo_causeOrder mo_corner mo_linkVotes mo_linkE mo_linkF mo_follower mo_ahead mo_least mo_seam mo_above mo_below mo_text mo_textLong mo_place mo_value mo_numbers mo_not) (some (.int o.1)) (gMo G qMo mo_all mo_past mo_aside mo_states o.2.1 mo_causeKind mo_causeOrder o.2.2.1 o.2.2.2.1 o.2.2.2.2.1 o.2.2.2.2.2.1 o.2.2.2.2.2.2.1 o.2.2.2.2.2.2.2.1 o.2.2.2.2.2.2.2.2.1 o.2.2.2.2.2.2.2.2.2 mo_above mo_below mo_text mo_textLong mo_place mo_value mo_numbers mo_not) := by
  refine Ct.ofI (by decide +kernel) (Nat.le_of_ble_eq_true rfl) (fun p e s m args below meth c A Q E hret => ?_)
  unfold fMo_overlap at hf
  show V G p l e rmMo_overlap s m args below meth c 3 A Q 0 0 (gMo G qMo mo_all mo_past mo_aside mo_states mo_refused mo_causeKind mo_causeOrder mo_corner mo_linkVotes mo_linkE mo_linkF mo_follower mo_ahead mo_least mo_seam mo_above mo_below mo_text mo_textLong mo_place mo_value mo_numbers mo_not) 0 [(0, .ref (qMo 0)), (1, .int p1), (2, .int p2)] []
  refine V_aload_n E 0 rfl dX8_overlap_0 ?_
  refine V_iload_n E 1 rfl dX8_overlap_1 ?_
  obtain ⟨u1, hu1, hf⟩ := bd hf
  refine V_frW E (Rn_V E (rest := []) mlX8_128 wd_yX8_isPicture (kMo_isPicture l G qMo p1 mo_all mo_past mo_aside mo_states mo_refused mo_causeKind mo_causeOrder mo_corner mo_linkVotes mo_linkE mo_linkF mo_follower mo_ahead mo_least mo_seam mo_above mo_below mo_text mo_textLong mo_place mo_value mo_numbers mo_not u1 hu1) ⟨rfl, rfl, Nat.le_of_ble_eq_true rfl, Nat.le_of_ble_eq_true rfl⟩ 0 rfl rfl rfl rfl rfl (Nat.le_of_ble_eq_true rfl) dX8_overlap_2) ?_
  show V G p l e rmMo_overlap s m args below meth c 3 A Q 0 0 (gMo G qMo mo_all mo_past mo_aside mo_states mo_refused mo_causeKind mo_causeOrder mo_corner mo_linkVotes mo_linkE mo_linkF mo_follower mo_ahead mo_least mo_seam mo_above mo_below mo_text mo_textLong mo_place mo_value mo_numbers mo_not) 5 [(0, .ref (qMo 0)), (1, .int p1), (2, .int p2)] [.int u1]
  refine V_if_eq E (tgt := 20) dX8_overlap_5 (by decide) (fun hc2 => ?_) (fun hc2 => ?_)
  · have hf := ip hc2 hf
    refine V_aload_n E 0 rfl dX8_overlap_20 ?_
    refine V_bipush E (v := (-2 : Int32)) dX8_overlap_21 (by decide) ?_
    obtain ⟨u3, hu3, hf⟩ := bd hf
    refine V_frW E (Rn_V E (rest := []) mlX8_91 wd_yX8_refuses (kMo_refuses l G qMo (-2 : Int32) mo_all mo_past mo_aside mo_states mo_refused mo_causeKind mo_causeOrder mo_corner mo_linkVotes mo_linkE mo_linkF mo_follower mo_ahead mo_least mo_seam mo_above mo_below mo_text mo_textLong mo_place mo_value mo_numbers mo_not u3 hu3) ⟨rfl, rfl, Nat.le_of_ble_eq_true rfl, Nat.le_of_ble_eq_true rfl⟩ 0 rfl rfl rfl rfl rfl (Nat.le_of_ble_eq_true rfl) dX8_overlap_23) ?_
    show V G p l e rmMo_overlap s m args below meth c 3 A Q 0 0 (gMo G qMo mo_all mo_past mo_aside mo_states u3.2 mo_causeKind mo_causeOrder mo_corner mo_linkVotes mo_linkE mo_linkF mo_follower mo_ahead mo_least mo_seam mo_above mo_below mo_text mo_textLong mo_place mo_value mo_numbers mo_not) 26 [(0, .ref (qMo 0)), (1, .int p1), (2, .int p2)] [.int u3.1]
    have h9 := hret 26 [(0, .ref (qMo 0)), (1, .int p1), (2, .int p2)] dX8_overlap_26
    rw [← (Option.some.inj hf)] at h9
    exact h9
  · have hf := iq hc2 hf
    refine V_iload_n E 2 rfl dX8_overlap_8 ?_
    refine V_i2l E dX8_overlap_9 ?_
    refine V_lconst E (v := (0 : Int64)) dX8_overlap_10 (by decide) ?_
    refine V_ldc2 E (v := (3 : Int64)) dX8_overlap_11 kX8_67 ?_
    obtain ⟨u4, hu4, hf⟩ := bd hf
    refine V_fr0 E (Rn_S E (rest := []) mlX8_63 wd_yX8_in (kMo_in l G p2.toInt64 (0 : Int64) (3 : Int64) u4 hu4) ⟨rfl, rfl, Nat.le_of_ble_eq_true rfl, Nat.le_of_ble_eq_true rfl⟩ rfl rfl (Nat.le_of_ble_eq_true rfl) dX8_overlap_14) ?_
    show V G p l e rmMo_overlap s m args below meth c 3 A Q 0 0 (gMo G qMo mo_all mo_past mo_aside mo_states mo_refused mo_causeKind mo_causeOrder mo_corner mo_linkVotes mo_linkE mo_linkF mo_follower mo_ahead mo_least mo_seam mo_above mo_below mo_text mo_textLong mo_place mo_value mo_numbers mo_not) 17 [(0, .ref (qMo 0)), (1, .int p1), (2, .int p2)] [.int u4]
    refine V_if_ne E (tgt := 27) dX8_overlap_17 (by decide) (fun hc5 => ?_) (fun hc5 => ?_)
    · have hf := iq hc5 hf
      refine V_aload_n E 0 rfl dX8_overlap_27 ?_
      obtain ⟨u6, hu6, hf⟩ := bd hf
      refine V_frW E (Rn_V E (rest := []) mlX8_196 wd_yX8_laysChain (kMo_laysChain l G qMo mo_all mo_past mo_aside mo_states mo_refused mo_causeKind mo_causeOrder mo_corner mo_linkVotes mo_linkE mo_linkF mo_follower mo_ahead mo_least mo_seam mo_above mo_below mo_text mo_textLong mo_place mo_value mo_numbers mo_not u6 hu6) ⟨rfl, rfl, Nat.le_of_ble_eq_true rfl, Nat.le_of_ble_eq_true rfl⟩ 0 rfl rfl rfl rfl rfl (Nat.le_of_ble_eq_true rfl) dX8_overlap_28) ?_
      show V G p l e rmMo_overlap s m args below meth c 3 A Q 0 0 (gMo G qMo mo_all mo_past mo_aside mo_states mo_refused mo_causeKind mo_causeOrder u6.1 u6.2.1 u6.2.2.1 u6.2.2.2.1 u6.2.2.2.2.1 u6.2.2.2.2.2 mo_least mo_seam mo_above mo_below mo_text mo_textLong mo_place mo_value mo_numbers mo_not) 31 [(0, .ref (qMo 0)), (1, .int p1), (2, .int p2)] []
      refine V_aload_n E 0 rfl dX8_overlap_31 ?_
      refine gfX8_38 E 0 rfl rfl dX8_overlap_32 ?_
      refine V_iload_n E 1 rfl dX8_overlap_35 ?_
      obtain ⟨hi7, hf⟩ := asr_ok hf
      refine V_iald E 9 rfl hi7 dX8_overlap_36 ?_
      refine V_iconst E (v := (-1 : Int32)) dX8_overlap_37 (by decide) ?_
      refine V_icmp_ne E (tgt := 48) dX8_overlap_38 (by decide) (fun hc8 => ?_) (fun hc8 => ?_)
      · have hf := iq hc8 hf
        refine V_iload_n E 2 rfl dX8_overlap_48 ?_
        refine V_if_ne E (tgt := 60) dX8_overlap_49 (by decide) (fun hc9 => ?_) (fun hc9 => ?_)
        · have hf := iq hc9 hf
          refine V_iload_n E 2 rfl dX8_overlap_60 ?_
          refine V_iconst E (v := (1 : Int32)) dX8_overlap_61 (by decide) ?_
          refine V_icmp_ne E (tgt := 74) dX8_overlap_62 (by decide) (fun hc10 => ?_) (fun hc10 => ?_)
          · have hf := iq hc10 hf
            refine V_iload_n E 2 rfl dX8_overlap_74 ?_
            refine V_iconst E (v := (2 : Int32)) dX8_overlap_75 (by decide) ?_
            refine V_icmp_ne E (tgt := 87) dX8_overlap_76 (by decide) (fun hc11 => ?_) (fun hc11 => ?_)
            · have hf := iq hc11 hf
              refine V_aload_n E 0 rfl dX8_overlap_87 ?_
              refine V_iload_n E 1 rfl dX8_overlap_88 ?_
              refine V_iconst E (v := (1 : Int32)) dX8_overlap_89 (by decide) ?_
              obtain ⟨u12, hu12, hf⟩ := bd hf
              refine V_frW E (Rn_V E (rest := []) mlX8_244 wd_yX8_differences (kMo_differences l G qMo p1 (1 : Int32) mo_all mo_past mo_aside mo_states mo_refused mo_causeKind mo_causeOrder u6.1 u6.2.1 u6.2.2.1 u6.2.2.2.1 u6.2.2.2.2.1 u6.2.2.2.2.2 mo_least mo_seam mo_above mo_below mo_text mo_textLong mo_place mo_value mo_numbers mo_not u12 hu12) ⟨rfl, rfl, Nat.le_of_ble_eq_true rfl, Nat.le_of_ble_eq_true rfl⟩ 0 rfl rfl rfl rfl rfl (Nat.le_of_ble_eq_true rfl) dX8_overlap_90) ?_
              show V G p l e rmMo_overlap s m args below meth c 3 A Q 0 0 (gMo G qMo mo_all mo_past mo_aside mo_states mo_refused mo_causeKind mo_causeOrder u6.1 u6.2.1 u6.2.2.1 u6.2.2.2.1 u6.2.2.2.2.1 u6.2.2.2.2.2 mo_least mo_seam mo_above mo_below mo_text mo_textLong mo_place mo_value mo_numbers mo_not) 93 [(0, .ref (qMo 0)), (1, .int p1), (2, .int p2)] [.int u12]
              refine V_sipush E (v := (2000 : Int32)) dX8_overlap_93 (by decide) ?_
              refine V_iadd E dX8_overlap_96 ?_
              have h9 := hret 97 [(0, .ref (qMo 0)), (1, .int p1), (2, .int p2)] dX8_overlap_97
              rw [← (Option.some.inj hf)] at h9
              exact h9
            · have hf := ip hc11 hf
              refine V_aload_n E 0 rfl dX8_overlap_79 ?_
              refine V_iload_n E 1 rfl dX8_overlap_80 ?_
              obtain ⟨u13, hu13, hf⟩ := bd hf
              refine V_frW E (Rn_V E (rest := []) mlX8_248 wd_yX8_seamSum (kMo_seamSum l G qMo p1 mo_all mo_past mo_aside mo_states mo_refused mo_causeKind mo_causeOrder u6.1 u6.2.1 u6.2.2.1 u6.2.2.2.1 u6.2.2.2.2.1 u6.2.2.2.2.2 mo_least mo_seam mo_above mo_below mo_text mo_textLong mo_place mo_value mo_numbers mo_not u13 hu13) ⟨rfl, rfl, Nat.le_of_ble_eq_true rfl, Nat.le_of_ble_eq_true rfl⟩ 0 rfl rfl rfl rfl rfl (Nat.le_of_ble_eq_true rfl) dX8_overlap_81) ?_
              show V G p l e rmMo_overlap s m args below meth c 3 A Q 0 0 (gMo G qMo mo_all mo_past mo_aside mo_states mo_refused mo_causeKind mo_causeOrder u6.1 u6.2.1 u6.2.2.1 u6.2.2.2.1 u6.2.2.2.2.1 u6.2.2.2.2.2 u13.2.1 u13.2.2 mo_above mo_below mo_text mo_textLong mo_place mo_value mo_numbers mo_not) 84 [(0, .ref (qMo 0)), (1, .int p1), (2, .int p2)] [.int u13.1]
              refine V_goto E (tgt := 97) dX8_overlap_84 (by decide) ?_
              have h9 := hret 97 [(0, .ref (qMo 0)), (1, .int p1), (2, .int p2)] dX8_overlap_97
              rw [← (Option.some.inj hf)] at h9
              exact h9
          · have hf := ip hc10 hf
            refine V_aload_n E 0 rfl dX8_overlap_65 ?_
            refine V_iload_n E 1 rfl dX8_overlap_66 ?_
            refine V_iconst E (v := (0 : Int32)) dX8_overlap_67 (by decide) ?_
            obtain ⟨u14, hu14, hf⟩ := bd hf
            refine V_frW E (Rn_V E (rest := []) mlX8_244 wd_yX8_differences (kMo_differences l G qMo p1 (0 : Int32) mo_all mo_past mo_aside mo_states mo_refused mo_causeKind mo_causeOrder u6.1 u6.2.1 u6.2.2.1 u6.2.2.2.1 u6.2.2.2.2.1 u6.2.2.2.2.2 mo_least mo_seam mo_above mo_below mo_text mo_textLong mo_place mo_value mo_numbers mo_not u14 hu14) ⟨rfl, rfl, Nat.le_of_ble_eq_true rfl, Nat.le_of_ble_eq_true rfl⟩ 0 rfl rfl rfl rfl rfl (Nat.le_of_ble_eq_true rfl) dX8_overlap_68) ?_
            show V G p l e rmMo_overlap s m args below meth c 3 A Q 0 0 (gMo G qMo mo_all mo_past mo_aside mo_states mo_refused mo_causeKind mo_causeOrder u6.1 u6.2.1 u6.2.2.1 u6.2.2.2.1 u6.2.2.2.2.1 u6.2.2.2.2.2 mo_least mo_seam mo_above mo_below mo_text mo_textLong mo_place mo_value mo_numbers mo_not) 71 [(0, .ref (qMo 0)), (1, .int p1), (2, .int p2)] [.int u14]
            refine V_goto E (tgt := 97) dX8_overlap_71 (by decide) ?_
            have h9 := hret 97 [(0, .ref (qMo 0)), (1, .int p1), (2, .int p2)] dX8_overlap_97
            rw [← (Option.some.inj hf)] at h9
            exact h9
        · have hf := ip hc9 hf
          refine V_aload_n E 0 rfl dX8_overlap_52 ?_
          refine V_iload_n E 1 rfl dX8_overlap_53 ?_
          obtain ⟨u15, hu15, hf⟩ := bd hf
          refine V_frW E (Rn_V E (rest := []) mlX8_241 wd_yX8_cells (kMo_cells l G qMo p1 mo_all mo_past mo_aside mo_states mo_refused mo_causeKind mo_causeOrder u6.1 u6.2.1 u6.2.2.1 u6.2.2.2.1 u6.2.2.2.2.1 u6.2.2.2.2.2 mo_least mo_seam mo_above mo_below mo_text mo_textLong mo_place mo_value mo_numbers mo_not u15 hu15) ⟨rfl, rfl, Nat.le_of_ble_eq_true rfl, Nat.le_of_ble_eq_true rfl⟩ 0 rfl rfl rfl rfl rfl (Nat.le_of_ble_eq_true rfl) dX8_overlap_54) ?_
          show V G p l e rmMo_overlap s m args below meth c 3 A Q 0 0 (gMo G qMo mo_all mo_past mo_aside mo_states mo_refused mo_causeKind mo_causeOrder u6.1 u6.2.1 u6.2.2.1 u6.2.2.2.1 u6.2.2.2.2.1 u6.2.2.2.2.2 mo_least mo_seam mo_above mo_below mo_text mo_textLong mo_place mo_value mo_numbers mo_not) 57 [(0, .ref (qMo 0)), (1, .int p1), (2, .int p2)] [.int u15]
          refine V_goto E (tgt := 97) dX8_overlap_57 (by decide) ?_
          have h9 := hret 97 [(0, .ref (qMo 0)), (1, .int p1), (2, .int p2)] dX8_overlap_97
          rw [← (Option.some.inj hf)] at h9
          exact h9
      · have hf := ip hc8 hf
        refine V_aload_n E 0 rfl dX8_overlap_41 ?_
        refine V_bipush E (v := (-3 : Int32)) dX8_overlap_42 (by decide) ?_
        obtain ⟨u16, hu16, hf⟩ := bd hf
        refine V_frW E (Rn_V E (rest := []) mlX8_91 wd_yX8_refuses (kMo_refuses l G qMo (-3 : Int32) mo_all mo_past mo_aside mo_states mo_refused mo_causeKind mo_causeOrder u6.1 u6.2.1 u6.2.2.1 u6.2.2.2.1 u6.2.2.2.2.1 u6.2.2.2.2.2 mo_least mo_seam mo_above mo_below mo_text mo_textLong mo_place mo_value mo_numbers mo_not u16 hu16) ⟨rfl, rfl, Nat.le_of_ble_eq_true rfl, Nat.le_of_ble_eq_true rfl⟩ 0 rfl rfl rfl rfl rfl (Nat.le_of_ble_eq_true rfl) dX8_overlap_44) ?_
        show V G p l e rmMo_overlap s m args below meth c 3 A Q 0 0 (gMo G qMo mo_all mo_past mo_aside mo_states u16.2 mo_causeKind mo_causeOrder u6.1 u6.2.1 u6.2.2.1 u6.2.2.2.1 u6.2.2.2.2.1 u6.2.2.2.2.2 mo_least mo_seam mo_above mo_below mo_text mo_textLong mo_place mo_value mo_numbers mo_not) 47 [(0, .ref (qMo 0)), (1, .int p1), (2, .int p2)] [.int u16.1]
        have h9 := hret 47 [(0, .ref (qMo 0)), (1, .int p1), (2, .int p2)] dX8_overlap_47
        rw [← (Option.some.inj hf)] at h9
        exact h9
    · have hf := ip hc5 hf
      refine V_aload_n E 0 rfl dX8_overlap_20 ?_
      refine V_bipush E (v := (-2 : Int32)) dX8_overlap_21 (by decide) ?_
      obtain ⟨u17, hu17, hf⟩ := bd hf
      refine V_frW E (Rn_V E (rest := []) mlX8_91 wd_yX8_refuses (kMo_refuses l G qMo (-2 : Int32) mo_all mo_past mo_aside mo_states mo_refused mo_causeKind mo_causeOrder mo_corner mo_linkVotes mo_linkE mo_linkF mo_follower mo_ahead mo_least mo_seam mo_above mo_below mo_text mo_textLong mo_place mo_value mo_numbers mo_not u17 hu17) ⟨rfl, rfl, Nat.le_of_ble_eq_true rfl, Nat.le_of_ble_eq_true rfl⟩ 0 rfl rfl rfl rfl rfl (Nat.le_of_ble_eq_true rfl) dX8_overlap_23) ?_
      show V G p l e rmMo_overlap s m args below meth c 3 A Q 0 0 (gMo G qMo mo_all mo_past mo_aside mo_states u17.2 mo_causeKind mo_causeOrder mo_corner mo_linkVotes mo_linkE mo_linkF mo_follower mo_ahead mo_least mo_seam mo_above mo_below mo_text mo_textLong mo_place mo_value mo_numbers mo_not) 26 [(0, .ref (qMo 0)), (1, .int p1), (2, .int p2)] [.int u17.1]
      have h9 := hret 26 [(0, .ref (qMo 0)), (1, .int p1), (2, .int p2)] dX8_overlap_26
      rw [← (Option.some.inj hf)] at h9
      exact h9
abbrev rmMo_seam : Room := { frames := 8, cells := 0, slots := 0, locals := 186 }
theorem wd_yX8_seam : wdV yX8_seam cX8_seam 3 (some .int) 2 := ⟨wc_yX8_seam, wi_yX8_seam, wse_yX8_seam, wini_X8, by decide +kernel, by decide +kernel, by decide +kernel⟩
set_option maxHeartbeats 4000000 in
set_option maxRecDepth 100000 in
theorem kMo_seam (l : Launch) (G : wG) (qMo : Nat → Nat) (p1 : Int32) (p2 : Int32) (mo_all : Nat → Int32) (mo_past : Nat → Int32) (mo_aside : Nat → Int32) (mo_states : Int32) (mo_refused : Nat → Int32) (mo_causeKind : Int32) (mo_causeOrder : Int32) (mo_corner : Nat → Int32) (mo_linkVotes : Nat → Int32) (mo_linkE : Nat → Int32) (mo_linkF : Nat → Int32) (mo_follower : Nat → Int32) (mo_ahead : Nat → Int32) (mo_least : Nat → Int32) (mo_seam : Nat → Int32) (mo_above : Int64) (mo_below : Int64) (mo_text : Nat → Int32) (mo_textLong : Int32) (mo_place : Int32) (mo_value : Int32) (mo_numbers : Nat → Int32) (mo_not : Int32) (o : Int32 × (Nat → Int32) × (Nat → Int32) × (Nat → Int32) × (Nat → Int32) × (Nat → Int32) × (Nat → Int32) × (Nat → Int32) × (Nat → Int32) × (Nat → Int32)) (hf : fMo_seam p1 p2 mo_all mo_refused mo_corner mo_linkVotes mo_linkE mo_linkF mo_follower mo_ahead mo_least mo_seam = some o) : Ct G l yX8_seam cX8_seam 3 (some .int) rmMo_seam [.ref (qMo 0), .int p1, .int p2] (gMo G qMo mo_all mo_past mo_aside mo_states mo_refused mo_causeKind mo_causeOrder mo_corner mo_linkVotes mo_linkE mo_linkF mo_follower mo_ahead mo_least mo_seam mo_above mo_below mo_text mo_textLong mo_place mo_value mo_numbers mo_not) (some (.int o.1)) (gMo G qMo mo_all mo_past mo_aside mo_states o.2.1 mo_causeKind mo_causeOrder o.2.2.1 o.2.2.2.1 o.2.2.2.2.1 o.2.2.2.2.2.1 o.2.2.2.2.2.2.1 o.2.2.2.2.2.2.2.1 o.2.2.2.2.2.2.2.2.1 o.2.2.2.2.2.2.2.2.2 mo_above mo_below mo_text mo_textLong mo_place mo_value mo_numbers mo_not) := by
  refine Ct.ofI (by decide +kernel) (Nat.le_of_ble_eq_true rfl) (fun p e s m args below meth c A Q E hret => ?_)
  unfold fMo_seam at hf
  show V G p l e rmMo_seam s m args below meth c 3 A Q 0 0 (gMo G qMo mo_all mo_past mo_aside mo_states mo_refused mo_causeKind mo_causeOrder mo_corner mo_linkVotes mo_linkE mo_linkF mo_follower mo_ahead mo_least mo_seam mo_above mo_below mo_text mo_textLong mo_place mo_value mo_numbers mo_not) 0 [(0, .ref (qMo 0)), (1, .int p1), (2, .int p2)] []
  refine V_aload_n E 0 rfl dX8_seam_0 ?_
  refine V_iload_n E 1 rfl dX8_seam_1 ?_
  obtain ⟨u1, hu1, hf⟩ := bd hf
  refine V_frW E (Rn_V E (rest := []) mlX8_128 wd_yX8_isPicture (kMo_isPicture l G qMo p1 mo_all mo_past mo_aside mo_states mo_refused mo_causeKind mo_causeOrder mo_corner mo_linkVotes mo_linkE mo_linkF mo_follower mo_ahead mo_least mo_seam mo_above mo_below mo_text mo_textLong mo_place mo_value mo_numbers mo_not u1 hu1) ⟨rfl, rfl, Nat.le_of_ble_eq_true rfl, Nat.le_of_ble_eq_true rfl⟩ 0 rfl rfl rfl rfl rfl (Nat.le_of_ble_eq_true rfl) dX8_seam_2) ?_
  show V G p l e rmMo_seam s m args below meth c 3 A Q 0 0 (gMo G qMo mo_all mo_past mo_aside mo_states mo_refused mo_causeKind mo_causeOrder mo_corner mo_linkVotes mo_linkE mo_linkF mo_follower mo_ahead mo_least mo_seam mo_above mo_below mo_text mo_textLong mo_place mo_value mo_numbers mo_not) 5 [(0, .ref (qMo 0)), (1, .int p1), (2, .int p2)] [.int u1]
  refine V_if_eq E (tgt := 20) dX8_seam_5 (by decide) (fun hc2 => ?_) (fun hc2 => ?_)
  · have hf := ip hc2 hf
    refine V_aload_n E 0 rfl dX8_seam_20 ?_
    refine V_bipush E (v := (-2 : Int32)) dX8_seam_21 (by decide) ?_
    obtain ⟨u3, hu3, hf⟩ := bd hf
    refine V_frW E (Rn_V E (rest := []) mlX8_91 wd_yX8_refuses (kMo_refuses l G qMo (-2 : Int32) mo_all mo_past mo_aside mo_states mo_refused mo_causeKind mo_causeOrder mo_corner mo_linkVotes mo_linkE mo_linkF mo_follower mo_ahead mo_least mo_seam mo_above mo_below mo_text mo_textLong mo_place mo_value mo_numbers mo_not u3 hu3) ⟨rfl, rfl, Nat.le_of_ble_eq_true rfl, Nat.le_of_ble_eq_true rfl⟩ 0 rfl rfl rfl rfl rfl (Nat.le_of_ble_eq_true rfl) dX8_seam_23) ?_
    show V G p l e rmMo_seam s m args below meth c 3 A Q 0 0 (gMo G qMo mo_all mo_past mo_aside mo_states u3.2 mo_causeKind mo_causeOrder mo_corner mo_linkVotes mo_linkE mo_linkF mo_follower mo_ahead mo_least mo_seam mo_above mo_below mo_text mo_textLong mo_place mo_value mo_numbers mo_not) 26 [(0, .ref (qMo 0)), (1, .int p1), (2, .int p2)] [.int u3.1]
    have h9 := hret 26 [(0, .ref (qMo 0)), (1, .int p1), (2, .int p2)] dX8_seam_26
    rw [← (Option.some.inj hf)] at h9
    exact h9
  · have hf := iq hc2 hf
    refine V_iload_n E 2 rfl dX8_seam_8 ?_
    refine V_i2l E dX8_seam_9 ?_
    refine V_lconst E (v := (0 : Int64)) dX8_seam_10 (by decide) ?_
    refine V_ldc2 E (v := (3 : Int64)) dX8_seam_11 kX8_67 ?_
    obtain ⟨u4, hu4, hf⟩ := bd hf
    refine V_fr0 E (Rn_S E (rest := []) mlX8_63 wd_yX8_in (kMo_in l G p2.toInt64 (0 : Int64) (3 : Int64) u4 hu4) ⟨rfl, rfl, Nat.le_of_ble_eq_true rfl, Nat.le_of_ble_eq_true rfl⟩ rfl rfl (Nat.le_of_ble_eq_true rfl) dX8_seam_14) ?_
    show V G p l e rmMo_seam s m args below meth c 3 A Q 0 0 (gMo G qMo mo_all mo_past mo_aside mo_states mo_refused mo_causeKind mo_causeOrder mo_corner mo_linkVotes mo_linkE mo_linkF mo_follower mo_ahead mo_least mo_seam mo_above mo_below mo_text mo_textLong mo_place mo_value mo_numbers mo_not) 17 [(0, .ref (qMo 0)), (1, .int p1), (2, .int p2)] [.int u4]
    refine V_if_ne E (tgt := 27) dX8_seam_17 (by decide) (fun hc5 => ?_) (fun hc5 => ?_)
    · have hf := iq hc5 hf
      refine V_aload_n E 0 rfl dX8_seam_27 ?_
      obtain ⟨u6, hu6, hf⟩ := bd hf
      refine V_frW E (Rn_V E (rest := []) mlX8_196 wd_yX8_laysChain (kMo_laysChain l G qMo mo_all mo_past mo_aside mo_states mo_refused mo_causeKind mo_causeOrder mo_corner mo_linkVotes mo_linkE mo_linkF mo_follower mo_ahead mo_least mo_seam mo_above mo_below mo_text mo_textLong mo_place mo_value mo_numbers mo_not u6 hu6) ⟨rfl, rfl, Nat.le_of_ble_eq_true rfl, Nat.le_of_ble_eq_true rfl⟩ 0 rfl rfl rfl rfl rfl (Nat.le_of_ble_eq_true rfl) dX8_seam_28) ?_
      show V G p l e rmMo_seam s m args below meth c 3 A Q 0 0 (gMo G qMo mo_all mo_past mo_aside mo_states mo_refused mo_causeKind mo_causeOrder u6.1 u6.2.1 u6.2.2.1 u6.2.2.2.1 u6.2.2.2.2.1 u6.2.2.2.2.2 mo_least mo_seam mo_above mo_below mo_text mo_textLong mo_place mo_value mo_numbers mo_not) 31 [(0, .ref (qMo 0)), (1, .int p1), (2, .int p2)] []
      refine V_aload_n E 0 rfl dX8_seam_31 ?_
      refine gfX8_38 E 0 rfl rfl dX8_seam_32 ?_
      refine V_iload_n E 1 rfl dX8_seam_35 ?_
      obtain ⟨hi7, hf⟩ := asr_ok hf
      refine V_iald E 9 rfl hi7 dX8_seam_36 ?_
      refine V_iconst E (v := (-1 : Int32)) dX8_seam_37 (by decide) ?_
      refine V_icmp_ne E (tgt := 48) dX8_seam_38 (by decide) (fun hc8 => ?_) (fun hc8 => ?_)
      · have hf := iq hc8 hf
        refine V_aload_n E 0 rfl dX8_seam_48 ?_
        refine V_iload_n E 1 rfl dX8_seam_49 ?_
        obtain ⟨u9, hu9, hf⟩ := bd hf
        refine V_frW E (Rn_V E (rest := []) mlX8_237 wd_yX8_laysSeam (kMo_laysSeam l G qMo p1 mo_all mo_past mo_aside mo_states mo_refused mo_causeKind mo_causeOrder u6.1 u6.2.1 u6.2.2.1 u6.2.2.2.1 u6.2.2.2.2.1 u6.2.2.2.2.2 mo_least mo_seam mo_above mo_below mo_text mo_textLong mo_place mo_value mo_numbers mo_not u9 hu9) ⟨rfl, rfl, Nat.le_of_ble_eq_true rfl, Nat.le_of_ble_eq_true rfl⟩ 0 rfl rfl rfl rfl rfl (Nat.le_of_ble_eq_true rfl) dX8_seam_50) ?_
        show V G p l e rmMo_seam s m args below meth c 3 A Q 0 0 (gMo G qMo mo_all mo_past mo_aside mo_states mo_refused mo_causeKind mo_causeOrder u6.1 u6.2.1 u6.2.2.1 u6.2.2.2.1 u6.2.2.2.2.1 u6.2.2.2.2.2 u9.1 u9.2 mo_above mo_below mo_text mo_textLong mo_place mo_value mo_numbers mo_not) 53 [(0, .ref (qMo 0)), (1, .int p1), (2, .int p2)] []
        refine V_aload_n E 0 rfl dX8_seam_53 ?_
        refine gfX8_47 E 0 rfl rfl dX8_seam_54 ?_
        refine V_iload_n E 2 rfl dX8_seam_57 ?_
        obtain ⟨hi10, hf⟩ := asr_ok hf
        refine V_iald E 12 rfl hi10 dX8_seam_58 ?_
        have h9 := hret 59 [(0, .ref (qMo 0)), (1, .int p1), (2, .int p2)] dX8_seam_59
        rw [← (Option.some.inj hf)] at h9
        exact h9
      · have hf := ip hc8 hf
        refine V_aload_n E 0 rfl dX8_seam_41 ?_
        refine V_bipush E (v := (-3 : Int32)) dX8_seam_42 (by decide) ?_
        obtain ⟨u11, hu11, hf⟩ := bd hf
        refine V_frW E (Rn_V E (rest := []) mlX8_91 wd_yX8_refuses (kMo_refuses l G qMo (-3 : Int32) mo_all mo_past mo_aside mo_states mo_refused mo_causeKind mo_causeOrder u6.1 u6.2.1 u6.2.2.1 u6.2.2.2.1 u6.2.2.2.2.1 u6.2.2.2.2.2 mo_least mo_seam mo_above mo_below mo_text mo_textLong mo_place mo_value mo_numbers mo_not u11 hu11) ⟨rfl, rfl, Nat.le_of_ble_eq_true rfl, Nat.le_of_ble_eq_true rfl⟩ 0 rfl rfl rfl rfl rfl (Nat.le_of_ble_eq_true rfl) dX8_seam_44) ?_
        show V G p l e rmMo_seam s m args below meth c 3 A Q 0 0 (gMo G qMo mo_all mo_past mo_aside mo_states u11.2 mo_causeKind mo_causeOrder u6.1 u6.2.1 u6.2.2.1 u6.2.2.2.1 u6.2.2.2.2.1 u6.2.2.2.2.2 mo_least mo_seam mo_above mo_below mo_text mo_textLong mo_place mo_value mo_numbers mo_not) 47 [(0, .ref (qMo 0)), (1, .int p1), (2, .int p2)] [.int u11.1]
        have h9 := hret 47 [(0, .ref (qMo 0)), (1, .int p1), (2, .int p2)] dX8_seam_47
        rw [← (Option.some.inj hf)] at h9
        exact h9
    · have hf := ip hc5 hf
      refine V_aload_n E 0 rfl dX8_seam_20 ?_
      refine V_bipush E (v := (-2 : Int32)) dX8_seam_21 (by decide) ?_
      obtain ⟨u12, hu12, hf⟩ := bd hf
      refine V_frW E (Rn_V E (rest := []) mlX8_91 wd_yX8_refuses (kMo_refuses l G qMo (-2 : Int32) mo_all mo_past mo_aside mo_states mo_refused mo_causeKind mo_causeOrder mo_corner mo_linkVotes mo_linkE mo_linkF mo_follower mo_ahead mo_least mo_seam mo_above mo_below mo_text mo_textLong mo_place mo_value mo_numbers mo_not u12 hu12) ⟨rfl, rfl, Nat.le_of_ble_eq_true rfl, Nat.le_of_ble_eq_true rfl⟩ 0 rfl rfl rfl rfl rfl (Nat.le_of_ble_eq_true rfl) dX8_seam_23) ?_
      show V G p l e rmMo_seam s m args below meth c 3 A Q 0 0 (gMo G qMo mo_all mo_past mo_aside mo_states u12.2 mo_causeKind mo_causeOrder mo_corner mo_linkVotes mo_linkE mo_linkF mo_follower mo_ahead mo_least mo_seam mo_above mo_below mo_text mo_textLong mo_place mo_value mo_numbers mo_not) 26 [(0, .ref (qMo 0)), (1, .int p1), (2, .int p2)] [.int u12.1]
      have h9 := hret 26 [(0, .ref (qMo 0)), (1, .int p1), (2, .int p2)] dX8_seam_26
      rw [← (Option.some.inj hf)] at h9
      exact h9
abbrev rmMo_lowest : Room := { frames := 0, cells := 0, slots := 0, locals := 0 }
theorem wd_yX8_lowest : wdV yX8_lowest cX8_lowest 7 none 0 := ⟨wc_yX8_lowest, wi_yX8_lowest, wse_yX8_lowest, wini_X8, by decide +kernel, by decide +kernel, by decide +kernel⟩
set_option maxHeartbeats 4000000 in
set_option maxRecDepth 100000 in
theorem kMo_lowest (l : Launch) (G : wG) (qMo : Nat → Nat) (mo_all : Nat → Int32) (mo_past : Nat → Int32) (mo_aside : Nat → Int32) (mo_states : Int32) (mo_refused : Nat → Int32) (mo_causeKind : Int32) (mo_causeOrder : Int32) (mo_corner : Nat → Int32) (mo_linkVotes : Nat → Int32) (mo_linkE : Nat → Int32) (mo_linkF : Nat → Int32) (mo_follower : Nat → Int32) (mo_ahead : Nat → Int32) (mo_least : Nat → Int32) (mo_seam : Nat → Int32) (mo_above : Int64) (mo_below : Int64) (mo_text : Nat → Int32) (mo_textLong : Int32) (mo_place : Int32) (mo_value : Int32) (mo_numbers : Nat → Int32) (mo_not : Int32) (o : Int64 × Int64) (hf : fMo_lowest mo_above mo_below = some o) : Ct G l yX8_lowest cX8_lowest 7 none rmMo_lowest [.ref (qMo 0)] (gMo G qMo mo_all mo_past mo_aside mo_states mo_refused mo_causeKind mo_causeOrder mo_corner mo_linkVotes mo_linkE mo_linkF mo_follower mo_ahead mo_least mo_seam mo_above mo_below mo_text mo_textLong mo_place mo_value mo_numbers mo_not) none (gMo G qMo mo_all mo_past mo_aside mo_states mo_refused mo_causeKind mo_causeOrder mo_corner mo_linkVotes mo_linkE mo_linkF mo_follower mo_ahead mo_least mo_seam o.1 o.2 mo_text mo_textLong mo_place mo_value mo_numbers mo_not) := by
  refine Ct.ofV (by decide +kernel) (Nat.le_of_ble_eq_true rfl) (fun p e s m args below meth c A Q E hret => ?_)
  unfold fMo_lowest at hf
  show V G p l e rmMo_lowest s m args below meth c 7 A Q 0 0 (gMo G qMo mo_all mo_past mo_aside mo_states mo_refused mo_causeKind mo_causeOrder mo_corner mo_linkVotes mo_linkE mo_linkF mo_follower mo_ahead mo_least mo_seam mo_above mo_below mo_text mo_textLong mo_place mo_value mo_numbers mo_not) 0 [(0, .ref (qMo 0))] []
  refine V_aload_n E 0 rfl dX8_lowest_0 ?_
  refine gfX8_251 E 0 rfl rfl dX8_lowest_1 ?_
  refine V_lconst E (v := (0 : Int64)) dX8_lowest_4 (by decide) ?_
  refine V_lcmp E dX8_lowest_5 ?_
  obtain ⟨u2, hu2, hf⟩ := bd hf
  have J21 : V G p l e rmMo_lowest s m args below meth c 7 A Q 0 0 (gMo G qMo mo_all mo_past mo_aside mo_states mo_refused mo_causeKind mo_causeOrder mo_corner mo_linkVotes mo_linkE mo_linkF mo_follower mo_ahead mo_least mo_seam mo_above mo_below mo_text mo_textLong mo_place mo_value mo_numbers mo_not) 21 [(0, .ref (qMo 0))] [.long u2] := by
    refine V_lstore_n E (lv' := [(0, .ref (qMo 0)), (1, .long u2)]) dX8_lowest_21 (by decide) rfl ?_
    refine V_aload_n E 0 rfl dX8_lowest_22 ?_
    refine gfX8_255 E 0 rfl rfl dX8_lowest_23 ?_
    refine V_lstore_n E (lv' := [(0, .ref (qMo 0)), (1, .long u2), (3, .long mo_below)]) dX8_lowest_26 (by decide) rfl ?_
    have L27 : ∀ (n : Nat) (a27_1 : Int64) (a27_3 : Int64) (u : Int64), fMo_lowest_L27 n a27_1 a27_3 = some u → (V G p l e rmMo_lowest s m args below meth c 7 A Q 0 0 (gMo G qMo mo_all mo_past mo_aside mo_states mo_refused mo_causeKind mo_causeOrder mo_corner mo_linkVotes mo_linkE mo_linkF mo_follower mo_ahead mo_least mo_seam mo_above mo_below mo_text mo_textLong mo_place mo_value mo_numbers mo_not) 46 [(0, .ref (qMo 0)), (1, .long u)] []) → V G p l e rmMo_lowest s m args below meth c 7 A Q 0 0 (gMo G qMo mo_all mo_past mo_aside mo_states mo_refused mo_causeKind mo_causeOrder mo_corner mo_linkVotes mo_linkE mo_linkF mo_follower mo_ahead mo_least mo_seam mo_above mo_below mo_text mo_textLong mo_place mo_value mo_numbers mo_not) 27 [(0, .ref (qMo 0)), (1, .long a27_1), (3, .long a27_3)] [] := by
      intro n
      induction n with
      | zero =>
        intro a27_1 a27_3 u hf hk
        rw [fMo_lowest_L27] at hf
        cases hf
      | succ n ih =>
        intro a27_1 a27_3 u hf hk
        rw [fMo_lowest_L27] at hf
        refine V_lload_n E 2 rfl dX8_lowest_27 ?_
        refine V_lconst E (v := (0 : Int64)) dX8_lowest_28 (by decide) ?_
        refine V_lcmp E dX8_lowest_29 ?_
        refine V_if_eq E (tgt := 46) dX8_lowest_30 (by decide) (fun hc4 => ?_) (fun hc4 => ?_)
        · have hf := ip hc4 hf
          refine V_sub [0, 1] rfl ?_
          rw [← Option.some.inj hf] at hk
          exact hk
        · have hf := iq hc4 hf
          refine V_lload_n E 1 rfl dX8_lowest_33 ?_
          refine V_lload_n E 2 rfl dX8_lowest_34 ?_
          obtain ⟨hz5, hf⟩ := asr_ok hf
          refine V_lrem E dX8_lowest_35 hz5 ?_
          obtain ⟨t6, ht6, hf⟩ := bd hf
          have ht6 := Option.some.inj ht6
          rw [ht6]
          refine V_lstore E (lv' := [(0, .ref (qMo 0)), (1, .long a27_1), (3, .long a27_3), (5, .long t6)]) dX8_lowest_36 (by decide) rfl ?_
          refine V_lload_n E 2 rfl dX8_lowest_38 ?_
          refine V_lstore_n E (lv' := [(0, .ref (qMo 0)), (1, .long a27_3), (3, .long a27_3), (5, .long t6)]) dX8_lowest_39 (by decide) rfl ?_
          refine V_lload E 3 rfl dX8_lowest_40 ?_
          refine V_lstore_n E (lv' := [(0, .ref (qMo 0)), (1, .long a27_3), (3, .long t6), (5, .long t6)]) dX8_lowest_42 (by decide) rfl ?_
          refine V_goto E (tgt := 27) dX8_lowest_43 (by decide) ?_
          refine V_sub [0, 1, 2] rfl ?_
          exact ih a27_3 t6 _ hf hk
    obtain ⟨u3, hu3, hf⟩ := bd hf
    refine L27 FU u2 mo_below u3 hu3 ?_
    refine V_aload_n E 0 rfl dX8_lowest_46 ?_
    refine V_dup E dX8_lowest_47 rfl ?_
    refine gfX8_251 E 0 rfl rfl dX8_lowest_48 ?_
    refine V_lload_n E 1 rfl dX8_lowest_51 ?_
    obtain ⟨hz7, hf⟩ := asr_ok hf
    refine V_ldiv E dX8_lowest_52 hz7 ?_
    refine pfX8_251 E (ws' := (gMo G qMo mo_all mo_past mo_aside mo_states mo_refused mo_causeKind mo_causeOrder mo_corner mo_linkVotes mo_linkE mo_linkF mo_follower mo_ahead mo_least mo_seam (mo_above / u3) mo_below mo_text mo_textLong mo_place mo_value mo_numbers mo_not)) 0 rfl (Nat.le_of_ble_eq_true rfl) rfl rfl dX8_lowest_53 rfl ?_
    refine V_aload_n E 0 rfl dX8_lowest_56 ?_
    refine V_dup E dX8_lowest_57 rfl ?_
    refine gfX8_255 E 0 rfl rfl dX8_lowest_58 ?_
    refine V_lload_n E 1 rfl dX8_lowest_61 ?_
    obtain ⟨hz8, hf⟩ := asr_ok hf
    refine V_ldiv E dX8_lowest_62 hz8 ?_
    refine pfX8_255 E (ws' := (gMo G qMo mo_all mo_past mo_aside mo_states mo_refused mo_causeKind mo_causeOrder mo_corner mo_linkVotes mo_linkE mo_linkF mo_follower mo_ahead mo_least mo_seam (mo_above / u3) (mo_below / u3) mo_text mo_textLong mo_place mo_value mo_numbers mo_not)) 0 rfl (Nat.le_of_ble_eq_true rfl) rfl rfl dX8_lowest_63 rfl ?_
    have h9 := hret 66 [(0, .ref (qMo 0)), (1, .long u3)] dX8_lowest_66
    rw [← (Option.some.inj hf)] at h9
    exact h9
  clear hf
  have hf := hu2
  refine V_if_ge E (tgt := 17) dX8_lowest_6 (by decide) (fun hc1 => ?_) (fun hc1 => ?_)
  · have hf := ip hc1 hf
    refine V_aload_n E 0 rfl dX8_lowest_17 ?_
    refine gfX8_251 E 0 rfl rfl dX8_lowest_18 ?_
    rw [← Option.some.inj hf] at J21
    exact J21
  · have hf := iq hc1 hf
    refine V_aload_n E 0 rfl dX8_lowest_9 ?_
    refine gfX8_251 E 0 rfl rfl dX8_lowest_10 ?_
    refine V_lneg E dX8_lowest_13 ?_
    refine V_goto E (tgt := 21) dX8_lowest_14 (by decide) ?_
    rw [← Option.some.inj hf] at J21
    exact J21
abbrev rmMo_share : Room := { frames := 2, cells := 0, slots := 0, locals := 42 }
theorem wd_yX8_share : wdV yX8_share cX8_share 2 (some .long) 1 := ⟨wc_yX8_share, wi_yX8_share, wse_yX8_share, wini_X8, by decide +kernel, by decide +kernel, by decide +kernel⟩
set_option maxHeartbeats 4000000 in
set_option maxRecDepth 100000 in
theorem kMo_share (l : Launch) (G : wG) (qMo : Nat → Nat) (p1 : Int32) (mo_all : Nat → Int32) (mo_past : Nat → Int32) (mo_aside : Nat → Int32) (mo_states : Int32) (mo_refused : Nat → Int32) (mo_causeKind : Int32) (mo_causeOrder : Int32) (mo_corner : Nat → Int32) (mo_linkVotes : Nat → Int32) (mo_linkE : Nat → Int32) (mo_linkF : Nat → Int32) (mo_follower : Nat → Int32) (mo_ahead : Nat → Int32) (mo_least : Nat → Int32) (mo_seam : Nat → Int32) (mo_above : Int64) (mo_below : Int64) (mo_text : Nat → Int32) (mo_textLong : Int32) (mo_place : Int32) (mo_value : Int32) (mo_numbers : Nat → Int32) (mo_not : Int32) (o : Int64) (hf : fMo_share p1 mo_linkE mo_linkF mo_follower = some o) : Ct G l yX8_share cX8_share 2 (some .long) rmMo_share [.ref (qMo 0), .int p1] (gMo G qMo mo_all mo_past mo_aside mo_states mo_refused mo_causeKind mo_causeOrder mo_corner mo_linkVotes mo_linkE mo_linkF mo_follower mo_ahead mo_least mo_seam mo_above mo_below mo_text mo_textLong mo_place mo_value mo_numbers mo_not) (some (.long o)) (gMo G qMo mo_all mo_past mo_aside mo_states mo_refused mo_causeKind mo_causeOrder mo_corner mo_linkVotes mo_linkE mo_linkF mo_follower mo_ahead mo_least mo_seam mo_above mo_below mo_text mo_textLong mo_place mo_value mo_numbers mo_not) := by
  refine Ct.ofJ (by decide +kernel) (Nat.le_of_ble_eq_true rfl) (fun p e s m args below meth c A Q E hret => ?_)
  unfold fMo_share at hf
  show V G p l e rmMo_share s m args below meth c 2 A Q 0 0 (gMo G qMo mo_all mo_past mo_aside mo_states mo_refused mo_causeKind mo_causeOrder mo_corner mo_linkVotes mo_linkE mo_linkF mo_follower mo_ahead mo_least mo_seam mo_above mo_below mo_text mo_textLong mo_place mo_value mo_numbers mo_not) 0 [(0, .ref (qMo 0)), (1, .int p1)] []
  refine V_sipush E (v := (5040 : Int32)) dX8_share_0 (by decide) ?_
  refine V_aload_n E 0 rfl dX8_share_3 ?_
  refine V_iload_n E 1 rfl dX8_share_4 ?_
  obtain ⟨u1, hu1, hf⟩ := bd hf
  refine V_frW E (Rn_V E (rest := [.int (5040 : Int32)]) mlX8_241 wd_yX8_cells (kMo_cells l G qMo p1 mo_all mo_past mo_aside mo_states mo_refused mo_causeKind mo_causeOrder mo_corner mo_linkVotes mo_linkE mo_linkF mo_follower mo_ahead mo_least mo_seam mo_above mo_below mo_text mo_textLong mo_place mo_value mo_numbers mo_not u1 hu1) ⟨rfl, rfl, Nat.le_of_ble_eq_true rfl, Nat.le_of_ble_eq_true rfl⟩ 0 rfl rfl rfl rfl rfl (Nat.le_of_ble_eq_true rfl) dX8_share_5) ?_
  show V G p l e rmMo_share s m args below meth c 2 A Q 0 0 (gMo G qMo mo_all mo_past mo_aside mo_states mo_refused mo_causeKind mo_causeOrder mo_corner mo_linkVotes mo_linkE mo_linkF mo_follower mo_ahead mo_least mo_seam mo_above mo_below mo_text mo_textLong mo_place mo_value mo_numbers mo_not) 8 [(0, .ref (qMo 0)), (1, .int p1)] [.int u1, .int (5040 : Int32)]
  obtain ⟨hz2, hf⟩ := asr_ok hf
  refine V_idiv E dX8_share_8 hz2 ?_
  refine V_i2l E dX8_share_9 ?_
  have h9 := hret 10 [(0, .ref (qMo 0)), (1, .int p1)] dX8_share_10
  rw [← (Option.some.inj hf)] at h9
  exact h9
abbrev rmMo_shares : Room := { frames := 3, cells := 0, slots := 0, locals := 63 }
theorem wd_yX8_shares : wdV yX8_shares cX8_shares 4 (some .long) 0 := ⟨wc_yX8_shares, wi_yX8_shares, wse_yX8_shares, wini_X8, by decide +kernel, by decide +kernel, by decide +kernel⟩
set_option maxHeartbeats 4000000 in
set_option maxRecDepth 100000 in
theorem kMo_shares (l : Launch) (G : wG) (qMo : Nat → Nat) (mo_all : Nat → Int32) (mo_past : Nat → Int32) (mo_aside : Nat → Int32) (mo_states : Int32) (mo_refused : Nat → Int32) (mo_causeKind : Int32) (mo_causeOrder : Int32) (mo_corner : Nat → Int32) (mo_linkVotes : Nat → Int32) (mo_linkE : Nat → Int32) (mo_linkF : Nat → Int32) (mo_follower : Nat → Int32) (mo_ahead : Nat → Int32) (mo_least : Nat → Int32) (mo_seam : Nat → Int32) (mo_above : Int64) (mo_below : Int64) (mo_text : Nat → Int32) (mo_textLong : Int32) (mo_place : Int32) (mo_value : Int32) (mo_numbers : Nat → Int32) (mo_not : Int32) (o : Int64) (hf : fMo_shares mo_all mo_linkE mo_linkF mo_follower = some o) : Ct G l yX8_shares cX8_shares 4 (some .long) rmMo_shares [.ref (qMo 0)] (gMo G qMo mo_all mo_past mo_aside mo_states mo_refused mo_causeKind mo_causeOrder mo_corner mo_linkVotes mo_linkE mo_linkF mo_follower mo_ahead mo_least mo_seam mo_above mo_below mo_text mo_textLong mo_place mo_value mo_numbers mo_not) (some (.long o)) (gMo G qMo mo_all mo_past mo_aside mo_states mo_refused mo_causeKind mo_causeOrder mo_corner mo_linkVotes mo_linkE mo_linkF mo_follower mo_ahead mo_least mo_seam mo_above mo_below mo_text mo_textLong mo_place mo_value mo_numbers mo_not) := by
  refine Ct.ofJ (by decide +kernel) (Nat.le_of_ble_eq_true rfl) (fun p e s m args below meth c A Q E hret => ?_)
  unfold fMo_shares at hf
  show V G p l e rmMo_shares s m args below meth c 4 A Q 0 0 (gMo G qMo mo_all mo_past mo_aside mo_states mo_refused mo_causeKind mo_causeOrder mo_corner mo_linkVotes mo_linkE mo_linkF mo_follower mo_ahead mo_least mo_seam mo_above mo_below mo_text mo_textLong mo_place mo_value mo_numbers mo_not) 0 [(0, .ref (qMo 0))] []
  refine V_lconst E (v := (0 : Int64)) dX8_shares_0 (by decide) ?_
  refine V_lstore_n E (lv' := [(0, .ref (qMo 0)), (1, .long (0 : Int64))]) dX8_shares_1 (by decide) rfl ?_
  refine V_iconst E (v := (0 : Int32)) dX8_shares_2 (by decide) ?_
  refine V_istore_n E (lv' := [(0, .ref (qMo 0)), (1, .long (0 : Int64)), (3, .int (0 : Int32))]) dX8_shares_3 (by decide) rfl ?_
  have L4 : ∀ (n : Nat) (a4_1 : Int64) (a4_3 : Int32) (u : Int64), fMo_shares_L4 mo_all mo_linkE mo_linkF mo_follower n a4_1 a4_3 = some u → (V G p l e rmMo_shares s m args below meth c 4 A Q 0 0 (gMo G qMo mo_all mo_past mo_aside mo_states mo_refused mo_causeKind mo_causeOrder mo_corner mo_linkVotes mo_linkE mo_linkF mo_follower mo_ahead mo_least mo_seam mo_above mo_below mo_text mo_textLong mo_place mo_value mo_numbers mo_not) 26 [(1, .long u)] []) → V G p l e rmMo_shares s m args below meth c 4 A Q 0 0 (gMo G qMo mo_all mo_past mo_aside mo_states mo_refused mo_causeKind mo_causeOrder mo_corner mo_linkVotes mo_linkE mo_linkF mo_follower mo_ahead mo_least mo_seam mo_above mo_below mo_text mo_textLong mo_place mo_value mo_numbers mo_not) 4 [(0, .ref (qMo 0)), (1, .long a4_1), (3, .int a4_3)] [] := by
    intro n
    induction n with
    | zero =>
      intro a4_1 a4_3 u hf hk
      rw [fMo_shares_L4] at hf
      cases hf
    | succ n ih =>
      intro a4_1 a4_3 u hf hk
      rw [fMo_shares_L4] at hf
      refine V_iload_n E 2 rfl dX8_shares_4 ?_
      refine V_aload_n E 0 rfl dX8_shares_5 ?_
      obtain ⟨u2, hu2, hf⟩ := bd hf
      refine V_frW E (Rn_V E (rest := [.int a4_3]) mlX8_59 wd_yX8_many (kMo_many l G qMo mo_all mo_past mo_aside mo_states mo_refused mo_causeKind mo_causeOrder mo_corner mo_linkVotes mo_linkE mo_linkF mo_follower mo_ahead mo_least mo_seam mo_above mo_below mo_text mo_textLong mo_place mo_value mo_numbers mo_not u2 hu2) ⟨rfl, rfl, Nat.le_of_ble_eq_true rfl, Nat.le_of_ble_eq_true rfl⟩ 0 rfl rfl rfl rfl rfl (Nat.le_of_ble_eq_true rfl) dX8_shares_6) ?_
      show V G p l e rmMo_shares s m args below meth c 4 A Q 0 0 (gMo G qMo mo_all mo_past mo_aside mo_states mo_refused mo_causeKind mo_causeOrder mo_corner mo_linkVotes mo_linkE mo_linkF mo_follower mo_ahead mo_least mo_seam mo_above mo_below mo_text mo_textLong mo_place mo_value mo_numbers mo_not) 9 [(0, .ref (qMo 0)), (1, .long a4_1), (3, .int a4_3)] [.int u2, .int a4_3]
      refine V_icmp_ge E (tgt := 26) dX8_shares_9 (by decide) (fun hc3 => ?_) (fun hc3 => ?_)
      · have hf := ip hc3 hf
        refine V_sub [1] rfl ?_
        rw [← Option.some.inj hf] at hk
        exact hk
      · have hf := iq hc3 hf
        refine V_lload_n E 1 rfl dX8_shares_12 ?_
        refine V_aload_n E 0 rfl dX8_shares_13 ?_
        refine V_iload_n E 2 rfl dX8_shares_14 ?_
        obtain ⟨u4, hu4, hf⟩ := bd hf
        refine V_frW E (Rn_V E (rest := [.long a4_1]) mlX8_258 wd_yX8_share (kMo_share l G qMo a4_3 mo_all mo_past mo_aside mo_states mo_refused mo_causeKind mo_causeOrder mo_corner mo_linkVotes mo_linkE mo_linkF mo_follower mo_ahead mo_least mo_seam mo_above mo_below mo_text mo_textLong mo_place mo_value mo_numbers mo_not u4 hu4) ⟨rfl, rfl, Nat.le_of_ble_eq_true rfl, Nat.le_of_ble_eq_true rfl⟩ 0 rfl rfl rfl rfl rfl (Nat.le_of_ble_eq_true rfl) dX8_shares_15) ?_
        show V G p l e rmMo_shares s m args below meth c 4 A Q 0 0 (gMo G qMo mo_all mo_past mo_aside mo_states mo_refused mo_causeKind mo_causeOrder mo_corner mo_linkVotes mo_linkE mo_linkF mo_follower mo_ahead mo_least mo_seam mo_above mo_below mo_text mo_textLong mo_place mo_value mo_numbers mo_not) 18 [(0, .ref (qMo 0)), (1, .long a4_1), (3, .int a4_3)] [.long u4, .long a4_1]
        refine V_ladd E dX8_shares_18 ?_
        refine V_lstore_n E (lv' := [(0, .ref (qMo 0)), (1, .long (a4_1 + u4)), (3, .int a4_3)]) dX8_shares_19 (by decide) rfl ?_
        refine V_iinc E (v := (a4_3 + (1 : Int32))) (lv' := [(0, .ref (qMo 0)), (1, .long (a4_1 + u4)), (3, .int (a4_3 + (1 : Int32)))]) 2 rfl dX8_shares_20 rfl (by decide) rfl ?_
        refine V_goto E (tgt := 4) dX8_shares_23 (by decide) ?_
        exact ih (a4_1 + u4) (a4_3 + (1 : Int32)) _ hf hk
  obtain ⟨u1, hu1, hf⟩ := bd hf
  refine L4 FU (0 : Int64) (0 : Int32) u1 hu1 ?_
  refine V_lload_n E 0 rfl dX8_shares_26 ?_
  have h9 := hret 27 [(1, .long u1)] dX8_shares_27
  rw [← (Option.some.inj hf)] at h9
  exact h9
abbrev rmMo_leftOver : Room := { frames := 3, cells := 0, slots := 0, locals := 72 }
theorem wd_yX8_leftOver : wdV yX8_leftOver cX8_leftOver 4 (some .long) 0 := ⟨wc_yX8_leftOver, wi_yX8_leftOver, wse_yX8_leftOver, wini_X8, by decide +kernel, by decide +kernel, by decide +kernel⟩
set_option maxHeartbeats 4000000 in
set_option maxRecDepth 100000 in
theorem kMo_leftOver (l : Launch) (G : wG) (qMo : Nat → Nat) (mo_all : Nat → Int32) (mo_past : Nat → Int32) (mo_aside : Nat → Int32) (mo_states : Int32) (mo_refused : Nat → Int32) (mo_causeKind : Int32) (mo_causeOrder : Int32) (mo_corner : Nat → Int32) (mo_linkVotes : Nat → Int32) (mo_linkE : Nat → Int32) (mo_linkF : Nat → Int32) (mo_follower : Nat → Int32) (mo_ahead : Nat → Int32) (mo_least : Nat → Int32) (mo_seam : Nat → Int32) (mo_above : Int64) (mo_below : Int64) (mo_text : Nat → Int32) (mo_textLong : Int32) (mo_place : Int32) (mo_value : Int32) (mo_numbers : Nat → Int32) (mo_not : Int32) (o : Int64) (hf : fMo_leftOver mo_all mo_linkE mo_linkF mo_follower = some o) : Ct G l yX8_leftOver cX8_leftOver 4 (some .long) rmMo_leftOver [.ref (qMo 0)] (gMo G qMo mo_all mo_past mo_aside mo_states mo_refused mo_causeKind mo_causeOrder mo_corner mo_linkVotes mo_linkE mo_linkF mo_follower mo_ahead mo_least mo_seam mo_above mo_below mo_text mo_textLong mo_place mo_value mo_numbers mo_not) (some (.long o)) (gMo G qMo mo_all mo_past mo_aside mo_states mo_refused mo_causeKind mo_causeOrder mo_corner mo_linkVotes mo_linkE mo_linkF mo_follower mo_ahead mo_least mo_seam mo_above mo_below mo_text mo_textLong mo_place mo_value mo_numbers mo_not) := by
  refine Ct.ofJ (by decide +kernel) (Nat.le_of_ble_eq_true rfl) (fun p e s m args below meth c A Q E hret => ?_)
  unfold fMo_leftOver at hf
  show V G p l e rmMo_leftOver s m args below meth c 4 A Q 0 0 (gMo G qMo mo_all mo_past mo_aside mo_states mo_refused mo_causeKind mo_causeOrder mo_corner mo_linkVotes mo_linkE mo_linkF mo_follower mo_ahead mo_least mo_seam mo_above mo_below mo_text mo_textLong mo_place mo_value mo_numbers mo_not) 0 [(0, .ref (qMo 0))] []
  refine V_lconst E (v := (0 : Int64)) dX8_leftOver_0 (by decide) ?_
  refine V_lstore_n E (lv' := [(0, .ref (qMo 0)), (1, .long (0 : Int64))]) dX8_leftOver_1 (by decide) rfl ?_
  refine V_iconst E (v := (0 : Int32)) dX8_leftOver_2 (by decide) ?_
  refine V_istore_n E (lv' := [(0, .ref (qMo 0)), (1, .long (0 : Int64)), (3, .int (0 : Int32))]) dX8_leftOver_3 (by decide) rfl ?_
  have L4 : ∀ (n : Nat) (a4_1 : Int64) (a4_3 : Int32) (u : Int64), fMo_leftOver_L4 mo_all mo_linkE mo_linkF mo_follower n a4_1 a4_3 = some u → (V G p l e rmMo_leftOver s m args below meth c 4 A Q 0 0 (gMo G qMo mo_all mo_past mo_aside mo_states mo_refused mo_causeKind mo_causeOrder mo_corner mo_linkVotes mo_linkE mo_linkF mo_follower mo_ahead mo_least mo_seam mo_above mo_below mo_text mo_textLong mo_place mo_value mo_numbers mo_not) 34 [(1, .long u)] []) → V G p l e rmMo_leftOver s m args below meth c 4 A Q 0 0 (gMo G qMo mo_all mo_past mo_aside mo_states mo_refused mo_causeKind mo_causeOrder mo_corner mo_linkVotes mo_linkE mo_linkF mo_follower mo_ahead mo_least mo_seam mo_above mo_below mo_text mo_textLong mo_place mo_value mo_numbers mo_not) 4 [(0, .ref (qMo 0)), (1, .long a4_1), (3, .int a4_3)] [] := by
    intro n
    induction n with
    | zero =>
      intro a4_1 a4_3 u hf hk
      rw [fMo_leftOver_L4] at hf
      cases hf
    | succ n ih =>
      intro a4_1 a4_3 u hf hk
      rw [fMo_leftOver_L4] at hf
      refine V_iload_n E 2 rfl dX8_leftOver_4 ?_
      refine V_aload_n E 0 rfl dX8_leftOver_5 ?_
      obtain ⟨u2, hu2, hf⟩ := bd hf
      refine V_frW E (Rn_V E (rest := [.int a4_3]) mlX8_59 wd_yX8_many (kMo_many l G qMo mo_all mo_past mo_aside mo_states mo_refused mo_causeKind mo_causeOrder mo_corner mo_linkVotes mo_linkE mo_linkF mo_follower mo_ahead mo_least mo_seam mo_above mo_below mo_text mo_textLong mo_place mo_value mo_numbers mo_not u2 hu2) ⟨rfl, rfl, Nat.le_of_ble_eq_true rfl, Nat.le_of_ble_eq_true rfl⟩ 0 rfl rfl rfl rfl rfl (Nat.le_of_ble_eq_true rfl) dX8_leftOver_6) ?_
      show V G p l e rmMo_leftOver s m args below meth c 4 A Q 0 0 (gMo G qMo mo_all mo_past mo_aside mo_states mo_refused mo_causeKind mo_causeOrder mo_corner mo_linkVotes mo_linkE mo_linkF mo_follower mo_ahead mo_least mo_seam mo_above mo_below mo_text mo_textLong mo_place mo_value mo_numbers mo_not) 9 [(0, .ref (qMo 0)), (1, .long a4_1), (3, .int a4_3)] [.int u2, .int a4_3]
      refine V_icmp_ge E (tgt := 34) dX8_leftOver_9 (by decide) (fun hc3 => ?_) (fun hc3 => ?_)
      · have hf := ip hc3 hf
        refine V_sub [1] rfl ?_
        rw [← Option.some.inj hf] at hk
        exact hk
      · have hf := iq hc3 hf
        refine V_lload_n E 1 rfl dX8_leftOver_12 ?_
        refine V_aload_n E 0 rfl dX8_leftOver_13 ?_
        refine V_iload_n E 2 rfl dX8_leftOver_14 ?_
        refine V_iconst E (v := (1 : Int32)) dX8_leftOver_15 (by decide) ?_
        obtain ⟨u4, hu4, hf⟩ := bd hf
        refine V_frW E (Rn_V E (rest := [.long a4_1]) mlX8_244 wd_yX8_differences (kMo_differences l G qMo a4_3 (1 : Int32) mo_all mo_past mo_aside mo_states mo_refused mo_causeKind mo_causeOrder mo_corner mo_linkVotes mo_linkE mo_linkF mo_follower mo_ahead mo_least mo_seam mo_above mo_below mo_text mo_textLong mo_place mo_value mo_numbers mo_not u4 hu4) ⟨rfl, rfl, Nat.le_of_ble_eq_true rfl, Nat.le_of_ble_eq_true rfl⟩ 0 rfl rfl rfl rfl rfl (Nat.le_of_ble_eq_true rfl) dX8_leftOver_16) ?_
        show V G p l e rmMo_leftOver s m args below meth c 4 A Q 0 0 (gMo G qMo mo_all mo_past mo_aside mo_states mo_refused mo_causeKind mo_causeOrder mo_corner mo_linkVotes mo_linkE mo_linkF mo_follower mo_ahead mo_least mo_seam mo_above mo_below mo_text mo_textLong mo_place mo_value mo_numbers mo_not) 19 [(0, .ref (qMo 0)), (1, .long a4_1), (3, .int a4_3)] [.int u4, .long a4_1]
        refine V_i2l E dX8_leftOver_19 ?_
        refine V_aload_n E 0 rfl dX8_leftOver_20 ?_
        refine V_iload_n E 2 rfl dX8_leftOver_21 ?_
        obtain ⟨u5, hu5, hf⟩ := bd hf
        refine V_frW E (Rn_V E (rest := [.long u4.toInt64, .long a4_1]) mlX8_258 wd_yX8_share (kMo_share l G qMo a4_3 mo_all mo_past mo_aside mo_states mo_refused mo_causeKind mo_causeOrder mo_corner mo_linkVotes mo_linkE mo_linkF mo_follower mo_ahead mo_least mo_seam mo_above mo_below mo_text mo_textLong mo_place mo_value mo_numbers mo_not u5 hu5) ⟨rfl, rfl, Nat.le_of_ble_eq_true rfl, Nat.le_of_ble_eq_true rfl⟩ 0 rfl rfl rfl rfl rfl (Nat.le_of_ble_eq_true rfl) dX8_leftOver_22) ?_
        show V G p l e rmMo_leftOver s m args below meth c 4 A Q 0 0 (gMo G qMo mo_all mo_past mo_aside mo_states mo_refused mo_causeKind mo_causeOrder mo_corner mo_linkVotes mo_linkE mo_linkF mo_follower mo_ahead mo_least mo_seam mo_above mo_below mo_text mo_textLong mo_place mo_value mo_numbers mo_not) 25 [(0, .ref (qMo 0)), (1, .long a4_1), (3, .int a4_3)] [.long u5, .long u4.toInt64, .long a4_1]
        refine V_lmul E dX8_leftOver_25 ?_
        refine V_ladd E dX8_leftOver_26 ?_
        refine V_lstore_n E (lv' := [(0, .ref (qMo 0)), (1, .long (a4_1 + (u4.toInt64 * u5))), (3, .int a4_3)]) dX8_leftOver_27 (by decide) rfl ?_
        refine V_iinc E (v := (a4_3 + (1 : Int32))) (lv' := [(0, .ref (qMo 0)), (1, .long (a4_1 + (u4.toInt64 * u5))), (3, .int (a4_3 + (1 : Int32)))]) 2 rfl dX8_leftOver_28 rfl (by decide) rfl ?_
        refine V_goto E (tgt := 4) dX8_leftOver_31 (by decide) ?_
        exact ih (a4_1 + (u4.toInt64 * u5)) (a4_3 + (1 : Int32)) _ hf hk
  obtain ⟨u1, hu1, hf⟩ := bd hf
  refine L4 FU (0 : Int64) (0 : Int32) u1 hu1 ?_
  refine V_lload_n E 0 rfl dX8_leftOver_34 ?_
  have h9 := hret 35 [(1, .long u1)] dX8_leftOver_35
  rw [← (Option.some.inj hf)] at h9
  exact h9
abbrev rmMo_laysLevel : Room := { frames := 4, cells := 0, slots := 0, locals := 95 }
theorem wd_yX8_laysLevel : wdV yX8_laysLevel cX8_laysLevel 7 none 1 := ⟨wc_yX8_laysLevel, wi_yX8_laysLevel, wse_yX8_laysLevel, wini_X8, by decide +kernel, by decide +kernel, by decide +kernel⟩
set_option maxHeartbeats 4000000 in
set_option maxRecDepth 100000 in
theorem kMo_laysLevel (l : Launch) (G : wG) (qMo : Nat → Nat) (p1 : Int32) (mo_all : Nat → Int32) (mo_past : Nat → Int32) (mo_aside : Nat → Int32) (mo_states : Int32) (mo_refused : Nat → Int32) (mo_causeKind : Int32) (mo_causeOrder : Int32) (mo_corner : Nat → Int32) (mo_linkVotes : Nat → Int32) (mo_linkE : Nat → Int32) (mo_linkF : Nat → Int32) (mo_follower : Nat → Int32) (mo_ahead : Nat → Int32) (mo_least : Nat → Int32) (mo_seam : Nat → Int32) (mo_above : Int64) (mo_below : Int64) (mo_text : Nat → Int32) (mo_textLong : Int32) (mo_place : Int32) (mo_value : Int32) (mo_numbers : Nat → Int32) (mo_not : Int32) (o : Int64 × Int64) (hf : fMo_laysLevel p1 mo_all mo_linkE mo_linkF mo_follower mo_ahead mo_above mo_below = some o) : Ct G l yX8_laysLevel cX8_laysLevel 7 none rmMo_laysLevel [.ref (qMo 0), .int p1] (gMo G qMo mo_all mo_past mo_aside mo_states mo_refused mo_causeKind mo_causeOrder mo_corner mo_linkVotes mo_linkE mo_linkF mo_follower mo_ahead mo_least mo_seam mo_above mo_below mo_text mo_textLong mo_place mo_value mo_numbers mo_not) none (gMo G qMo mo_all mo_past mo_aside mo_states mo_refused mo_causeKind mo_causeOrder mo_corner mo_linkVotes mo_linkE mo_linkF mo_follower mo_ahead mo_least mo_seam o.1 o.2 mo_text mo_textLong mo_place mo_value mo_numbers mo_not) := by
  refine Ct.ofV (by decide +kernel) (Nat.le_of_ble_eq_true rfl) (fun p e s m args below meth c A Q E hret => ?_)
  unfold fMo_laysLevel at hf
  show V G p l e rmMo_laysLevel s m args below meth c 7 A Q 0 0 (gMo G qMo mo_all mo_past mo_aside mo_states mo_refused mo_causeKind mo_causeOrder mo_corner mo_linkVotes mo_linkE mo_linkF mo_follower mo_ahead mo_least mo_seam mo_above mo_below mo_text mo_textLong mo_place mo_value mo_numbers mo_not) 0 [(0, .ref (qMo 0)), (1, .int p1)] []
  refine V_aload_n E 0 rfl dX8_laysLevel_0 ?_
  refine V_lconst E (v := (0 : Int64)) dX8_laysLevel_1 (by decide) ?_
  refine pfX8_251 E (ws' := (gMo G qMo mo_all mo_past mo_aside mo_states mo_refused mo_causeKind mo_causeOrder mo_corner mo_linkVotes mo_linkE mo_linkF mo_follower mo_ahead mo_least mo_seam (0 : Int64) mo_below mo_text mo_textLong mo_place mo_value mo_numbers mo_not)) 0 rfl (Nat.le_of_ble_eq_true rfl) rfl rfl dX8_laysLevel_2 rfl ?_
  refine V_aload_n E 0 rfl dX8_laysLevel_5 ?_
  refine V_ldc2 E (v := (5040 : Int64)) dX8_laysLevel_6 kX8_262 ?_
  refine pfX8_255 E (ws' := (gMo G qMo mo_all mo_past mo_aside mo_states mo_refused mo_causeKind mo_causeOrder mo_corner mo_linkVotes mo_linkE mo_linkF mo_follower mo_ahead mo_least mo_seam (0 : Int64) (5040 : Int64) mo_text mo_textLong mo_place mo_value mo_numbers mo_not)) 0 rfl (Nat.le_of_ble_eq_true rfl) rfl rfl dX8_laysLevel_9 rfl ?_
  refine V_aload_n E 0 rfl dX8_laysLevel_12 ?_
  obtain ⟨u1, hu1, hf⟩ := bd hf
  refine V_frW E (Rn_V E (rest := []) mlX8_214 wd_yX8_isClosed (kMo_isClosed l G qMo mo_all mo_past mo_aside mo_states mo_refused mo_causeKind mo_causeOrder mo_corner mo_linkVotes mo_linkE mo_linkF mo_follower mo_ahead mo_least mo_seam (0 : Int64) (5040 : Int64) mo_text mo_textLong mo_place mo_value mo_numbers mo_not u1 hu1) ⟨rfl, rfl, Nat.le_of_ble_eq_true rfl, Nat.le_of_ble_eq_true rfl⟩ 0 rfl rfl rfl rfl rfl (Nat.le_of_ble_eq_true rfl) dX8_laysLevel_13) ?_
  show V G p l e rmMo_laysLevel s m args below meth c 7 A Q 0 0 (gMo G qMo mo_all mo_past mo_aside mo_states mo_refused mo_causeKind mo_causeOrder mo_corner mo_linkVotes mo_linkE mo_linkF mo_follower mo_ahead mo_least mo_seam (0 : Int64) (5040 : Int64) mo_text mo_textLong mo_place mo_value mo_numbers mo_not) 16 [(0, .ref (qMo 0)), (1, .int p1)] [.int u1]
  refine V_if_eq E (tgt := 92) dX8_laysLevel_16 (by decide) (fun hc2 => ?_) (fun hc2 => ?_)
  · have hf := ip hc2 hf
    refine V_aload_n E 0 rfl dX8_laysLevel_92 ?_
    refine gfX8_41 E 0 rfl rfl dX8_laysLevel_93 ?_
    refine V_iload_n E 1 rfl dX8_laysLevel_96 ?_
    obtain ⟨hi3, hf⟩ := asr_ok hf
    refine V_iald E 10 rfl hi3 dX8_laysLevel_97 ?_
    refine V_istore_n E (lv' := [(0, .ref (qMo 0)), (1, .int p1), (2, .int (mo_ahead p1.toNatClampNeg))]) dX8_laysLevel_98 (by decide) rfl ?_
    have L99 : ∀ (n : Nat) (a99_2 : Int32) (c99_mo_above : Int64) (u : Int64), fMo_laysLevel_L99 mo_all mo_linkE mo_linkF mo_follower mo_ahead n a99_2 c99_mo_above = some u → (V G p l e rmMo_laysLevel s m args below meth c 7 A Q 0 0 (gMo G qMo mo_all mo_past mo_aside mo_states mo_refused mo_causeKind mo_causeOrder mo_corner mo_linkVotes mo_linkE mo_linkF mo_follower mo_ahead mo_least mo_seam u (5040 : Int64) mo_text mo_textLong mo_place mo_value mo_numbers mo_not) 136 [(0, .ref (qMo 0))] []) → V G p l e rmMo_laysLevel s m args below meth c 7 A Q 0 0 (gMo G qMo mo_all mo_past mo_aside mo_states mo_refused mo_causeKind mo_causeOrder mo_corner mo_linkVotes mo_linkE mo_linkF mo_follower mo_ahead mo_least mo_seam c99_mo_above (5040 : Int64) mo_text mo_textLong mo_place mo_value mo_numbers mo_not) 99 [(0, .ref (qMo 0)), (2, .int a99_2)] [] := by
      intro n
      induction n with
      | zero =>
        intro a99_2 c99_mo_above u hf hk
        rw [fMo_laysLevel_L99] at hf
        cases hf
      | succ n ih =>
        intro a99_2 c99_mo_above u hf hk
        rw [fMo_laysLevel_L99] at hf
        refine V_iload_n E 1 rfl dX8_laysLevel_99 ?_
        refine V_iconst E (v := (-1 : Int32)) dX8_laysLevel_100 (by decide) ?_
        refine V_icmp_eq E (tgt := 136) dX8_laysLevel_101 (by decide) (fun hc5 => ?_) (fun hc5 => ?_)
        · have hf := ip hc5 hf
          refine V_sub [0] rfl ?_
          rw [← Option.some.inj hf] at hk
          exact hk
        · have hf := iq hc5 hf
          refine V_aload_n E 0 rfl dX8_laysLevel_104 ?_
          refine V_dup E dX8_laysLevel_105 rfl ?_
          refine gfX8_251 E 0 rfl rfl dX8_laysLevel_106 ?_
          refine V_aload_n E 0 rfl dX8_laysLevel_109 ?_
          refine V_iload_n E 1 rfl dX8_laysLevel_110 ?_
          refine V_iconst E (v := (1 : Int32)) dX8_laysLevel_111 (by decide) ?_
          obtain ⟨u6, hu6, hf⟩ := bd hf
          refine V_frW E (Rn_V E (rest := [.long c99_mo_above, .ref (qMo 0)]) mlX8_244 wd_yX8_differences (kMo_differences l G qMo a99_2 (1 : Int32) mo_all mo_past mo_aside mo_states mo_refused mo_causeKind mo_causeOrder mo_corner mo_linkVotes mo_linkE mo_linkF mo_follower mo_ahead mo_least mo_seam c99_mo_above (5040 : Int64) mo_text mo_textLong mo_place mo_value mo_numbers mo_not u6 hu6) ⟨rfl, rfl, Nat.le_of_ble_eq_true rfl, Nat.le_of_ble_eq_true rfl⟩ 0 rfl rfl rfl rfl rfl (Nat.le_of_ble_eq_true rfl) dX8_laysLevel_112) ?_
          show V G p l e rmMo_laysLevel s m args below meth c 7 A Q 0 0 (gMo G qMo mo_all mo_past mo_aside mo_states mo_refused mo_causeKind mo_causeOrder mo_corner mo_linkVotes mo_linkE mo_linkF mo_follower mo_ahead mo_least mo_seam c99_mo_above (5040 : Int64) mo_text mo_textLong mo_place mo_value mo_numbers mo_not) 115 [(0, .ref (qMo 0)), (2, .int a99_2)] [.int u6, .long c99_mo_above, .ref (qMo 0)]
          refine V_i2l E dX8_laysLevel_115 ?_
          refine V_aload_n E 0 rfl dX8_laysLevel_116 ?_
          refine V_iload_n E 1 rfl dX8_laysLevel_117 ?_
          obtain ⟨u7, hu7, hf⟩ := bd hf
          refine V_frW E (Rn_V E (rest := [.long u6.toInt64, .long c99_mo_above, .ref (qMo 0)]) mlX8_258 wd_yX8_share (kMo_share l G qMo a99_2 mo_all mo_past mo_aside mo_states mo_refused mo_causeKind mo_causeOrder mo_corner mo_linkVotes mo_linkE mo_linkF mo_follower mo_ahead mo_least mo_seam c99_mo_above (5040 : Int64) mo_text mo_textLong mo_place mo_value mo_numbers mo_not u7 hu7) ⟨rfl, rfl, Nat.le_of_ble_eq_true rfl, Nat.le_of_ble_eq_true rfl⟩ 0 rfl rfl rfl rfl rfl (Nat.le_of_ble_eq_true rfl) dX8_laysLevel_118) ?_
          show V G p l e rmMo_laysLevel s m args below meth c 7 A Q 0 0 (gMo G qMo mo_all mo_past mo_aside mo_states mo_refused mo_causeKind mo_causeOrder mo_corner mo_linkVotes mo_linkE mo_linkF mo_follower mo_ahead mo_least mo_seam c99_mo_above (5040 : Int64) mo_text mo_textLong mo_place mo_value mo_numbers mo_not) 121 [(0, .ref (qMo 0)), (2, .int a99_2)] [.long u7, .long u6.toInt64, .long c99_mo_above, .ref (qMo 0)]
          refine V_lmul E dX8_laysLevel_121 ?_
          refine V_ladd E dX8_laysLevel_122 ?_
          refine pfX8_251 E (ws' := (gMo G qMo mo_all mo_past mo_aside mo_states mo_refused mo_causeKind mo_causeOrder mo_corner mo_linkVotes mo_linkE mo_linkF mo_follower mo_ahead mo_least mo_seam (c99_mo_above + (u6.toInt64 * u7)) (5040 : Int64) mo_text mo_textLong mo_place mo_value mo_numbers mo_not)) 0 rfl (Nat.le_of_ble_eq_true rfl) rfl rfl dX8_laysLevel_123 rfl ?_
          refine V_aload_n E 0 rfl dX8_laysLevel_126 ?_
          refine gfX8_41 E 0 rfl rfl dX8_laysLevel_127 ?_
          refine V_iload_n E 1 rfl dX8_laysLevel_130 ?_
          obtain ⟨hi8, hf⟩ := asr_ok hf
          refine V_iald E 10 rfl hi8 dX8_laysLevel_131 ?_
          obtain ⟨t9, ht9, hf⟩ := bd hf
          have ht9 := Option.some.inj ht9
          rw [ht9]
          refine V_istore_n E (lv' := [(0, .ref (qMo 0)), (2, .int t9)]) dX8_laysLevel_132 (by decide) rfl ?_
          refine V_goto E (tgt := 99) dX8_laysLevel_133 (by decide) ?_
          exact ih t9 (c99_mo_above + (u6.toInt64 * u7)) _ hf hk
    refine V_sub [0, 2] rfl ?_
    obtain ⟨u4, hu4, hf⟩ := bd hf
    refine L99 FU (mo_ahead p1.toNatClampNeg) (0 : Int64) u4 hu4 ?_
    refine V_aload_n E 0 rfl dX8_laysLevel_136 ?_
    obtain ⟨u10, hu10, hf⟩ := bd hf
    refine V_frW E (Rn_V E (rest := []) mlX8_271 wd_yX8_lowest (kMo_lowest l G qMo mo_all mo_past mo_aside mo_states mo_refused mo_causeKind mo_causeOrder mo_corner mo_linkVotes mo_linkE mo_linkF mo_follower mo_ahead mo_least mo_seam u4 (5040 : Int64) mo_text mo_textLong mo_place mo_value mo_numbers mo_not u10 hu10) ⟨rfl, rfl, Nat.le_of_ble_eq_true rfl, Nat.le_of_ble_eq_true rfl⟩ 0 rfl rfl rfl rfl rfl (Nat.le_of_ble_eq_true rfl) dX8_laysLevel_137) ?_
    show V G p l e rmMo_laysLevel s m args below meth c 7 A Q 0 0 (gMo G qMo mo_all mo_past mo_aside mo_states mo_refused mo_causeKind mo_causeOrder mo_corner mo_linkVotes mo_linkE mo_linkF mo_follower mo_ahead mo_least mo_seam u10.1 u10.2 mo_text mo_textLong mo_place mo_value mo_numbers mo_not) 140 [(0, .ref (qMo 0))] []
    have h9 := hret 140 [(0, .ref (qMo 0))] dX8_laysLevel_140
    rw [← (Option.some.inj hf)] at h9
    exact h9
  · have hf := iq hc2 hf
    refine V_aload_n E 0 rfl dX8_laysLevel_19 ?_
    obtain ⟨u11, hu11, hf⟩ := bd hf
    refine V_frW E (Rn_V E (rest := []) mlX8_264 wd_yX8_shares (kMo_shares l G qMo mo_all mo_past mo_aside mo_states mo_refused mo_causeKind mo_causeOrder mo_corner mo_linkVotes mo_linkE mo_linkF mo_follower mo_ahead mo_least mo_seam (0 : Int64) (5040 : Int64) mo_text mo_textLong mo_place mo_value mo_numbers mo_not u11 hu11) ⟨rfl, rfl, Nat.le_of_ble_eq_true rfl, Nat.le_of_ble_eq_true rfl⟩ 0 rfl rfl rfl rfl rfl (Nat.le_of_ble_eq_true rfl) dX8_laysLevel_20) ?_
    show V G p l e rmMo_laysLevel s m args below meth c 7 A Q 0 0 (gMo G qMo mo_all mo_past mo_aside mo_states mo_refused mo_causeKind mo_causeOrder mo_corner mo_linkVotes mo_linkE mo_linkF mo_follower mo_ahead mo_least mo_seam (0 : Int64) (5040 : Int64) mo_text mo_textLong mo_place mo_value mo_numbers mo_not) 23 [(0, .ref (qMo 0)), (1, .int p1)] [.long u11]
    refine V_lstore_n E (lv' := [(0, .ref (qMo 0)), (1, .int p1), (2, .long u11)]) dX8_laysLevel_23 (by decide) rfl ?_
    refine V_aload_n E 0 rfl dX8_laysLevel_24 ?_
    obtain ⟨u12, hu12, hf⟩ := bd hf
    refine V_frW E (Rn_V E (rest := []) mlX8_268 wd_yX8_leftOver (kMo_leftOver l G qMo mo_all mo_past mo_aside mo_states mo_refused mo_causeKind mo_causeOrder mo_corner mo_linkVotes mo_linkE mo_linkF mo_follower mo_ahead mo_least mo_seam (0 : Int64) (5040 : Int64) mo_text mo_textLong mo_place mo_value mo_numbers mo_not u12 hu12) ⟨rfl, rfl, Nat.le_of_ble_eq_true rfl, Nat.le_of_ble_eq_true rfl⟩ 0 rfl rfl rfl rfl rfl (Nat.le_of_ble_eq_true rfl) dX8_laysLevel_25) ?_
    show V G p l e rmMo_laysLevel s m args below meth c 7 A Q 0 0 (gMo G qMo mo_all mo_past mo_aside mo_states mo_refused mo_causeKind mo_causeOrder mo_corner mo_linkVotes mo_linkE mo_linkF mo_follower mo_ahead mo_least mo_seam (0 : Int64) (5040 : Int64) mo_text mo_textLong mo_place mo_value mo_numbers mo_not) 28 [(0, .ref (qMo 0)), (1, .int p1), (2, .long u11)] [.long u12]
    refine V_lstore E (lv' := [(0, .ref (qMo 0)), (1, .int p1), (2, .long u11), (4, .long u12)]) dX8_laysLevel_28 (by decide) rfl ?_
    refine V_iconst E (v := (0 : Int32)) dX8_laysLevel_30 (by decide) ?_
    refine V_istore E (lv' := [(0, .ref (qMo 0)), (1, .int p1), (2, .long u11), (4, .long u12), (6, .int (0 : Int32))]) dX8_laysLevel_31 (by decide) rfl ?_
    have L33 : ∀ (n : Nat) (a33_6 : Int32) (c33_mo_above : Int64) (u : Int64), fMo_laysLevel_L33 p1 u11 u12 mo_all mo_linkE mo_linkF mo_follower n a33_6 c33_mo_above = some u → (V G p l e rmMo_laysLevel s m args below meth c 7 A Q 0 0 (gMo G qMo mo_all mo_past mo_aside mo_states mo_refused mo_causeKind mo_causeOrder mo_corner mo_linkVotes mo_linkE mo_linkF mo_follower mo_ahead mo_least mo_seam u (5040 : Int64) mo_text mo_textLong mo_place mo_value mo_numbers mo_not) 80 [(0, .ref (qMo 0)), (2, .long u11)] []) → V G p l e rmMo_laysLevel s m args below meth c 7 A Q 0 0 (gMo G qMo mo_all mo_past mo_aside mo_states mo_refused mo_causeKind mo_causeOrder mo_corner mo_linkVotes mo_linkE mo_linkF mo_follower mo_ahead mo_least mo_seam c33_mo_above (5040 : Int64) mo_text mo_textLong mo_place mo_value mo_numbers mo_not) 33 [(0, .ref (qMo 0)), (1, .int p1), (2, .long u11), (4, .long u12), (6, .int a33_6)] [] := by
      intro n
      induction n with
      | zero =>
        intro a33_6 c33_mo_above u hf hk
        rw [fMo_laysLevel_L33] at hf
        cases hf
      | succ n ih =>
        intro a33_6 c33_mo_above u hf hk
        rw [fMo_laysLevel_L33] at hf
        refine V_iload E 4 rfl dX8_laysLevel_33 ?_
        refine V_iload_n E 1 rfl dX8_laysLevel_35 ?_
        refine V_icmp_eq E (tgt := 80) dX8_laysLevel_36 (by decide) (fun hc14 => ?_) (fun hc14 => ?_)
        · have hf := ip hc14 hf
          refine V_sub [0, 2] rfl ?_
          rw [← Option.some.inj hf] at hk
          exact hk
        · have hf := iq hc14 hf
          refine V_aload_n E 0 rfl dX8_laysLevel_39 ?_
          refine V_dup E dX8_laysLevel_40 rfl ?_
          refine gfX8_251 E 0 rfl rfl dX8_laysLevel_41 ?_
          refine V_aload_n E 0 rfl dX8_laysLevel_44 ?_
          refine V_iload E 4 rfl dX8_laysLevel_45 ?_
          refine V_iconst E (v := (1 : Int32)) dX8_laysLevel_47 (by decide) ?_
          obtain ⟨u15, hu15, hf⟩ := bd hf
          refine V_frW E (Rn_V E (rest := [.long c33_mo_above, .ref (qMo 0)]) mlX8_244 wd_yX8_differences (kMo_differences l G qMo a33_6 (1 : Int32) mo_all mo_past mo_aside mo_states mo_refused mo_causeKind mo_causeOrder mo_corner mo_linkVotes mo_linkE mo_linkF mo_follower mo_ahead mo_least mo_seam c33_mo_above (5040 : Int64) mo_text mo_textLong mo_place mo_value mo_numbers mo_not u15 hu15) ⟨rfl, rfl, Nat.le_of_ble_eq_true rfl, Nat.le_of_ble_eq_true rfl⟩ 0 rfl rfl rfl rfl rfl (Nat.le_of_ble_eq_true rfl) dX8_laysLevel_48) ?_
          show V G p l e rmMo_laysLevel s m args below meth c 7 A Q 0 0 (gMo G qMo mo_all mo_past mo_aside mo_states mo_refused mo_causeKind mo_causeOrder mo_corner mo_linkVotes mo_linkE mo_linkF mo_follower mo_ahead mo_least mo_seam c33_mo_above (5040 : Int64) mo_text mo_textLong mo_place mo_value mo_numbers mo_not) 51 [(0, .ref (qMo 0)), (1, .int p1), (2, .long u11), (4, .long u12), (6, .int a33_6)] [.int u15, .long c33_mo_above, .ref (qMo 0)]
          refine V_i2l E dX8_laysLevel_51 ?_
          refine V_lload_n E 2 rfl dX8_laysLevel_52 ?_
          refine V_lmul E dX8_laysLevel_53 ?_
          refine V_lload E 3 rfl dX8_laysLevel_54 ?_
          refine V_lsub E dX8_laysLevel_56 ?_
          refine V_aload_n E 0 rfl dX8_laysLevel_57 ?_
          refine V_iload E 4 rfl dX8_laysLevel_58 ?_
          obtain ⟨u16, hu16, hf⟩ := bd hf
          refine V_frW E (Rn_V E (rest := [.long ((u15.toInt64 * u11) - u12), .long c33_mo_above, .ref (qMo 0)]) mlX8_258 wd_yX8_share (kMo_share l G qMo a33_6 mo_all mo_past mo_aside mo_states mo_refused mo_causeKind mo_causeOrder mo_corner mo_linkVotes mo_linkE mo_linkF mo_follower mo_ahead mo_least mo_seam c33_mo_above (5040 : Int64) mo_text mo_textLong mo_place mo_value mo_numbers mo_not u16 hu16) ⟨rfl, rfl, Nat.le_of_ble_eq_true rfl, Nat.le_of_ble_eq_true rfl⟩ 0 rfl rfl rfl rfl rfl (Nat.le_of_ble_eq_true rfl) dX8_laysLevel_60) ?_
          show V G p l e rmMo_laysLevel s m args below meth c 7 A Q 0 0 (gMo G qMo mo_all mo_past mo_aside mo_states mo_refused mo_causeKind mo_causeOrder mo_corner mo_linkVotes mo_linkE mo_linkF mo_follower mo_ahead mo_least mo_seam c33_mo_above (5040 : Int64) mo_text mo_textLong mo_place mo_value mo_numbers mo_not) 63 [(0, .ref (qMo 0)), (1, .int p1), (2, .long u11), (4, .long u12), (6, .int a33_6)] [.long u16, .long ((u15.toInt64 * u11) - u12), .long c33_mo_above, .ref (qMo 0)]
          refine V_lmul E dX8_laysLevel_63 ?_
          refine V_ladd E dX8_laysLevel_64 ?_
          refine pfX8_251 E (ws' := (gMo G qMo mo_all mo_past mo_aside mo_states mo_refused mo_causeKind mo_causeOrder mo_corner mo_linkVotes mo_linkE mo_linkF mo_follower mo_ahead mo_least mo_seam (c33_mo_above + (((u15.toInt64 * u11) - u12) * u16)) (5040 : Int64) mo_text mo_textLong mo_place mo_value mo_numbers mo_not)) 0 rfl (Nat.le_of_ble_eq_true rfl) rfl rfl dX8_laysLevel_65 rfl ?_
          refine V_aload_n E 0 rfl dX8_laysLevel_68 ?_
          refine gfX8_38 E 0 rfl rfl dX8_laysLevel_69 ?_
          refine V_iload E 4 rfl dX8_laysLevel_72 ?_
          obtain ⟨hi17, hf⟩ := asr_ok hf
          refine V_iald E 9 rfl hi17 dX8_laysLevel_74 ?_
          obtain ⟨t18, ht18, hf⟩ := bd hf
          have ht18 := Option.some.inj ht18
          rw [ht18]
          refine V_istore E (lv' := [(0, .ref (qMo 0)), (1, .int p1), (2, .long u11), (4, .long u12), (6, .int t18)]) dX8_laysLevel_75 (by decide) rfl ?_
          refine V_goto E (tgt := 33) dX8_laysLevel_77 (by decide) ?_
          exact ih t18 (c33_mo_above + (((u15.toInt64 * u11) - u12) * u16)) _ hf hk
    obtain ⟨u13, hu13, hf⟩ := bd hf
    refine L33 FU (0 : Int32) (0 : Int64) u13 hu13 ?_
    refine V_aload_n E 0 rfl dX8_laysLevel_80 ?_
    refine V_ldc2 E (v := (5040 : Int64)) dX8_laysLevel_81 kX8_262 ?_
    refine V_lload_n E 1 rfl dX8_laysLevel_84 ?_
    refine V_lmul E dX8_laysLevel_85 ?_
    refine pfX8_255 E (ws' := (gMo G qMo mo_all mo_past mo_aside mo_states mo_refused mo_causeKind mo_causeOrder mo_corner mo_linkVotes mo_linkE mo_linkF mo_follower mo_ahead mo_least mo_seam u13 ((5040 : Int64) * u11) mo_text mo_textLong mo_place mo_value mo_numbers mo_not)) 0 rfl (Nat.le_of_ble_eq_true rfl) rfl rfl dX8_laysLevel_86 rfl ?_
    refine V_goto E (tgt := 136) dX8_laysLevel_89 (by decide) ?_
    refine V_aload_n E 0 rfl dX8_laysLevel_136 ?_
    obtain ⟨u19, hu19, hf⟩ := bd hf
    refine V_frW E (Rn_V E (rest := []) mlX8_271 wd_yX8_lowest (kMo_lowest l G qMo mo_all mo_past mo_aside mo_states mo_refused mo_causeKind mo_causeOrder mo_corner mo_linkVotes mo_linkE mo_linkF mo_follower mo_ahead mo_least mo_seam u13 ((5040 : Int64) * u11) mo_text mo_textLong mo_place mo_value mo_numbers mo_not u19 hu19) ⟨rfl, rfl, Nat.le_of_ble_eq_true rfl, Nat.le_of_ble_eq_true rfl⟩ 0 rfl rfl rfl rfl rfl (Nat.le_of_ble_eq_true rfl) dX8_laysLevel_137) ?_
    show V G p l e rmMo_laysLevel s m args below meth c 7 A Q 0 0 (gMo G qMo mo_all mo_past mo_aside mo_states mo_refused mo_causeKind mo_causeOrder mo_corner mo_linkVotes mo_linkE mo_linkF mo_follower mo_ahead mo_least mo_seam u19.1 u19.2 mo_text mo_textLong mo_place mo_value mo_numbers mo_not) 140 [(0, .ref (qMo 0)), (2, .long u11)] []
    have h9 := hret 140 [(0, .ref (qMo 0)), (2, .long u11)] dX8_laysLevel_140
    rw [← (Option.some.inj hf)] at h9
    exact h9
abbrev rmMo_level : Room := { frames := 8, cells := 0, slots := 0, locals := 186 }
theorem wd_yX8_level : wdV yX8_level cX8_level 3 (some .long) 2 := ⟨wc_yX8_level, wi_yX8_level, wse_yX8_level, wini_X8, by decide +kernel, by decide +kernel, by decide +kernel⟩
set_option maxHeartbeats 4000000 in
set_option maxRecDepth 100000 in
theorem kMo_level (l : Launch) (G : wG) (qMo : Nat → Nat) (p1 : Int32) (p2 : Int32) (mo_all : Nat → Int32) (mo_past : Nat → Int32) (mo_aside : Nat → Int32) (mo_states : Int32) (mo_refused : Nat → Int32) (mo_causeKind : Int32) (mo_causeOrder : Int32) (mo_corner : Nat → Int32) (mo_linkVotes : Nat → Int32) (mo_linkE : Nat → Int32) (mo_linkF : Nat → Int32) (mo_follower : Nat → Int32) (mo_ahead : Nat → Int32) (mo_least : Nat → Int32) (mo_seam : Nat → Int32) (mo_above : Int64) (mo_below : Int64) (mo_text : Nat → Int32) (mo_textLong : Int32) (mo_place : Int32) (mo_value : Int32) (mo_numbers : Nat → Int32) (mo_not : Int32) (o : Int64 × (Nat → Int32) × (Nat → Int32) × (Nat → Int32) × (Nat → Int32) × (Nat → Int32) × (Nat → Int32) × (Nat → Int32) × Int64 × Int64) (hf : fMo_level p1 p2 mo_all mo_refused mo_corner mo_linkVotes mo_linkE mo_linkF mo_follower mo_ahead mo_above mo_below = some o) : Ct G l yX8_level cX8_level 3 (some .long) rmMo_level [.ref (qMo 0), .int p1, .int p2] (gMo G qMo mo_all mo_past mo_aside mo_states mo_refused mo_causeKind mo_causeOrder mo_corner mo_linkVotes mo_linkE mo_linkF mo_follower mo_ahead mo_least mo_seam mo_above mo_below mo_text mo_textLong mo_place mo_value mo_numbers mo_not) (some (.long o.1)) (gMo G qMo mo_all mo_past mo_aside mo_states o.2.1 mo_causeKind mo_causeOrder o.2.2.1 o.2.2.2.1 o.2.2.2.2.1 o.2.2.2.2.2.1 o.2.2.2.2.2.2.1 o.2.2.2.2.2.2.2.1 mo_least mo_seam o.2.2.2.2.2.2.2.2.1 o.2.2.2.2.2.2.2.2.2 mo_text mo_textLong mo_place mo_value mo_numbers mo_not) := by
  refine Ct.ofJ (by decide +kernel) (Nat.le_of_ble_eq_true rfl) (fun p e s m args below meth c A Q E hret => ?_)
  unfold fMo_level at hf
  show V G p l e rmMo_level s m args below meth c 3 A Q 0 0 (gMo G qMo mo_all mo_past mo_aside mo_states mo_refused mo_causeKind mo_causeOrder mo_corner mo_linkVotes mo_linkE mo_linkF mo_follower mo_ahead mo_least mo_seam mo_above mo_below mo_text mo_textLong mo_place mo_value mo_numbers mo_not) 0 [(0, .ref (qMo 0)), (1, .int p1), (2, .int p2)] []
  refine V_aload_n E 0 rfl dX8_level_0 ?_
  refine V_iload_n E 1 rfl dX8_level_1 ?_
  obtain ⟨u1, hu1, hf⟩ := bd hf
  refine V_frW E (Rn_V E (rest := []) mlX8_128 wd_yX8_isPicture (kMo_isPicture l G qMo p1 mo_all mo_past mo_aside mo_states mo_refused mo_causeKind mo_causeOrder mo_corner mo_linkVotes mo_linkE mo_linkF mo_follower mo_ahead mo_least mo_seam mo_above mo_below mo_text mo_textLong mo_place mo_value mo_numbers mo_not u1 hu1) ⟨rfl, rfl, Nat.le_of_ble_eq_true rfl, Nat.le_of_ble_eq_true rfl⟩ 0 rfl rfl rfl rfl rfl (Nat.le_of_ble_eq_true rfl) dX8_level_2) ?_
  show V G p l e rmMo_level s m args below meth c 3 A Q 0 0 (gMo G qMo mo_all mo_past mo_aside mo_states mo_refused mo_causeKind mo_causeOrder mo_corner mo_linkVotes mo_linkE mo_linkF mo_follower mo_ahead mo_least mo_seam mo_above mo_below mo_text mo_textLong mo_place mo_value mo_numbers mo_not) 5 [(0, .ref (qMo 0)), (1, .int p1), (2, .int p2)] [.int u1]
  refine V_if_eq E (tgt := 18) dX8_level_5 (by decide) (fun hc2 => ?_) (fun hc2 => ?_)
  · have hf := ip hc2 hf
    refine V_aload_n E 0 rfl dX8_level_18 ?_
    refine gfX8_19 E 0 rfl rfl dX8_level_19 ?_
    refine V_iconst E (v := (0 : Int32)) dX8_level_22 (by decide) ?_
    refine V_dup2 E dX8_level_23 rfl rfl ?_
    obtain ⟨hi3, hf⟩ := asr_ok hf
    refine V_iald E 4 rfl hi3 dX8_level_24 ?_
    refine V_iconst E (v := (1 : Int32)) dX8_level_25 (by decide) ?_
    refine V_iadd E dX8_level_26 ?_
    obtain ⟨hi4, hf⟩ := asr_ok hf
    refine V_iast E (ws' := (gMo G qMo mo_all mo_past mo_aside mo_states (upd mo_refused (0 : Int32).toNatClampNeg ((mo_refused (0 : Int32).toNatClampNeg) + (1 : Int32))) mo_causeKind mo_causeOrder mo_corner mo_linkVotes mo_linkE mo_linkF mo_follower mo_ahead mo_least mo_seam mo_above mo_below mo_text mo_textLong mo_place mo_value mo_numbers mo_not)) 4 rfl hi4 dX8_level_27 rfl ?_
    refine V_ldc2 E (v := (-999999 : Int64)) dX8_level_28 kX8_274 ?_
    have h9 := hret 31 [(0, .ref (qMo 0)), (1, .int p1), (2, .int p2)] dX8_level_31
    rw [← (Option.some.inj hf)] at h9
    exact h9
  · have hf := iq hc2 hf
    refine V_iload_n E 2 rfl dX8_level_8 ?_
    refine V_i2l E dX8_level_9 ?_
    refine V_lconst E (v := (0 : Int64)) dX8_level_10 (by decide) ?_
    refine V_lconst E (v := (1 : Int64)) dX8_level_11 (by decide) ?_
    obtain ⟨u5, hu5, hf⟩ := bd hf
    refine V_fr0 E (Rn_S E (rest := []) mlX8_63 wd_yX8_in (kMo_in l G p2.toInt64 (0 : Int64) (1 : Int64) u5 hu5) ⟨rfl, rfl, Nat.le_of_ble_eq_true rfl, Nat.le_of_ble_eq_true rfl⟩ rfl rfl (Nat.le_of_ble_eq_true rfl) dX8_level_12) ?_
    show V G p l e rmMo_level s m args below meth c 3 A Q 0 0 (gMo G qMo mo_all mo_past mo_aside mo_states mo_refused mo_causeKind mo_causeOrder mo_corner mo_linkVotes mo_linkE mo_linkF mo_follower mo_ahead mo_least mo_seam mo_above mo_below mo_text mo_textLong mo_place mo_value mo_numbers mo_not) 15 [(0, .ref (qMo 0)), (1, .int p1), (2, .int p2)] [.int u5]
    refine V_if_ne E (tgt := 32) dX8_level_15 (by decide) (fun hc6 => ?_) (fun hc6 => ?_)
    · have hf := iq hc6 hf
      refine V_aload_n E 0 rfl dX8_level_32 ?_
      obtain ⟨u7, hu7, hf⟩ := bd hf
      refine V_frW E (Rn_V E (rest := []) mlX8_196 wd_yX8_laysChain (kMo_laysChain l G qMo mo_all mo_past mo_aside mo_states mo_refused mo_causeKind mo_causeOrder mo_corner mo_linkVotes mo_linkE mo_linkF mo_follower mo_ahead mo_least mo_seam mo_above mo_below mo_text mo_textLong mo_place mo_value mo_numbers mo_not u7 hu7) ⟨rfl, rfl, Nat.le_of_ble_eq_true rfl, Nat.le_of_ble_eq_true rfl⟩ 0 rfl rfl rfl rfl rfl (Nat.le_of_ble_eq_true rfl) dX8_level_33) ?_
      show V G p l e rmMo_level s m args below meth c 3 A Q 0 0 (gMo G qMo mo_all mo_past mo_aside mo_states mo_refused mo_causeKind mo_causeOrder u7.1 u7.2.1 u7.2.2.1 u7.2.2.2.1 u7.2.2.2.2.1 u7.2.2.2.2.2 mo_least mo_seam mo_above mo_below mo_text mo_textLong mo_place mo_value mo_numbers mo_not) 36 [(0, .ref (qMo 0)), (1, .int p1), (2, .int p2)] []
      refine V_aload_n E 0 rfl dX8_level_36 ?_
      refine V_iload_n E 1 rfl dX8_level_37 ?_
      obtain ⟨u8, hu8, hf⟩ := bd hf
      refine V_frW E (Rn_V E (rest := []) mlX8_276 wd_yX8_laysLevel (kMo_laysLevel l G qMo p1 mo_all mo_past mo_aside mo_states mo_refused mo_causeKind mo_causeOrder u7.1 u7.2.1 u7.2.2.1 u7.2.2.2.1 u7.2.2.2.2.1 u7.2.2.2.2.2 mo_least mo_seam mo_above mo_below mo_text mo_textLong mo_place mo_value mo_numbers mo_not u8 hu8) ⟨rfl, rfl, Nat.le_of_ble_eq_true rfl, Nat.le_of_ble_eq_true rfl⟩ 0 rfl rfl rfl rfl rfl (Nat.le_of_ble_eq_true rfl) dX8_level_38) ?_
      show V G p l e rmMo_level s m args below meth c 3 A Q 0 0 (gMo G qMo mo_all mo_past mo_aside mo_states mo_refused mo_causeKind mo_causeOrder u7.1 u7.2.1 u7.2.2.1 u7.2.2.2.1 u7.2.2.2.2.1 u7.2.2.2.2.2 mo_least mo_seam u8.1 u8.2 mo_text mo_textLong mo_place mo_value mo_numbers mo_not) 41 [(0, .ref (qMo 0)), (1, .int p1), (2, .int p2)] []
      refine V_iload_n E 2 rfl dX8_level_41 ?_
      refine V_if_ne E (tgt := 52) dX8_level_42 (by decide) (fun hc9 => ?_) (fun hc9 => ?_)
      · have hf := iq hc9 hf
        refine V_aload_n E 0 rfl dX8_level_52 ?_
        refine gfX8_255 E 0 rfl rfl dX8_level_53 ?_
        have h9 := hret 56 [(0, .ref (qMo 0)), (1, .int p1), (2, .int p2)] dX8_level_56
        rw [← (Option.some.inj hf)] at h9
        exact h9
      · have hf := ip hc9 hf
        refine V_aload_n E 0 rfl dX8_level_45 ?_
        refine gfX8_251 E 0 rfl rfl dX8_level_46 ?_
        refine V_goto E (tgt := 56) dX8_level_49 (by decide) ?_
        have h9 := hret 56 [(0, .ref (qMo 0)), (1, .int p1), (2, .int p2)] dX8_level_56
        rw [← (Option.some.inj hf)] at h9
        exact h9
    · have hf := ip hc6 hf
      refine V_aload_n E 0 rfl dX8_level_18 ?_
      refine gfX8_19 E 0 rfl rfl dX8_level_19 ?_
      refine V_iconst E (v := (0 : Int32)) dX8_level_22 (by decide) ?_
      refine V_dup2 E dX8_level_23 rfl rfl ?_
      obtain ⟨hi10, hf⟩ := asr_ok hf
      refine V_iald E 4 rfl hi10 dX8_level_24 ?_
      refine V_iconst E (v := (1 : Int32)) dX8_level_25 (by decide) ?_
      refine V_iadd E dX8_level_26 ?_
      obtain ⟨hi11, hf⟩ := asr_ok hf
      refine V_iast E (ws' := (gMo G qMo mo_all mo_past mo_aside mo_states (upd mo_refused (0 : Int32).toNatClampNeg ((mo_refused (0 : Int32).toNatClampNeg) + (1 : Int32))) mo_causeKind mo_causeOrder mo_corner mo_linkVotes mo_linkE mo_linkF mo_follower mo_ahead mo_least mo_seam mo_above mo_below mo_text mo_textLong mo_place mo_value mo_numbers mo_not)) 4 rfl hi11 dX8_level_27 rfl ?_
      refine V_ldc2 E (v := (-999999 : Int64)) dX8_level_28 kX8_274 ?_
      have h9 := hret 31 [(0, .ref (qMo 0)), (1, .int p1), (2, .int p2)] dX8_level_31
      rw [← (Option.some.inj hf)] at h9
      exact h9
abbrev rmMo_rest : Room := { frames := 8, cells := 0, slots := 0, locals := 186 }
theorem wd_yX8_rest : wdV yX8_rest cX8_rest 2 (some .long) 1 := ⟨wc_yX8_rest, wi_yX8_rest, wse_yX8_rest, wini_X8, by decide +kernel, by decide +kernel, by decide +kernel⟩
set_option maxHeartbeats 4000000 in
set_option maxRecDepth 100000 in
theorem kMo_rest (l : Launch) (G : wG) (qMo : Nat → Nat) (p1 : Int32) (mo_all : Nat → Int32) (mo_past : Nat → Int32) (mo_aside : Nat → Int32) (mo_states : Int32) (mo_refused : Nat → Int32) (mo_causeKind : Int32) (mo_causeOrder : Int32) (mo_corner : Nat → Int32) (mo_linkVotes : Nat → Int32) (mo_linkE : Nat → Int32) (mo_linkF : Nat → Int32) (mo_follower : Nat → Int32) (mo_ahead : Nat → Int32) (mo_least : Nat → Int32) (mo_seam : Nat → Int32) (mo_above : Int64) (mo_below : Int64) (mo_text : Nat → Int32) (mo_textLong : Int32) (mo_place : Int32) (mo_value : Int32) (mo_numbers : Nat → Int32) (mo_not : Int32) (o : Int64 × (Nat → Int32) × (Nat → Int32) × (Nat → Int32) × (Nat → Int32) × (Nat → Int32) × (Nat → Int32) × (Nat → Int32) × Int64 × Int64) (hf : fMo_rest p1 mo_all mo_refused mo_corner mo_linkVotes mo_linkE mo_linkF mo_follower mo_ahead mo_above mo_below = some o) : Ct G l yX8_rest cX8_rest 2 (some .long) rmMo_rest [.ref (qMo 0), .int p1] (gMo G qMo mo_all mo_past mo_aside mo_states mo_refused mo_causeKind mo_causeOrder mo_corner mo_linkVotes mo_linkE mo_linkF mo_follower mo_ahead mo_least mo_seam mo_above mo_below mo_text mo_textLong mo_place mo_value mo_numbers mo_not) (some (.long o.1)) (gMo G qMo mo_all mo_past mo_aside mo_states o.2.1 mo_causeKind mo_causeOrder o.2.2.1 o.2.2.2.1 o.2.2.2.2.1 o.2.2.2.2.2.1 o.2.2.2.2.2.2.1 o.2.2.2.2.2.2.2.1 mo_least mo_seam o.2.2.2.2.2.2.2.2.1 o.2.2.2.2.2.2.2.2.2 mo_text mo_textLong mo_place mo_value mo_numbers mo_not) := by
  refine Ct.ofJ (by decide +kernel) (Nat.le_of_ble_eq_true rfl) (fun p e s m args below meth c A Q E hret => ?_)
  unfold fMo_rest at hf
  show V G p l e rmMo_rest s m args below meth c 2 A Q 0 0 (gMo G qMo mo_all mo_past mo_aside mo_states mo_refused mo_causeKind mo_causeOrder mo_corner mo_linkVotes mo_linkE mo_linkF mo_follower mo_ahead mo_least mo_seam mo_above mo_below mo_text mo_textLong mo_place mo_value mo_numbers mo_not) 0 [(0, .ref (qMo 0)), (1, .int p1)] []
  refine V_iload_n E 1 rfl dX8_rest_0 ?_
  refine V_i2l E dX8_rest_1 ?_
  refine V_lconst E (v := (0 : Int64)) dX8_rest_2 (by decide) ?_
  refine V_lconst E (v := (1 : Int64)) dX8_rest_3 (by decide) ?_
  obtain ⟨u1, hu1, hf⟩ := bd hf
  refine V_fr0 E (Rn_S E (rest := []) mlX8_63 wd_yX8_in (kMo_in l G p1.toInt64 (0 : Int64) (1 : Int64) u1 hu1) ⟨rfl, rfl, Nat.le_of_ble_eq_true rfl, Nat.le_of_ble_eq_true rfl⟩ rfl rfl (Nat.le_of_ble_eq_true rfl) dX8_rest_4) ?_
  show V G p l e rmMo_rest s m args below meth c 2 A Q 0 0 (gMo G qMo mo_all mo_past mo_aside mo_states mo_refused mo_causeKind mo_causeOrder mo_corner mo_linkVotes mo_linkE mo_linkF mo_follower mo_ahead mo_least mo_seam mo_above mo_below mo_text mo_textLong mo_place mo_value mo_numbers mo_not) 7 [(0, .ref (qMo 0)), (1, .int p1)] [.int u1]
  refine V_if_ne E (tgt := 18) dX8_rest_7 (by decide) (fun hc2 => ?_) (fun hc2 => ?_)
  · have hf := iq hc2 hf
    refine V_aload_n E 0 rfl dX8_rest_18 ?_
    obtain ⟨u3, hu3, hf⟩ := bd hf
    refine V_frW E (Rn_V E (rest := []) mlX8_196 wd_yX8_laysChain (kMo_laysChain l G qMo mo_all mo_past mo_aside mo_states mo_refused mo_causeKind mo_causeOrder mo_corner mo_linkVotes mo_linkE mo_linkF mo_follower mo_ahead mo_least mo_seam mo_above mo_below mo_text mo_textLong mo_place mo_value mo_numbers mo_not u3 hu3) ⟨rfl, rfl, Nat.le_of_ble_eq_true rfl, Nat.le_of_ble_eq_true rfl⟩ 0 rfl rfl rfl rfl rfl (Nat.le_of_ble_eq_true rfl) dX8_rest_19) ?_
    show V G p l e rmMo_rest s m args below meth c 2 A Q 0 0 (gMo G qMo mo_all mo_past mo_aside mo_states mo_refused mo_causeKind mo_causeOrder u3.1 u3.2.1 u3.2.2.1 u3.2.2.2.1 u3.2.2.2.2.1 u3.2.2.2.2.2 mo_least mo_seam mo_above mo_below mo_text mo_textLong mo_place mo_value mo_numbers mo_not) 22 [(0, .ref (qMo 0)), (1, .int p1)] []
    refine V_aload_n E 0 rfl dX8_rest_22 ?_
    refine V_lconst E (v := (0 : Int64)) dX8_rest_23 (by decide) ?_
    refine pfX8_251 E (ws' := (gMo G qMo mo_all mo_past mo_aside mo_states mo_refused mo_causeKind mo_causeOrder u3.1 u3.2.1 u3.2.2.1 u3.2.2.2.1 u3.2.2.2.2.1 u3.2.2.2.2.2 mo_least mo_seam (0 : Int64) mo_below mo_text mo_textLong mo_place mo_value mo_numbers mo_not)) 0 rfl (Nat.le_of_ble_eq_true rfl) rfl rfl dX8_rest_24 rfl ?_
    refine V_aload_n E 0 rfl dX8_rest_27 ?_
    refine V_lconst E (v := (1 : Int64)) dX8_rest_28 (by decide) ?_
    refine pfX8_255 E (ws' := (gMo G qMo mo_all mo_past mo_aside mo_states mo_refused mo_causeKind mo_causeOrder u3.1 u3.2.1 u3.2.2.1 u3.2.2.2.1 u3.2.2.2.2.1 u3.2.2.2.2.2 mo_least mo_seam (0 : Int64) (1 : Int64) mo_text mo_textLong mo_place mo_value mo_numbers mo_not)) 0 rfl (Nat.le_of_ble_eq_true rfl) rfl rfl dX8_rest_29 rfl ?_
    refine V_aload_n E 0 rfl dX8_rest_32 ?_
    obtain ⟨u4, hu4, hf⟩ := bd hf
    refine V_frW E (Rn_V E (rest := []) mlX8_214 wd_yX8_isClosed (kMo_isClosed l G qMo mo_all mo_past mo_aside mo_states mo_refused mo_causeKind mo_causeOrder u3.1 u3.2.1 u3.2.2.1 u3.2.2.2.1 u3.2.2.2.2.1 u3.2.2.2.2.2 mo_least mo_seam (0 : Int64) (1 : Int64) mo_text mo_textLong mo_place mo_value mo_numbers mo_not u4 hu4) ⟨rfl, rfl, Nat.le_of_ble_eq_true rfl, Nat.le_of_ble_eq_true rfl⟩ 0 rfl rfl rfl rfl rfl (Nat.le_of_ble_eq_true rfl) dX8_rest_33) ?_
    show V G p l e rmMo_rest s m args below meth c 2 A Q 0 0 (gMo G qMo mo_all mo_past mo_aside mo_states mo_refused mo_causeKind mo_causeOrder u3.1 u3.2.1 u3.2.2.1 u3.2.2.2.1 u3.2.2.2.2.1 u3.2.2.2.2.2 mo_least mo_seam (0 : Int64) (1 : Int64) mo_text mo_textLong mo_place mo_value mo_numbers mo_not) 36 [(0, .ref (qMo 0)), (1, .int p1)] [.int u4]
    obtain ⟨u6, hu6, hf⟩ := bd hf
    have J68 : V G p l e rmMo_rest s m args below meth c 2 A Q 0 0 (gMo G qMo mo_all mo_past mo_aside mo_states mo_refused mo_causeKind mo_causeOrder u3.1 u3.2.1 u3.2.2.1 u3.2.2.2.1 u3.2.2.2.2.1 u3.2.2.2.2.2 mo_least mo_seam u6.1 u6.2 mo_text mo_textLong mo_place mo_value mo_numbers mo_not) 68 [(0, .ref (qMo 0)), (1, .int p1)] [] := by
      refine V_iload_n E 1 rfl dX8_rest_68 ?_
      refine V_if_ne E (tgt := 79) dX8_rest_69 (by decide) (fun hc11 => ?_) (fun hc11 => ?_)
      · have hf := iq hc11 hf
        refine V_aload_n E 0 rfl dX8_rest_79 ?_
        refine gfX8_255 E 0 rfl rfl dX8_rest_80 ?_
        have h9 := hret 83 [(0, .ref (qMo 0)), (1, .int p1)] dX8_rest_83
        rw [← (Option.some.inj hf)] at h9
        exact h9
      · have hf := ip hc11 hf
        refine V_aload_n E 0 rfl dX8_rest_72 ?_
        refine gfX8_251 E 0 rfl rfl dX8_rest_73 ?_
        refine V_goto E (tgt := 83) dX8_rest_76 (by decide) ?_
        have h9 := hret 83 [(0, .ref (qMo 0)), (1, .int p1)] dX8_rest_83
        rw [← (Option.some.inj hf)] at h9
        exact h9
    clear hf
    have hf := hu6
    refine V_if_eq E (tgt := 68) dX8_rest_36 (by decide) (fun hc5 => ?_) (fun hc5 => ?_)
    · have hf := ip hc5 hf
      rw [← Option.some.inj hf] at J68
      exact J68
    · have hf := iq hc5 hf
      refine V_aload_n E 0 rfl dX8_rest_39 ?_
      refine V_aload_n E 0 rfl dX8_rest_40 ?_
      obtain ⟨u7, hu7, hf⟩ := bd hf
      refine V_frW E (Rn_V E (rest := [.ref (qMo 0)]) mlX8_268 wd_yX8_leftOver (kMo_leftOver l G qMo mo_all mo_past mo_aside mo_states mo_refused mo_causeKind mo_causeOrder u3.1 u3.2.1 u3.2.2.1 u3.2.2.2.1 u3.2.2.2.2.1 u3.2.2.2.2.2 mo_least mo_seam (0 : Int64) (1 : Int64) mo_text mo_textLong mo_place mo_value mo_numbers mo_not u7 hu7) ⟨rfl, rfl, Nat.le_of_ble_eq_true rfl, Nat.le_of_ble_eq_true rfl⟩ 0 rfl rfl rfl rfl rfl (Nat.le_of_ble_eq_true rfl) dX8_rest_41) ?_
      show V G p l e rmMo_rest s m args below meth c 2 A Q 0 0 (gMo G qMo mo_all mo_past mo_aside mo_states mo_refused mo_causeKind mo_causeOrder u3.1 u3.2.1 u3.2.2.1 u3.2.2.2.1 u3.2.2.2.2.1 u3.2.2.2.2.2 mo_least mo_seam (0 : Int64) (1 : Int64) mo_text mo_textLong mo_place mo_value mo_numbers mo_not) 44 [(0, .ref (qMo 0)), (1, .int p1)] [.long u7, .ref (qMo 0)]
      refine V_aload_n E 0 rfl dX8_rest_44 ?_
      obtain ⟨u8, hu8, hf⟩ := bd hf
      refine V_frW E (Rn_V E (rest := [.long u7, .ref (qMo 0)]) mlX8_268 wd_yX8_leftOver (kMo_leftOver l G qMo mo_all mo_past mo_aside mo_states mo_refused mo_causeKind mo_causeOrder u3.1 u3.2.1 u3.2.2.1 u3.2.2.2.1 u3.2.2.2.2.1 u3.2.2.2.2.2 mo_least mo_seam (0 : Int64) (1 : Int64) mo_text mo_textLong mo_place mo_value mo_numbers mo_not u8 hu8) ⟨rfl, rfl, Nat.le_of_ble_eq_true rfl, Nat.le_of_ble_eq_true rfl⟩ 0 rfl rfl rfl rfl rfl (Nat.le_of_ble_eq_true rfl) dX8_rest_45) ?_
      show V G p l e rmMo_rest s m args below meth c 2 A Q 0 0 (gMo G qMo mo_all mo_past mo_aside mo_states mo_refused mo_causeKind mo_causeOrder u3.1 u3.2.1 u3.2.2.1 u3.2.2.2.1 u3.2.2.2.2.1 u3.2.2.2.2.2 mo_least mo_seam (0 : Int64) (1 : Int64) mo_text mo_textLong mo_place mo_value mo_numbers mo_not) 48 [(0, .ref (qMo 0)), (1, .int p1)] [.long u8, .long u7, .ref (qMo 0)]
      refine V_lmul E dX8_rest_48 ?_
      refine pfX8_251 E (ws' := (gMo G qMo mo_all mo_past mo_aside mo_states mo_refused mo_causeKind mo_causeOrder u3.1 u3.2.1 u3.2.2.1 u3.2.2.2.1 u3.2.2.2.2.1 u3.2.2.2.2.2 mo_least mo_seam (u7 * u8) (1 : Int64) mo_text mo_textLong mo_place mo_value mo_numbers mo_not)) 0 rfl (Nat.le_of_ble_eq_true rfl) rfl rfl dX8_rest_49 rfl ?_
      refine V_aload_n E 0 rfl dX8_rest_52 ?_
      refine V_ldc2 E (v := (5040 : Int64)) dX8_rest_53 kX8_262 ?_
      refine V_aload_n E 0 rfl dX8_rest_56 ?_
      obtain ⟨u9, hu9, hf⟩ := bd hf
      refine V_frW E (Rn_V E (rest := [.long (5040 : Int64), .ref (qMo 0)]) mlX8_264 wd_yX8_shares (kMo_shares l G qMo mo_all mo_past mo_aside mo_states mo_refused mo_causeKind mo_causeOrder u3.1 u3.2.1 u3.2.2.1 u3.2.2.2.1 u3.2.2.2.2.1 u3.2.2.2.2.2 mo_least mo_seam (u7 * u8) (1 : Int64) mo_text mo_textLong mo_place mo_value mo_numbers mo_not u9 hu9) ⟨rfl, rfl, Nat.le_of_ble_eq_true rfl, Nat.le_of_ble_eq_true rfl⟩ 0 rfl rfl rfl rfl rfl (Nat.le_of_ble_eq_true rfl) dX8_rest_57) ?_
      show V G p l e rmMo_rest s m args below meth c 2 A Q 0 0 (gMo G qMo mo_all mo_past mo_aside mo_states mo_refused mo_causeKind mo_causeOrder u3.1 u3.2.1 u3.2.2.1 u3.2.2.2.1 u3.2.2.2.2.1 u3.2.2.2.2.2 mo_least mo_seam (u7 * u8) (1 : Int64) mo_text mo_textLong mo_place mo_value mo_numbers mo_not) 60 [(0, .ref (qMo 0)), (1, .int p1)] [.long u9, .long (5040 : Int64), .ref (qMo 0)]
      refine V_lmul E dX8_rest_60 ?_
      refine pfX8_255 E (ws' := (gMo G qMo mo_all mo_past mo_aside mo_states mo_refused mo_causeKind mo_causeOrder u3.1 u3.2.1 u3.2.2.1 u3.2.2.2.1 u3.2.2.2.2.1 u3.2.2.2.2.2 mo_least mo_seam (u7 * u8) ((5040 : Int64) * u9) mo_text mo_textLong mo_place mo_value mo_numbers mo_not)) 0 rfl (Nat.le_of_ble_eq_true rfl) rfl rfl dX8_rest_61 rfl ?_
      refine V_aload_n E 0 rfl dX8_rest_64 ?_
      obtain ⟨u10, hu10, hf⟩ := bd hf
      refine V_frW E (Rn_V E (rest := []) mlX8_271 wd_yX8_lowest (kMo_lowest l G qMo mo_all mo_past mo_aside mo_states mo_refused mo_causeKind mo_causeOrder u3.1 u3.2.1 u3.2.2.1 u3.2.2.2.1 u3.2.2.2.2.1 u3.2.2.2.2.2 mo_least mo_seam (u7 * u8) ((5040 : Int64) * u9) mo_text mo_textLong mo_place mo_value mo_numbers mo_not u10 hu10) ⟨rfl, rfl, Nat.le_of_ble_eq_true rfl, Nat.le_of_ble_eq_true rfl⟩ 0 rfl rfl rfl rfl rfl (Nat.le_of_ble_eq_true rfl) dX8_rest_65) ?_
      show V G p l e rmMo_rest s m args below meth c 2 A Q 0 0 (gMo G qMo mo_all mo_past mo_aside mo_states mo_refused mo_causeKind mo_causeOrder u3.1 u3.2.1 u3.2.2.1 u3.2.2.2.1 u3.2.2.2.2.1 u3.2.2.2.2.2 mo_least mo_seam u10.1 u10.2 mo_text mo_textLong mo_place mo_value mo_numbers mo_not) 68 [(0, .ref (qMo 0)), (1, .int p1)] []
      rw [← Option.some.inj hf] at J68
      exact J68
  · have hf := ip hc2 hf
    refine V_aload_n E 0 rfl dX8_rest_10 ?_
    refine V_bipush E (v := (-2 : Int32)) dX8_rest_11 (by decide) ?_
    obtain ⟨u12, hu12, hf⟩ := bd hf
    refine V_frW E (Rn_V E (rest := []) mlX8_91 wd_yX8_refuses (kMo_refuses l G qMo (-2 : Int32) mo_all mo_past mo_aside mo_states mo_refused mo_causeKind mo_causeOrder mo_corner mo_linkVotes mo_linkE mo_linkF mo_follower mo_ahead mo_least mo_seam mo_above mo_below mo_text mo_textLong mo_place mo_value mo_numbers mo_not u12 hu12) ⟨rfl, rfl, Nat.le_of_ble_eq_true rfl, Nat.le_of_ble_eq_true rfl⟩ 0 rfl rfl rfl rfl rfl (Nat.le_of_ble_eq_true rfl) dX8_rest_13) ?_
    show V G p l e rmMo_rest s m args below meth c 2 A Q 0 0 (gMo G qMo mo_all mo_past mo_aside mo_states u12.2 mo_causeKind mo_causeOrder mo_corner mo_linkVotes mo_linkE mo_linkF mo_follower mo_ahead mo_least mo_seam mo_above mo_below mo_text mo_textLong mo_place mo_value mo_numbers mo_not) 16 [(0, .ref (qMo 0)), (1, .int p1)] [.int u12.1]
    refine V_i2l E dX8_rest_16 ?_
    have h9 := hret 17 [(0, .ref (qMo 0)), (1, .int p1)] dX8_rest_17
    rw [← (Option.some.inj hf)] at h9
    exact h9
abbrev rmMo_shows : Room := { frames := 8, cells := 0, slots := 0, locals := 186 }
theorem wd_yX8_shows : wdV yX8_shows cX8_shows 8 (some .int) 2 := ⟨wc_yX8_shows, wi_yX8_shows, wse_yX8_shows, wini_X8, by decide +kernel, by decide +kernel, by decide +kernel⟩
set_option maxHeartbeats 4000000 in
set_option maxRecDepth 100000 in
theorem kMo_shows (l : Launch) (G : wG) (qMo : Nat → Nat) (p1 : Int32) (p2 : Int32) (mo_all : Nat → Int32) (mo_past : Nat → Int32) (mo_aside : Nat → Int32) (mo_states : Int32) (mo_refused : Nat → Int32) (mo_causeKind : Int32) (mo_causeOrder : Int32) (mo_corner : Nat → Int32) (mo_linkVotes : Nat → Int32) (mo_linkE : Nat → Int32) (mo_linkF : Nat → Int32) (mo_follower : Nat → Int32) (mo_ahead : Nat → Int32) (mo_least : Nat → Int32) (mo_seam : Nat → Int32) (mo_above : Int64) (mo_below : Int64) (mo_text : Nat → Int32) (mo_textLong : Int32) (mo_place : Int32) (mo_value : Int32) (mo_numbers : Nat → Int32) (mo_not : Int32) (o : Int32 × (Nat → Int32) × (Nat → Int32) × (Nat → Int32) × (Nat → Int32) × (Nat → Int32) × (Nat → Int32) × (Nat → Int32) × (Nat → Int32) × (Nat → Int32)) (hf : fMo_shows p1 p2 mo_all mo_refused mo_corner mo_linkVotes mo_linkE mo_linkF mo_follower mo_ahead mo_least mo_seam = some o) : Ct G l yX8_shows cX8_shows 8 (some .int) rmMo_shows [.ref (qMo 0), .int p1, .int p2] (gMo G qMo mo_all mo_past mo_aside mo_states mo_refused mo_causeKind mo_causeOrder mo_corner mo_linkVotes mo_linkE mo_linkF mo_follower mo_ahead mo_least mo_seam mo_above mo_below mo_text mo_textLong mo_place mo_value mo_numbers mo_not) (some (.int o.1)) (gMo G qMo mo_all mo_past mo_aside mo_states o.2.1 mo_causeKind mo_causeOrder o.2.2.1 o.2.2.2.1 o.2.2.2.2.1 o.2.2.2.2.2.1 o.2.2.2.2.2.2.1 o.2.2.2.2.2.2.2.1 o.2.2.2.2.2.2.2.2.1 o.2.2.2.2.2.2.2.2.2 mo_above mo_below mo_text mo_textLong mo_place mo_value mo_numbers mo_not) := by
  refine Ct.ofI (by decide +kernel) (Nat.le_of_ble_eq_true rfl) (fun p e s m args below meth c A Q E hret => ?_)
  unfold fMo_shows at hf
  show V G p l e rmMo_shows s m args below meth c 8 A Q 0 0 (gMo G qMo mo_all mo_past mo_aside mo_states mo_refused mo_causeKind mo_causeOrder mo_corner mo_linkVotes mo_linkE mo_linkF mo_follower mo_ahead mo_least mo_seam mo_above mo_below mo_text mo_textLong mo_place mo_value mo_numbers mo_not) 0 [(0, .ref (qMo 0)), (1, .int p1), (2, .int p2)] []
  refine V_aload_n E 0 rfl dX8_shows_0 ?_
  refine V_iload_n E 1 rfl dX8_shows_1 ?_
  obtain ⟨u1, hu1, hf⟩ := bd hf
  refine V_frW E (Rn_V E (rest := []) mlX8_128 wd_yX8_isPicture (kMo_isPicture l G qMo p1 mo_all mo_past mo_aside mo_states mo_refused mo_causeKind mo_causeOrder mo_corner mo_linkVotes mo_linkE mo_linkF mo_follower mo_ahead mo_least mo_seam mo_above mo_below mo_text mo_textLong mo_place mo_value mo_numbers mo_not u1 hu1) ⟨rfl, rfl, Nat.le_of_ble_eq_true rfl, Nat.le_of_ble_eq_true rfl⟩ 0 rfl rfl rfl rfl rfl (Nat.le_of_ble_eq_true rfl) dX8_shows_2) ?_
  show V G p l e rmMo_shows s m args below meth c 8 A Q 0 0 (gMo G qMo mo_all mo_past mo_aside mo_states mo_refused mo_causeKind mo_causeOrder mo_corner mo_linkVotes mo_linkE mo_linkF mo_follower mo_ahead mo_least mo_seam mo_above mo_below mo_text mo_textLong mo_place mo_value mo_numbers mo_not) 5 [(0, .ref (qMo 0)), (1, .int p1), (2, .int p2)] [.int u1]
  refine V_if_eq E (tgt := 20) dX8_shows_5 (by decide) (fun hc2 => ?_) (fun hc2 => ?_)
  · have hf := ip hc2 hf
    refine V_aload_n E 0 rfl dX8_shows_20 ?_
    refine V_bipush E (v := (-2 : Int32)) dX8_shows_21 (by decide) ?_
    obtain ⟨u3, hu3, hf⟩ := bd hf
    refine V_frW E (Rn_V E (rest := []) mlX8_91 wd_yX8_refuses (kMo_refuses l G qMo (-2 : Int32) mo_all mo_past mo_aside mo_states mo_refused mo_causeKind mo_causeOrder mo_corner mo_linkVotes mo_linkE mo_linkF mo_follower mo_ahead mo_least mo_seam mo_above mo_below mo_text mo_textLong mo_place mo_value mo_numbers mo_not u3 hu3) ⟨rfl, rfl, Nat.le_of_ble_eq_true rfl, Nat.le_of_ble_eq_true rfl⟩ 0 rfl rfl rfl rfl rfl (Nat.le_of_ble_eq_true rfl) dX8_shows_23) ?_
    show V G p l e rmMo_shows s m args below meth c 8 A Q 0 0 (gMo G qMo mo_all mo_past mo_aside mo_states u3.2 mo_causeKind mo_causeOrder mo_corner mo_linkVotes mo_linkE mo_linkF mo_follower mo_ahead mo_least mo_seam mo_above mo_below mo_text mo_textLong mo_place mo_value mo_numbers mo_not) 26 [(0, .ref (qMo 0)), (1, .int p1), (2, .int p2)] [.int u3.1]
    have h9 := hret 26 [(0, .ref (qMo 0)), (1, .int p1), (2, .int p2)] dX8_shows_26
    rw [← (Option.some.inj hf)] at h9
    exact h9
  · have hf := iq hc2 hf
    refine V_iload_n E 2 rfl dX8_shows_8 ?_
    refine V_i2l E dX8_shows_9 ?_
    refine V_lconst E (v := (0 : Int64)) dX8_shows_10 (by decide) ?_
    refine V_ldc2 E (v := (3 : Int64)) dX8_shows_11 kX8_67 ?_
    obtain ⟨u4, hu4, hf⟩ := bd hf
    refine V_fr0 E (Rn_S E (rest := []) mlX8_63 wd_yX8_in (kMo_in l G p2.toInt64 (0 : Int64) (3 : Int64) u4 hu4) ⟨rfl, rfl, Nat.le_of_ble_eq_true rfl, Nat.le_of_ble_eq_true rfl⟩ rfl rfl (Nat.le_of_ble_eq_true rfl) dX8_shows_14) ?_
    show V G p l e rmMo_shows s m args below meth c 8 A Q 0 0 (gMo G qMo mo_all mo_past mo_aside mo_states mo_refused mo_causeKind mo_causeOrder mo_corner mo_linkVotes mo_linkE mo_linkF mo_follower mo_ahead mo_least mo_seam mo_above mo_below mo_text mo_textLong mo_place mo_value mo_numbers mo_not) 17 [(0, .ref (qMo 0)), (1, .int p1), (2, .int p2)] [.int u4]
    refine V_if_ne E (tgt := 27) dX8_shows_17 (by decide) (fun hc5 => ?_) (fun hc5 => ?_)
    · have hf := iq hc5 hf
      refine V_aload_n E 0 rfl dX8_shows_27 ?_
      obtain ⟨u6, hu6, hf⟩ := bd hf
      refine V_frW E (Rn_V E (rest := []) mlX8_196 wd_yX8_laysChain (kMo_laysChain l G qMo mo_all mo_past mo_aside mo_states mo_refused mo_causeKind mo_causeOrder mo_corner mo_linkVotes mo_linkE mo_linkF mo_follower mo_ahead mo_least mo_seam mo_above mo_below mo_text mo_textLong mo_place mo_value mo_numbers mo_not u6 hu6) ⟨rfl, rfl, Nat.le_of_ble_eq_true rfl, Nat.le_of_ble_eq_true rfl⟩ 0 rfl rfl rfl rfl rfl (Nat.le_of_ble_eq_true rfl) dX8_shows_28) ?_
      show V G p l e rmMo_shows s m args below meth c 8 A Q 0 0 (gMo G qMo mo_all mo_past mo_aside mo_states mo_refused mo_causeKind mo_causeOrder u6.1 u6.2.1 u6.2.2.1 u6.2.2.2.1 u6.2.2.2.2.1 u6.2.2.2.2.2 mo_least mo_seam mo_above mo_below mo_text mo_textLong mo_place mo_value mo_numbers mo_not) 31 [(0, .ref (qMo 0)), (1, .int p1), (2, .int p2)] []
      refine V_iconst E (v := (0 : Int32)) dX8_shows_31 (by decide) ?_
      refine V_istore_n E (lv' := [(0, .ref (qMo 0)), (1, .int p1), (2, .int p2), (3, .int (0 : Int32))]) dX8_shows_32 (by decide) rfl ?_
      refine V_bipush E (v := (8 : Int32)) dX8_shows_33 (by decide) ?_
      refine V_istore E (lv' := [(0, .ref (qMo 0)), (1, .int p1), (2, .int p2), (3, .int (0 : Int32)), (4, .int (8 : Int32))]) dX8_shows_35 (by decide) rfl ?_
      refine V_aload_n E 0 rfl dX8_shows_37 ?_
      refine gfX8_41 E 0 rfl rfl dX8_shows_38 ?_
      refine V_iload_n E 1 rfl dX8_shows_41 ?_
      obtain ⟨hi7, hf⟩ := asr_ok hf
      refine V_iald E 10 rfl hi7 dX8_shows_42 ?_
      obtain ⟨t8, ht8, hf⟩ := bd hf
      have ht8 := Option.some.inj ht8
      rw [ht8]
      refine V_istore E (lv' := [(0, .ref (qMo 0)), (1, .int p1), (2, .int p2), (3, .int (0 : Int32)), (4, .int (8 : Int32)), (5, .int t8)]) dX8_shows_43 (by decide) rfl ?_
      refine V_iload E 5 rfl dX8_shows_45 ?_
      refine V_iconst E (v := (-1 : Int32)) dX8_shows_47 (by decide) ?_
      obtain ⟨u10, hu10, hf⟩ := bd hf
      have J95 : V G p l e rmMo_shows s m args below meth c 8 A Q 0 0 (gMo G qMo mo_all mo_past mo_aside mo_states mo_refused mo_causeKind mo_causeOrder u6.1 u6.2.1 u6.2.2.1 u6.2.2.2.1 u6.2.2.2.2.1 u6.2.2.2.2.2 u10.2.1 u10.2.2 mo_above mo_below mo_text mo_textLong mo_place mo_value mo_numbers mo_not) 95 [(0, .ref (qMo 0)), (1, .int p1), (2, .int p2), (3, .int u10.1), (4, .int (8 : Int32))] [] := by
        refine V_aload_n E 0 rfl dX8_shows_95 ?_
        refine gfX8_38 E 0 rfl rfl dX8_shows_96 ?_
        refine V_iload_n E 1 rfl dX8_shows_99 ?_
        obtain ⟨hi19, hf⟩ := asr_ok hf
        refine V_iald E 9 rfl hi19 dX8_shows_100 ?_
        refine V_iconst E (v := (-1 : Int32)) dX8_shows_101 (by decide) ?_
        obtain ⟨u21, hu21, hf⟩ := bd hf
        have J127 : V G p l e rmMo_shows s m args below meth c 8 A Q 0 0 (gMo G qMo mo_all mo_past mo_aside mo_states mo_refused mo_causeKind mo_causeOrder u6.1 u6.2.1 u6.2.2.1 u6.2.2.2.1 u6.2.2.2.2.1 u6.2.2.2.2.2 u21.2.1 u21.2.2 mo_above mo_below mo_text mo_textLong mo_place mo_value mo_numbers mo_not) 127 [(3, .int u10.1), (4, .int u21.1)] [] := by
          refine V_iconst E (v := (0 : Int32)) dX8_shows_127 (by decide) ?_
          refine V_istore E (lv' := [(3, .int u10.1), (4, .int u21.1), (6, .int (0 : Int32))]) dX8_shows_128 (by decide) rfl ?_
          refine V_iload_n E 0 rfl dX8_shows_130 ?_
          refine V_istore E (lv' := [(3, .int u10.1), (4, .int u21.1), (6, .int (0 : Int32)), (7, .int u10.1)]) dX8_shows_131 (by decide) rfl ?_
          have L133 : ∀ (n : Nat) (a133_6 : Int32) (a133_7 : Int32) (u : Int32), fMo_shows_L133 u21.1 n a133_6 a133_7 = some u → (V G p l e rmMo_shows s m args below meth c 8 A Q 0 0 (gMo G qMo mo_all mo_past mo_aside mo_states mo_refused mo_causeKind mo_causeOrder u6.1 u6.2.1 u6.2.2.1 u6.2.2.2.1 u6.2.2.2.2.1 u6.2.2.2.2.2 u21.2.1 u21.2.2 mo_above mo_below mo_text mo_textLong mo_place mo_value mo_numbers mo_not) 155 [(6, .int u)] []) → V G p l e rmMo_shows s m args below meth c 8 A Q 0 0 (gMo G qMo mo_all mo_past mo_aside mo_states mo_refused mo_causeKind mo_causeOrder u6.1 u6.2.1 u6.2.2.1 u6.2.2.2.1 u6.2.2.2.2.1 u6.2.2.2.2.2 u21.2.1 u21.2.2 mo_above mo_below mo_text mo_textLong mo_place mo_value mo_numbers mo_not) 133 [(4, .int u21.1), (6, .int a133_6), (7, .int a133_7)] [] := by
            intro n
            induction n with
            | zero =>
              intro a133_6 a133_7 u hf hk
              rw [fMo_shows_L133] at hf
              cases hf
            | succ n ih =>
              intro a133_6 a133_7 u hf hk
              rw [fMo_shows_L133] at hf
              refine V_iload E 2 rfl dX8_shows_133 ?_
              refine V_iload E 0 rfl dX8_shows_135 ?_
              refine V_icmp_ge E (tgt := 155) dX8_shows_137 (by decide) (fun hc27 => ?_) (fun hc27 => ?_)
              · have hf := ip hc27 hf
                refine V_sub [1] rfl ?_
                rw [← Option.some.inj hf] at hk
                exact hk
              · have hf := iq hc27 hf
                refine V_iload E 1 rfl dX8_shows_140 ?_
                refine V_iconst E (v := (1 : Int32)) dX8_shows_142 (by decide) ?_
                refine V_iload E 2 rfl dX8_shows_143 ?_
                refine V_ishl E dX8_shows_145 ?_
                refine V_ior E dX8_shows_146 ?_
                obtain ⟨t28, ht28, hf⟩ := bd hf
                have ht28 := Option.some.inj ht28
                rw [ht28]
                refine V_istore E (lv' := [(4, .int u21.1), (6, .int t28), (7, .int a133_7)]) dX8_shows_147 (by decide) rfl ?_
                refine V_iinc E (v := (a133_7 + (1 : Int32))) (lv' := [(4, .int u21.1), (6, .int t28), (7, .int (a133_7 + (1 : Int32)))]) 2 rfl dX8_shows_149 rfl (by decide) rfl ?_
                refine V_goto E (tgt := 133) dX8_shows_152 (by decide) ?_
                exact ih t28 (a133_7 + (1 : Int32)) _ hf hk
          refine V_sub [1, 2, 3] rfl ?_
          obtain ⟨u26, hu26, hf⟩ := bd hf
          refine L133 FU (0 : Int32) u10.1 u26 hu26 ?_
          refine V_iload E 0 rfl dX8_shows_155 ?_
          have h9 := hret 157 [(6, .int u26)] dX8_shows_157
          rw [← (Option.some.inj hf)] at h9
          exact h9
        clear hf
        have hf := hu21
        refine V_icmp_eq E (tgt := 127) dX8_shows_102 (by decide) (fun hc20 => ?_) (fun hc20 => ?_)
        · have hf := ip hc20 hf
          refine V_sub [3, 4] rfl ?_
          rw [← Option.some.inj hf] at J127
          exact J127
        · have hf := iq hc20 hf
          refine V_aload_n E 0 rfl dX8_shows_105 ?_
          refine V_iload_n E 1 rfl dX8_shows_106 ?_
          refine V_iload_n E 2 rfl dX8_shows_107 ?_
          obtain ⟨u22, hu22, hf⟩ := bd hf
          refine V_frW E (Rn_V E (rest := []) mlX8_228 wd_yX8_hasRow (kMo_hasRow l G qMo p1 p2 mo_all mo_past mo_aside mo_states mo_refused mo_causeKind mo_causeOrder u6.1 u6.2.1 u6.2.2.1 u6.2.2.2.1 u6.2.2.2.2.1 u6.2.2.2.2.2 u10.2.1 u10.2.2 mo_above mo_below mo_text mo_textLong mo_place mo_value mo_numbers mo_not u22 hu22) ⟨rfl, rfl, Nat.le_of_ble_eq_true rfl, Nat.le_of_ble_eq_true rfl⟩ 0 rfl rfl rfl rfl rfl (Nat.le_of_ble_eq_true rfl) dX8_shows_108) ?_
          show V G p l e rmMo_shows s m args below meth c 8 A Q 0 0 (gMo G qMo mo_all mo_past mo_aside mo_states mo_refused mo_causeKind mo_causeOrder u6.1 u6.2.1 u6.2.2.1 u6.2.2.2.1 u6.2.2.2.2.1 u6.2.2.2.2.2 u10.2.1 u10.2.2 mo_above mo_below mo_text mo_textLong mo_place mo_value mo_numbers mo_not) 111 [(0, .ref (qMo 0)), (1, .int p1), (2, .int p2), (3, .int u10.1), (4, .int (8 : Int32))] [.int u22]
          refine V_if_eq E (tgt := 127) dX8_shows_111 (by decide) (fun hc23 => ?_) (fun hc23 => ?_)
          · have hf := ip hc23 hf
            refine V_sub [3, 4] rfl ?_
            rw [← Option.some.inj hf] at J127
            exact J127
          · have hf := iq hc23 hf
            refine V_aload_n E 0 rfl dX8_shows_114 ?_
            refine V_iload_n E 1 rfl dX8_shows_115 ?_
            obtain ⟨u24, hu24, hf⟩ := bd hf
            refine V_frW E (Rn_V E (rest := []) mlX8_237 wd_yX8_laysSeam (kMo_laysSeam l G qMo p1 mo_all mo_past mo_aside mo_states mo_refused mo_causeKind mo_causeOrder u6.1 u6.2.1 u6.2.2.1 u6.2.2.2.1 u6.2.2.2.2.1 u6.2.2.2.2.2 u10.2.1 u10.2.2 mo_above mo_below mo_text mo_textLong mo_place mo_value mo_numbers mo_not u24 hu24) ⟨rfl, rfl, Nat.le_of_ble_eq_true rfl, Nat.le_of_ble_eq_true rfl⟩ 0 rfl rfl rfl rfl rfl (Nat.le_of_ble_eq_true rfl) dX8_shows_116) ?_
            show V G p l e rmMo_shows s m args below meth c 8 A Q 0 0 (gMo G qMo mo_all mo_past mo_aside mo_states mo_refused mo_causeKind mo_causeOrder u6.1 u6.2.1 u6.2.2.1 u6.2.2.2.1 u6.2.2.2.2.1 u6.2.2.2.2.2 u24.1 u24.2 mo_above mo_below mo_text mo_textLong mo_place mo_value mo_numbers mo_not) 119 [(0, .ref (qMo 0)), (1, .int p1), (2, .int p2), (3, .int u10.1), (4, .int (8 : Int32))] []
            refine V_aload_n E 0 rfl dX8_shows_119 ?_
            refine gfX8_47 E 0 rfl rfl dX8_shows_120 ?_
            refine V_iload_n E 2 rfl dX8_shows_123 ?_
            obtain ⟨hi25, hf⟩ := asr_ok hf
            refine V_iald E 12 rfl hi25 dX8_shows_124 ?_
            refine V_istore E (lv' := [(0, .ref (qMo 0)), (1, .int p1), (2, .int p2), (3, .int u10.1), (4, .int (u24.2 p2.toNatClampNeg))]) dX8_shows_125 (by decide) rfl ?_
            refine V_sub [3, 4] rfl ?_
            rw [← Option.some.inj hf] at J127
            exact J127
      clear hf
      have hf := hu10
      refine V_icmp_eq E (tgt := 95) dX8_shows_48 (by decide) (fun hc9 => ?_) (fun hc9 => ?_)
      · have hf := ip hc9 hf
        refine V_sub [0, 1, 2, 3, 4] rfl ?_
        rw [← Option.some.inj hf] at J95
        exact J95
      · have hf := iq hc9 hf
        refine V_aload_n E 0 rfl dX8_shows_51 ?_
        refine V_iload E 5 rfl dX8_shows_52 ?_
        refine V_iload_n E 2 rfl dX8_shows_54 ?_
        refine V_aload_n E 0 rfl dX8_shows_55 ?_
        refine V_iload E 5 rfl dX8_shows_56 ?_
        obtain ⟨u11, hu11, hf⟩ := bd hf
        refine V_frW E (Rn_V E (rest := [.int p2, .int t8, .ref (qMo 0)]) mlX8_202 wd_yX8_eOf (kMo_eOf l G qMo t8 mo_all mo_past mo_aside mo_states mo_refused mo_causeKind mo_causeOrder u6.1 u6.2.1 u6.2.2.1 u6.2.2.2.1 u6.2.2.2.2.1 u6.2.2.2.2.2 mo_least mo_seam mo_above mo_below mo_text mo_textLong mo_place mo_value mo_numbers mo_not u11 hu11) ⟨rfl, rfl, Nat.le_of_ble_eq_true rfl, Nat.le_of_ble_eq_true rfl⟩ 0 rfl rfl rfl rfl rfl (Nat.le_of_ble_eq_true rfl) dX8_shows_58) ?_
        show V G p l e rmMo_shows s m args below meth c 8 A Q 0 0 (gMo G qMo mo_all mo_past mo_aside mo_states mo_refused mo_causeKind mo_causeOrder u6.1 u6.2.1 u6.2.2.1 u6.2.2.2.1 u6.2.2.2.2.1 u6.2.2.2.2.2 mo_least mo_seam mo_above mo_below mo_text mo_textLong mo_place mo_value mo_numbers mo_not) 61 [(0, .ref (qMo 0)), (1, .int p1), (2, .int p2), (3, .int (0 : Int32)), (4, .int (8 : Int32)), (5, .int t8)] [.int u11, .int p2, .int t8, .ref (qMo 0)]
        refine V_iadd E dX8_shows_61 ?_
        obtain ⟨u12, hu12, hf⟩ := bd hf
        refine V_frW E (Rn_V E (rest := []) mlX8_228 wd_yX8_hasRow (kMo_hasRow l G qMo t8 (p2 + u11) mo_all mo_past mo_aside mo_states mo_refused mo_causeKind mo_causeOrder u6.1 u6.2.1 u6.2.2.1 u6.2.2.2.1 u6.2.2.2.2.1 u6.2.2.2.2.2 mo_least mo_seam mo_above mo_below mo_text mo_textLong mo_place mo_value mo_numbers mo_not u12 hu12) ⟨rfl, rfl, Nat.le_of_ble_eq_true rfl, Nat.le_of_ble_eq_true rfl⟩ 0 rfl rfl rfl rfl rfl (Nat.le_of_ble_eq_true rfl) dX8_shows_62) ?_
        show V G p l e rmMo_shows s m args below meth c 8 A Q 0 0 (gMo G qMo mo_all mo_past mo_aside mo_states mo_refused mo_causeKind mo_causeOrder u6.1 u6.2.1 u6.2.2.1 u6.2.2.2.1 u6.2.2.2.2.1 u6.2.2.2.2.2 mo_least mo_seam mo_above mo_below mo_text mo_textLong mo_place mo_value mo_numbers mo_not) 65 [(0, .ref (qMo 0)), (1, .int p1), (2, .int p2), (3, .int (0 : Int32)), (4, .int (8 : Int32)), (5, .int t8)] [.int u12]
        refine V_if_eq E (tgt := 95) dX8_shows_65 (by decide) (fun hc13 => ?_) (fun hc13 => ?_)
        · have hf := ip hc13 hf
          refine V_sub [0, 1, 2, 3, 4] rfl ?_
          rw [← Option.some.inj hf] at J95
          exact J95
        · have hf := iq hc13 hf
          refine V_aload_n E 0 rfl dX8_shows_68 ?_
          refine V_iload E 5 rfl dX8_shows_69 ?_
          obtain ⟨u14, hu14, hf⟩ := bd hf
          refine V_frW E (Rn_V E (rest := []) mlX8_237 wd_yX8_laysSeam (kMo_laysSeam l G qMo t8 mo_all mo_past mo_aside mo_states mo_refused mo_causeKind mo_causeOrder u6.1 u6.2.1 u6.2.2.1 u6.2.2.2.1 u6.2.2.2.2.1 u6.2.2.2.2.2 mo_least mo_seam mo_above mo_below mo_text mo_textLong mo_place mo_value mo_numbers mo_not u14 hu14) ⟨rfl, rfl, Nat.le_of_ble_eq_true rfl, Nat.le_of_ble_eq_true rfl⟩ 0 rfl rfl rfl rfl rfl (Nat.le_of_ble_eq_true rfl) dX8_shows_71) ?_
          show V G p l e rmMo_shows s m args below meth c 8 A Q 0 0 (gMo G qMo mo_all mo_past mo_aside mo_states mo_refused mo_causeKind mo_causeOrder u6.1 u6.2.1 u6.2.2.1 u6.2.2.2.1 u6.2.2.2.2.1 u6.2.2.2.2.2 u14.1 u14.2 mo_above mo_below mo_text mo_textLong mo_place mo_value mo_numbers mo_not) 74 [(0, .ref (qMo 0)), (1, .int p1), (2, .int p2), (3, .int (0 : Int32)), (4, .int (8 : Int32)), (5, .int t8)] []
          refine V_aload_n E 0 rfl dX8_shows_74 ?_
          refine gfX8_47 E 0 rfl rfl dX8_shows_75 ?_
          refine V_iload_n E 2 rfl dX8_shows_78 ?_
          refine V_aload_n E 0 rfl dX8_shows_79 ?_
          refine V_iload E 5 rfl dX8_shows_80 ?_
          obtain ⟨u15, hu15, hf⟩ := bd hf
          refine V_frW E (Rn_V E (rest := [.int p2, .ref (qMo 12)]) mlX8_202 wd_yX8_eOf (kMo_eOf l G qMo t8 mo_all mo_past mo_aside mo_states mo_refused mo_causeKind mo_causeOrder u6.1 u6.2.1 u6.2.2.1 u6.2.2.2.1 u6.2.2.2.2.1 u6.2.2.2.2.2 u14.1 u14.2 mo_above mo_below mo_text mo_textLong mo_place mo_value mo_numbers mo_not u15 hu15) ⟨rfl, rfl, Nat.le_of_ble_eq_true rfl, Nat.le_of_ble_eq_true rfl⟩ 0 rfl rfl rfl rfl rfl (Nat.le_of_ble_eq_true rfl) dX8_shows_82) ?_
          show V G p l e rmMo_shows s m args below meth c 8 A Q 0 0 (gMo G qMo mo_all mo_past mo_aside mo_states mo_refused mo_causeKind mo_causeOrder u6.1 u6.2.1 u6.2.2.1 u6.2.2.2.1 u6.2.2.2.2.1 u6.2.2.2.2.2 u14.1 u14.2 mo_above mo_below mo_text mo_textLong mo_place mo_value mo_numbers mo_not) 85 [(0, .ref (qMo 0)), (1, .int p1), (2, .int p2), (3, .int (0 : Int32)), (4, .int (8 : Int32)), (5, .int t8)] [.int u15, .int p2, .ref (qMo 12)]
          refine V_iadd E dX8_shows_85 ?_
          obtain ⟨hi16, hf⟩ := asr_ok hf
          refine V_iald E 12 rfl hi16 dX8_shows_86 ?_
          refine V_aload_n E 0 rfl dX8_shows_87 ?_
          refine V_iload E 5 rfl dX8_shows_88 ?_
          obtain ⟨u17, hu17, hf⟩ := bd hf
          refine V_frW E (Rn_V E (rest := [.int (u14.2 (p2 + u15).toNatClampNeg)]) mlX8_205 wd_yX8_fOf (kMo_fOf l G qMo t8 mo_all mo_past mo_aside mo_states mo_refused mo_causeKind mo_causeOrder u6.1 u6.2.1 u6.2.2.1 u6.2.2.2.1 u6.2.2.2.2.1 u6.2.2.2.2.2 u14.1 u14.2 mo_above mo_below mo_text mo_textLong mo_place mo_value mo_numbers mo_not u17 hu17) ⟨rfl, rfl, Nat.le_of_ble_eq_true rfl, Nat.le_of_ble_eq_true rfl⟩ 0 rfl rfl rfl rfl rfl (Nat.le_of_ble_eq_true rfl) dX8_shows_90) ?_
          show V G p l e rmMo_shows s m args below meth c 8 A Q 0 0 (gMo G qMo mo_all mo_past mo_aside mo_states mo_refused mo_causeKind mo_causeOrder u6.1 u6.2.1 u6.2.2.1 u6.2.2.2.1 u6.2.2.2.2.1 u6.2.2.2.2.2 u14.1 u14.2 mo_above mo_below mo_text mo_textLong mo_place mo_value mo_numbers mo_not) 93 [(0, .ref (qMo 0)), (1, .int p1), (2, .int p2), (3, .int (0 : Int32)), (4, .int (8 : Int32)), (5, .int t8)] [.int u17, .int (u14.2 (p2 + u15).toNatClampNeg)]
          refine V_isub E dX8_shows_93 ?_
          obtain ⟨t18, ht18, hf⟩ := bd hf
          have ht18 := Option.some.inj ht18
          rw [ht18]
          refine V_istore_n E (lv' := [(0, .ref (qMo 0)), (1, .int p1), (2, .int p2), (3, .int t18), (4, .int (8 : Int32)), (5, .int t8)]) dX8_shows_94 (by decide) rfl ?_
          refine V_sub [0, 1, 2, 3, 4] rfl ?_
          rw [← Option.some.inj hf] at J95
          exact J95
    · have hf := ip hc5 hf
      refine V_aload_n E 0 rfl dX8_shows_20 ?_
      refine V_bipush E (v := (-2 : Int32)) dX8_shows_21 (by decide) ?_
      obtain ⟨u29, hu29, hf⟩ := bd hf
      refine V_frW E (Rn_V E (rest := []) mlX8_91 wd_yX8_refuses (kMo_refuses l G qMo (-2 : Int32) mo_all mo_past mo_aside mo_states mo_refused mo_causeKind mo_causeOrder mo_corner mo_linkVotes mo_linkE mo_linkF mo_follower mo_ahead mo_least mo_seam mo_above mo_below mo_text mo_textLong mo_place mo_value mo_numbers mo_not u29 hu29) ⟨rfl, rfl, Nat.le_of_ble_eq_true rfl, Nat.le_of_ble_eq_true rfl⟩ 0 rfl rfl rfl rfl rfl (Nat.le_of_ble_eq_true rfl) dX8_shows_23) ?_
      show V G p l e rmMo_shows s m args below meth c 8 A Q 0 0 (gMo G qMo mo_all mo_past mo_aside mo_states u29.2 mo_causeKind mo_causeOrder mo_corner mo_linkVotes mo_linkE mo_linkF mo_follower mo_ahead mo_least mo_seam mo_above mo_below mo_text mo_textLong mo_place mo_value mo_numbers mo_not) 26 [(0, .ref (qMo 0)), (1, .int p1), (2, .int p2)] [.int u29.1]
      have h9 := hret 26 [(0, .ref (qMo 0)), (1, .int p1), (2, .int p2)] dX8_shows_26
      rw [← (Option.some.inj hf)] at h9
      exact h9
abbrev rmMo_seen : Room := { frames := 8, cells := 0, slots := 0, locals := 186 }
theorem wd_yX8_seen : wdV yX8_seen cX8_seen 10 (some .int) 3 := ⟨wc_yX8_seen, wi_yX8_seen, wse_yX8_seen, wini_X8, by decide +kernel, by decide +kernel, by decide +kernel⟩
set_option maxHeartbeats 4000000 in
set_option maxRecDepth 100000 in
theorem kMo_seen (l : Launch) (G : wG) (qMo : Nat → Nat) (p1 : Int32) (p2 : Int32) (p3 : Int32) (mo_all : Nat → Int32) (mo_past : Nat → Int32) (mo_aside : Nat → Int32) (mo_states : Int32) (mo_refused : Nat → Int32) (mo_causeKind : Int32) (mo_causeOrder : Int32) (mo_corner : Nat → Int32) (mo_linkVotes : Nat → Int32) (mo_linkE : Nat → Int32) (mo_linkF : Nat → Int32) (mo_follower : Nat → Int32) (mo_ahead : Nat → Int32) (mo_least : Nat → Int32) (mo_seam : Nat → Int32) (mo_above : Int64) (mo_below : Int64) (mo_text : Nat → Int32) (mo_textLong : Int32) (mo_place : Int32) (mo_value : Int32) (mo_numbers : Nat → Int32) (mo_not : Int32) (o : Int32 × (Nat → Int32) × (Nat → Int32) × (Nat → Int32) × (Nat → Int32) × (Nat → Int32) × (Nat → Int32) × (Nat → Int32) × Int64 × Int64) (hf : fMo_seen p1 p2 p3 mo_all mo_refused mo_corner mo_linkVotes mo_linkE mo_linkF mo_follower mo_ahead mo_above mo_below = some o) : Ct G l yX8_seen cX8_seen 10 (some .int) rmMo_seen [.ref (qMo 0), .int p1, .int p2, .int p3] (gMo G qMo mo_all mo_past mo_aside mo_states mo_refused mo_causeKind mo_causeOrder mo_corner mo_linkVotes mo_linkE mo_linkF mo_follower mo_ahead mo_least mo_seam mo_above mo_below mo_text mo_textLong mo_place mo_value mo_numbers mo_not) (some (.int o.1)) (gMo G qMo mo_all mo_past mo_aside mo_states o.2.1 mo_causeKind mo_causeOrder o.2.2.1 o.2.2.2.1 o.2.2.2.2.1 o.2.2.2.2.2.1 o.2.2.2.2.2.2.1 o.2.2.2.2.2.2.2.1 mo_least mo_seam o.2.2.2.2.2.2.2.2.1 o.2.2.2.2.2.2.2.2.2 mo_text mo_textLong mo_place mo_value mo_numbers mo_not) := by
  refine Ct.ofI (by decide +kernel) (Nat.le_of_ble_eq_true rfl) (fun p e s m args below meth c A Q E hret => ?_)
  unfold fMo_seen at hf
  show V G p l e rmMo_seen s m args below meth c 10 A Q 0 0 (gMo G qMo mo_all mo_past mo_aside mo_states mo_refused mo_causeKind mo_causeOrder mo_corner mo_linkVotes mo_linkE mo_linkF mo_follower mo_ahead mo_least mo_seam mo_above mo_below mo_text mo_textLong mo_place mo_value mo_numbers mo_not) 0 [(0, .ref (qMo 0)), (1, .int p1), (2, .int p2), (3, .int p3)] []
  refine V_aload_n E 0 rfl dX8_seen_0 ?_
  refine V_iload_n E 1 rfl dX8_seen_1 ?_
  obtain ⟨u1, hu1, hf⟩ := bd hf
  refine V_frW E (Rn_V E (rest := []) mlX8_128 wd_yX8_isPicture (kMo_isPicture l G qMo p1 mo_all mo_past mo_aside mo_states mo_refused mo_causeKind mo_causeOrder mo_corner mo_linkVotes mo_linkE mo_linkF mo_follower mo_ahead mo_least mo_seam mo_above mo_below mo_text mo_textLong mo_place mo_value mo_numbers mo_not u1 hu1) ⟨rfl, rfl, Nat.le_of_ble_eq_true rfl, Nat.le_of_ble_eq_true rfl⟩ 0 rfl rfl rfl rfl rfl (Nat.le_of_ble_eq_true rfl) dX8_seen_2) ?_
  show V G p l e rmMo_seen s m args below meth c 10 A Q 0 0 (gMo G qMo mo_all mo_past mo_aside mo_states mo_refused mo_causeKind mo_causeOrder mo_corner mo_linkVotes mo_linkE mo_linkF mo_follower mo_ahead mo_least mo_seam mo_above mo_below mo_text mo_textLong mo_place mo_value mo_numbers mo_not) 5 [(0, .ref (qMo 0)), (1, .int p1), (2, .int p2), (3, .int p3)] [.int u1]
  refine V_if_eq E (tgt := 16) dX8_seen_5 (by decide) (fun hc2 => ?_) (fun hc2 => ?_)
  · have hf := ip hc2 hf
    refine V_aload_n E 0 rfl dX8_seen_16 ?_
    refine V_bipush E (v := (-2 : Int32)) dX8_seen_17 (by decide) ?_
    obtain ⟨u3, hu3, hf⟩ := bd hf
    refine V_frW E (Rn_V E (rest := []) mlX8_91 wd_yX8_refuses (kMo_refuses l G qMo (-2 : Int32) mo_all mo_past mo_aside mo_states mo_refused mo_causeKind mo_causeOrder mo_corner mo_linkVotes mo_linkE mo_linkF mo_follower mo_ahead mo_least mo_seam mo_above mo_below mo_text mo_textLong mo_place mo_value mo_numbers mo_not u3 hu3) ⟨rfl, rfl, Nat.le_of_ble_eq_true rfl, Nat.le_of_ble_eq_true rfl⟩ 0 rfl rfl rfl rfl rfl (Nat.le_of_ble_eq_true rfl) dX8_seen_19) ?_
    show V G p l e rmMo_seen s m args below meth c 10 A Q 0 0 (gMo G qMo mo_all mo_past mo_aside mo_states u3.2 mo_causeKind mo_causeOrder mo_corner mo_linkVotes mo_linkE mo_linkF mo_follower mo_ahead mo_least mo_seam mo_above mo_below mo_text mo_textLong mo_place mo_value mo_numbers mo_not) 22 [(0, .ref (qMo 0)), (1, .int p1), (2, .int p2), (3, .int p3)] [.int u3.1]
    have h9 := hret 22 [(0, .ref (qMo 0)), (1, .int p1), (2, .int p2), (3, .int p3)] dX8_seen_22
    rw [← (Option.some.inj hf)] at h9
    exact h9
  · have hf := iq hc2 hf
    refine V_iload_n E 2 rfl dX8_seen_8 ?_
    refine V_iload_n E 3 rfl dX8_seen_9 ?_
    obtain ⟨u4, hu4, hf⟩ := bd hf
    refine V_fr0 E (Rn_S E (rest := []) mlX8_132 wd_yX8_isCell (kMo_isCell l G p2 p3 u4 hu4) ⟨rfl, rfl, Nat.le_of_ble_eq_true rfl, Nat.le_of_ble_eq_true rfl⟩ rfl rfl (Nat.le_of_ble_eq_true rfl) dX8_seen_10) ?_
    show V G p l e rmMo_seen s m args below meth c 10 A Q 0 0 (gMo G qMo mo_all mo_past mo_aside mo_states mo_refused mo_causeKind mo_causeOrder mo_corner mo_linkVotes mo_linkE mo_linkF mo_follower mo_ahead mo_least mo_seam mo_above mo_below mo_text mo_textLong mo_place mo_value mo_numbers mo_not) 13 [(0, .ref (qMo 0)), (1, .int p1), (2, .int p2), (3, .int p3)] [.int u4]
    refine V_if_ne E (tgt := 23) dX8_seen_13 (by decide) (fun hc5 => ?_) (fun hc5 => ?_)
    · have hf := iq hc5 hf
      refine V_aload_n E 0 rfl dX8_seen_23 ?_
      obtain ⟨u6, hu6, hf⟩ := bd hf
      refine V_frW E (Rn_V E (rest := []) mlX8_196 wd_yX8_laysChain (kMo_laysChain l G qMo mo_all mo_past mo_aside mo_states mo_refused mo_causeKind mo_causeOrder mo_corner mo_linkVotes mo_linkE mo_linkF mo_follower mo_ahead mo_least mo_seam mo_above mo_below mo_text mo_textLong mo_place mo_value mo_numbers mo_not u6 hu6) ⟨rfl, rfl, Nat.le_of_ble_eq_true rfl, Nat.le_of_ble_eq_true rfl⟩ 0 rfl rfl rfl rfl rfl (Nat.le_of_ble_eq_true rfl) dX8_seen_24) ?_
      show V G p l e rmMo_seen s m args below meth c 10 A Q 0 0 (gMo G qMo mo_all mo_past mo_aside mo_states mo_refused mo_causeKind mo_causeOrder u6.1 u6.2.1 u6.2.2.1 u6.2.2.2.1 u6.2.2.2.2.1 u6.2.2.2.2.2 mo_least mo_seam mo_above mo_below mo_text mo_textLong mo_place mo_value mo_numbers mo_not) 27 [(0, .ref (qMo 0)), (1, .int p1), (2, .int p2), (3, .int p3)] []
      refine V_aload_n E 0 rfl dX8_seen_27 ?_
      refine V_iload_n E 1 rfl dX8_seen_28 ?_
      obtain ⟨u7, hu7, hf⟩ := bd hf
      refine V_frW E (Rn_V E (rest := []) mlX8_276 wd_yX8_laysLevel (kMo_laysLevel l G qMo p1 mo_all mo_past mo_aside mo_states mo_refused mo_causeKind mo_causeOrder u6.1 u6.2.1 u6.2.2.1 u6.2.2.2.1 u6.2.2.2.2.1 u6.2.2.2.2.2 mo_least mo_seam mo_above mo_below mo_text mo_textLong mo_place mo_value mo_numbers mo_not u7 hu7) ⟨rfl, rfl, Nat.le_of_ble_eq_true rfl, Nat.le_of_ble_eq_true rfl⟩ 0 rfl rfl rfl rfl rfl (Nat.le_of_ble_eq_true rfl) dX8_seen_29) ?_
      show V G p l e rmMo_seen s m args below meth c 10 A Q 0 0 (gMo G qMo mo_all mo_past mo_aside mo_states mo_refused mo_causeKind mo_causeOrder u6.1 u6.2.1 u6.2.2.1 u6.2.2.2.1 u6.2.2.2.2.1 u6.2.2.2.2.2 mo_least mo_seam u7.1 u7.2 mo_text mo_textLong mo_place mo_value mo_numbers mo_not) 32 [(0, .ref (qMo 0)), (1, .int p1), (2, .int p2), (3, .int p3)] []
      refine V_ldc2 E (v := (2 : Int64)) dX8_seen_32 kX8_112 ?_
      refine V_aload_n E 0 rfl dX8_seen_35 ?_
      refine V_iload_n E 1 rfl dX8_seen_36 ?_
      refine V_iload_n E 2 rfl dX8_seen_37 ?_
      refine V_iload_n E 3 rfl dX8_seen_38 ?_
      obtain ⟨u8, hu8, hf⟩ := bd hf
      refine V_frW E (Rn_V E (rest := [.long (2 : Int64)]) mlX8_143 wd_yX8_at (kMo_at l G qMo p1 p2 p3 mo_all mo_past mo_aside mo_states mo_refused mo_causeKind mo_causeOrder u6.1 u6.2.1 u6.2.2.1 u6.2.2.2.1 u6.2.2.2.2.1 u6.2.2.2.2.2 mo_least mo_seam u7.1 u7.2 mo_text mo_textLong mo_place mo_value mo_numbers mo_not u8 hu8) ⟨rfl, rfl, Nat.le_of_ble_eq_true rfl, Nat.le_of_ble_eq_true rfl⟩ 0 rfl rfl rfl rfl rfl (Nat.le_of_ble_eq_true rfl) dX8_seen_39) ?_
      show V G p l e rmMo_seen s m args below meth c 10 A Q 0 0 (gMo G qMo mo_all mo_past mo_aside mo_states mo_refused mo_causeKind mo_causeOrder u6.1 u6.2.1 u6.2.2.1 u6.2.2.2.1 u6.2.2.2.2.1 u6.2.2.2.2.2 mo_least mo_seam u7.1 u7.2 mo_text mo_textLong mo_place mo_value mo_numbers mo_not) 42 [(0, .ref (qMo 0)), (1, .int p1), (2, .int p2), (3, .int p3)] [.int u8, .long (2 : Int64)]
      refine V_i2l E dX8_seen_42 ?_
      refine V_aload_n E 0 rfl dX8_seen_43 ?_
      refine gfX8_255 E 0 rfl rfl dX8_seen_44 ?_
      refine V_lmul E dX8_seen_47 ?_
      refine V_aload_n E 0 rfl dX8_seen_48 ?_
      refine gfX8_251 E 0 rfl rfl dX8_seen_49 ?_
      refine V_ladd E dX8_seen_52 ?_
      refine V_lmul E dX8_seen_53 ?_
      refine V_aload_n E 0 rfl dX8_seen_54 ?_
      refine gfX8_255 E 0 rfl rfl dX8_seen_55 ?_
      refine V_ladd E dX8_seen_58 ?_
      obtain ⟨t9, ht9, hf⟩ := bd hf
      have ht9 := Option.some.inj ht9
      rw [ht9]
      refine V_lstore E (lv' := [(0, .ref (qMo 0)), (1, .int p1), (2, .int p2), (3, .int p3), (4, .long t9)]) dX8_seen_59 (by decide) rfl ?_
      refine V_ldc2 E (v := (2 : Int64)) dX8_seen_61 kX8_112 ?_
      refine V_aload_n E 0 rfl dX8_seen_64 ?_
      refine gfX8_255 E 0 rfl rfl dX8_seen_65 ?_
      refine V_lmul E dX8_seen_68 ?_
      refine V_lstore E (lv' := [(0, .ref (qMo 0)), (1, .int p1), (2, .int p2), (3, .int p3), (4, .long t9), (6, .long ((2 : Int64) * u7.2))]) dX8_seen_69 (by decide) rfl ?_
      refine V_lload E 4 rfl dX8_seen_71 ?_
      refine V_lload E 5 rfl dX8_seen_73 ?_
      obtain ⟨hz10, hf⟩ := asr_ok hf
      refine V_ldiv E dX8_seen_75 hz10 ?_
      refine V_lload E 4 rfl dX8_seen_76 ?_
      refine V_lload E 5 rfl dX8_seen_78 ?_
      obtain ⟨hz11, hf⟩ := asr_ok hf
      refine V_lrem E dX8_seen_80 hz11 ?_
      refine V_lconst E (v := (0 : Int64)) dX8_seen_81 (by decide) ?_
      refine V_lcmp E dX8_seen_82 ?_
      obtain ⟨u13, hu13, hf⟩ := bd hf
      have J91 : V G p l e rmMo_seen s m args below meth c 10 A Q 0 0 (gMo G qMo mo_all mo_past mo_aside mo_states mo_refused mo_causeKind mo_causeOrder u6.1 u6.2.1 u6.2.2.1 u6.2.2.2.1 u6.2.2.2.2.1 u6.2.2.2.2.2 mo_least mo_seam u7.1 u7.2 mo_text mo_textLong mo_place mo_value mo_numbers mo_not) 91 [] [.long u13, .long (t9 / ((2 : Int64) * u7.2))] := by
        refine V_lsub E dX8_seen_91 ?_
        obtain ⟨t14, ht14, hf⟩ := bd hf
        have ht14 := Option.some.inj ht14
        rw [ht14]
        refine V_lstore E (lv' := [(8, .long t14)]) dX8_seen_92 (by decide) rfl ?_
        refine V_lload E 0 rfl dX8_seen_94 ?_
        refine V_lconst E (v := (0 : Int64)) dX8_seen_96 (by decide) ?_
        refine V_lcmp E dX8_seen_97 ?_
        refine V_if_ge E (tgt := 105) dX8_seen_98 (by decide) (fun hc15 => ?_) (fun hc15 => ?_)
        · have hf := ip hc15 hf
          refine V_lload E 0 rfl dX8_seen_105 ?_
          refine V_ldc2 E (v := (63 : Int64)) dX8_seen_107 kX8_107 ?_
          refine V_lcmp E dX8_seen_110 ?_
          refine V_if_le E (tgt := 119) dX8_seen_111 (by decide) (fun hc16 => ?_) (fun hc16 => ?_)
          · have hf := ip hc16 hf
            refine V_lload E 0 rfl dX8_seen_119 ?_
            refine V_l2i E dX8_seen_121 ?_
            have h9 := hret 122 [(8, .long t14)] dX8_seen_122
            rw [← (Option.some.inj hf)] at h9
            exact h9
          · have hf := iq hc16 hf
            refine V_bipush E (v := (63 : Int32)) dX8_seen_114 (by decide) ?_
            refine V_goto E (tgt := 122) dX8_seen_116 (by decide) ?_
            have h9 := hret 122 [(8, .long t14)] dX8_seen_122
            rw [← (Option.some.inj hf)] at h9
            exact h9
        · have hf := iq hc15 hf
          refine V_iconst E (v := (0 : Int32)) dX8_seen_101 (by decide) ?_
          refine V_goto E (tgt := 122) dX8_seen_102 (by decide) ?_
          have h9 := hret 122 [(8, .long t14)] dX8_seen_122
          rw [← (Option.some.inj hf)] at h9
          exact h9
      clear hf
      have hf := hu13
      refine V_if_ge E (tgt := 90) dX8_seen_83 (by decide) (fun hc12 => ?_) (fun hc12 => ?_)
      · have hf := ip hc12 hf
        refine V_lconst E (v := (0 : Int64)) dX8_seen_90 (by decide) ?_
        refine V_sub [] rfl ?_
        rw [← Option.some.inj hf] at J91
        exact J91
      · have hf := iq hc12 hf
        refine V_lconst E (v := (1 : Int64)) dX8_seen_86 (by decide) ?_
        refine V_goto E (tgt := 91) dX8_seen_87 (by decide) ?_
        refine V_sub [] rfl ?_
        rw [← Option.some.inj hf] at J91
        exact J91
    · have hf := ip hc5 hf
      refine V_aload_n E 0 rfl dX8_seen_16 ?_
      refine V_bipush E (v := (-2 : Int32)) dX8_seen_17 (by decide) ?_
      obtain ⟨u17, hu17, hf⟩ := bd hf
      refine V_frW E (Rn_V E (rest := []) mlX8_91 wd_yX8_refuses (kMo_refuses l G qMo (-2 : Int32) mo_all mo_past mo_aside mo_states mo_refused mo_causeKind mo_causeOrder mo_corner mo_linkVotes mo_linkE mo_linkF mo_follower mo_ahead mo_least mo_seam mo_above mo_below mo_text mo_textLong mo_place mo_value mo_numbers mo_not u17 hu17) ⟨rfl, rfl, Nat.le_of_ble_eq_true rfl, Nat.le_of_ble_eq_true rfl⟩ 0 rfl rfl rfl rfl rfl (Nat.le_of_ble_eq_true rfl) dX8_seen_19) ?_
      show V G p l e rmMo_seen s m args below meth c 10 A Q 0 0 (gMo G qMo mo_all mo_past mo_aside mo_states u17.2 mo_causeKind mo_causeOrder mo_corner mo_linkVotes mo_linkE mo_linkF mo_follower mo_ahead mo_least mo_seam mo_above mo_below mo_text mo_textLong mo_place mo_value mo_numbers mo_not) 22 [(0, .ref (qMo 0)), (1, .int p1), (2, .int p2), (3, .int p3)] [.int u17.1]
      have h9 := hret 22 [(0, .ref (qMo 0)), (1, .int p1), (2, .int p2), (3, .int p3)] dX8_seen_22
      rw [← (Option.some.inj hf)] at h9
      exact h9
abbrev rmMo_type : Room := { frames := 1, cells := 0, slots := 0, locals := 25 }
theorem wd_yX8_type : wdV yX8_type cX8_type 2 (some .int) 1 := ⟨wc_yX8_type, wi_yX8_type, wse_yX8_type, wini_X8, by decide +kernel, by decide +kernel, by decide +kernel⟩
set_option maxHeartbeats 4000000 in
set_option maxRecDepth 100000 in
theorem kMo_type (l : Launch) (G : wG) (qMo : Nat → Nat) (p1 : Int32) (mo_all : Nat → Int32) (mo_past : Nat → Int32) (mo_aside : Nat → Int32) (mo_states : Int32) (mo_refused : Nat → Int32) (mo_causeKind : Int32) (mo_causeOrder : Int32) (mo_corner : Nat → Int32) (mo_linkVotes : Nat → Int32) (mo_linkE : Nat → Int32) (mo_linkF : Nat → Int32) (mo_follower : Nat → Int32) (mo_ahead : Nat → Int32) (mo_least : Nat → Int32) (mo_seam : Nat → Int32) (mo_above : Int64) (mo_below : Int64) (mo_text : Nat → Int32) (mo_textLong : Int32) (mo_place : Int32) (mo_value : Int32) (mo_numbers : Nat → Int32) (mo_not : Int32) (o : Int32 × (Nat → Int32) × (Nat → Int32) × Int32) (hf : fMo_type p1 mo_refused mo_text mo_textLong = some o) : Ct G l yX8_type cX8_type 2 (some .int) rmMo_type [.ref (qMo 0), .int p1] (gMo G qMo mo_all mo_past mo_aside mo_states mo_refused mo_causeKind mo_causeOrder mo_corner mo_linkVotes mo_linkE mo_linkF mo_follower mo_ahead mo_least mo_seam mo_above mo_below mo_text mo_textLong mo_place mo_value mo_numbers mo_not) (some (.int o.1)) (gMo G qMo mo_all mo_past mo_aside mo_states o.2.1 mo_causeKind mo_causeOrder mo_corner mo_linkVotes mo_linkE mo_linkF mo_follower mo_ahead mo_least mo_seam mo_above mo_below o.2.2.1 o.2.2.2 mo_place mo_value mo_numbers mo_not) := by
  refine Ct.ofI (by decide +kernel) (Nat.le_of_ble_eq_true rfl) (fun p e s m args below meth c A Q E hret => ?_)
  unfold fMo_type at hf
  show V G p l e rmMo_type s m args below meth c 2 A Q 0 0 (gMo G qMo mo_all mo_past mo_aside mo_states mo_refused mo_causeKind mo_causeOrder mo_corner mo_linkVotes mo_linkE mo_linkF mo_follower mo_ahead mo_least mo_seam mo_above mo_below mo_text mo_textLong mo_place mo_value mo_numbers mo_not) 0 [(0, .ref (qMo 0)), (1, .int p1)] []
  refine V_iload_n E 1 rfl dX8_type_0 ?_
  refine V_i2l E dX8_type_1 ?_
  refine V_lconst E (v := (0 : Int64)) dX8_type_2 (by decide) ?_
  refine V_ldc2 E (v := (127 : Int64)) dX8_type_3 kX8_279 ?_
  obtain ⟨u1, hu1, hf⟩ := bd hf
  refine V_fr0 E (Rn_S E (rest := []) mlX8_63 wd_yX8_in (kMo_in l G p1.toInt64 (0 : Int64) (127 : Int64) u1 hu1) ⟨rfl, rfl, Nat.le_of_ble_eq_true rfl, Nat.le_of_ble_eq_true rfl⟩ rfl rfl (Nat.le_of_ble_eq_true rfl) dX8_type_6) ?_
  show V G p l e rmMo_type s m args below meth c 2 A Q 0 0 (gMo G qMo mo_all mo_past mo_aside mo_states mo_refused mo_causeKind mo_causeOrder mo_corner mo_linkVotes mo_linkE mo_linkF mo_follower mo_ahead mo_least mo_seam mo_above mo_below mo_text mo_textLong mo_place mo_value mo_numbers mo_not) 9 [(0, .ref (qMo 0)), (1, .int p1)] [.int u1]
  refine V_if_ne E (tgt := 19) dX8_type_9 (by decide) (fun hc2 => ?_) (fun hc2 => ?_)
  · have hf := iq hc2 hf
    refine V_aload_n E 0 rfl dX8_type_19 ?_
    refine gfX8_281 E 0 rfl rfl dX8_type_20 ?_
    refine V_bipush E (v := (120 : Int32)) dX8_type_23 (by decide) ?_
    refine V_icmp_ne E (tgt := 35) dX8_type_25 (by decide) (fun hc3 => ?_) (fun hc3 => ?_)
    · have hf := iq hc3 hf
      refine V_aload_n E 0 rfl dX8_type_35 ?_
      refine gfX8_50 E 0 rfl rfl dX8_type_36 ?_
      refine V_aload_n E 0 rfl dX8_type_39 ?_
      refine gfX8_281 E 0 rfl rfl dX8_type_40 ?_
      refine V_iload_n E 1 rfl dX8_type_43 ?_
      obtain ⟨hi4, hf⟩ := asr_ok hf
      refine V_iast E (ws' := (gMo G qMo mo_all mo_past mo_aside mo_states mo_refused mo_causeKind mo_causeOrder mo_corner mo_linkVotes mo_linkE mo_linkF mo_follower mo_ahead mo_least mo_seam mo_above mo_below (upd mo_text mo_textLong.toNatClampNeg p1) mo_textLong mo_place mo_value mo_numbers mo_not)) 13 rfl hi4 dX8_type_44 rfl ?_
      refine V_aload_n E 0 rfl dX8_type_45 ?_
      refine V_dup E dX8_type_46 rfl ?_
      refine gfX8_281 E 0 rfl rfl dX8_type_47 ?_
      refine V_iconst E (v := (1 : Int32)) dX8_type_50 (by decide) ?_
      refine V_iadd E dX8_type_51 ?_
      refine pfX8_281 E (ws' := (gMo G qMo mo_all mo_past mo_aside mo_states mo_refused mo_causeKind mo_causeOrder mo_corner mo_linkVotes mo_linkE mo_linkF mo_follower mo_ahead mo_least mo_seam mo_above mo_below (upd mo_text mo_textLong.toNatClampNeg p1) (mo_textLong + (1 : Int32)) mo_place mo_value mo_numbers mo_not)) 0 rfl (Nat.le_of_ble_eq_true rfl) rfl rfl dX8_type_52 rfl ?_
      refine V_aload_n E 0 rfl dX8_type_55 ?_
      refine gfX8_281 E 0 rfl rfl dX8_type_56 ?_
      have h9 := hret 59 [(0, .ref (qMo 0)), (1, .int p1)] dX8_type_59
      rw [← (Option.some.inj hf)] at h9
      exact h9
    · have hf := ip hc3 hf
      refine V_aload_n E 0 rfl dX8_type_28 ?_
      refine V_bipush E (v := (-4 : Int32)) dX8_type_29 (by decide) ?_
      obtain ⟨u5, hu5, hf⟩ := bd hf
      refine V_frW E (Rn_V E (rest := []) mlX8_91 wd_yX8_refuses (kMo_refuses l G qMo (-4 : Int32) mo_all mo_past mo_aside mo_states mo_refused mo_causeKind mo_causeOrder mo_corner mo_linkVotes mo_linkE mo_linkF mo_follower mo_ahead mo_least mo_seam mo_above mo_below mo_text mo_textLong mo_place mo_value mo_numbers mo_not u5 hu5) ⟨rfl, rfl, Nat.le_of_ble_eq_true rfl, Nat.le_of_ble_eq_true rfl⟩ 0 rfl rfl rfl rfl rfl (Nat.le_of_ble_eq_true rfl) dX8_type_31) ?_
      show V G p l e rmMo_type s m args below meth c 2 A Q 0 0 (gMo G qMo mo_all mo_past mo_aside mo_states u5.2 mo_causeKind mo_causeOrder mo_corner mo_linkVotes mo_linkE mo_linkF mo_follower mo_ahead mo_least mo_seam mo_above mo_below mo_text mo_textLong mo_place mo_value mo_numbers mo_not) 34 [(0, .ref (qMo 0)), (1, .int p1)] [.int u5.1]
      have h9 := hret 34 [(0, .ref (qMo 0)), (1, .int p1)] dX8_type_34
      rw [← (Option.some.inj hf)] at h9
      exact h9
  · have hf := ip hc2 hf
    refine V_aload_n E 0 rfl dX8_type_12 ?_
    refine V_bipush E (v := (-2 : Int32)) dX8_type_13 (by decide) ?_
    obtain ⟨u6, hu6, hf⟩ := bd hf
    refine V_frW E (Rn_V E (rest := []) mlX8_91 wd_yX8_refuses (kMo_refuses l G qMo (-2 : Int32) mo_all mo_past mo_aside mo_states mo_refused mo_causeKind mo_causeOrder mo_corner mo_linkVotes mo_linkE mo_linkF mo_follower mo_ahead mo_least mo_seam mo_above mo_below mo_text mo_textLong mo_place mo_value mo_numbers mo_not u6 hu6) ⟨rfl, rfl, Nat.le_of_ble_eq_true rfl, Nat.le_of_ble_eq_true rfl⟩ 0 rfl rfl rfl rfl rfl (Nat.le_of_ble_eq_true rfl) dX8_type_15) ?_
    show V G p l e rmMo_type s m args below meth c 2 A Q 0 0 (gMo G qMo mo_all mo_past mo_aside mo_states u6.2 mo_causeKind mo_causeOrder mo_corner mo_linkVotes mo_linkE mo_linkF mo_follower mo_ahead mo_least mo_seam mo_above mo_below mo_text mo_textLong mo_place mo_value mo_numbers mo_not) 18 [(0, .ref (qMo 0)), (1, .int p1)] [.int u6.1]
    have h9 := hret 18 [(0, .ref (qMo 0)), (1, .int p1)] dX8_type_18
    rw [← (Option.some.inj hf)] at h9
    exact h9
abbrev rmMo_clear : Room := { frames := 0, cells := 0, slots := 0, locals := 0 }
theorem wd_yX8_clear : wdV yX8_clear cX8_clear 2 (some .int) 0 := ⟨wc_yX8_clear, wi_yX8_clear, wse_yX8_clear, wini_X8, by decide +kernel, by decide +kernel, by decide +kernel⟩
set_option maxHeartbeats 4000000 in
set_option maxRecDepth 100000 in
theorem kMo_clear (l : Launch) (G : wG) (qMo : Nat → Nat) (mo_all : Nat → Int32) (mo_past : Nat → Int32) (mo_aside : Nat → Int32) (mo_states : Int32) (mo_refused : Nat → Int32) (mo_causeKind : Int32) (mo_causeOrder : Int32) (mo_corner : Nat → Int32) (mo_linkVotes : Nat → Int32) (mo_linkE : Nat → Int32) (mo_linkF : Nat → Int32) (mo_follower : Nat → Int32) (mo_ahead : Nat → Int32) (mo_least : Nat → Int32) (mo_seam : Nat → Int32) (mo_above : Int64) (mo_below : Int64) (mo_text : Nat → Int32) (mo_textLong : Int32) (mo_place : Int32) (mo_value : Int32) (mo_numbers : Nat → Int32) (mo_not : Int32) (o : Int32 × Int32) (hf : fMo_clear mo_textLong = some o) : Ct G l yX8_clear cX8_clear 2 (some .int) rmMo_clear [.ref (qMo 0)] (gMo G qMo mo_all mo_past mo_aside mo_states mo_refused mo_causeKind mo_causeOrder mo_corner mo_linkVotes mo_linkE mo_linkF mo_follower mo_ahead mo_least mo_seam mo_above mo_below mo_text mo_textLong mo_place mo_value mo_numbers mo_not) (some (.int o.1)) (gMo G qMo mo_all mo_past mo_aside mo_states mo_refused mo_causeKind mo_causeOrder mo_corner mo_linkVotes mo_linkE mo_linkF mo_follower mo_ahead mo_least mo_seam mo_above mo_below mo_text o.2 mo_place mo_value mo_numbers mo_not) := by
  refine Ct.ofI (by decide +kernel) (Nat.le_of_ble_eq_true rfl) (fun p e s m args below meth c A Q E hret => ?_)
  unfold fMo_clear at hf
  show V G p l e rmMo_clear s m args below meth c 2 A Q 0 0 (gMo G qMo mo_all mo_past mo_aside mo_states mo_refused mo_causeKind mo_causeOrder mo_corner mo_linkVotes mo_linkE mo_linkF mo_follower mo_ahead mo_least mo_seam mo_above mo_below mo_text mo_textLong mo_place mo_value mo_numbers mo_not) 0 [(0, .ref (qMo 0))] []
  refine V_aload_n E 0 rfl dX8_clear_0 ?_
  refine gfX8_281 E 0 rfl rfl dX8_clear_1 ?_
  refine V_istore_n E (lv' := [(0, .ref (qMo 0)), (1, .int mo_textLong)]) dX8_clear_4 (by decide) rfl ?_
  refine V_aload_n E 0 rfl dX8_clear_5 ?_
  refine V_iconst E (v := (0 : Int32)) dX8_clear_6 (by decide) ?_
  refine pfX8_281 E (ws' := (gMo G qMo mo_all mo_past mo_aside mo_states mo_refused mo_causeKind mo_causeOrder mo_corner mo_linkVotes mo_linkE mo_linkF mo_follower mo_ahead mo_least mo_seam mo_above mo_below mo_text (0 : Int32) mo_place mo_value mo_numbers mo_not)) 0 rfl (Nat.le_of_ble_eq_true rfl) rfl rfl dX8_clear_7 rfl ?_
  refine V_iload_n E 1 rfl dX8_clear_10 ?_
  have h9 := hret 11 [(0, .ref (qMo 0)), (1, .int mo_textLong)] dX8_clear_11
  rw [← (Option.some.inj hf)] at h9
  exact h9
abbrev rmMo_here : Room := { frames := 0, cells := 0, slots := 0, locals := 0 }
theorem wd_yX8_here : wdV yX8_here cX8_here 1 (some .int) 0 := ⟨wc_yX8_here, wi_yX8_here, wse_yX8_here, wini_X8, by decide +kernel, by decide +kernel, by decide +kernel⟩
set_option maxHeartbeats 4000000 in
set_option maxRecDepth 100000 in
theorem kMo_here (l : Launch) (G : wG) (qMo : Nat → Nat) (mo_all : Nat → Int32) (mo_past : Nat → Int32) (mo_aside : Nat → Int32) (mo_states : Int32) (mo_refused : Nat → Int32) (mo_causeKind : Int32) (mo_causeOrder : Int32) (mo_corner : Nat → Int32) (mo_linkVotes : Nat → Int32) (mo_linkE : Nat → Int32) (mo_linkF : Nat → Int32) (mo_follower : Nat → Int32) (mo_ahead : Nat → Int32) (mo_least : Nat → Int32) (mo_seam : Nat → Int32) (mo_above : Int64) (mo_below : Int64) (mo_text : Nat → Int32) (mo_textLong : Int32) (mo_place : Int32) (mo_value : Int32) (mo_numbers : Nat → Int32) (mo_not : Int32) (o : Int32 × Int32) (hf : fMo_here mo_text mo_textLong mo_place = some o) : Ct G l yX8_here cX8_here 1 (some .int) rmMo_here [.ref (qMo 0)] (gMo G qMo mo_all mo_past mo_aside mo_states mo_refused mo_causeKind mo_causeOrder mo_corner mo_linkVotes mo_linkE mo_linkF mo_follower mo_ahead mo_least mo_seam mo_above mo_below mo_text mo_textLong mo_place mo_value mo_numbers mo_not) (some (.int o.1)) (gMo G qMo mo_all mo_past mo_aside mo_states mo_refused mo_causeKind mo_causeOrder mo_corner mo_linkVotes mo_linkE mo_linkF mo_follower mo_ahead mo_least mo_seam mo_above mo_below mo_text mo_textLong o.2 mo_value mo_numbers mo_not) := by
  refine Ct.ofI (by decide +kernel) (Nat.le_of_ble_eq_true rfl) (fun p e s m args below meth c A Q E hret => ?_)
  unfold fMo_here at hf
  show V G p l e rmMo_here s m args below meth c 1 A Q 0 0 (gMo G qMo mo_all mo_past mo_aside mo_states mo_refused mo_causeKind mo_causeOrder mo_corner mo_linkVotes mo_linkE mo_linkF mo_follower mo_ahead mo_least mo_seam mo_above mo_below mo_text mo_textLong mo_place mo_value mo_numbers mo_not) 0 [(0, .ref (qMo 0))] []
  have L0 : ∀ (n : Nat) (c0_mo_place : Int32) (u : Int32), fMo_here_L0 mo_text mo_textLong n c0_mo_place = some u → (V G p l e rmMo_here s m args below meth c 1 A Q 0 0 (gMo G qMo mo_all mo_past mo_aside mo_states mo_refused mo_causeKind mo_causeOrder mo_corner mo_linkVotes mo_linkE mo_linkF mo_follower mo_ahead mo_least mo_seam mo_above mo_below mo_text mo_textLong u mo_value mo_numbers mo_not) 38 [(0, .ref (qMo 0))] []) → V G p l e rmMo_here s m args below meth c 1 A Q 0 0 (gMo G qMo mo_all mo_past mo_aside mo_states mo_refused mo_causeKind mo_causeOrder mo_corner mo_linkVotes mo_linkE mo_linkF mo_follower mo_ahead mo_least mo_seam mo_above mo_below mo_text mo_textLong c0_mo_place mo_value mo_numbers mo_not) 0 [(0, .ref (qMo 0))] [] := by
    intro n
    induction n with
    | zero =>
      intro c0_mo_place u hf hk
      rw [fMo_here_L0] at hf
      cases hf
    | succ n ih =>
      intro c0_mo_place u hf hk
      rw [fMo_here_L0] at hf
      refine V_aload_n E 0 rfl dX8_here_0 ?_
      refine gfX8_284 E 0 rfl rfl dX8_here_1 ?_
      refine V_aload_n E 0 rfl dX8_here_4 ?_
      refine gfX8_281 E 0 rfl rfl dX8_here_5 ?_
      refine V_icmp_ge E (tgt := 38) dX8_here_8 (by decide) (fun hc2 => ?_) (fun hc2 => ?_)
      · have hf := ip hc2 hf
        rw [← Option.some.inj hf] at hk
        exact hk
      · have hf := iq hc2 hf
        refine V_aload_n E 0 rfl dX8_here_11 ?_
        refine gfX8_50 E 0 rfl rfl dX8_here_12 ?_
        refine V_aload_n E 0 rfl dX8_here_15 ?_
        refine gfX8_284 E 0 rfl rfl dX8_here_16 ?_
        obtain ⟨hi3, hf⟩ := asr_ok hf
        refine V_iald E 13 rfl hi3 dX8_here_19 ?_
        refine V_bipush E (v := (32 : Int32)) dX8_here_20 (by decide) ?_
        refine V_icmp_ne E (tgt := 38) dX8_here_22 (by decide) (fun hc4 => ?_) (fun hc4 => ?_)
        · have hf := iq hc4 hf
          rw [← Option.some.inj hf] at hk
          exact hk
        · have hf := ip hc4 hf
          refine V_aload_n E 0 rfl dX8_here_25 ?_
          refine V_dup E dX8_here_26 rfl ?_
          refine gfX8_284 E 0 rfl rfl dX8_here_27 ?_
          refine V_iconst E (v := (1 : Int32)) dX8_here_30 (by decide) ?_
          refine V_iadd E dX8_here_31 ?_
          refine pfX8_284 E (ws' := (gMo G qMo mo_all mo_past mo_aside mo_states mo_refused mo_causeKind mo_causeOrder mo_corner mo_linkVotes mo_linkE mo_linkF mo_follower mo_ahead mo_least mo_seam mo_above mo_below mo_text mo_textLong (c0_mo_place + (1 : Int32)) mo_value mo_numbers mo_not)) 0 rfl (Nat.le_of_ble_eq_true rfl) rfl rfl dX8_here_32 rfl ?_
          refine V_goto E (tgt := 0) dX8_here_35 (by decide) ?_
          exact ih (c0_mo_place + (1 : Int32)) _ hf hk
  obtain ⟨u1, hu1, hf⟩ := bd hf
  refine L0 FU mo_place u1 hu1 ?_
  refine V_aload_n E 0 rfl dX8_here_38 ?_
  refine gfX8_284 E 0 rfl rfl dX8_here_39 ?_
  refine V_aload_n E 0 rfl dX8_here_42 ?_
  refine gfX8_281 E 0 rfl rfl dX8_here_43 ?_
  refine V_icmp_ge E (tgt := 61) dX8_here_46 (by decide) (fun hc5 => ?_) (fun hc5 => ?_)
  · have hf := ip hc5 hf
    refine V_iconst E (v := (-1 : Int32)) dX8_here_61 (by decide) ?_
    have h9 := hret 62 [(0, .ref (qMo 0))] dX8_here_62
    rw [← (Option.some.inj hf)] at h9
    exact h9
  · have hf := iq hc5 hf
    refine V_aload_n E 0 rfl dX8_here_49 ?_
    refine gfX8_50 E 0 rfl rfl dX8_here_50 ?_
    refine V_aload_n E 0 rfl dX8_here_53 ?_
    refine gfX8_284 E 0 rfl rfl dX8_here_54 ?_
    obtain ⟨hi6, hf⟩ := asr_ok hf
    refine V_iald E 13 rfl hi6 dX8_here_57 ?_
    refine V_goto E (tgt := 62) dX8_here_58 (by decide) ?_
    have h9 := hret 62 [(0, .ref (qMo 0))] dX8_here_62
    rw [← (Option.some.inj hf)] at h9
    exact h9
abbrev rmMo_isFigure : Room := { frames := 1, cells := 0, slots := 0, locals := 25 }
theorem wd_yX8_isFigure : wdV yX8_isFigure cX8_isFigure 2 (some .boolean) 1 := ⟨wc_yX8_isFigure, wi_yX8_isFigure, wse_yX8_isFigure, wini_X8, by decide +kernel, by decide +kernel, by decide +kernel⟩
set_option maxHeartbeats 4000000 in
set_option maxRecDepth 100000 in
theorem kMo_isFigure (l : Launch) (G : wG) (qMo : Nat → Nat) (p1 : Int32) (mo_all : Nat → Int32) (mo_past : Nat → Int32) (mo_aside : Nat → Int32) (mo_states : Int32) (mo_refused : Nat → Int32) (mo_causeKind : Int32) (mo_causeOrder : Int32) (mo_corner : Nat → Int32) (mo_linkVotes : Nat → Int32) (mo_linkE : Nat → Int32) (mo_linkF : Nat → Int32) (mo_follower : Nat → Int32) (mo_ahead : Nat → Int32) (mo_least : Nat → Int32) (mo_seam : Nat → Int32) (mo_above : Int64) (mo_below : Int64) (mo_text : Nat → Int32) (mo_textLong : Int32) (mo_place : Int32) (mo_value : Int32) (mo_numbers : Nat → Int32) (mo_not : Int32) (o : Int32) (hf : fMo_isFigure p1 mo_text mo_textLong = some o) : Ct G l yX8_isFigure cX8_isFigure 2 (some .boolean) rmMo_isFigure [.ref (qMo 0), .int p1] (gMo G qMo mo_all mo_past mo_aside mo_states mo_refused mo_causeKind mo_causeOrder mo_corner mo_linkVotes mo_linkE mo_linkF mo_follower mo_ahead mo_least mo_seam mo_above mo_below mo_text mo_textLong mo_place mo_value mo_numbers mo_not) (some (.int o)) (gMo G qMo mo_all mo_past mo_aside mo_states mo_refused mo_causeKind mo_causeOrder mo_corner mo_linkVotes mo_linkE mo_linkF mo_follower mo_ahead mo_least mo_seam mo_above mo_below mo_text mo_textLong mo_place mo_value mo_numbers mo_not) := by
  refine Ct.ofZ (by decide +kernel) (Nat.le_of_ble_eq_true rfl) (fun p e s m args below meth c A Q E hret => ?_)
  unfold fMo_isFigure at hf
  show V G p l e rmMo_isFigure s m args below meth c 2 A Q 0 0 (gMo G qMo mo_all mo_past mo_aside mo_states mo_refused mo_causeKind mo_causeOrder mo_corner mo_linkVotes mo_linkE mo_linkF mo_follower mo_ahead mo_least mo_seam mo_above mo_below mo_text mo_textLong mo_place mo_value mo_numbers mo_not) 0 [(0, .ref (qMo 0)), (1, .int p1)] []
  refine V_iload_n E 1 rfl dX8_isFigure_0 ?_
  refine V_aload_n E 0 rfl dX8_isFigure_1 ?_
  refine gfX8_281 E 0 rfl rfl dX8_isFigure_2 ?_
  refine V_icmp_ge E (tgt := 31) dX8_isFigure_5 (by decide) (fun hc1 => ?_) (fun hc1 => ?_)
  · have hf := ip hc1 hf
    refine V_iconst E (v := (0 : Int32)) dX8_isFigure_31 (by decide) ?_
    have h9 := hret 32 [(0, .ref (qMo 0)), (1, .int p1)] dX8_isFigure_32
    rw [← (Option.some.inj hf)] at h9
    exact h9 (z01a (Or.inl rfl))
  · have hf := iq hc1 hf
    refine V_aload_n E 0 rfl dX8_isFigure_8 ?_
    refine gfX8_50 E 0 rfl rfl dX8_isFigure_9 ?_
    refine V_iload_n E 1 rfl dX8_isFigure_12 ?_
    obtain ⟨hi2, hf⟩ := asr_ok hf
    refine V_iald E 13 rfl hi2 dX8_isFigure_13 ?_
    refine V_i2l E dX8_isFigure_14 ?_
    refine V_ldc2 E (v := (48 : Int64)) dX8_isFigure_15 kX8_287 ?_
    refine V_ldc2 E (v := (57 : Int64)) dX8_isFigure_18 kX8_289 ?_
    obtain ⟨u3, hu3, hf⟩ := bd hf
    refine V_fr0 E (Rn_S E (rest := []) mlX8_63 wd_yX8_in (kMo_in l G ((mo_text p1.toNatClampNeg).toInt64) (48 : Int64) (57 : Int64) u3 hu3) ⟨rfl, rfl, Nat.le_of_ble_eq_true rfl, Nat.le_of_ble_eq_true rfl⟩ rfl rfl (Nat.le_of_ble_eq_true rfl) dX8_isFigure_21) ?_
    show V G p l e rmMo_isFigure s m args below meth c 2 A Q 0 0 (gMo G qMo mo_all mo_past mo_aside mo_states mo_refused mo_causeKind mo_causeOrder mo_corner mo_linkVotes mo_linkE mo_linkF mo_follower mo_ahead mo_least mo_seam mo_above mo_below mo_text mo_textLong mo_place mo_value mo_numbers mo_not) 24 [(0, .ref (qMo 0)), (1, .int p1)] [.int u3]
    refine V_if_eq E (tgt := 31) dX8_isFigure_24 (by decide) (fun hc4 => ?_) (fun hc4 => ?_)
    · have hf := ip hc4 hf
      refine V_iconst E (v := (0 : Int32)) dX8_isFigure_31 (by decide) ?_
      have h9 := hret 32 [(0, .ref (qMo 0)), (1, .int p1)] dX8_isFigure_32
      rw [← (Option.some.inj hf)] at h9
      exact h9 (z01a (Or.inl rfl))
    · have hf := iq hc4 hf
      refine V_iconst E (v := (1 : Int32)) dX8_isFigure_27 (by decide) ?_
      refine V_goto E (tgt := 32) dX8_isFigure_28 (by decide) ?_
      have h9 := hret 32 [(0, .ref (qMo 0)), (1, .int p1)] dX8_isFigure_32
      rw [← (Option.some.inj hf)] at h9
      exact h9 (z01a (Or.inr rfl))
abbrev rmMo_takes : Room := { frames := 2, cells := 0, slots := 0, locals := 46 }
theorem wd_yX8_takes : wdV yX8_takes cX8_takes 5 (some .boolean) 1 := ⟨wc_yX8_takes, wi_yX8_takes, wse_yX8_takes, wini_X8, by decide +kernel, by decide +kernel, by decide +kernel⟩
set_option maxHeartbeats 4000000 in
set_option maxRecDepth 100000 in
theorem kMo_takes (l : Launch) (G : wG) (qMo : Nat → Nat) (p1 : Int32) (mo_all : Nat → Int32) (mo_past : Nat → Int32) (mo_aside : Nat → Int32) (mo_states : Int32) (mo_refused : Nat → Int32) (mo_causeKind : Int32) (mo_causeOrder : Int32) (mo_corner : Nat → Int32) (mo_linkVotes : Nat → Int32) (mo_linkE : Nat → Int32) (mo_linkF : Nat → Int32) (mo_follower : Nat → Int32) (mo_ahead : Nat → Int32) (mo_least : Nat → Int32) (mo_seam : Nat → Int32) (mo_above : Int64) (mo_below : Int64) (mo_text : Nat → Int32) (mo_textLong : Int32) (mo_place : Int32) (mo_value : Int32) (mo_numbers : Nat → Int32) (mo_not : Int32) (o : Int32 × Int32 × Int32) (hf : fMo_takes p1 mo_text mo_textLong mo_place mo_value = some o) : Ct G l yX8_takes cX8_takes 5 (some .boolean) rmMo_takes [.ref (qMo 0), .int p1] (gMo G qMo mo_all mo_past mo_aside mo_states mo_refused mo_causeKind mo_causeOrder mo_corner mo_linkVotes mo_linkE mo_linkF mo_follower mo_ahead mo_least mo_seam mo_above mo_below mo_text mo_textLong mo_place mo_value mo_numbers mo_not) (some (.int o.1)) (gMo G qMo mo_all mo_past mo_aside mo_states mo_refused mo_causeKind mo_causeOrder mo_corner mo_linkVotes mo_linkE mo_linkF mo_follower mo_ahead mo_least mo_seam mo_above mo_below mo_text mo_textLong o.2.1 o.2.2 mo_numbers mo_not) := by
  refine Ct.ofZ (by decide +kernel) (Nat.le_of_ble_eq_true rfl) (fun p e s m args below meth c A Q E hret => ?_)
  unfold fMo_takes at hf
  show V G p l e rmMo_takes s m args below meth c 5 A Q 0 0 (gMo G qMo mo_all mo_past mo_aside mo_states mo_refused mo_causeKind mo_causeOrder mo_corner mo_linkVotes mo_linkE mo_linkF mo_follower mo_ahead mo_least mo_seam mo_above mo_below mo_text mo_textLong mo_place mo_value mo_numbers mo_not) 0 [(0, .ref (qMo 0)), (1, .int p1)] []
  refine V_aload_n E 0 rfl dX8_takes_0 ?_
  obtain ⟨u1, hu1, hf⟩ := bd hf
  refine V_frW E (Rn_V E (rest := []) mlX8_291 wd_yX8_here (kMo_here l G qMo mo_all mo_past mo_aside mo_states mo_refused mo_causeKind mo_causeOrder mo_corner mo_linkVotes mo_linkE mo_linkF mo_follower mo_ahead mo_least mo_seam mo_above mo_below mo_text mo_textLong mo_place mo_value mo_numbers mo_not u1 hu1) ⟨rfl, rfl, Nat.le_of_ble_eq_true rfl, Nat.le_of_ble_eq_true rfl⟩ 0 rfl rfl rfl rfl rfl (Nat.le_of_ble_eq_true rfl) dX8_takes_1) ?_
  show V G p l e rmMo_takes s m args below meth c 5 A Q 0 0 (gMo G qMo mo_all mo_past mo_aside mo_states mo_refused mo_causeKind mo_causeOrder mo_corner mo_linkVotes mo_linkE mo_linkF mo_follower mo_ahead mo_least mo_seam mo_above mo_below mo_text mo_textLong u1.2 mo_value mo_numbers mo_not) 4 [(0, .ref (qMo 0)), (1, .int p1)] [.int u1.1]
  refine V_bipush E (v := (45 : Int32)) dX8_takes_4 (by decide) ?_
  obtain ⟨u3, hu3, hf⟩ := bd hf
  have J18 : V G p l e rmMo_takes s m args below meth c 5 A Q 0 0 (gMo G qMo mo_all mo_past mo_aside mo_states mo_refused mo_causeKind mo_causeOrder mo_corner mo_linkVotes mo_linkE mo_linkF mo_follower mo_ahead mo_least mo_seam mo_above mo_below mo_text mo_textLong u1.2 mo_value mo_numbers mo_not) 18 [(0, .ref (qMo 0))] [.int u3] := by
    refine V_istore_n E (lv' := [(0, .ref (qMo 0)), (2, .int u3)]) dX8_takes_18 (by decide) rfl ?_
    refine V_aload_n E 0 rfl dX8_takes_19 ?_
    refine V_dup E dX8_takes_20 rfl ?_
    refine gfX8_284 E 0 rfl rfl dX8_takes_21 ?_
    refine V_iload_n E 1 rfl dX8_takes_24 ?_
    obtain ⟨u6, hu6, hf⟩ := bd hf
    have J33 : V G p l e rmMo_takes s m args below meth c 5 A Q 0 0 (gMo G qMo mo_all mo_past mo_aside mo_states mo_refused mo_causeKind mo_causeOrder mo_corner mo_linkVotes mo_linkE mo_linkF mo_follower mo_ahead mo_least mo_seam mo_above mo_below mo_text mo_textLong u1.2 mo_value mo_numbers mo_not) 33 [(0, .ref (qMo 0)), (2, .int u3)] [.int u6, .int u1.2, .ref (qMo 0)] := by
      refine V_iadd E dX8_takes_33 ?_
      refine pfX8_284 E (ws' := (gMo G qMo mo_all mo_past mo_aside mo_states mo_refused mo_causeKind mo_causeOrder mo_corner mo_linkVotes mo_linkE mo_linkF mo_follower mo_ahead mo_least mo_seam mo_above mo_below mo_text mo_textLong (u1.2 + u6) mo_value mo_numbers mo_not)) 0 rfl (Nat.le_of_ble_eq_true rfl) rfl rfl dX8_takes_34 rfl ?_
      refine V_iload_n E 1 rfl dX8_takes_37 ?_
      obtain ⟨u8, hu8, hf⟩ := bd hf
      have J49 : V G p l e rmMo_takes s m args below meth c 5 A Q 0 0 (gMo G qMo mo_all mo_past mo_aside mo_states mo_refused mo_causeKind mo_causeOrder mo_corner mo_linkVotes mo_linkE mo_linkF mo_follower mo_ahead mo_least mo_seam mo_above mo_below mo_text mo_textLong u8.2 mo_value mo_numbers mo_not) 49 [(0, .ref (qMo 0)), (2, .int u3)] [.int u8.1] := by
        refine V_istore_n E (lv' := [(0, .ref (qMo 0)), (2, .int u3), (3, .int u8.1)]) dX8_takes_49 (by decide) rfl ?_
        refine V_iconst E (v := (0 : Int32)) dX8_takes_50 (by decide) ?_
        refine V_istore E (lv' := [(0, .ref (qMo 0)), (2, .int u3), (3, .int u8.1), (4, .int (0 : Int32))]) dX8_takes_51 (by decide) rfl ?_
        refine V_aload_n E 0 rfl dX8_takes_53 ?_
        refine V_iconst E (v := (0 : Int32)) dX8_takes_54 (by decide) ?_
        refine pfX8_294 E (ws' := (gMo G qMo mo_all mo_past mo_aside mo_states mo_refused mo_causeKind mo_causeOrder mo_corner mo_linkVotes mo_linkE mo_linkF mo_follower mo_ahead mo_least mo_seam mo_above mo_below mo_text mo_textLong u8.2 (0 : Int32) mo_numbers mo_not)) 0 rfl (Nat.le_of_ble_eq_true rfl) rfl rfl dX8_takes_55 rfl ?_
        have L58 : ∀ (n : Nat) (a58_4 : Int32) (c58_mo_place : Int32) (c58_mo_value : Int32) (u : Int32 × Int32 × Int32), fMo_takes_L58 mo_text mo_textLong n a58_4 c58_mo_place c58_mo_value = some u → (V G p l e rmMo_takes s m args below meth c 5 A Q 0 0 (gMo G qMo mo_all mo_past mo_aside mo_states mo_refused mo_causeKind mo_causeOrder mo_corner mo_linkVotes mo_linkE mo_linkF mo_follower mo_ahead mo_least mo_seam mo_above mo_below mo_text mo_textLong u.2.1 u.2.2 mo_numbers mo_not) 116 [(0, .ref (qMo 0)), (2, .int u3), (3, .int u8.1), (4, .int u.1)] []) → V G p l e rmMo_takes s m args below meth c 5 A Q 0 0 (gMo G qMo mo_all mo_past mo_aside mo_states mo_refused mo_causeKind mo_causeOrder mo_corner mo_linkVotes mo_linkE mo_linkF mo_follower mo_ahead mo_least mo_seam mo_above mo_below mo_text mo_textLong c58_mo_place c58_mo_value mo_numbers mo_not) 58 [(0, .ref (qMo 0)), (2, .int u3), (3, .int u8.1), (4, .int a58_4)] [] := by
          intro n
          induction n with
          | zero =>
            intro a58_4 c58_mo_place c58_mo_value u hf hk
            rw [fMo_takes_L58] at hf
            cases hf
          | succ n ih =>
            intro a58_4 c58_mo_place c58_mo_value u hf hk
            rw [fMo_takes_L58] at hf
            refine V_aload_n E 0 rfl dX8_takes_58 ?_
            refine V_aload_n E 0 rfl dX8_takes_59 ?_
            refine gfX8_284 E 0 rfl rfl dX8_takes_60 ?_
            obtain ⟨u11, hu11, hf⟩ := bd hf
            refine V_frW E (Rn_V E (rest := []) mlX8_297 wd_yX8_isFigure (kMo_isFigure l G qMo c58_mo_place mo_all mo_past mo_aside mo_states mo_refused mo_causeKind mo_causeOrder mo_corner mo_linkVotes mo_linkE mo_linkF mo_follower mo_ahead mo_least mo_seam mo_above mo_below mo_text mo_textLong c58_mo_place c58_mo_value mo_numbers mo_not u11 hu11) ⟨rfl, rfl, Nat.le_of_ble_eq_true rfl, Nat.le_of_ble_eq_true rfl⟩ 0 rfl rfl rfl rfl rfl (Nat.le_of_ble_eq_true rfl) dX8_takes_63) ?_
            show V G p l e rmMo_takes s m args below meth c 5 A Q 0 0 (gMo G qMo mo_all mo_past mo_aside mo_states mo_refused mo_causeKind mo_causeOrder mo_corner mo_linkVotes mo_linkE mo_linkF mo_follower mo_ahead mo_least mo_seam mo_above mo_below mo_text mo_textLong c58_mo_place c58_mo_value mo_numbers mo_not) 66 [(0, .ref (qMo 0)), (2, .int u3), (3, .int u8.1), (4, .int a58_4)] [.int u11]
            refine V_if_eq E (tgt := 116) dX8_takes_66 (by decide) (fun hc12 => ?_) (fun hc12 => ?_)
            · have hf := ip hc12 hf
              rw [← Option.some.inj hf] at hk
              exact hk
            · have hf := iq hc12 hf
              refine V_iload E 3 rfl dX8_takes_69 ?_
              refine V_bipush E (v := (6 : Int32)) dX8_takes_71 (by decide) ?_
              refine V_icmp_ge E (tgt := 116) dX8_takes_73 (by decide) (fun hc13 => ?_) (fun hc13 => ?_)
              · have hf := ip hc13 hf
                rw [← Option.some.inj hf] at hk
                exact hk
              · have hf := iq hc13 hf
                refine V_aload_n E 0 rfl dX8_takes_76 ?_
                refine V_bipush E (v := (10 : Int32)) dX8_takes_77 (by decide) ?_
                refine V_aload_n E 0 rfl dX8_takes_79 ?_
                refine gfX8_294 E 0 rfl rfl dX8_takes_80 ?_
                refine V_imul E dX8_takes_83 ?_
                refine V_aload_n E 0 rfl dX8_takes_84 ?_
                refine gfX8_50 E 0 rfl rfl dX8_takes_85 ?_
                refine V_aload_n E 0 rfl dX8_takes_88 ?_
                refine gfX8_284 E 0 rfl rfl dX8_takes_89 ?_
                obtain ⟨hi14, hf⟩ := asr_ok hf
                refine V_iald E 13 rfl hi14 dX8_takes_92 ?_
                refine V_iadd E dX8_takes_93 ?_
                refine V_bipush E (v := (48 : Int32)) dX8_takes_94 (by decide) ?_
                refine V_isub E dX8_takes_96 ?_
                refine pfX8_294 E (ws' := (gMo G qMo mo_all mo_past mo_aside mo_states mo_refused mo_causeKind mo_causeOrder mo_corner mo_linkVotes mo_linkE mo_linkF mo_follower mo_ahead mo_least mo_seam mo_above mo_below mo_text mo_textLong c58_mo_place ((((10 : Int32) * c58_mo_value) + (mo_text c58_mo_place.toNatClampNeg)) - (48 : Int32)) mo_numbers mo_not)) 0 rfl (Nat.le_of_ble_eq_true rfl) rfl rfl dX8_takes_97 rfl ?_
                refine V_aload_n E 0 rfl dX8_takes_100 ?_
                refine V_dup E dX8_takes_101 rfl ?_
                refine gfX8_284 E 0 rfl rfl dX8_takes_102 ?_
                refine V_iconst E (v := (1 : Int32)) dX8_takes_105 (by decide) ?_
                refine V_iadd E dX8_takes_106 ?_
                refine pfX8_284 E (ws' := (gMo G qMo mo_all mo_past mo_aside mo_states mo_refused mo_causeKind mo_causeOrder mo_corner mo_linkVotes mo_linkE mo_linkF mo_follower mo_ahead mo_least mo_seam mo_above mo_below mo_text mo_textLong (c58_mo_place + (1 : Int32)) ((((10 : Int32) * c58_mo_value) + (mo_text c58_mo_place.toNatClampNeg)) - (48 : Int32)) mo_numbers mo_not)) 0 rfl (Nat.le_of_ble_eq_true rfl) rfl rfl dX8_takes_107 rfl ?_
                refine V_iinc E (v := (a58_4 + (1 : Int32))) (lv' := [(0, .ref (qMo 0)), (2, .int u3), (3, .int u8.1), (4, .int (a58_4 + (1 : Int32)))]) 3 rfl dX8_takes_110 rfl (by decide) rfl ?_
                refine V_goto E (tgt := 58) dX8_takes_113 (by decide) ?_
                exact ih (a58_4 + (1 : Int32)) (c58_mo_place + (1 : Int32)) ((((10 : Int32) * c58_mo_value) + (mo_text c58_mo_place.toNatClampNeg)) - (48 : Int32)) _ hf hk
        obtain ⟨u10, hu10, hf⟩ := bd hf
        refine L58 FU (0 : Int32) u8.2 (0 : Int32) u10 hu10 ?_
        refine V_aload_n E 0 rfl dX8_takes_116 ?_
        refine V_iload_n E 1 rfl dX8_takes_117 ?_
        obtain ⟨u16, hu16, hf⟩ := bd hf
        have J133 : V G p l e rmMo_takes s m args below meth c 5 A Q 0 0 (gMo G qMo mo_all mo_past mo_aside mo_states mo_refused mo_causeKind mo_causeOrder mo_corner mo_linkVotes mo_linkE mo_linkF mo_follower mo_ahead mo_least mo_seam mo_above mo_below mo_text mo_textLong u10.2.1 u10.2.2 mo_numbers mo_not) 133 [(0, .ref (qMo 0)), (3, .int u8.1), (4, .int u10.1)] [.int u16, .ref (qMo 0)] := by
          refine pfX8_294 E (ws' := (gMo G qMo mo_all mo_past mo_aside mo_states mo_refused mo_causeKind mo_causeOrder mo_corner mo_linkVotes mo_linkE mo_linkF mo_follower mo_ahead mo_least mo_seam mo_above mo_below mo_text mo_textLong u10.2.1 u16 mo_numbers mo_not)) 0 rfl (Nat.le_of_ble_eq_true rfl) rfl rfl dX8_takes_133 rfl ?_
          refine V_iload_n E 1 rfl dX8_takes_136 ?_
          refine V_iconst E (v := (-1 : Int32)) dX8_takes_137 (by decide) ?_
          refine V_icmp_eq E (tgt := 161) dX8_takes_138 (by decide) (fun hc17 => ?_) (fun hc17 => ?_)
          · have hf := ip hc17 hf
            refine V_iconst E (v := (0 : Int32)) dX8_takes_161 (by decide) ?_
            have h9 := hret 162 [(0, .ref (qMo 0)), (3, .int u8.1), (4, .int u10.1)] dX8_takes_162
            rw [← (Option.some.inj hf)] at h9
            exact h9 (z01a (Or.inl rfl))
          · have hf := iq hc17 hf
            refine V_iload E 2 rfl dX8_takes_141 ?_
            refine V_if_le E (tgt := 161) dX8_takes_143 (by decide) (fun hc18 => ?_) (fun hc18 => ?_)
            · have hf := ip hc18 hf
              refine V_iconst E (v := (0 : Int32)) dX8_takes_161 (by decide) ?_
              have h9 := hret 162 [(0, .ref (qMo 0)), (3, .int u8.1), (4, .int u10.1)] dX8_takes_162
              rw [← (Option.some.inj hf)] at h9
              exact h9 (z01a (Or.inl rfl))
            · have hf := iq hc18 hf
              refine V_aload_n E 0 rfl dX8_takes_146 ?_
              refine V_aload_n E 0 rfl dX8_takes_147 ?_
              refine gfX8_284 E 0 rfl rfl dX8_takes_148 ?_
              obtain ⟨u19, hu19, hf⟩ := bd hf
              refine V_frW E (Rn_V E (rest := []) mlX8_297 wd_yX8_isFigure (kMo_isFigure l G qMo u10.2.1 mo_all mo_past mo_aside mo_states mo_refused mo_causeKind mo_causeOrder mo_corner mo_linkVotes mo_linkE mo_linkF mo_follower mo_ahead mo_least mo_seam mo_above mo_below mo_text mo_textLong u10.2.1 u16 mo_numbers mo_not u19 hu19) ⟨rfl, rfl, Nat.le_of_ble_eq_true rfl, Nat.le_of_ble_eq_true rfl⟩ 0 rfl rfl rfl rfl rfl (Nat.le_of_ble_eq_true rfl) dX8_takes_151) ?_
              show V G p l e rmMo_takes s m args below meth c 5 A Q 0 0 (gMo G qMo mo_all mo_past mo_aside mo_states mo_refused mo_causeKind mo_causeOrder mo_corner mo_linkVotes mo_linkE mo_linkF mo_follower mo_ahead mo_least mo_seam mo_above mo_below mo_text mo_textLong u10.2.1 u16 mo_numbers mo_not) 154 [(0, .ref (qMo 0)), (3, .int u8.1), (4, .int u10.1)] [.int u19]
              refine V_if_ne E (tgt := 161) dX8_takes_154 (by decide) (fun hc20 => ?_) (fun hc20 => ?_)
              · have hf := iq hc20 hf
                refine V_iconst E (v := (0 : Int32)) dX8_takes_161 (by decide) ?_
                have h9 := hret 162 [(0, .ref (qMo 0)), (3, .int u8.1), (4, .int u10.1)] dX8_takes_162
                rw [← (Option.some.inj hf)] at h9
                exact h9 (z01a (Or.inl rfl))
              · have hf := ip hc20 hf
                refine V_iconst E (v := (1 : Int32)) dX8_takes_157 (by decide) ?_
                refine V_goto E (tgt := 162) dX8_takes_158 (by decide) ?_
                have h9 := hret 162 [(0, .ref (qMo 0)), (3, .int u8.1), (4, .int u10.1)] dX8_takes_162
                rw [← (Option.some.inj hf)] at h9
                exact h9 (z01a (Or.inr rfl))
        clear hf
        have hf := hu16
        refine V_if_eq E (tgt := 129) dX8_takes_118 (by decide) (fun hc15 => ?_) (fun hc15 => ?_)
        · have hf := ip hc15 hf
          refine V_aload_n E 0 rfl dX8_takes_129 ?_
          refine gfX8_294 E 0 rfl rfl dX8_takes_130 ?_
          refine V_sub [0, 2, 3] rfl ?_
          rw [← Option.some.inj hf] at J133
          exact J133
        · have hf := iq hc15 hf
          refine V_aload_n E 0 rfl dX8_takes_121 ?_
          refine gfX8_294 E 0 rfl rfl dX8_takes_122 ?_
          refine V_ineg E dX8_takes_125 ?_
          refine V_goto E (tgt := 133) dX8_takes_126 (by decide) ?_
          refine V_sub [0, 2, 3] rfl ?_
          rw [← Option.some.inj hf] at J133
          exact J133
      clear hf
      have hf := hu8
      refine V_if_eq E (tgt := 45) dX8_takes_38 (by decide) (fun hc7 => ?_) (fun hc7 => ?_)
      · have hf := ip hc7 hf
        refine V_aload_n E 0 rfl dX8_takes_45 ?_
        obtain ⟨u9, hu9, hf⟩ := bd hf
        refine V_frW E (Rn_V E (rest := []) mlX8_291 wd_yX8_here (kMo_here l G qMo mo_all mo_past mo_aside mo_states mo_refused mo_causeKind mo_causeOrder mo_corner mo_linkVotes mo_linkE mo_linkF mo_follower mo_ahead mo_least mo_seam mo_above mo_below mo_text mo_textLong (u1.2 + u6) mo_value mo_numbers mo_not u9 hu9) ⟨rfl, rfl, Nat.le_of_ble_eq_true rfl, Nat.le_of_ble_eq_true rfl⟩ 0 rfl rfl rfl rfl rfl (Nat.le_of_ble_eq_true rfl) dX8_takes_46) ?_
        show V G p l e rmMo_takes s m args below meth c 5 A Q 0 0 (gMo G qMo mo_all mo_past mo_aside mo_states mo_refused mo_causeKind mo_causeOrder mo_corner mo_linkVotes mo_linkE mo_linkF mo_follower mo_ahead mo_least mo_seam mo_above mo_below mo_text mo_textLong u9.2 mo_value mo_numbers mo_not) 49 [(0, .ref (qMo 0)), (2, .int u3)] [.int u9.1]
        rw [← Option.some.inj hf] at J49
        exact J49
      · have hf := iq hc7 hf
        refine V_iconst E (v := (0 : Int32)) dX8_takes_41 (by decide) ?_
        refine V_goto E (tgt := 49) dX8_takes_42 (by decide) ?_
        rw [← Option.some.inj hf] at J49
        exact J49
    clear hf
    have hf := hu6
    refine V_if_eq E (tgt := 32) dX8_takes_25 (by decide) (fun hc5 => ?_) (fun hc5 => ?_)
    · have hf := ip hc5 hf
      refine V_iconst E (v := (0 : Int32)) dX8_takes_32 (by decide) ?_
      rw [← Option.some.inj hf] at J33
      exact J33
    · have hf := iq hc5 hf
      refine V_iconst E (v := (1 : Int32)) dX8_takes_28 (by decide) ?_
      refine V_goto E (tgt := 33) dX8_takes_29 (by decide) ?_
      rw [← Option.some.inj hf] at J33
      exact J33
  clear hf
  have hf := hu3
  refine V_icmp_ne E (tgt := 17) dX8_takes_6 (by decide) (fun hc2 => ?_) (fun hc2 => ?_)
  · have hf := iq hc2 hf
    refine V_iconst E (v := (0 : Int32)) dX8_takes_17 (by decide) ?_
    refine V_sub [0] rfl ?_
    rw [← Option.some.inj hf] at J18
    exact J18
  · have hf := ip hc2 hf
    refine V_iload_n E 1 rfl dX8_takes_9 ?_
    refine V_if_eq E (tgt := 17) dX8_takes_10 (by decide) (fun hc4 => ?_) (fun hc4 => ?_)
    · have hf := ip hc4 hf
      refine V_iconst E (v := (0 : Int32)) dX8_takes_17 (by decide) ?_
      refine V_sub [0] rfl ?_
      rw [← Option.some.inj hf] at J18
      exact J18
    · have hf := iq hc4 hf
      refine V_iconst E (v := (1 : Int32)) dX8_takes_13 (by decide) ?_
      refine V_goto E (tgt := 18) dX8_takes_14 (by decide) ?_
      refine V_sub [0] rfl ?_
      rw [← Option.some.inj hf] at J18
      exact J18
abbrev rmMo_takesAll : Room := { frames := 3, cells := 0, slots := 0, locals := 70 }
theorem wd_yX8_takesAll : wdV yX8_takesAll cX8_takesAll 4 (some .boolean) 2 := ⟨wc_yX8_takesAll, wi_yX8_takesAll, wse_yX8_takesAll, wini_X8, by decide +kernel, by decide +kernel, by decide +kernel⟩
set_option maxHeartbeats 4000000 in
set_option maxRecDepth 100000 in
theorem kMo_takesAll (l : Launch) (G : wG) (qMo : Nat → Nat) (p1 : Int32) (p2 : Int32) (mo_all : Nat → Int32) (mo_past : Nat → Int32) (mo_aside : Nat → Int32) (mo_states : Int32) (mo_refused : Nat → Int32) (mo_causeKind : Int32) (mo_causeOrder : Int32) (mo_corner : Nat → Int32) (mo_linkVotes : Nat → Int32) (mo_linkE : Nat → Int32) (mo_linkF : Nat → Int32) (mo_follower : Nat → Int32) (mo_ahead : Nat → Int32) (mo_least : Nat → Int32) (mo_seam : Nat → Int32) (mo_above : Int64) (mo_below : Int64) (mo_text : Nat → Int32) (mo_textLong : Int32) (mo_place : Int32) (mo_value : Int32) (mo_numbers : Nat → Int32) (mo_not : Int32) (o : Int32 × Int32 × Int32 × (Nat → Int32)) (hf : fMo_takesAll p1 p2 mo_text mo_textLong mo_place mo_value mo_numbers = some o) : Ct G l yX8_takesAll cX8_takesAll 4 (some .boolean) rmMo_takesAll [.ref (qMo 0), .int p1, .int p2] (gMo G qMo mo_all mo_past mo_aside mo_states mo_refused mo_causeKind mo_causeOrder mo_corner mo_linkVotes mo_linkE mo_linkF mo_follower mo_ahead mo_least mo_seam mo_above mo_below mo_text mo_textLong mo_place mo_value mo_numbers mo_not) (some (.int o.1)) (gMo G qMo mo_all mo_past mo_aside mo_states mo_refused mo_causeKind mo_causeOrder mo_corner mo_linkVotes mo_linkE mo_linkF mo_follower mo_ahead mo_least mo_seam mo_above mo_below mo_text mo_textLong o.2.1 o.2.2.1 o.2.2.2 mo_not) := by
  refine Ct.ofZ (by decide +kernel) (Nat.le_of_ble_eq_true rfl) (fun p e s m args below meth c A Q E hret => ?_)
  unfold fMo_takesAll at hf
  show V G p l e rmMo_takesAll s m args below meth c 4 A Q 0 0 (gMo G qMo mo_all mo_past mo_aside mo_states mo_refused mo_causeKind mo_causeOrder mo_corner mo_linkVotes mo_linkE mo_linkF mo_follower mo_ahead mo_least mo_seam mo_above mo_below mo_text mo_textLong mo_place mo_value mo_numbers mo_not) 0 [(0, .ref (qMo 0)), (1, .int p1), (2, .int p2)] []
  refine V_iconst E (v := (0 : Int32)) dX8_takesAll_0 (by decide) ?_
  refine V_istore_n E (lv' := [(0, .ref (qMo 0)), (1, .int p1), (2, .int p2), (3, .int (0 : Int32))]) dX8_takesAll_1 (by decide) rfl ?_
  have L2 : ∀ (n : Nat) (a2_3 : Int32) (c2_mo_place : Int32) (c2_mo_value : Int32) (c2_mo_numbers : Nat → Int32) (u : Sum (Int32 × Int32 × Int32 × (Nat → Int32)) (Int32 × Int32 × (Nat → Int32))), fMo_takesAll_L2 p1 p2 mo_text mo_textLong n a2_3 c2_mo_place c2_mo_value c2_mo_numbers = some u → (∀ x, u = .inr x → V G p l e rmMo_takesAll s m args below meth c 4 A Q 0 0 (gMo G qMo mo_all mo_past mo_aside mo_states mo_refused mo_causeKind mo_causeOrder mo_corner mo_linkVotes mo_linkE mo_linkF mo_follower mo_ahead mo_least mo_seam mo_above mo_below mo_text mo_textLong x.1 x.2.1 x.2.2 mo_not) 42 [] []) → (∀ r, u = .inl r → r = o) → V G p l e rmMo_takesAll s m args below meth c 4 A Q 0 0 (gMo G qMo mo_all mo_past mo_aside mo_states mo_refused mo_causeKind mo_causeOrder mo_corner mo_linkVotes mo_linkE mo_linkF mo_follower mo_ahead mo_least mo_seam mo_above mo_below mo_text mo_textLong c2_mo_place c2_mo_value c2_mo_numbers mo_not) 2 [(0, .ref (qMo 0)), (1, .int p1), (2, .int p2), (3, .int a2_3)] [] := by
    intro n
    induction n with
    | zero =>
      intro a2_3 c2_mo_place c2_mo_value c2_mo_numbers u hf hk hr
      rw [fMo_takesAll_L2] at hf
      cases hf
    | succ n ih =>
      intro a2_3 c2_mo_place c2_mo_value c2_mo_numbers u hf hk hr
      rw [fMo_takesAll_L2] at hf
      refine V_iload_n E 3 rfl dX8_takesAll_2 ?_
      refine V_iload_n E 1 rfl dX8_takesAll_3 ?_
      refine V_icmp_ge E (tgt := 42) dX8_takesAll_4 (by decide) (fun hc2 => ?_) (fun hc2 => ?_)
      · have hf := ip hc2 hf
        refine V_sub [] rfl ?_
        exact hk _ (Option.some.inj hf).symm
      · have hf := iq hc2 hf
        refine V_aload_n E 0 rfl dX8_takesAll_7 ?_
        refine V_iload_n E 3 rfl dX8_takesAll_8 ?_
        refine V_iload_n E 2 rfl dX8_takesAll_9 ?_
        obtain ⟨u4, hu4, hf⟩ := bd hf
        have J18 : V G p l e rmMo_takesAll s m args below meth c 4 A Q 0 0 (gMo G qMo mo_all mo_past mo_aside mo_states mo_refused mo_causeKind mo_causeOrder mo_corner mo_linkVotes mo_linkE mo_linkF mo_follower mo_ahead mo_least mo_seam mo_above mo_below mo_text mo_textLong c2_mo_place c2_mo_value c2_mo_numbers mo_not) 18 [(0, .ref (qMo 0)), (1, .int p1), (2, .int p2), (3, .int a2_3)] [.int u4, .ref (qMo 0)] := by
          obtain ⟨u5, hu5, hf⟩ := bd hf
          refine V_frW E (Rn_V E (rest := []) mlX8_300 wd_yX8_takes (kMo_takes l G qMo u4 mo_all mo_past mo_aside mo_states mo_refused mo_causeKind mo_causeOrder mo_corner mo_linkVotes mo_linkE mo_linkF mo_follower mo_ahead mo_least mo_seam mo_above mo_below mo_text mo_textLong c2_mo_place c2_mo_value c2_mo_numbers mo_not u5 hu5) ⟨rfl, rfl, Nat.le_of_ble_eq_true rfl, Nat.le_of_ble_eq_true rfl⟩ 0 rfl rfl rfl rfl rfl (Nat.le_of_ble_eq_true rfl) dX8_takesAll_18) ?_
          show V G p l e rmMo_takesAll s m args below meth c 4 A Q 0 0 (gMo G qMo mo_all mo_past mo_aside mo_states mo_refused mo_causeKind mo_causeOrder mo_corner mo_linkVotes mo_linkE mo_linkF mo_follower mo_ahead mo_least mo_seam mo_above mo_below mo_text mo_textLong u5.2.1 u5.2.2 c2_mo_numbers mo_not) 21 [(0, .ref (qMo 0)), (1, .int p1), (2, .int p2), (3, .int a2_3)] [.int u5.1]
          refine V_if_ne E (tgt := 26) dX8_takesAll_21 (by decide) (fun hc6 => ?_) (fun hc6 => ?_)
          · have hf := iq hc6 hf
            refine V_aload_n E 0 rfl dX8_takesAll_26 ?_
            refine gfX8_53 E 0 rfl rfl dX8_takesAll_27 ?_
            refine V_iload_n E 3 rfl dX8_takesAll_30 ?_
            refine V_aload_n E 0 rfl dX8_takesAll_31 ?_
            refine gfX8_294 E 0 rfl rfl dX8_takesAll_32 ?_
            obtain ⟨hi7, hf⟩ := asr_ok hf
            refine V_iast E (ws' := (gMo G qMo mo_all mo_past mo_aside mo_states mo_refused mo_causeKind mo_causeOrder mo_corner mo_linkVotes mo_linkE mo_linkF mo_follower mo_ahead mo_least mo_seam mo_above mo_below mo_text mo_textLong u5.2.1 u5.2.2 (upd c2_mo_numbers a2_3.toNatClampNeg u5.2.2) mo_not)) 14 rfl hi7 dX8_takesAll_35 rfl ?_
            refine V_iinc E (v := (a2_3 + (1 : Int32))) (lv' := [(0, .ref (qMo 0)), (1, .int p1), (2, .int p2), (3, .int (a2_3 + (1 : Int32)))]) 3 rfl dX8_takesAll_36 rfl (by decide) rfl ?_
            refine V_goto E (tgt := 2) dX8_takesAll_39 (by decide) ?_
            exact ih (a2_3 + (1 : Int32)) u5.2.1 u5.2.2 (upd c2_mo_numbers a2_3.toNatClampNeg u5.2.2) _ hf hk hr
          · have hf := ip hc6 hf
            refine V_iconst E (v := (0 : Int32)) dX8_takesAll_24 (by decide) ?_
            have h9 := hret 25 [(0, .ref (qMo 0)), (1, .int p1), (2, .int p2), (3, .int a2_3)] dX8_takesAll_25
            rw [← (hr _ (Option.some.inj hf).symm)] at h9
            exact h9 (z01a (Or.inl rfl))
        clear hf
        have hf := hu4
        refine V_icmp_ne E (tgt := 17) dX8_takesAll_10 (by decide) (fun hc3 => ?_) (fun hc3 => ?_)
        · have hf := iq hc3 hf
          refine V_iconst E (v := (0 : Int32)) dX8_takesAll_17 (by decide) ?_
          rw [← Option.some.inj hf] at J18
          exact J18
        · have hf := ip hc3 hf
          refine V_iconst E (v := (1 : Int32)) dX8_takesAll_13 (by decide) ?_
          refine V_goto E (tgt := 18) dX8_takesAll_14 (by decide) ?_
          rw [← Option.some.inj hf] at J18
          exact J18
  obtain ⟨u1, hu1, hf⟩ := bd hf
  refine L2 FU (0 : Int32) mo_place mo_value mo_numbers u1 hu1 (fun x8 hx => ?_) (fun r hx => ?_)
  · rw [hx, Sum.elim_inr] at hf
    refine V_iconst E (v := (1 : Int32)) dX8_takesAll_42 (by decide) ?_
    have h9 := hret 43 [] dX8_takesAll_43
    rw [← (Option.some.inj hf)] at h9
    exact h9 (z01a (Or.inr rfl))
  · rw [hx, Sum.elim_inl] at hf
    exact Option.some.inj hf
abbrev rmMo_numbersOf : Room := { frames := 0, cells := 0, slots := 0, locals := 0 }
theorem wd_yX8_numbersOf : wdS yX8_numbersOf cX8_numbersOf 1 (some .int) 1 := ⟨wc_yX8_numbersOf, wst_yX8_numbersOf, wini_X8, by decide +kernel, by decide +kernel, by decide +kernel⟩
set_option maxHeartbeats 4000000 in
set_option maxRecDepth 100000 in
theorem kMo_numbersOf (l : Launch) (G : wG) (p0 : Int32) (o : Int32) (hf : fMo_numbersOf p0 = some o) : Ct G l yX8_numbersOf cX8_numbersOf 1 (some .int) rmMo_numbersOf [.int p0] [] (some (.int o)) [] := by
  refine Ct.ofI (by decide +kernel) (Nat.le_of_ble_eq_true rfl) (fun p e s m args below meth c A Q E hret => ?_)
  unfold fMo_numbersOf at hf
  show V G p l e rmMo_numbersOf s m args below meth c 1 A Q 0 0 [] 0 [(0, .int p0)] []
  refine V_iload_n E 0 rfl dX8_numbersOf_0 ?_
  refine V_bipush E (v := (119 : Int32)) dX8_numbersOf_1 (by decide) ?_
  refine V_icmp_ne E (tgt := 10) dX8_numbersOf_3 (by decide) (fun hc1 => ?_) (fun hc1 => ?_)
  · have hf := iq hc1 hf
    refine V_iload_n E 0 rfl dX8_numbersOf_10 ?_
    refine V_bipush E (v := (115 : Int32)) dX8_numbersOf_11 (by decide) ?_
    refine V_icmp_eq E (tgt := 22) dX8_numbersOf_13 (by decide) (fun hc2 => ?_) (fun hc2 => ?_)
    · have hf := ip hc2 hf
      refine V_iconst E (v := (3 : Int32)) dX8_numbersOf_22 (by decide) ?_
      refine V_goto E (tgt := 37) dX8_numbersOf_23 (by decide) ?_
      have h9 := hret 37 [(0, .int p0)] dX8_numbersOf_37
      rw [← (Option.some.inj hf)] at h9
      exact h9
    · have hf := iq hc2 hf
      refine V_iload_n E 0 rfl dX8_numbersOf_16 ?_
      refine V_bipush E (v := (99 : Int32)) dX8_numbersOf_17 (by decide) ?_
      refine V_icmp_ne E (tgt := 26) dX8_numbersOf_19 (by decide) (fun hc3 => ?_) (fun hc3 => ?_)
      · have hf := iq hc3 hf
        refine V_iload_n E 0 rfl dX8_numbersOf_26 ?_
        refine V_bipush E (v := (112 : Int32)) dX8_numbersOf_27 (by decide) ?_
        refine V_icmp_ne E (tgt := 36) dX8_numbersOf_29 (by decide) (fun hc4 => ?_) (fun hc4 => ?_)
        · have hf := iq hc4 hf
          refine V_iconst E (v := (1 : Int32)) dX8_numbersOf_36 (by decide) ?_
          have h9 := hret 37 [(0, .int p0)] dX8_numbersOf_37
          rw [← (Option.some.inj hf)] at h9
          exact h9
        · have hf := ip hc4 hf
          refine V_iconst E (v := (4 : Int32)) dX8_numbersOf_32 (by decide) ?_
          refine V_goto E (tgt := 37) dX8_numbersOf_33 (by decide) ?_
          have h9 := hret 37 [(0, .int p0)] dX8_numbersOf_37
          rw [← (Option.some.inj hf)] at h9
          exact h9
      · have hf := ip hc3 hf
        refine V_iconst E (v := (3 : Int32)) dX8_numbersOf_22 (by decide) ?_
        refine V_goto E (tgt := 37) dX8_numbersOf_23 (by decide) ?_
        have h9 := hret 37 [(0, .int p0)] dX8_numbersOf_37
        rw [← (Option.some.inj hf)] at h9
        exact h9
  · have hf := ip hc1 hf
    refine V_iconst E (v := (2 : Int32)) dX8_numbersOf_6 (by decide) ?_
    refine V_goto E (tgt := 37) dX8_numbersOf_7 (by decide) ?_
    have h9 := hret 37 [(0, .int p0)] dX8_numbersOf_37
    rw [← (Option.some.inj hf)] at h9
    exact h9
abbrev rmMo_can : Room := { frames := 2, cells := 0, slots := 0, locals := 48 }
theorem wd_yX8_can : wdV yX8_can cX8_can 4 (some .int) 1 := ⟨wc_yX8_can, wi_yX8_can, wse_yX8_can, wini_X8, by decide +kernel, by decide +kernel, by decide +kernel⟩
set_option maxHeartbeats 4000000 in
set_option maxRecDepth 100000 in
theorem kMo_can (l : Launch) (G : wG) (qMo : Nat → Nat) (p1 : Int32) (mo_all : Nat → Int32) (mo_past : Nat → Int32) (mo_aside : Nat → Int32) (mo_states : Int32) (mo_refused : Nat → Int32) (mo_causeKind : Int32) (mo_causeOrder : Int32) (mo_corner : Nat → Int32) (mo_linkVotes : Nat → Int32) (mo_linkE : Nat → Int32) (mo_linkF : Nat → Int32) (mo_follower : Nat → Int32) (mo_ahead : Nat → Int32) (mo_least : Nat → Int32) (mo_seam : Nat → Int32) (mo_above : Int64) (mo_below : Int64) (mo_text : Nat → Int32) (mo_textLong : Int32) (mo_place : Int32) (mo_value : Int32) (mo_numbers : Nat → Int32) (mo_not : Int32) (o : Int32) (hf : fMo_can p1 mo_all mo_numbers = some o) : Ct G l yX8_can cX8_can 4 (some .int) rmMo_can [.ref (qMo 0), .int p1] (gMo G qMo mo_all mo_past mo_aside mo_states mo_refused mo_causeKind mo_causeOrder mo_corner mo_linkVotes mo_linkE mo_linkF mo_follower mo_ahead mo_least mo_seam mo_above mo_below mo_text mo_textLong mo_place mo_value mo_numbers mo_not) (some (.int o)) (gMo G qMo mo_all mo_past mo_aside mo_states mo_refused mo_causeKind mo_causeOrder mo_corner mo_linkVotes mo_linkE mo_linkF mo_follower mo_ahead mo_least mo_seam mo_above mo_below mo_text mo_textLong mo_place mo_value mo_numbers mo_not) := by
  refine Ct.ofI (by decide +kernel) (Nat.le_of_ble_eq_true rfl) (fun p e s m args below meth c A Q E hret => ?_)
  unfold fMo_can at hf
  show V G p l e rmMo_can s m args below meth c 4 A Q 0 0 (gMo G qMo mo_all mo_past mo_aside mo_states mo_refused mo_causeKind mo_causeOrder mo_corner mo_linkVotes mo_linkE mo_linkF mo_follower mo_ahead mo_least mo_seam mo_above mo_below mo_text mo_textLong mo_place mo_value mo_numbers mo_not) 0 [(0, .ref (qMo 0)), (1, .int p1)] []
  refine V_aload_n E 0 rfl dX8_can_0 ?_
  refine gfX8_53 E 0 rfl rfl dX8_can_1 ?_
  refine V_iconst E (v := (0 : Int32)) dX8_can_4 (by decide) ?_
  obtain ⟨hi1, hf⟩ := asr_ok hf
  refine V_iald E 14 rfl hi1 dX8_can_5 ?_
  obtain ⟨t2, ht2, hf⟩ := bd hf
  have ht2 := Option.some.inj ht2
  rw [ht2]
  refine V_istore_n E (lv' := [(0, .ref (qMo 0)), (1, .int p1), (2, .int t2)]) dX8_can_6 (by decide) rfl ?_
  refine V_aload_n E 0 rfl dX8_can_7 ?_
  refine gfX8_53 E 0 rfl rfl dX8_can_8 ?_
  refine V_iconst E (v := (1 : Int32)) dX8_can_11 (by decide) ?_
  obtain ⟨hi3, hf⟩ := asr_ok hf
  refine V_iald E 14 rfl hi3 dX8_can_12 ?_
  obtain ⟨t4, ht4, hf⟩ := bd hf
  have ht4 := Option.some.inj ht4
  rw [ht4]
  refine V_istore_n E (lv' := [(0, .ref (qMo 0)), (1, .int p1), (2, .int t2), (3, .int t4)]) dX8_can_13 (by decide) rfl ?_
  refine V_iload_n E 1 rfl dX8_can_14 ?_
  by_cases hc5 : p1 = (97 : Int32)
  · have hf := ip hc5 hf
    refine V_ls E (tgt := 193) (off := 178) dX8_can_15 (by decide) (by rw [hc5]; decide) (by decide) ?_
    refine V_iconst E (v := (1 : Int32)) dX8_can_193 (by decide) ?_
    refine V_iload_n E 2 rfl dX8_can_194 ?_
    obtain ⟨u6, hu6, hf⟩ := bd hf
    refine V_fr0 E (Rn_S E (rest := []) mlX8_140 wd_yX8_isSetting (kMo_isSetting l G (1 : Int32) t2 u6 hu6) ⟨rfl, rfl, Nat.le_of_ble_eq_true rfl, Nat.le_of_ble_eq_true rfl⟩ rfl rfl (Nat.le_of_ble_eq_true rfl) dX8_can_195) ?_
    show V G p l e rmMo_can s m args below meth c 4 A Q 0 0 (gMo G qMo mo_all mo_past mo_aside mo_states mo_refused mo_causeKind mo_causeOrder mo_corner mo_linkVotes mo_linkE mo_linkF mo_follower mo_ahead mo_least mo_seam mo_above mo_below mo_text mo_textLong mo_place mo_value mo_numbers mo_not) 198 [(0, .ref (qMo 0)), (1, .int p1), (2, .int t2), (3, .int t4)] [.int u6]
    refine V_if_eq E (tgt := 205) dX8_can_198 (by decide) (fun hc7 => ?_) (fun hc7 => ?_)
    · have hf := ip hc7 hf
      refine V_bipush E (v := (-2 : Int32)) dX8_can_205 (by decide) ?_
      have h9 := hret 207 [(0, .ref (qMo 0)), (1, .int p1), (2, .int t2), (3, .int t4)] dX8_can_207
      rw [← (Option.some.inj hf)] at h9
      exact h9
    · have hf := iq hc7 hf
      refine V_iconst E (v := (0 : Int32)) dX8_can_201 (by decide) ?_
      refine V_goto E (tgt := 207) dX8_can_202 (by decide) ?_
      have h9 := hret 207 [(0, .ref (qMo 0)), (1, .int p1), (2, .int t2), (3, .int t4)] dX8_can_207
      rw [← (Option.some.inj hf)] at h9
      exact h9
  · have hf := iq hc5 hf
    by_cases hc8 : p1 = (99 : Int32)
    · have hf := ip hc8 hf
      refine V_ls E (tgt := 145) (off := 130) dX8_can_15 (by decide) (by rw [hc8]; decide) (by decide) ?_
      refine V_aload_n E 0 rfl dX8_can_145 ?_
      refine V_iload_n E 2 rfl dX8_can_146 ?_
      refine V_iload_n E 3 rfl dX8_can_147 ?_
      obtain ⟨u9, hu9, hf⟩ := bd hf
      refine V_frW E (Rn_V E (rest := []) mlX8_104 wd_yX8_isDot (kMo_isDot l G qMo t2 t4 mo_all mo_past mo_aside mo_states mo_refused mo_causeKind mo_causeOrder mo_corner mo_linkVotes mo_linkE mo_linkF mo_follower mo_ahead mo_least mo_seam mo_above mo_below mo_text mo_textLong mo_place mo_value mo_numbers mo_not u9 hu9) ⟨rfl, rfl, Nat.le_of_ble_eq_true rfl, Nat.le_of_ble_eq_true rfl⟩ 0 rfl rfl rfl rfl rfl (Nat.le_of_ble_eq_true rfl) dX8_can_148) ?_
      show V G p l e rmMo_can s m args below meth c 4 A Q 0 0 (gMo G qMo mo_all mo_past mo_aside mo_states mo_refused mo_causeKind mo_causeOrder mo_corner mo_linkVotes mo_linkE mo_linkF mo_follower mo_ahead mo_least mo_seam mo_above mo_below mo_text mo_textLong mo_place mo_value mo_numbers mo_not) 151 [(0, .ref (qMo 0)), (1, .int p1), (2, .int t2), (3, .int t4)] [.int u9]
      refine V_if_eq E (tgt := 175) dX8_can_151 (by decide) (fun hc10 => ?_) (fun hc10 => ?_)
      · have hf := ip hc10 hf
        refine V_bipush E (v := (-2 : Int32)) dX8_can_175 (by decide) ?_
        have h9 := hret 177 [(0, .ref (qMo 0)), (1, .int p1), (2, .int t2), (3, .int t4)] dX8_can_177
        rw [← (Option.some.inj hf)] at h9
        exact h9
      · have hf := iq hc10 hf
        refine V_aload_n E 0 rfl dX8_can_154 ?_
        refine gfX8_53 E 0 rfl rfl dX8_can_155 ?_
        refine V_iconst E (v := (2 : Int32)) dX8_can_158 (by decide) ?_
        obtain ⟨hi11, hf⟩ := asr_ok hf
        refine V_iald E 14 rfl hi11 dX8_can_159 ?_
        refine V_i2l E dX8_can_160 ?_
        refine V_lconst E (v := (0 : Int64)) dX8_can_161 (by decide) ?_
        refine V_ldc2 E (v := (63 : Int64)) dX8_can_162 kX8_107 ?_
        obtain ⟨u12, hu12, hf⟩ := bd hf
        refine V_fr0 E (Rn_S E (rest := []) mlX8_63 wd_yX8_in (kMo_in l G ((mo_numbers (2 : Int32).toNatClampNeg).toInt64) (0 : Int64) (63 : Int64) u12 hu12) ⟨rfl, rfl, Nat.le_of_ble_eq_true rfl, Nat.le_of_ble_eq_true rfl⟩ rfl rfl (Nat.le_of_ble_eq_true rfl) dX8_can_165) ?_
        show V G p l e rmMo_can s m args below meth c 4 A Q 0 0 (gMo G qMo mo_all mo_past mo_aside mo_states mo_refused mo_causeKind mo_causeOrder mo_corner mo_linkVotes mo_linkE mo_linkF mo_follower mo_ahead mo_least mo_seam mo_above mo_below mo_text mo_textLong mo_place mo_value mo_numbers mo_not) 168 [(0, .ref (qMo 0)), (1, .int p1), (2, .int t2), (3, .int t4)] [.int u12]
        refine V_if_eq E (tgt := 175) dX8_can_168 (by decide) (fun hc13 => ?_) (fun hc13 => ?_)
        · have hf := ip hc13 hf
          refine V_bipush E (v := (-2 : Int32)) dX8_can_175 (by decide) ?_
          have h9 := hret 177 [(0, .ref (qMo 0)), (1, .int p1), (2, .int t2), (3, .int t4)] dX8_can_177
          rw [← (Option.some.inj hf)] at h9
          exact h9
        · have hf := iq hc13 hf
          refine V_iconst E (v := (0 : Int32)) dX8_can_171 (by decide) ?_
          refine V_goto E (tgt := 177) dX8_can_172 (by decide) ?_
          have h9 := hret 177 [(0, .ref (qMo 0)), (1, .int p1), (2, .int t2), (3, .int t4)] dX8_can_177
          rw [← (Option.some.inj hf)] at h9
          exact h9
    · have hf := iq hc8 hf
      by_cases hc14 : p1 = (112 : Int32)
      · have hf := ip hc14 hf
        refine V_ls E (tgt := 100) (off := 85) dX8_can_15 (by decide) (by rw [hc14]; decide) (by decide) ?_
        refine V_aload_n E 0 rfl dX8_can_100 ?_
        refine V_iload_n E 2 rfl dX8_can_101 ?_
        obtain ⟨u15, hu15, hf⟩ := bd hf
        refine V_frW E (Rn_V E (rest := []) mlX8_128 wd_yX8_isPicture (kMo_isPicture l G qMo t2 mo_all mo_past mo_aside mo_states mo_refused mo_causeKind mo_causeOrder mo_corner mo_linkVotes mo_linkE mo_linkF mo_follower mo_ahead mo_least mo_seam mo_above mo_below mo_text mo_textLong mo_place mo_value mo_numbers mo_not u15 hu15) ⟨rfl, rfl, Nat.le_of_ble_eq_true rfl, Nat.le_of_ble_eq_true rfl⟩ 0 rfl rfl rfl rfl rfl (Nat.le_of_ble_eq_true rfl) dX8_can_102) ?_
        show V G p l e rmMo_can s m args below meth c 4 A Q 0 0 (gMo G qMo mo_all mo_past mo_aside mo_states mo_refused mo_causeKind mo_causeOrder mo_corner mo_linkVotes mo_linkE mo_linkF mo_follower mo_ahead mo_least mo_seam mo_above mo_below mo_text mo_textLong mo_place mo_value mo_numbers mo_not) 105 [(0, .ref (qMo 0)), (1, .int p1), (2, .int t2), (3, .int t4)] [.int u15]
        refine V_if_eq E (tgt := 142) dX8_can_105 (by decide) (fun hc16 => ?_) (fun hc16 => ?_)
        · have hf := ip hc16 hf
          refine V_bipush E (v := (-2 : Int32)) dX8_can_142 (by decide) ?_
          have h9 := hret 144 [(0, .ref (qMo 0)), (1, .int p1), (2, .int t2), (3, .int t4)] dX8_can_144
          rw [← (Option.some.inj hf)] at h9
          exact h9
        · have hf := iq hc16 hf
          refine V_iload_n E 3 rfl dX8_can_108 ?_
          refine V_aload_n E 0 rfl dX8_can_109 ?_
          refine gfX8_53 E 0 rfl rfl dX8_can_110 ?_
          refine V_iconst E (v := (2 : Int32)) dX8_can_113 (by decide) ?_
          obtain ⟨hi17, hf⟩ := asr_ok hf
          refine V_iald E 14 rfl hi17 dX8_can_114 ?_
          obtain ⟨u18, hu18, hf⟩ := bd hf
          refine V_fr0 E (Rn_S E (rest := []) mlX8_132 wd_yX8_isCell (kMo_isCell l G t4 (mo_numbers (2 : Int32).toNatClampNeg) u18 hu18) ⟨rfl, rfl, Nat.le_of_ble_eq_true rfl, Nat.le_of_ble_eq_true rfl⟩ rfl rfl (Nat.le_of_ble_eq_true rfl) dX8_can_115) ?_
          show V G p l e rmMo_can s m args below meth c 4 A Q 0 0 (gMo G qMo mo_all mo_past mo_aside mo_states mo_refused mo_causeKind mo_causeOrder mo_corner mo_linkVotes mo_linkE mo_linkF mo_follower mo_ahead mo_least mo_seam mo_above mo_below mo_text mo_textLong mo_place mo_value mo_numbers mo_not) 118 [(0, .ref (qMo 0)), (1, .int p1), (2, .int t2), (3, .int t4)] [.int u18]
          refine V_if_eq E (tgt := 142) dX8_can_118 (by decide) (fun hc19 => ?_) (fun hc19 => ?_)
          · have hf := ip hc19 hf
            refine V_bipush E (v := (-2 : Int32)) dX8_can_142 (by decide) ?_
            have h9 := hret 144 [(0, .ref (qMo 0)), (1, .int p1), (2, .int t2), (3, .int t4)] dX8_can_144
            rw [← (Option.some.inj hf)] at h9
            exact h9
          · have hf := iq hc19 hf
            refine V_aload_n E 0 rfl dX8_can_121 ?_
            refine gfX8_53 E 0 rfl rfl dX8_can_122 ?_
            refine V_iconst E (v := (3 : Int32)) dX8_can_125 (by decide) ?_
            obtain ⟨hi20, hf⟩ := asr_ok hf
            refine V_iald E 14 rfl hi20 dX8_can_126 ?_
            refine V_i2l E dX8_can_127 ?_
            refine V_lconst E (v := (0 : Int64)) dX8_can_128 (by decide) ?_
            refine V_ldc2 E (v := (63 : Int64)) dX8_can_129 kX8_107 ?_
            obtain ⟨u21, hu21, hf⟩ := bd hf
            refine V_fr0 E (Rn_S E (rest := []) mlX8_63 wd_yX8_in (kMo_in l G ((mo_numbers (3 : Int32).toNatClampNeg).toInt64) (0 : Int64) (63 : Int64) u21 hu21) ⟨rfl, rfl, Nat.le_of_ble_eq_true rfl, Nat.le_of_ble_eq_true rfl⟩ rfl rfl (Nat.le_of_ble_eq_true rfl) dX8_can_132) ?_
            show V G p l e rmMo_can s m args below meth c 4 A Q 0 0 (gMo G qMo mo_all mo_past mo_aside mo_states mo_refused mo_causeKind mo_causeOrder mo_corner mo_linkVotes mo_linkE mo_linkF mo_follower mo_ahead mo_least mo_seam mo_above mo_below mo_text mo_textLong mo_place mo_value mo_numbers mo_not) 135 [(0, .ref (qMo 0)), (1, .int p1), (2, .int t2), (3, .int t4)] [.int u21]
            refine V_if_eq E (tgt := 142) dX8_can_135 (by decide) (fun hc22 => ?_) (fun hc22 => ?_)
            · have hf := ip hc22 hf
              refine V_bipush E (v := (-2 : Int32)) dX8_can_142 (by decide) ?_
              have h9 := hret 144 [(0, .ref (qMo 0)), (1, .int p1), (2, .int t2), (3, .int t4)] dX8_can_144
              rw [← (Option.some.inj hf)] at h9
              exact h9
            · have hf := iq hc22 hf
              refine V_iconst E (v := (0 : Int32)) dX8_can_138 (by decide) ?_
              refine V_goto E (tgt := 144) dX8_can_139 (by decide) ?_
              have h9 := hret 144 [(0, .ref (qMo 0)), (1, .int p1), (2, .int t2), (3, .int t4)] dX8_can_144
              rw [← (Option.some.inj hf)] at h9
              exact h9
      · have hf := iq hc14 hf
        by_cases hc23 : p1 = (115 : Int32)
        · have hf := ip hc23 hf
          refine V_ls E (tgt := 87) (off := 72) dX8_can_15 (by decide) (by rw [hc23]; decide) (by decide) ?_
          refine V_aload_n E 0 rfl dX8_can_87 ?_
          refine V_iload_n E 2 rfl dX8_can_88 ?_
          refine V_iload_n E 3 rfl dX8_can_89 ?_
          refine V_aload_n E 0 rfl dX8_can_90 ?_
          refine gfX8_53 E 0 rfl rfl dX8_can_91 ?_
          refine V_iconst E (v := (2 : Int32)) dX8_can_94 (by decide) ?_
          obtain ⟨hi24, hf⟩ := asr_ok hf
          refine V_iald E 14 rfl hi24 dX8_can_95 ?_
          obtain ⟨u25, hu25, hf⟩ := bd hf
          refine V_frW E (Rn_V E (rest := []) mlX8_121 wd_yX8_canShoot (kMo_canShoot l G qMo t2 t4 (mo_numbers (2 : Int32).toNatClampNeg) mo_all mo_past mo_aside mo_states mo_refused mo_causeKind mo_causeOrder mo_corner mo_linkVotes mo_linkE mo_linkF mo_follower mo_ahead mo_least mo_seam mo_above mo_below mo_text mo_textLong mo_place mo_value mo_numbers mo_not u25 hu25) ⟨rfl, rfl, Nat.le_of_ble_eq_true rfl, Nat.le_of_ble_eq_true rfl⟩ 0 rfl rfl rfl rfl rfl (Nat.le_of_ble_eq_true rfl) dX8_can_96) ?_
          show V G p l e rmMo_can s m args below meth c 4 A Q 0 0 (gMo G qMo mo_all mo_past mo_aside mo_states mo_refused mo_causeKind mo_causeOrder mo_corner mo_linkVotes mo_linkE mo_linkF mo_follower mo_ahead mo_least mo_seam mo_above mo_below mo_text mo_textLong mo_place mo_value mo_numbers mo_not) 99 [(0, .ref (qMo 0)), (1, .int p1), (2, .int t2), (3, .int t4)] [.int u25]
          have h9 := hret 99 [(0, .ref (qMo 0)), (1, .int p1), (2, .int t2), (3, .int t4)] dX8_can_99
          rw [← (Option.some.inj hf)] at h9
          exact h9
        · have hf := iq hc23 hf
          by_cases hc26 : p1 = (116 : Int32)
          · have hf := ip hc26 hf
            refine V_ls E (tgt := 178) (off := 163) dX8_can_15 (by decide) (by rw [hc26]; decide) (by decide) ?_
            refine V_iconst E (v := (0 : Int32)) dX8_can_178 (by decide) ?_
            refine V_iload_n E 2 rfl dX8_can_179 ?_
            obtain ⟨u27, hu27, hf⟩ := bd hf
            refine V_fr0 E (Rn_S E (rest := []) mlX8_140 wd_yX8_isSetting (kMo_isSetting l G (0 : Int32) t2 u27 hu27) ⟨rfl, rfl, Nat.le_of_ble_eq_true rfl, Nat.le_of_ble_eq_true rfl⟩ rfl rfl (Nat.le_of_ble_eq_true rfl) dX8_can_180) ?_
            show V G p l e rmMo_can s m args below meth c 4 A Q 0 0 (gMo G qMo mo_all mo_past mo_aside mo_states mo_refused mo_causeKind mo_causeOrder mo_corner mo_linkVotes mo_linkE mo_linkF mo_follower mo_ahead mo_least mo_seam mo_above mo_below mo_text mo_textLong mo_place mo_value mo_numbers mo_not) 183 [(0, .ref (qMo 0)), (1, .int p1), (2, .int t2), (3, .int t4)] [.int u27]
            refine V_if_eq E (tgt := 190) dX8_can_183 (by decide) (fun hc28 => ?_) (fun hc28 => ?_)
            · have hf := ip hc28 hf
              refine V_bipush E (v := (-2 : Int32)) dX8_can_190 (by decide) ?_
              have h9 := hret 192 [(0, .ref (qMo 0)), (1, .int p1), (2, .int t2), (3, .int t4)] dX8_can_192
              rw [← (Option.some.inj hf)] at h9
              exact h9
            · have hf := iq hc28 hf
              refine V_iconst E (v := (0 : Int32)) dX8_can_186 (by decide) ?_
              refine V_goto E (tgt := 192) dX8_can_187 (by decide) ?_
              have h9 := hret 192 [(0, .ref (qMo 0)), (1, .int p1), (2, .int t2), (3, .int t4)] dX8_can_192
              rw [← (Option.some.inj hf)] at h9
              exact h9
          · have hf := iq hc26 hf
            by_cases hc29 : p1 = (119 : Int32)
            · have hf := ip hc29 hf
              refine V_ls E (tgt := 72) (off := 57) dX8_can_15 (by decide) (by rw [hc29]; decide) (by decide) ?_
              refine V_iload_n E 2 rfl dX8_can_72 ?_
              refine V_iload_n E 3 rfl dX8_can_73 ?_
              obtain ⟨u30, hu30, hf⟩ := bd hf
              refine V_fr0 E (Rn_S E (rest := []) mlX8_87 wd_yX8_isWorld (kMo_isWorld l G t2 t4 u30 hu30) ⟨rfl, rfl, Nat.le_of_ble_eq_true rfl, Nat.le_of_ble_eq_true rfl⟩ rfl rfl (Nat.le_of_ble_eq_true rfl) dX8_can_74) ?_
              show V G p l e rmMo_can s m args below meth c 4 A Q 0 0 (gMo G qMo mo_all mo_past mo_aside mo_states mo_refused mo_causeKind mo_causeOrder mo_corner mo_linkVotes mo_linkE mo_linkF mo_follower mo_ahead mo_least mo_seam mo_above mo_below mo_text mo_textLong mo_place mo_value mo_numbers mo_not) 77 [(0, .ref (qMo 0)), (1, .int p1), (2, .int t2), (3, .int t4)] [.int u30]
              refine V_if_eq E (tgt := 84) dX8_can_77 (by decide) (fun hc31 => ?_) (fun hc31 => ?_)
              · have hf := ip hc31 hf
                refine V_bipush E (v := (-2 : Int32)) dX8_can_84 (by decide) ?_
                have h9 := hret 86 [(0, .ref (qMo 0)), (1, .int p1), (2, .int t2), (3, .int t4)] dX8_can_86
                rw [← (Option.some.inj hf)] at h9
                exact h9
              · have hf := iq hc31 hf
                refine V_iconst E (v := (0 : Int32)) dX8_can_80 (by decide) ?_
                refine V_goto E (tgt := 86) dX8_can_81 (by decide) ?_
                have h9 := hret 86 [(0, .ref (qMo 0)), (1, .int p1), (2, .int t2), (3, .int t4)] dX8_can_86
                rw [← (Option.some.inj hf)] at h9
                exact h9
            · have hf := iq hc29 hf
              refine V_lsD E (tgt := 208) dX8_can_15 (by decide) (List.forall_mem_cons.mpr ⟨tsne hc5 (by decide), List.forall_mem_cons.mpr ⟨tsne hc8 (by decide), List.forall_mem_cons.mpr ⟨tsne hc14 (by decide), List.forall_mem_cons.mpr ⟨tsne hc23 (by decide), List.forall_mem_cons.mpr ⟨tsne hc26 (by decide), List.forall_mem_cons.mpr ⟨tsne hc29 (by decide), fun _ h => absurd h List.not_mem_nil⟩⟩⟩⟩⟩⟩) (by decide) ?_
              refine V_aload_n E 0 rfl dX8_can_208 ?_
              refine V_iload_n E 2 rfl dX8_can_209 ?_
              obtain ⟨u32, hu32, hf⟩ := bd hf
              refine V_frW E (Rn_V E (rest := []) mlX8_128 wd_yX8_isPicture (kMo_isPicture l G qMo t2 mo_all mo_past mo_aside mo_states mo_refused mo_causeKind mo_causeOrder mo_corner mo_linkVotes mo_linkE mo_linkF mo_follower mo_ahead mo_least mo_seam mo_above mo_below mo_text mo_textLong mo_place mo_value mo_numbers mo_not u32 hu32) ⟨rfl, rfl, Nat.le_of_ble_eq_true rfl, Nat.le_of_ble_eq_true rfl⟩ 0 rfl rfl rfl rfl rfl (Nat.le_of_ble_eq_true rfl) dX8_can_210) ?_
              show V G p l e rmMo_can s m args below meth c 4 A Q 0 0 (gMo G qMo mo_all mo_past mo_aside mo_states mo_refused mo_causeKind mo_causeOrder mo_corner mo_linkVotes mo_linkE mo_linkF mo_follower mo_ahead mo_least mo_seam mo_above mo_below mo_text mo_textLong mo_place mo_value mo_numbers mo_not) 213 [(0, .ref (qMo 0)), (1, .int p1), (2, .int t2), (3, .int t4)] [.int u32]
              refine V_if_eq E (tgt := 220) dX8_can_213 (by decide) (fun hc33 => ?_) (fun hc33 => ?_)
              · have hf := ip hc33 hf
                refine V_bipush E (v := (-2 : Int32)) dX8_can_220 (by decide) ?_
                have h9 := hret 222 [(0, .ref (qMo 0)), (1, .int p1), (2, .int t2), (3, .int t4)] dX8_can_222
                rw [← (Option.some.inj hf)] at h9
                exact h9
              · have hf := iq hc33 hf
                refine V_iconst E (v := (0 : Int32)) dX8_can_216 (by decide) ?_
                refine V_goto E (tgt := 222) dX8_can_217 (by decide) ?_
                have h9 := hret 222 [(0, .ref (qMo 0)), (1, .int p1), (2, .int t2), (3, .int t4)] dX8_can_222
                rw [← (Option.some.inj hf)] at h9
                exact h9
abbrev rmMo_does : Room := { frames := 2, cells := 0, slots := 0, locals := 46 }
theorem wd_yX8_does : wdV yX8_does cX8_does 5 none 1 := ⟨wc_yX8_does, wi_yX8_does, wse_yX8_does, wini_X8, by decide +kernel, by decide +kernel, by decide +kernel⟩
set_option maxHeartbeats 4000000 in
set_option maxRecDepth 100000 in
theorem kMo_does (l : Launch) (G : wG) (qMo : Nat → Nat) (p1 : Int32) (mo_all : Nat → Int32) (mo_past : Nat → Int32) (mo_aside : Nat → Int32) (mo_states : Int32) (mo_refused : Nat → Int32) (mo_causeKind : Int32) (mo_causeOrder : Int32) (mo_corner : Nat → Int32) (mo_linkVotes : Nat → Int32) (mo_linkE : Nat → Int32) (mo_linkF : Nat → Int32) (mo_follower : Nat → Int32) (mo_ahead : Nat → Int32) (mo_least : Nat → Int32) (mo_seam : Nat → Int32) (mo_above : Int64) (mo_below : Int64) (mo_text : Nat → Int32) (mo_textLong : Int32) (mo_place : Int32) (mo_value : Int32) (mo_numbers : Nat → Int32) (mo_not : Int32) (o : (Nat → Int32)) (hf : fMo_does p1 mo_all mo_numbers = some o) : Ct G l yX8_does cX8_does 5 none rmMo_does [.ref (qMo 0), .int p1] (gMo G qMo mo_all mo_past mo_aside mo_states mo_refused mo_causeKind mo_causeOrder mo_corner mo_linkVotes mo_linkE mo_linkF mo_follower mo_ahead mo_least mo_seam mo_above mo_below mo_text mo_textLong mo_place mo_value mo_numbers mo_not) none (gMo G qMo o mo_past mo_aside mo_states mo_refused mo_causeKind mo_causeOrder mo_corner mo_linkVotes mo_linkE mo_linkF mo_follower mo_ahead mo_least mo_seam mo_above mo_below mo_text mo_textLong mo_place mo_value mo_numbers mo_not) := by
  refine Ct.ofV (by decide +kernel) (Nat.le_of_ble_eq_true rfl) (fun p e s m args below meth c A Q E hret => ?_)
  unfold fMo_does at hf
  show V G p l e rmMo_does s m args below meth c 5 A Q 0 0 (gMo G qMo mo_all mo_past mo_aside mo_states mo_refused mo_causeKind mo_causeOrder mo_corner mo_linkVotes mo_linkE mo_linkF mo_follower mo_ahead mo_least mo_seam mo_above mo_below mo_text mo_textLong mo_place mo_value mo_numbers mo_not) 0 [(0, .ref (qMo 0)), (1, .int p1)] []
  refine V_aload_n E 0 rfl dX8_does_0 ?_
  refine gfX8_53 E 0 rfl rfl dX8_does_1 ?_
  refine V_iconst E (v := (0 : Int32)) dX8_does_4 (by decide) ?_
  obtain ⟨hi1, hf⟩ := asr_ok hf
  refine V_iald E 14 rfl hi1 dX8_does_5 ?_
  obtain ⟨t2, ht2, hf⟩ := bd hf
  have ht2 := Option.some.inj ht2
  rw [ht2]
  refine V_istore_n E (lv' := [(0, .ref (qMo 0)), (1, .int p1), (2, .int t2)]) dX8_does_6 (by decide) rfl ?_
  refine V_aload_n E 0 rfl dX8_does_7 ?_
  refine gfX8_53 E 0 rfl rfl dX8_does_8 ?_
  refine V_iconst E (v := (1 : Int32)) dX8_does_11 (by decide) ?_
  obtain ⟨hi3, hf⟩ := asr_ok hf
  refine V_iald E 14 rfl hi3 dX8_does_12 ?_
  obtain ⟨t4, ht4, hf⟩ := bd hf
  have ht4 := Option.some.inj ht4
  rw [ht4]
  refine V_istore_n E (lv' := [(0, .ref (qMo 0)), (1, .int p1), (2, .int t2), (3, .int t4)]) dX8_does_13 (by decide) rfl ?_
  refine V_iload_n E 1 rfl dX8_does_14 ?_
  refine V_bipush E (v := (119 : Int32)) dX8_does_15 (by decide) ?_
  obtain ⟨u6, hu6, hf⟩ := bd hf
  have J65 : V G p l e rmMo_does s m args below meth c 5 A Q 0 0 (gMo G qMo u6.2 mo_past mo_aside mo_states mo_refused mo_causeKind mo_causeOrder mo_corner mo_linkVotes mo_linkE mo_linkF mo_follower mo_ahead mo_least mo_seam mo_above mo_below mo_text mo_textLong mo_place mo_value mo_numbers mo_not) 65 [(0, .ref (qMo 0)), (1, .int p1), (2, .int t2), (3, .int t4)] [.int u6.1] := by
    refine V_istore E (lv' := [(0, .ref (qMo 0)), (1, .int p1), (2, .int t2), (3, .int t4), (4, .int u6.1)]) dX8_does_65 (by decide) rfl ?_
    refine V_iload_n E 1 rfl dX8_does_67 ?_
    refine V_bipush E (v := (112 : Int32)) dX8_does_68 (by decide) ?_
    refine V_icmp_ne E (tgt := 107) dX8_does_70 (by decide) (fun hc13 => ?_) (fun hc13 => ?_)
    · have hf := iq hc13 hf
      refine V_iload_n E 1 rfl dX8_does_107 ?_
      refine V_bipush E (v := (99 : Int32)) dX8_does_108 (by decide) ?_
      refine V_icmp_ne E (tgt := 135) dX8_does_110 (by decide) (fun hc14 => ?_) (fun hc14 => ?_)
      · have hf := iq hc14 hf
        refine V_iload_n E 1 rfl dX8_does_135 ?_
        refine V_bipush E (v := (116 : Int32)) dX8_does_136 (by decide) ?_
        refine V_icmp_eq E (tgt := 147) dX8_does_138 (by decide) (fun hc15 => ?_) (fun hc15 => ?_)
        · have hf := ip hc15 hf
          refine V_aload_n E 0 rfl dX8_does_147 ?_
          refine gfX8_7 E 0 rfl rfl dX8_does_148 ?_
          refine V_iload_n E 1 rfl dX8_does_151 ?_
          refine V_bipush E (v := (116 : Int32)) dX8_does_152 (by decide) ?_
          refine V_icmp_ne E (tgt := 161) dX8_does_154 (by decide) (fun hc16 => ?_) (fun hc16 => ?_)
          · have hf := iq hc16 hf
            refine V_iconst E (v := (2 : Int32)) dX8_does_161 (by decide) ?_
            refine V_iload_n E 2 rfl dX8_does_162 ?_
            obtain ⟨hi17, hf⟩ := asr_ok hf
            refine V_iast E (ws' := (gMo G qMo (upd u6.2 (2 : Int32).toNatClampNeg t2) mo_past mo_aside mo_states mo_refused mo_causeKind mo_causeOrder mo_corner mo_linkVotes mo_linkE mo_linkF mo_follower mo_ahead mo_least mo_seam mo_above mo_below mo_text mo_textLong mo_place mo_value mo_numbers mo_not)) 1 rfl hi17 dX8_does_163 rfl ?_
            have h9 := hret 164 [(0, .ref (qMo 0)), (1, .int p1), (2, .int t2), (3, .int t4), (4, .int u6.1)] dX8_does_164
            rw [← (Option.some.inj hf)] at h9
            exact h9
          · have hf := ip hc16 hf
            refine V_iconst E (v := (1 : Int32)) dX8_does_157 (by decide) ?_
            refine V_goto E (tgt := 162) dX8_does_158 (by decide) ?_
            refine V_iload_n E 2 rfl dX8_does_162 ?_
            obtain ⟨hi18, hf⟩ := asr_ok hf
            refine V_iast E (ws' := (gMo G qMo (upd u6.2 (1 : Int32).toNatClampNeg t2) mo_past mo_aside mo_states mo_refused mo_causeKind mo_causeOrder mo_corner mo_linkVotes mo_linkE mo_linkF mo_follower mo_ahead mo_least mo_seam mo_above mo_below mo_text mo_textLong mo_place mo_value mo_numbers mo_not)) 1 rfl hi18 dX8_does_163 rfl ?_
            have h9 := hret 164 [(0, .ref (qMo 0)), (1, .int p1), (2, .int t2), (3, .int t4), (4, .int u6.1)] dX8_does_164
            rw [← (Option.some.inj hf)] at h9
            exact h9
        · have hf := iq hc15 hf
          refine V_iload_n E 1 rfl dX8_does_141 ?_
          refine V_bipush E (v := (97 : Int32)) dX8_does_142 (by decide) ?_
          refine V_icmp_ne E (tgt := 164) dX8_does_144 (by decide) (fun hc19 => ?_) (fun hc19 => ?_)
          · have hf := iq hc19 hf
            have h9 := hret 164 [(0, .ref (qMo 0)), (1, .int p1), (2, .int t2), (3, .int t4), (4, .int u6.1)] dX8_does_164
            rw [← (Option.some.inj hf)] at h9
            exact h9
          · have hf := ip hc19 hf
            refine V_aload_n E 0 rfl dX8_does_147 ?_
            refine gfX8_7 E 0 rfl rfl dX8_does_148 ?_
            refine V_iload_n E 1 rfl dX8_does_151 ?_
            refine V_bipush E (v := (116 : Int32)) dX8_does_152 (by decide) ?_
            refine V_icmp_ne E (tgt := 161) dX8_does_154 (by decide) (fun hc20 => ?_) (fun hc20 => ?_)
            · have hf := iq hc20 hf
              refine V_iconst E (v := (2 : Int32)) dX8_does_161 (by decide) ?_
              refine V_iload_n E 2 rfl dX8_does_162 ?_
              obtain ⟨hi21, hf⟩ := asr_ok hf
              refine V_iast E (ws' := (gMo G qMo (upd u6.2 (2 : Int32).toNatClampNeg t2) mo_past mo_aside mo_states mo_refused mo_causeKind mo_causeOrder mo_corner mo_linkVotes mo_linkE mo_linkF mo_follower mo_ahead mo_least mo_seam mo_above mo_below mo_text mo_textLong mo_place mo_value mo_numbers mo_not)) 1 rfl hi21 dX8_does_163 rfl ?_
              have h9 := hret 164 [(0, .ref (qMo 0)), (1, .int p1), (2, .int t2), (3, .int t4), (4, .int u6.1)] dX8_does_164
              rw [← (Option.some.inj hf)] at h9
              exact h9
            · have hf := ip hc20 hf
              refine V_iconst E (v := (1 : Int32)) dX8_does_157 (by decide) ?_
              refine V_goto E (tgt := 162) dX8_does_158 (by decide) ?_
              refine V_iload_n E 2 rfl dX8_does_162 ?_
              obtain ⟨hi22, hf⟩ := asr_ok hf
              refine V_iast E (ws' := (gMo G qMo (upd u6.2 (1 : Int32).toNatClampNeg t2) mo_past mo_aside mo_states mo_refused mo_causeKind mo_causeOrder mo_corner mo_linkVotes mo_linkE mo_linkF mo_follower mo_ahead mo_least mo_seam mo_above mo_below mo_text mo_textLong mo_place mo_value mo_numbers mo_not)) 1 rfl hi22 dX8_does_163 rfl ?_
              have h9 := hret 164 [(0, .ref (qMo 0)), (1, .int p1), (2, .int t2), (3, .int t4), (4, .int u6.1)] dX8_does_164
              rw [← (Option.some.inj hf)] at h9
              exact h9
      · have hf := ip hc14 hf
        refine V_aload_n E 0 rfl dX8_does_113 ?_
        refine gfX8_7 E 0 rfl rfl dX8_does_114 ?_
        refine V_iconst E (v := (4 : Int32)) dX8_does_117 (by decide) ?_
        refine V_bipush E (v := (32 : Int32)) dX8_does_118 (by decide) ?_
        refine V_iload_n E 2 rfl dX8_does_120 ?_
        refine V_imul E dX8_does_121 ?_
        refine V_iadd E dX8_does_122 ?_
        refine V_iload_n E 3 rfl dX8_does_123 ?_
        refine V_iadd E dX8_does_124 ?_
        refine V_aload_n E 0 rfl dX8_does_125 ?_
        refine gfX8_53 E 0 rfl rfl dX8_does_126 ?_
        refine V_iconst E (v := (2 : Int32)) dX8_does_129 (by decide) ?_
        obtain ⟨hi23, hf⟩ := asr_ok hf
        refine V_iald E 14 rfl hi23 dX8_does_130 ?_
        obtain ⟨hi24, hf⟩ := asr_ok hf
        refine V_iast E (ws' := (gMo G qMo (upd u6.2 (((4 : Int32) + ((32 : Int32) * t2)) + t4).toNatClampNeg (mo_numbers (2 : Int32).toNatClampNeg)) mo_past mo_aside mo_states mo_refused mo_causeKind mo_causeOrder mo_corner mo_linkVotes mo_linkE mo_linkF mo_follower mo_ahead mo_least mo_seam mo_above mo_below mo_text mo_textLong mo_place mo_value mo_numbers mo_not)) 1 rfl hi24 dX8_does_131 rfl ?_
        refine V_goto E (tgt := 164) dX8_does_132 (by decide) ?_
        have h9 := hret 164 [(0, .ref (qMo 0)), (1, .int p1), (2, .int t2), (3, .int t4), (4, .int u6.1)] dX8_does_164
        rw [← (Option.some.inj hf)] at h9
        exact h9
    · have hf := ip hc13 hf
      refine V_aload_n E 0 rfl dX8_does_73 ?_
      refine gfX8_7 E 0 rfl rfl dX8_does_74 ?_
      refine V_sipush E (v := (196 : Int32)) dX8_does_77 (by decide) ?_
      refine V_bipush E (v := (35 : Int32)) dX8_does_80 (by decide) ?_
      refine V_iload_n E 2 rfl dX8_does_82 ?_
      refine V_imul E dX8_does_83 ?_
      refine V_iadd E dX8_does_84 ?_
      refine V_bipush E (v := (8 : Int32)) dX8_does_85 (by decide) ?_
      refine V_iload_n E 3 rfl dX8_does_87 ?_
      refine V_imul E dX8_does_88 ?_
      refine V_iadd E dX8_does_89 ?_
      refine V_aload_n E 0 rfl dX8_does_90 ?_
      refine gfX8_53 E 0 rfl rfl dX8_does_91 ?_
      refine V_iconst E (v := (2 : Int32)) dX8_does_94 (by decide) ?_
      obtain ⟨hi25, hf⟩ := asr_ok hf
      refine V_iald E 14 rfl hi25 dX8_does_95 ?_
      refine V_iadd E dX8_does_96 ?_
      refine V_aload_n E 0 rfl dX8_does_97 ?_
      refine gfX8_53 E 0 rfl rfl dX8_does_98 ?_
      refine V_iconst E (v := (3 : Int32)) dX8_does_101 (by decide) ?_
      obtain ⟨hi26, hf⟩ := asr_ok hf
      refine V_iald E 14 rfl hi26 dX8_does_102 ?_
      obtain ⟨hi27, hf⟩ := asr_ok hf
      refine V_iast E (ws' := (gMo G qMo (upd u6.2 ((((196 : Int32) + ((35 : Int32) * t2)) + ((8 : Int32) * t4)) + (mo_numbers (2 : Int32).toNatClampNeg)).toNatClampNeg (mo_numbers (3 : Int32).toNatClampNeg)) mo_past mo_aside mo_states mo_refused mo_causeKind mo_causeOrder mo_corner mo_linkVotes mo_linkE mo_linkF mo_follower mo_ahead mo_least mo_seam mo_above mo_below mo_text mo_textLong mo_place mo_value mo_numbers mo_not)) 1 rfl hi27 dX8_does_103 rfl ?_
      refine V_goto E (tgt := 164) dX8_does_104 (by decide) ?_
      have h9 := hret 164 [(0, .ref (qMo 0)), (1, .int p1), (2, .int t2), (3, .int t4), (4, .int u6.1)] dX8_does_164
      rw [← (Option.some.inj hf)] at h9
      exact h9
  clear hf
  have hf := hu6
  refine V_icmp_ne E (tgt := 29) dX8_does_17 (by decide) (fun hc5 => ?_) (fun hc5 => ?_)
  · have hf := iq hc5 hf
    refine V_iload_n E 1 rfl dX8_does_29 ?_
    refine V_bipush E (v := (115 : Int32)) dX8_does_30 (by decide) ?_
    refine V_icmp_ne E (tgt := 50) dX8_does_32 (by decide) (fun hc7 => ?_) (fun hc7 => ?_)
    · have hf := iq hc7 hf
      refine V_iload_n E 1 rfl dX8_does_50 ?_
      refine V_bipush E (v := (120 : Int32)) dX8_does_51 (by decide) ?_
      refine V_icmp_ne E (tgt := 64) dX8_does_53 (by decide) (fun hc8 => ?_) (fun hc8 => ?_)
      · have hf := iq hc8 hf
        refine V_iconst E (v := (0 : Int32)) dX8_does_64 (by decide) ?_
        rw [← Option.some.inj hf] at J65
        exact J65
      · have hf := ip hc8 hf
        refine V_aload_n E 0 rfl dX8_does_56 ?_
        refine V_iload_n E 2 rfl dX8_does_57 ?_
        obtain ⟨u9, hu9, hf⟩ := bd hf
        refine V_frW E (Rn_V E (rest := []) mlX8_135 wd_yX8_dropNow (kMo_dropNow l G qMo t2 mo_all mo_past mo_aside mo_states mo_refused mo_causeKind mo_causeOrder mo_corner mo_linkVotes mo_linkE mo_linkF mo_follower mo_ahead mo_least mo_seam mo_above mo_below mo_text mo_textLong mo_place mo_value mo_numbers mo_not u9 hu9) ⟨rfl, rfl, Nat.le_of_ble_eq_true rfl, Nat.le_of_ble_eq_true rfl⟩ 0 rfl rfl rfl rfl rfl (Nat.le_of_ble_eq_true rfl) dX8_does_58) ?_
        show V G p l e rmMo_does s m args below meth c 5 A Q 0 0 (gMo G qMo u9.2 mo_past mo_aside mo_states mo_refused mo_causeKind mo_causeOrder mo_corner mo_linkVotes mo_linkE mo_linkF mo_follower mo_ahead mo_least mo_seam mo_above mo_below mo_text mo_textLong mo_place mo_value mo_numbers mo_not) 61 [(0, .ref (qMo 0)), (1, .int p1), (2, .int t2), (3, .int t4)] [.int u9.1]
        refine V_goto E (tgt := 65) dX8_does_61 (by decide) ?_
        rw [← Option.some.inj hf] at J65
        exact J65
    · have hf := ip hc7 hf
      refine V_aload_n E 0 rfl dX8_does_35 ?_
      refine V_iload_n E 2 rfl dX8_does_36 ?_
      refine V_iload_n E 3 rfl dX8_does_37 ?_
      refine V_aload_n E 0 rfl dX8_does_38 ?_
      refine gfX8_53 E 0 rfl rfl dX8_does_39 ?_
      refine V_iconst E (v := (2 : Int32)) dX8_does_42 (by decide) ?_
      obtain ⟨hi10, hf⟩ := asr_ok hf
      refine V_iald E 14 rfl hi10 dX8_does_43 ?_
      obtain ⟨u11, hu11, hf⟩ := bd hf
      refine V_frW E (Rn_V E (rest := []) mlX8_125 wd_yX8_shotNow (kMo_shotNow l G qMo t2 t4 (mo_numbers (2 : Int32).toNatClampNeg) mo_all mo_past mo_aside mo_states mo_refused mo_causeKind mo_causeOrder mo_corner mo_linkVotes mo_linkE mo_linkF mo_follower mo_ahead mo_least mo_seam mo_above mo_below mo_text mo_textLong mo_place mo_value mo_numbers mo_not u11 hu11) ⟨rfl, rfl, Nat.le_of_ble_eq_true rfl, Nat.le_of_ble_eq_true rfl⟩ 0 rfl rfl rfl rfl rfl (Nat.le_of_ble_eq_true rfl) dX8_does_44) ?_
      show V G p l e rmMo_does s m args below meth c 5 A Q 0 0 (gMo G qMo u11.2 mo_past mo_aside mo_states mo_refused mo_causeKind mo_causeOrder mo_corner mo_linkVotes mo_linkE mo_linkF mo_follower mo_ahead mo_least mo_seam mo_above mo_below mo_text mo_textLong mo_place mo_value mo_numbers mo_not) 47 [(0, .ref (qMo 0)), (1, .int p1), (2, .int t2), (3, .int t4)] [.int u11.1]
      refine V_goto E (tgt := 65) dX8_does_47 (by decide) ?_
      rw [← Option.some.inj hf] at J65
      exact J65
  · have hf := ip hc5 hf
    refine V_aload_n E 0 rfl dX8_does_20 ?_
    refine V_iload_n E 2 rfl dX8_does_21 ?_
    refine V_iload_n E 3 rfl dX8_does_22 ?_
    obtain ⟨u12, hu12, hf⟩ := bd hf
    refine V_frW E (Rn_V E (rest := []) mlX8_98 wd_yX8_worldNow (kMo_worldNow l G qMo t2 t4 mo_all mo_past mo_aside mo_states mo_refused mo_causeKind mo_causeOrder mo_corner mo_linkVotes mo_linkE mo_linkF mo_follower mo_ahead mo_least mo_seam mo_above mo_below mo_text mo_textLong mo_place mo_value mo_numbers mo_not u12 hu12) ⟨rfl, rfl, Nat.le_of_ble_eq_true rfl, Nat.le_of_ble_eq_true rfl⟩ 0 rfl rfl rfl rfl rfl (Nat.le_of_ble_eq_true rfl) dX8_does_23) ?_
    show V G p l e rmMo_does s m args below meth c 5 A Q 0 0 (gMo G qMo u12.2 mo_past mo_aside mo_states mo_refused mo_causeKind mo_causeOrder mo_corner mo_linkVotes mo_linkE mo_linkF mo_follower mo_ahead mo_least mo_seam mo_above mo_below mo_text mo_textLong mo_place mo_value mo_numbers mo_not) 26 [(0, .ref (qMo 0)), (1, .int p1), (2, .int t2), (3, .int t4)] [.int u12.1]
    refine V_goto E (tgt := 65) dX8_does_26 (by decide) ?_
    rw [← Option.some.inj hf] at J65
    exact J65
abbrev rmMo_readsOrder : Room := { frames := 4, cells := 0, slots := 0, locals := 93 }
theorem wd_yX8_readsOrder : wdV yX8_readsOrder cX8_readsOrder 3 (some .boolean) 1 := ⟨wc_yX8_readsOrder, wi_yX8_readsOrder, wse_yX8_readsOrder, wini_X8, by decide +kernel, by decide +kernel, by decide +kernel⟩
set_option maxHeartbeats 4000000 in
set_option maxRecDepth 100000 in
theorem kMo_readsOrder (l : Launch) (G : wG) (qMo : Nat → Nat) (p1 : Int32) (mo_all : Nat → Int32) (mo_past : Nat → Int32) (mo_aside : Nat → Int32) (mo_states : Int32) (mo_refused : Nat → Int32) (mo_causeKind : Int32) (mo_causeOrder : Int32) (mo_corner : Nat → Int32) (mo_linkVotes : Nat → Int32) (mo_linkE : Nat → Int32) (mo_linkF : Nat → Int32) (mo_follower : Nat → Int32) (mo_ahead : Nat → Int32) (mo_least : Nat → Int32) (mo_seam : Nat → Int32) (mo_above : Int64) (mo_below : Int64) (mo_text : Nat → Int32) (mo_textLong : Int32) (mo_place : Int32) (mo_value : Int32) (mo_numbers : Nat → Int32) (mo_not : Int32) (o : Int32 × (Nat → Int32) × Int32 × Int32 × (Nat → Int32) × Int32) (hf : fMo_readsOrder p1 mo_all mo_text mo_textLong mo_place mo_value mo_numbers mo_not = some o) : Ct G l yX8_readsOrder cX8_readsOrder 3 (some .boolean) rmMo_readsOrder [.ref (qMo 0), .int p1] (gMo G qMo mo_all mo_past mo_aside mo_states mo_refused mo_causeKind mo_causeOrder mo_corner mo_linkVotes mo_linkE mo_linkF mo_follower mo_ahead mo_least mo_seam mo_above mo_below mo_text mo_textLong mo_place mo_value mo_numbers mo_not) (some (.int o.1)) (gMo G qMo o.2.1 mo_past mo_aside mo_states mo_refused mo_causeKind mo_causeOrder mo_corner mo_linkVotes mo_linkE mo_linkF mo_follower mo_ahead mo_least mo_seam mo_above mo_below mo_text mo_textLong o.2.2.1 o.2.2.2.1 o.2.2.2.2.1 o.2.2.2.2.2) := by
  refine Ct.ofZ (by decide +kernel) (Nat.le_of_ble_eq_true rfl) (fun p e s m args below meth c A Q E hret => ?_)
  unfold fMo_readsOrder at hf
  show V G p l e rmMo_readsOrder s m args below meth c 3 A Q 0 0 (gMo G qMo mo_all mo_past mo_aside mo_states mo_refused mo_causeKind mo_causeOrder mo_corner mo_linkVotes mo_linkE mo_linkF mo_follower mo_ahead mo_least mo_seam mo_above mo_below mo_text mo_textLong mo_place mo_value mo_numbers mo_not) 0 [(0, .ref (qMo 0)), (1, .int p1)] []
  refine V_aload_n E 0 rfl dX8_readsOrder_0 ?_
  obtain ⟨u1, hu1, hf⟩ := bd hf
  refine V_frW E (Rn_V E (rest := []) mlX8_291 wd_yX8_here (kMo_here l G qMo mo_all mo_past mo_aside mo_states mo_refused mo_causeKind mo_causeOrder mo_corner mo_linkVotes mo_linkE mo_linkF mo_follower mo_ahead mo_least mo_seam mo_above mo_below mo_text mo_textLong mo_place mo_value mo_numbers mo_not u1 hu1) ⟨rfl, rfl, Nat.le_of_ble_eq_true rfl, Nat.le_of_ble_eq_true rfl⟩ 0 rfl rfl rfl rfl rfl (Nat.le_of_ble_eq_true rfl) dX8_readsOrder_1) ?_
  show V G p l e rmMo_readsOrder s m args below meth c 3 A Q 0 0 (gMo G qMo mo_all mo_past mo_aside mo_states mo_refused mo_causeKind mo_causeOrder mo_corner mo_linkVotes mo_linkE mo_linkF mo_follower mo_ahead mo_least mo_seam mo_above mo_below mo_text mo_textLong u1.2 mo_value mo_numbers mo_not) 4 [(0, .ref (qMo 0)), (1, .int p1)] [.int u1.1]
  refine V_istore_n E (lv' := [(0, .ref (qMo 0)), (1, .int p1), (2, .int u1.1)]) dX8_readsOrder_4 (by decide) rfl ?_
  refine V_iload_n E 2 rfl dX8_readsOrder_5 ?_
  refine V_bipush E (v := (119 : Int32)) dX8_readsOrder_6 (by decide) ?_
  refine V_icmp_eq E (tgt := 49) dX8_readsOrder_8 (by decide) (fun hc2 => ?_) (fun hc2 => ?_)
  · have hf := ip hc2 hf
    refine V_aload_n E 0 rfl dX8_readsOrder_49 ?_
    refine V_dup E dX8_readsOrder_50 rfl ?_
    refine gfX8_284 E 0 rfl rfl dX8_readsOrder_51 ?_
    refine V_iconst E (v := (1 : Int32)) dX8_readsOrder_54 (by decide) ?_
    refine V_iadd E dX8_readsOrder_55 ?_
    refine pfX8_284 E (ws' := (gMo G qMo mo_all mo_past mo_aside mo_states mo_refused mo_causeKind mo_causeOrder mo_corner mo_linkVotes mo_linkE mo_linkF mo_follower mo_ahead mo_least mo_seam mo_above mo_below mo_text mo_textLong (u1.2 + (1 : Int32)) mo_value mo_numbers mo_not)) 0 rfl (Nat.le_of_ble_eq_true rfl) rfl rfl dX8_readsOrder_56 rfl ?_
    refine V_aload_n E 0 rfl dX8_readsOrder_59 ?_
    refine V_iload_n E 2 rfl dX8_readsOrder_60 ?_
    obtain ⟨u3, hu3, hf⟩ := bd hf
    refine V_fr0 E (Rn_S E (rest := [.ref (qMo 0)]) mlX8_304 wd_yX8_numbersOf (kMo_numbersOf l G u1.1 u3 hu3) ⟨rfl, rfl, Nat.le_of_ble_eq_true rfl, Nat.le_of_ble_eq_true rfl⟩ rfl rfl (Nat.le_of_ble_eq_true rfl) dX8_readsOrder_61) ?_
    show V G p l e rmMo_readsOrder s m args below meth c 3 A Q 0 0 (gMo G qMo mo_all mo_past mo_aside mo_states mo_refused mo_causeKind mo_causeOrder mo_corner mo_linkVotes mo_linkE mo_linkF mo_follower mo_ahead mo_least mo_seam mo_above mo_below mo_text mo_textLong (u1.2 + (1 : Int32)) mo_value mo_numbers mo_not) 64 [(0, .ref (qMo 0)), (1, .int p1), (2, .int u1.1)] [.int u3, .ref (qMo 0)]
    refine V_iload_n E 2 rfl dX8_readsOrder_64 ?_
    refine V_bipush E (v := (115 : Int32)) dX8_readsOrder_65 (by decide) ?_
    obtain ⟨u5, hu5, hf⟩ := bd hf
    have J75 : V G p l e rmMo_readsOrder s m args below meth c 3 A Q 0 0 (gMo G qMo mo_all mo_past mo_aside mo_states mo_refused mo_causeKind mo_causeOrder mo_corner mo_linkVotes mo_linkE mo_linkF mo_follower mo_ahead mo_least mo_seam mo_above mo_below mo_text mo_textLong (u1.2 + (1 : Int32)) mo_value mo_numbers mo_not) 75 [(0, .ref (qMo 0)), (1, .int p1), (2, .int u1.1)] [.int u5, .int u3, .ref (qMo 0)] := by
      obtain ⟨u6, hu6, hf⟩ := bd hf
      refine V_frW E (Rn_V E (rest := []) mlX8_307 wd_yX8_takesAll (kMo_takesAll l G qMo u3 u5 mo_all mo_past mo_aside mo_states mo_refused mo_causeKind mo_causeOrder mo_corner mo_linkVotes mo_linkE mo_linkF mo_follower mo_ahead mo_least mo_seam mo_above mo_below mo_text mo_textLong (u1.2 + (1 : Int32)) mo_value mo_numbers mo_not u6 hu6) ⟨rfl, rfl, Nat.le_of_ble_eq_true rfl, Nat.le_of_ble_eq_true rfl⟩ 0 rfl rfl rfl rfl rfl (Nat.le_of_ble_eq_true rfl) dX8_readsOrder_75) ?_
      show V G p l e rmMo_readsOrder s m args below meth c 3 A Q 0 0 (gMo G qMo mo_all mo_past mo_aside mo_states mo_refused mo_causeKind mo_causeOrder mo_corner mo_linkVotes mo_linkE mo_linkF mo_follower mo_ahead mo_least mo_seam mo_above mo_below mo_text mo_textLong u6.2.1 u6.2.2.1 u6.2.2.2 mo_not) 78 [(0, .ref (qMo 0)), (1, .int p1), (2, .int u1.1)] [.int u6.1]
      refine V_if_eq E (tgt := 90) dX8_readsOrder_78 (by decide) (fun hc7 => ?_) (fun hc7 => ?_)
      · have hf := ip hc7 hf
        refine V_iconst E (v := (0 : Int32)) dX8_readsOrder_90 (by decide) ?_
        have h9 := hret 91 [(0, .ref (qMo 0)), (1, .int p1), (2, .int u1.1)] dX8_readsOrder_91
        rw [← (Option.some.inj hf)] at h9
        exact h9 (z01a (Or.inl rfl))
      · have hf := iq hc7 hf
        refine V_aload_n E 0 rfl dX8_readsOrder_81 ?_
        obtain ⟨u8, hu8, hf⟩ := bd hf
        refine V_frW E (Rn_V E (rest := []) mlX8_291 wd_yX8_here (kMo_here l G qMo mo_all mo_past mo_aside mo_states mo_refused mo_causeKind mo_causeOrder mo_corner mo_linkVotes mo_linkE mo_linkF mo_follower mo_ahead mo_least mo_seam mo_above mo_below mo_text mo_textLong u6.2.1 u6.2.2.1 u6.2.2.2 mo_not u8 hu8) ⟨rfl, rfl, Nat.le_of_ble_eq_true rfl, Nat.le_of_ble_eq_true rfl⟩ 0 rfl rfl rfl rfl rfl (Nat.le_of_ble_eq_true rfl) dX8_readsOrder_82) ?_
        show V G p l e rmMo_readsOrder s m args below meth c 3 A Q 0 0 (gMo G qMo mo_all mo_past mo_aside mo_states mo_refused mo_causeKind mo_causeOrder mo_corner mo_linkVotes mo_linkE mo_linkF mo_follower mo_ahead mo_least mo_seam mo_above mo_below mo_text mo_textLong u8.2 u6.2.2.1 u6.2.2.2 mo_not) 85 [(0, .ref (qMo 0)), (1, .int p1), (2, .int u1.1)] [.int u8.1]
        refine V_bipush E (v := (59 : Int32)) dX8_readsOrder_85 (by decide) ?_
        refine V_icmp_eq E (tgt := 92) dX8_readsOrder_87 (by decide) (fun hc9 => ?_) (fun hc9 => ?_)
        · have hf := ip hc9 hf
          refine V_aload_n E 0 rfl dX8_readsOrder_92 ?_
          refine V_dup E dX8_readsOrder_93 rfl ?_
          refine gfX8_284 E 0 rfl rfl dX8_readsOrder_94 ?_
          refine V_iconst E (v := (1 : Int32)) dX8_readsOrder_97 (by decide) ?_
          refine V_iadd E dX8_readsOrder_98 ?_
          refine pfX8_284 E (ws' := (gMo G qMo mo_all mo_past mo_aside mo_states mo_refused mo_causeKind mo_causeOrder mo_corner mo_linkVotes mo_linkE mo_linkF mo_follower mo_ahead mo_least mo_seam mo_above mo_below mo_text mo_textLong (u8.2 + (1 : Int32)) u6.2.2.1 u6.2.2.2 mo_not)) 0 rfl (Nat.le_of_ble_eq_true rfl) rfl rfl dX8_readsOrder_99 rfl ?_
          refine V_iload_n E 1 rfl dX8_readsOrder_102 ?_
          refine V_if_eq E (tgt := 127) dX8_readsOrder_103 (by decide) (fun hc10 => ?_) (fun hc10 => ?_)
          · have hf := ip hc10 hf
            refine V_iconst E (v := (1 : Int32)) dX8_readsOrder_127 (by decide) ?_
            have h9 := hret 128 [(0, .ref (qMo 0)), (1, .int p1), (2, .int u1.1)] dX8_readsOrder_128
            rw [← (Option.some.inj hf)] at h9
            exact h9 (z01a (Or.inr rfl))
          · have hf := iq hc10 hf
            refine V_aload_n E 0 rfl dX8_readsOrder_106 ?_
            refine V_aload_n E 0 rfl dX8_readsOrder_107 ?_
            refine V_iload_n E 2 rfl dX8_readsOrder_108 ?_
            obtain ⟨u11, hu11, hf⟩ := bd hf
            refine V_frW E (Rn_V E (rest := [.ref (qMo 0)]) mlX8_310 wd_yX8_can (kMo_can l G qMo u1.1 mo_all mo_past mo_aside mo_states mo_refused mo_causeKind mo_causeOrder mo_corner mo_linkVotes mo_linkE mo_linkF mo_follower mo_ahead mo_least mo_seam mo_above mo_below mo_text mo_textLong (u8.2 + (1 : Int32)) u6.2.2.1 u6.2.2.2 mo_not u11 hu11) ⟨rfl, rfl, Nat.le_of_ble_eq_true rfl, Nat.le_of_ble_eq_true rfl⟩ 0 rfl rfl rfl rfl rfl (Nat.le_of_ble_eq_true rfl) dX8_readsOrder_109) ?_
            show V G p l e rmMo_readsOrder s m args below meth c 3 A Q 0 0 (gMo G qMo mo_all mo_past mo_aside mo_states mo_refused mo_causeKind mo_causeOrder mo_corner mo_linkVotes mo_linkE mo_linkF mo_follower mo_ahead mo_least mo_seam mo_above mo_below mo_text mo_textLong (u8.2 + (1 : Int32)) u6.2.2.1 u6.2.2.2 mo_not) 112 [(0, .ref (qMo 0)), (1, .int p1), (2, .int u1.1)] [.int u11, .ref (qMo 0)]
            refine pfX8_313 E (ws' := (gMo G qMo mo_all mo_past mo_aside mo_states mo_refused mo_causeKind mo_causeOrder mo_corner mo_linkVotes mo_linkE mo_linkF mo_follower mo_ahead mo_least mo_seam mo_above mo_below mo_text mo_textLong (u8.2 + (1 : Int32)) u6.2.2.1 u6.2.2.2 u11)) 0 rfl (Nat.le_of_ble_eq_true rfl) rfl rfl dX8_readsOrder_112 rfl ?_
            refine V_aload_n E 0 rfl dX8_readsOrder_115 ?_
            refine gfX8_313 E 0 rfl rfl dX8_readsOrder_116 ?_
            refine V_if_ne E (tgt := 127) dX8_readsOrder_119 (by decide) (fun hc12 => ?_) (fun hc12 => ?_)
            · have hf := iq hc12 hf
              refine V_iconst E (v := (1 : Int32)) dX8_readsOrder_127 (by decide) ?_
              have h9 := hret 128 [(0, .ref (qMo 0)), (1, .int p1), (2, .int u1.1)] dX8_readsOrder_128
              rw [← (Option.some.inj hf)] at h9
              exact h9 (z01a (Or.inr rfl))
            · have hf := ip hc12 hf
              refine V_aload_n E 0 rfl dX8_readsOrder_122 ?_
              refine V_iload_n E 2 rfl dX8_readsOrder_123 ?_
              obtain ⟨u13, hu13, hf⟩ := bd hf
              refine V_frW E (Rn_V E (rest := []) mlX8_316 wd_yX8_does (kMo_does l G qMo u1.1 mo_all mo_past mo_aside mo_states mo_refused mo_causeKind mo_causeOrder mo_corner mo_linkVotes mo_linkE mo_linkF mo_follower mo_ahead mo_least mo_seam mo_above mo_below mo_text mo_textLong (u8.2 + (1 : Int32)) u6.2.2.1 u6.2.2.2 u11 u13 hu13) ⟨rfl, rfl, Nat.le_of_ble_eq_true rfl, Nat.le_of_ble_eq_true rfl⟩ 0 rfl rfl rfl rfl rfl (Nat.le_of_ble_eq_true rfl) dX8_readsOrder_124) ?_
              show V G p l e rmMo_readsOrder s m args below meth c 3 A Q 0 0 (gMo G qMo u13 mo_past mo_aside mo_states mo_refused mo_causeKind mo_causeOrder mo_corner mo_linkVotes mo_linkE mo_linkF mo_follower mo_ahead mo_least mo_seam mo_above mo_below mo_text mo_textLong (u8.2 + (1 : Int32)) u6.2.2.1 u6.2.2.2 u11) 127 [(0, .ref (qMo 0)), (1, .int p1), (2, .int u1.1)] []
              refine V_iconst E (v := (1 : Int32)) dX8_readsOrder_127 (by decide) ?_
              have h9 := hret 128 [(0, .ref (qMo 0)), (1, .int p1), (2, .int u1.1)] dX8_readsOrder_128
              rw [← (Option.some.inj hf)] at h9
              exact h9 (z01a (Or.inr rfl))
        · have hf := iq hc9 hf
          refine V_iconst E (v := (0 : Int32)) dX8_readsOrder_90 (by decide) ?_
          have h9 := hret 91 [(0, .ref (qMo 0)), (1, .int p1), (2, .int u1.1)] dX8_readsOrder_91
          rw [← (Option.some.inj hf)] at h9
          exact h9 (z01a (Or.inl rfl))
    clear hf
    have hf := hu5
    refine V_icmp_ne E (tgt := 74) dX8_readsOrder_67 (by decide) (fun hc4 => ?_) (fun hc4 => ?_)
    · have hf := iq hc4 hf
      refine V_iconst E (v := (-1 : Int32)) dX8_readsOrder_74 (by decide) ?_
      rw [← Option.some.inj hf] at J75
      exact J75
    · have hf := ip hc4 hf
      refine V_iconst E (v := (2 : Int32)) dX8_readsOrder_70 (by decide) ?_
      refine V_goto E (tgt := 75) dX8_readsOrder_71 (by decide) ?_
      rw [← Option.some.inj hf] at J75
      exact J75
  · have hf := iq hc2 hf
    refine V_iload_n E 2 rfl dX8_readsOrder_11 ?_
    refine V_bipush E (v := (115 : Int32)) dX8_readsOrder_12 (by decide) ?_
    refine V_icmp_eq E (tgt := 49) dX8_readsOrder_14 (by decide) (fun hc14 => ?_) (fun hc14 => ?_)
    · have hf := ip hc14 hf
      refine V_aload_n E 0 rfl dX8_readsOrder_49 ?_
      refine V_dup E dX8_readsOrder_50 rfl ?_
      refine gfX8_284 E 0 rfl rfl dX8_readsOrder_51 ?_
      refine V_iconst E (v := (1 : Int32)) dX8_readsOrder_54 (by decide) ?_
      refine V_iadd E dX8_readsOrder_55 ?_
      refine pfX8_284 E (ws' := (gMo G qMo mo_all mo_past mo_aside mo_states mo_refused mo_causeKind mo_causeOrder mo_corner mo_linkVotes mo_linkE mo_linkF mo_follower mo_ahead mo_least mo_seam mo_above mo_below mo_text mo_textLong (u1.2 + (1 : Int32)) mo_value mo_numbers mo_not)) 0 rfl (Nat.le_of_ble_eq_true rfl) rfl rfl dX8_readsOrder_56 rfl ?_
      refine V_aload_n E 0 rfl dX8_readsOrder_59 ?_
      refine V_iload_n E 2 rfl dX8_readsOrder_60 ?_
      obtain ⟨u15, hu15, hf⟩ := bd hf
      refine V_fr0 E (Rn_S E (rest := [.ref (qMo 0)]) mlX8_304 wd_yX8_numbersOf (kMo_numbersOf l G u1.1 u15 hu15) ⟨rfl, rfl, Nat.le_of_ble_eq_true rfl, Nat.le_of_ble_eq_true rfl⟩ rfl rfl (Nat.le_of_ble_eq_true rfl) dX8_readsOrder_61) ?_
      show V G p l e rmMo_readsOrder s m args below meth c 3 A Q 0 0 (gMo G qMo mo_all mo_past mo_aside mo_states mo_refused mo_causeKind mo_causeOrder mo_corner mo_linkVotes mo_linkE mo_linkF mo_follower mo_ahead mo_least mo_seam mo_above mo_below mo_text mo_textLong (u1.2 + (1 : Int32)) mo_value mo_numbers mo_not) 64 [(0, .ref (qMo 0)), (1, .int p1), (2, .int u1.1)] [.int u15, .ref (qMo 0)]
      refine V_iload_n E 2 rfl dX8_readsOrder_64 ?_
      refine V_bipush E (v := (115 : Int32)) dX8_readsOrder_65 (by decide) ?_
      obtain ⟨u17, hu17, hf⟩ := bd hf
      have J75 : V G p l e rmMo_readsOrder s m args below meth c 3 A Q 0 0 (gMo G qMo mo_all mo_past mo_aside mo_states mo_refused mo_causeKind mo_causeOrder mo_corner mo_linkVotes mo_linkE mo_linkF mo_follower mo_ahead mo_least mo_seam mo_above mo_below mo_text mo_textLong (u1.2 + (1 : Int32)) mo_value mo_numbers mo_not) 75 [(0, .ref (qMo 0)), (1, .int p1), (2, .int u1.1)] [.int u17, .int u15, .ref (qMo 0)] := by
        obtain ⟨u18, hu18, hf⟩ := bd hf
        refine V_frW E (Rn_V E (rest := []) mlX8_307 wd_yX8_takesAll (kMo_takesAll l G qMo u15 u17 mo_all mo_past mo_aside mo_states mo_refused mo_causeKind mo_causeOrder mo_corner mo_linkVotes mo_linkE mo_linkF mo_follower mo_ahead mo_least mo_seam mo_above mo_below mo_text mo_textLong (u1.2 + (1 : Int32)) mo_value mo_numbers mo_not u18 hu18) ⟨rfl, rfl, Nat.le_of_ble_eq_true rfl, Nat.le_of_ble_eq_true rfl⟩ 0 rfl rfl rfl rfl rfl (Nat.le_of_ble_eq_true rfl) dX8_readsOrder_75) ?_
        show V G p l e rmMo_readsOrder s m args below meth c 3 A Q 0 0 (gMo G qMo mo_all mo_past mo_aside mo_states mo_refused mo_causeKind mo_causeOrder mo_corner mo_linkVotes mo_linkE mo_linkF mo_follower mo_ahead mo_least mo_seam mo_above mo_below mo_text mo_textLong u18.2.1 u18.2.2.1 u18.2.2.2 mo_not) 78 [(0, .ref (qMo 0)), (1, .int p1), (2, .int u1.1)] [.int u18.1]
        refine V_if_eq E (tgt := 90) dX8_readsOrder_78 (by decide) (fun hc19 => ?_) (fun hc19 => ?_)
        · have hf := ip hc19 hf
          refine V_iconst E (v := (0 : Int32)) dX8_readsOrder_90 (by decide) ?_
          have h9 := hret 91 [(0, .ref (qMo 0)), (1, .int p1), (2, .int u1.1)] dX8_readsOrder_91
          rw [← (Option.some.inj hf)] at h9
          exact h9 (z01a (Or.inl rfl))
        · have hf := iq hc19 hf
          refine V_aload_n E 0 rfl dX8_readsOrder_81 ?_
          obtain ⟨u20, hu20, hf⟩ := bd hf
          refine V_frW E (Rn_V E (rest := []) mlX8_291 wd_yX8_here (kMo_here l G qMo mo_all mo_past mo_aside mo_states mo_refused mo_causeKind mo_causeOrder mo_corner mo_linkVotes mo_linkE mo_linkF mo_follower mo_ahead mo_least mo_seam mo_above mo_below mo_text mo_textLong u18.2.1 u18.2.2.1 u18.2.2.2 mo_not u20 hu20) ⟨rfl, rfl, Nat.le_of_ble_eq_true rfl, Nat.le_of_ble_eq_true rfl⟩ 0 rfl rfl rfl rfl rfl (Nat.le_of_ble_eq_true rfl) dX8_readsOrder_82) ?_
          show V G p l e rmMo_readsOrder s m args below meth c 3 A Q 0 0 (gMo G qMo mo_all mo_past mo_aside mo_states mo_refused mo_causeKind mo_causeOrder mo_corner mo_linkVotes mo_linkE mo_linkF mo_follower mo_ahead mo_least mo_seam mo_above mo_below mo_text mo_textLong u20.2 u18.2.2.1 u18.2.2.2 mo_not) 85 [(0, .ref (qMo 0)), (1, .int p1), (2, .int u1.1)] [.int u20.1]
          refine V_bipush E (v := (59 : Int32)) dX8_readsOrder_85 (by decide) ?_
          refine V_icmp_eq E (tgt := 92) dX8_readsOrder_87 (by decide) (fun hc21 => ?_) (fun hc21 => ?_)
          · have hf := ip hc21 hf
            refine V_aload_n E 0 rfl dX8_readsOrder_92 ?_
            refine V_dup E dX8_readsOrder_93 rfl ?_
            refine gfX8_284 E 0 rfl rfl dX8_readsOrder_94 ?_
            refine V_iconst E (v := (1 : Int32)) dX8_readsOrder_97 (by decide) ?_
            refine V_iadd E dX8_readsOrder_98 ?_
            refine pfX8_284 E (ws' := (gMo G qMo mo_all mo_past mo_aside mo_states mo_refused mo_causeKind mo_causeOrder mo_corner mo_linkVotes mo_linkE mo_linkF mo_follower mo_ahead mo_least mo_seam mo_above mo_below mo_text mo_textLong (u20.2 + (1 : Int32)) u18.2.2.1 u18.2.2.2 mo_not)) 0 rfl (Nat.le_of_ble_eq_true rfl) rfl rfl dX8_readsOrder_99 rfl ?_
            refine V_iload_n E 1 rfl dX8_readsOrder_102 ?_
            refine V_if_eq E (tgt := 127) dX8_readsOrder_103 (by decide) (fun hc22 => ?_) (fun hc22 => ?_)
            · have hf := ip hc22 hf
              refine V_iconst E (v := (1 : Int32)) dX8_readsOrder_127 (by decide) ?_
              have h9 := hret 128 [(0, .ref (qMo 0)), (1, .int p1), (2, .int u1.1)] dX8_readsOrder_128
              rw [← (Option.some.inj hf)] at h9
              exact h9 (z01a (Or.inr rfl))
            · have hf := iq hc22 hf
              refine V_aload_n E 0 rfl dX8_readsOrder_106 ?_
              refine V_aload_n E 0 rfl dX8_readsOrder_107 ?_
              refine V_iload_n E 2 rfl dX8_readsOrder_108 ?_
              obtain ⟨u23, hu23, hf⟩ := bd hf
              refine V_frW E (Rn_V E (rest := [.ref (qMo 0)]) mlX8_310 wd_yX8_can (kMo_can l G qMo u1.1 mo_all mo_past mo_aside mo_states mo_refused mo_causeKind mo_causeOrder mo_corner mo_linkVotes mo_linkE mo_linkF mo_follower mo_ahead mo_least mo_seam mo_above mo_below mo_text mo_textLong (u20.2 + (1 : Int32)) u18.2.2.1 u18.2.2.2 mo_not u23 hu23) ⟨rfl, rfl, Nat.le_of_ble_eq_true rfl, Nat.le_of_ble_eq_true rfl⟩ 0 rfl rfl rfl rfl rfl (Nat.le_of_ble_eq_true rfl) dX8_readsOrder_109) ?_
              show V G p l e rmMo_readsOrder s m args below meth c 3 A Q 0 0 (gMo G qMo mo_all mo_past mo_aside mo_states mo_refused mo_causeKind mo_causeOrder mo_corner mo_linkVotes mo_linkE mo_linkF mo_follower mo_ahead mo_least mo_seam mo_above mo_below mo_text mo_textLong (u20.2 + (1 : Int32)) u18.2.2.1 u18.2.2.2 mo_not) 112 [(0, .ref (qMo 0)), (1, .int p1), (2, .int u1.1)] [.int u23, .ref (qMo 0)]
              refine pfX8_313 E (ws' := (gMo G qMo mo_all mo_past mo_aside mo_states mo_refused mo_causeKind mo_causeOrder mo_corner mo_linkVotes mo_linkE mo_linkF mo_follower mo_ahead mo_least mo_seam mo_above mo_below mo_text mo_textLong (u20.2 + (1 : Int32)) u18.2.2.1 u18.2.2.2 u23)) 0 rfl (Nat.le_of_ble_eq_true rfl) rfl rfl dX8_readsOrder_112 rfl ?_
              refine V_aload_n E 0 rfl dX8_readsOrder_115 ?_
              refine gfX8_313 E 0 rfl rfl dX8_readsOrder_116 ?_
              refine V_if_ne E (tgt := 127) dX8_readsOrder_119 (by decide) (fun hc24 => ?_) (fun hc24 => ?_)
              · have hf := iq hc24 hf
                refine V_iconst E (v := (1 : Int32)) dX8_readsOrder_127 (by decide) ?_
                have h9 := hret 128 [(0, .ref (qMo 0)), (1, .int p1), (2, .int u1.1)] dX8_readsOrder_128
                rw [← (Option.some.inj hf)] at h9
                exact h9 (z01a (Or.inr rfl))
              · have hf := ip hc24 hf
                refine V_aload_n E 0 rfl dX8_readsOrder_122 ?_
                refine V_iload_n E 2 rfl dX8_readsOrder_123 ?_
                obtain ⟨u25, hu25, hf⟩ := bd hf
                refine V_frW E (Rn_V E (rest := []) mlX8_316 wd_yX8_does (kMo_does l G qMo u1.1 mo_all mo_past mo_aside mo_states mo_refused mo_causeKind mo_causeOrder mo_corner mo_linkVotes mo_linkE mo_linkF mo_follower mo_ahead mo_least mo_seam mo_above mo_below mo_text mo_textLong (u20.2 + (1 : Int32)) u18.2.2.1 u18.2.2.2 u23 u25 hu25) ⟨rfl, rfl, Nat.le_of_ble_eq_true rfl, Nat.le_of_ble_eq_true rfl⟩ 0 rfl rfl rfl rfl rfl (Nat.le_of_ble_eq_true rfl) dX8_readsOrder_124) ?_
                show V G p l e rmMo_readsOrder s m args below meth c 3 A Q 0 0 (gMo G qMo u25 mo_past mo_aside mo_states mo_refused mo_causeKind mo_causeOrder mo_corner mo_linkVotes mo_linkE mo_linkF mo_follower mo_ahead mo_least mo_seam mo_above mo_below mo_text mo_textLong (u20.2 + (1 : Int32)) u18.2.2.1 u18.2.2.2 u23) 127 [(0, .ref (qMo 0)), (1, .int p1), (2, .int u1.1)] []
                refine V_iconst E (v := (1 : Int32)) dX8_readsOrder_127 (by decide) ?_
                have h9 := hret 128 [(0, .ref (qMo 0)), (1, .int p1), (2, .int u1.1)] dX8_readsOrder_128
                rw [← (Option.some.inj hf)] at h9
                exact h9 (z01a (Or.inr rfl))
          · have hf := iq hc21 hf
            refine V_iconst E (v := (0 : Int32)) dX8_readsOrder_90 (by decide) ?_
            have h9 := hret 91 [(0, .ref (qMo 0)), (1, .int p1), (2, .int u1.1)] dX8_readsOrder_91
            rw [← (Option.some.inj hf)] at h9
            exact h9 (z01a (Or.inl rfl))
      clear hf
      have hf := hu17
      refine V_icmp_ne E (tgt := 74) dX8_readsOrder_67 (by decide) (fun hc16 => ?_) (fun hc16 => ?_)
      · have hf := iq hc16 hf
        refine V_iconst E (v := (-1 : Int32)) dX8_readsOrder_74 (by decide) ?_
        rw [← Option.some.inj hf] at J75
        exact J75
      · have hf := ip hc16 hf
        refine V_iconst E (v := (2 : Int32)) dX8_readsOrder_70 (by decide) ?_
        refine V_goto E (tgt := 75) dX8_readsOrder_71 (by decide) ?_
        rw [← Option.some.inj hf] at J75
        exact J75
    · have hf := iq hc14 hf
      refine V_iload_n E 2 rfl dX8_readsOrder_17 ?_
      refine V_bipush E (v := (112 : Int32)) dX8_readsOrder_18 (by decide) ?_
      refine V_icmp_eq E (tgt := 49) dX8_readsOrder_20 (by decide) (fun hc26 => ?_) (fun hc26 => ?_)
      · have hf := ip hc26 hf
        refine V_aload_n E 0 rfl dX8_readsOrder_49 ?_
        refine V_dup E dX8_readsOrder_50 rfl ?_
        refine gfX8_284 E 0 rfl rfl dX8_readsOrder_51 ?_
        refine V_iconst E (v := (1 : Int32)) dX8_readsOrder_54 (by decide) ?_
        refine V_iadd E dX8_readsOrder_55 ?_
        refine pfX8_284 E (ws' := (gMo G qMo mo_all mo_past mo_aside mo_states mo_refused mo_causeKind mo_causeOrder mo_corner mo_linkVotes mo_linkE mo_linkF mo_follower mo_ahead mo_least mo_seam mo_above mo_below mo_text mo_textLong (u1.2 + (1 : Int32)) mo_value mo_numbers mo_not)) 0 rfl (Nat.le_of_ble_eq_true rfl) rfl rfl dX8_readsOrder_56 rfl ?_
        refine V_aload_n E 0 rfl dX8_readsOrder_59 ?_
        refine V_iload_n E 2 rfl dX8_readsOrder_60 ?_
        obtain ⟨u27, hu27, hf⟩ := bd hf
        refine V_fr0 E (Rn_S E (rest := [.ref (qMo 0)]) mlX8_304 wd_yX8_numbersOf (kMo_numbersOf l G u1.1 u27 hu27) ⟨rfl, rfl, Nat.le_of_ble_eq_true rfl, Nat.le_of_ble_eq_true rfl⟩ rfl rfl (Nat.le_of_ble_eq_true rfl) dX8_readsOrder_61) ?_
        show V G p l e rmMo_readsOrder s m args below meth c 3 A Q 0 0 (gMo G qMo mo_all mo_past mo_aside mo_states mo_refused mo_causeKind mo_causeOrder mo_corner mo_linkVotes mo_linkE mo_linkF mo_follower mo_ahead mo_least mo_seam mo_above mo_below mo_text mo_textLong (u1.2 + (1 : Int32)) mo_value mo_numbers mo_not) 64 [(0, .ref (qMo 0)), (1, .int p1), (2, .int u1.1)] [.int u27, .ref (qMo 0)]
        refine V_iload_n E 2 rfl dX8_readsOrder_64 ?_
        refine V_bipush E (v := (115 : Int32)) dX8_readsOrder_65 (by decide) ?_
        obtain ⟨u29, hu29, hf⟩ := bd hf
        have J75 : V G p l e rmMo_readsOrder s m args below meth c 3 A Q 0 0 (gMo G qMo mo_all mo_past mo_aside mo_states mo_refused mo_causeKind mo_causeOrder mo_corner mo_linkVotes mo_linkE mo_linkF mo_follower mo_ahead mo_least mo_seam mo_above mo_below mo_text mo_textLong (u1.2 + (1 : Int32)) mo_value mo_numbers mo_not) 75 [(0, .ref (qMo 0)), (1, .int p1), (2, .int u1.1)] [.int u29, .int u27, .ref (qMo 0)] := by
          obtain ⟨u30, hu30, hf⟩ := bd hf
          refine V_frW E (Rn_V E (rest := []) mlX8_307 wd_yX8_takesAll (kMo_takesAll l G qMo u27 u29 mo_all mo_past mo_aside mo_states mo_refused mo_causeKind mo_causeOrder mo_corner mo_linkVotes mo_linkE mo_linkF mo_follower mo_ahead mo_least mo_seam mo_above mo_below mo_text mo_textLong (u1.2 + (1 : Int32)) mo_value mo_numbers mo_not u30 hu30) ⟨rfl, rfl, Nat.le_of_ble_eq_true rfl, Nat.le_of_ble_eq_true rfl⟩ 0 rfl rfl rfl rfl rfl (Nat.le_of_ble_eq_true rfl) dX8_readsOrder_75) ?_
          show V G p l e rmMo_readsOrder s m args below meth c 3 A Q 0 0 (gMo G qMo mo_all mo_past mo_aside mo_states mo_refused mo_causeKind mo_causeOrder mo_corner mo_linkVotes mo_linkE mo_linkF mo_follower mo_ahead mo_least mo_seam mo_above mo_below mo_text mo_textLong u30.2.1 u30.2.2.1 u30.2.2.2 mo_not) 78 [(0, .ref (qMo 0)), (1, .int p1), (2, .int u1.1)] [.int u30.1]
          refine V_if_eq E (tgt := 90) dX8_readsOrder_78 (by decide) (fun hc31 => ?_) (fun hc31 => ?_)
          · have hf := ip hc31 hf
            refine V_iconst E (v := (0 : Int32)) dX8_readsOrder_90 (by decide) ?_
            have h9 := hret 91 [(0, .ref (qMo 0)), (1, .int p1), (2, .int u1.1)] dX8_readsOrder_91
            rw [← (Option.some.inj hf)] at h9
            exact h9 (z01a (Or.inl rfl))
          · have hf := iq hc31 hf
            refine V_aload_n E 0 rfl dX8_readsOrder_81 ?_
            obtain ⟨u32, hu32, hf⟩ := bd hf
            refine V_frW E (Rn_V E (rest := []) mlX8_291 wd_yX8_here (kMo_here l G qMo mo_all mo_past mo_aside mo_states mo_refused mo_causeKind mo_causeOrder mo_corner mo_linkVotes mo_linkE mo_linkF mo_follower mo_ahead mo_least mo_seam mo_above mo_below mo_text mo_textLong u30.2.1 u30.2.2.1 u30.2.2.2 mo_not u32 hu32) ⟨rfl, rfl, Nat.le_of_ble_eq_true rfl, Nat.le_of_ble_eq_true rfl⟩ 0 rfl rfl rfl rfl rfl (Nat.le_of_ble_eq_true rfl) dX8_readsOrder_82) ?_
            show V G p l e rmMo_readsOrder s m args below meth c 3 A Q 0 0 (gMo G qMo mo_all mo_past mo_aside mo_states mo_refused mo_causeKind mo_causeOrder mo_corner mo_linkVotes mo_linkE mo_linkF mo_follower mo_ahead mo_least mo_seam mo_above mo_below mo_text mo_textLong u32.2 u30.2.2.1 u30.2.2.2 mo_not) 85 [(0, .ref (qMo 0)), (1, .int p1), (2, .int u1.1)] [.int u32.1]
            refine V_bipush E (v := (59 : Int32)) dX8_readsOrder_85 (by decide) ?_
            refine V_icmp_eq E (tgt := 92) dX8_readsOrder_87 (by decide) (fun hc33 => ?_) (fun hc33 => ?_)
            · have hf := ip hc33 hf
              refine V_aload_n E 0 rfl dX8_readsOrder_92 ?_
              refine V_dup E dX8_readsOrder_93 rfl ?_
              refine gfX8_284 E 0 rfl rfl dX8_readsOrder_94 ?_
              refine V_iconst E (v := (1 : Int32)) dX8_readsOrder_97 (by decide) ?_
              refine V_iadd E dX8_readsOrder_98 ?_
              refine pfX8_284 E (ws' := (gMo G qMo mo_all mo_past mo_aside mo_states mo_refused mo_causeKind mo_causeOrder mo_corner mo_linkVotes mo_linkE mo_linkF mo_follower mo_ahead mo_least mo_seam mo_above mo_below mo_text mo_textLong (u32.2 + (1 : Int32)) u30.2.2.1 u30.2.2.2 mo_not)) 0 rfl (Nat.le_of_ble_eq_true rfl) rfl rfl dX8_readsOrder_99 rfl ?_
              refine V_iload_n E 1 rfl dX8_readsOrder_102 ?_
              refine V_if_eq E (tgt := 127) dX8_readsOrder_103 (by decide) (fun hc34 => ?_) (fun hc34 => ?_)
              · have hf := ip hc34 hf
                refine V_iconst E (v := (1 : Int32)) dX8_readsOrder_127 (by decide) ?_
                have h9 := hret 128 [(0, .ref (qMo 0)), (1, .int p1), (2, .int u1.1)] dX8_readsOrder_128
                rw [← (Option.some.inj hf)] at h9
                exact h9 (z01a (Or.inr rfl))
              · have hf := iq hc34 hf
                refine V_aload_n E 0 rfl dX8_readsOrder_106 ?_
                refine V_aload_n E 0 rfl dX8_readsOrder_107 ?_
                refine V_iload_n E 2 rfl dX8_readsOrder_108 ?_
                obtain ⟨u35, hu35, hf⟩ := bd hf
                refine V_frW E (Rn_V E (rest := [.ref (qMo 0)]) mlX8_310 wd_yX8_can (kMo_can l G qMo u1.1 mo_all mo_past mo_aside mo_states mo_refused mo_causeKind mo_causeOrder mo_corner mo_linkVotes mo_linkE mo_linkF mo_follower mo_ahead mo_least mo_seam mo_above mo_below mo_text mo_textLong (u32.2 + (1 : Int32)) u30.2.2.1 u30.2.2.2 mo_not u35 hu35) ⟨rfl, rfl, Nat.le_of_ble_eq_true rfl, Nat.le_of_ble_eq_true rfl⟩ 0 rfl rfl rfl rfl rfl (Nat.le_of_ble_eq_true rfl) dX8_readsOrder_109) ?_
                show V G p l e rmMo_readsOrder s m args below meth c 3 A Q 0 0 (gMo G qMo mo_all mo_past mo_aside mo_states mo_refused mo_causeKind mo_causeOrder mo_corner mo_linkVotes mo_linkE mo_linkF mo_follower mo_ahead mo_least mo_seam mo_above mo_below mo_text mo_textLong (u32.2 + (1 : Int32)) u30.2.2.1 u30.2.2.2 mo_not) 112 [(0, .ref (qMo 0)), (1, .int p1), (2, .int u1.1)] [.int u35, .ref (qMo 0)]
                refine pfX8_313 E (ws' := (gMo G qMo mo_all mo_past mo_aside mo_states mo_refused mo_causeKind mo_causeOrder mo_corner mo_linkVotes mo_linkE mo_linkF mo_follower mo_ahead mo_least mo_seam mo_above mo_below mo_text mo_textLong (u32.2 + (1 : Int32)) u30.2.2.1 u30.2.2.2 u35)) 0 rfl (Nat.le_of_ble_eq_true rfl) rfl rfl dX8_readsOrder_112 rfl ?_
                refine V_aload_n E 0 rfl dX8_readsOrder_115 ?_
                refine gfX8_313 E 0 rfl rfl dX8_readsOrder_116 ?_
                refine V_if_ne E (tgt := 127) dX8_readsOrder_119 (by decide) (fun hc36 => ?_) (fun hc36 => ?_)
                · have hf := iq hc36 hf
                  refine V_iconst E (v := (1 : Int32)) dX8_readsOrder_127 (by decide) ?_
                  have h9 := hret 128 [(0, .ref (qMo 0)), (1, .int p1), (2, .int u1.1)] dX8_readsOrder_128
                  rw [← (Option.some.inj hf)] at h9
                  exact h9 (z01a (Or.inr rfl))
                · have hf := ip hc36 hf
                  refine V_aload_n E 0 rfl dX8_readsOrder_122 ?_
                  refine V_iload_n E 2 rfl dX8_readsOrder_123 ?_
                  obtain ⟨u37, hu37, hf⟩ := bd hf
                  refine V_frW E (Rn_V E (rest := []) mlX8_316 wd_yX8_does (kMo_does l G qMo u1.1 mo_all mo_past mo_aside mo_states mo_refused mo_causeKind mo_causeOrder mo_corner mo_linkVotes mo_linkE mo_linkF mo_follower mo_ahead mo_least mo_seam mo_above mo_below mo_text mo_textLong (u32.2 + (1 : Int32)) u30.2.2.1 u30.2.2.2 u35 u37 hu37) ⟨rfl, rfl, Nat.le_of_ble_eq_true rfl, Nat.le_of_ble_eq_true rfl⟩ 0 rfl rfl rfl rfl rfl (Nat.le_of_ble_eq_true rfl) dX8_readsOrder_124) ?_
                  show V G p l e rmMo_readsOrder s m args below meth c 3 A Q 0 0 (gMo G qMo u37 mo_past mo_aside mo_states mo_refused mo_causeKind mo_causeOrder mo_corner mo_linkVotes mo_linkE mo_linkF mo_follower mo_ahead mo_least mo_seam mo_above mo_below mo_text mo_textLong (u32.2 + (1 : Int32)) u30.2.2.1 u30.2.2.2 u35) 127 [(0, .ref (qMo 0)), (1, .int p1), (2, .int u1.1)] []
                  refine V_iconst E (v := (1 : Int32)) dX8_readsOrder_127 (by decide) ?_
                  have h9 := hret 128 [(0, .ref (qMo 0)), (1, .int p1), (2, .int u1.1)] dX8_readsOrder_128
                  rw [← (Option.some.inj hf)] at h9
                  exact h9 (z01a (Or.inr rfl))
            · have hf := iq hc33 hf
              refine V_iconst E (v := (0 : Int32)) dX8_readsOrder_90 (by decide) ?_
              have h9 := hret 91 [(0, .ref (qMo 0)), (1, .int p1), (2, .int u1.1)] dX8_readsOrder_91
              rw [← (Option.some.inj hf)] at h9
              exact h9 (z01a (Or.inl rfl))
        clear hf
        have hf := hu29
        refine V_icmp_ne E (tgt := 74) dX8_readsOrder_67 (by decide) (fun hc28 => ?_) (fun hc28 => ?_)
        · have hf := iq hc28 hf
          refine V_iconst E (v := (-1 : Int32)) dX8_readsOrder_74 (by decide) ?_
          rw [← Option.some.inj hf] at J75
          exact J75
        · have hf := ip hc28 hf
          refine V_iconst E (v := (2 : Int32)) dX8_readsOrder_70 (by decide) ?_
          refine V_goto E (tgt := 75) dX8_readsOrder_71 (by decide) ?_
          rw [← Option.some.inj hf] at J75
          exact J75
      · have hf := iq hc26 hf
        refine V_iload_n E 2 rfl dX8_readsOrder_23 ?_
        refine V_bipush E (v := (99 : Int32)) dX8_readsOrder_24 (by decide) ?_
        refine V_icmp_eq E (tgt := 49) dX8_readsOrder_26 (by decide) (fun hc38 => ?_) (fun hc38 => ?_)
        · have hf := ip hc38 hf
          refine V_aload_n E 0 rfl dX8_readsOrder_49 ?_
          refine V_dup E dX8_readsOrder_50 rfl ?_
          refine gfX8_284 E 0 rfl rfl dX8_readsOrder_51 ?_
          refine V_iconst E (v := (1 : Int32)) dX8_readsOrder_54 (by decide) ?_
          refine V_iadd E dX8_readsOrder_55 ?_
          refine pfX8_284 E (ws' := (gMo G qMo mo_all mo_past mo_aside mo_states mo_refused mo_causeKind mo_causeOrder mo_corner mo_linkVotes mo_linkE mo_linkF mo_follower mo_ahead mo_least mo_seam mo_above mo_below mo_text mo_textLong (u1.2 + (1 : Int32)) mo_value mo_numbers mo_not)) 0 rfl (Nat.le_of_ble_eq_true rfl) rfl rfl dX8_readsOrder_56 rfl ?_
          refine V_aload_n E 0 rfl dX8_readsOrder_59 ?_
          refine V_iload_n E 2 rfl dX8_readsOrder_60 ?_
          obtain ⟨u39, hu39, hf⟩ := bd hf
          refine V_fr0 E (Rn_S E (rest := [.ref (qMo 0)]) mlX8_304 wd_yX8_numbersOf (kMo_numbersOf l G u1.1 u39 hu39) ⟨rfl, rfl, Nat.le_of_ble_eq_true rfl, Nat.le_of_ble_eq_true rfl⟩ rfl rfl (Nat.le_of_ble_eq_true rfl) dX8_readsOrder_61) ?_
          show V G p l e rmMo_readsOrder s m args below meth c 3 A Q 0 0 (gMo G qMo mo_all mo_past mo_aside mo_states mo_refused mo_causeKind mo_causeOrder mo_corner mo_linkVotes mo_linkE mo_linkF mo_follower mo_ahead mo_least mo_seam mo_above mo_below mo_text mo_textLong (u1.2 + (1 : Int32)) mo_value mo_numbers mo_not) 64 [(0, .ref (qMo 0)), (1, .int p1), (2, .int u1.1)] [.int u39, .ref (qMo 0)]
          refine V_iload_n E 2 rfl dX8_readsOrder_64 ?_
          refine V_bipush E (v := (115 : Int32)) dX8_readsOrder_65 (by decide) ?_
          obtain ⟨u41, hu41, hf⟩ := bd hf
          have J75 : V G p l e rmMo_readsOrder s m args below meth c 3 A Q 0 0 (gMo G qMo mo_all mo_past mo_aside mo_states mo_refused mo_causeKind mo_causeOrder mo_corner mo_linkVotes mo_linkE mo_linkF mo_follower mo_ahead mo_least mo_seam mo_above mo_below mo_text mo_textLong (u1.2 + (1 : Int32)) mo_value mo_numbers mo_not) 75 [(0, .ref (qMo 0)), (1, .int p1), (2, .int u1.1)] [.int u41, .int u39, .ref (qMo 0)] := by
            obtain ⟨u42, hu42, hf⟩ := bd hf
            refine V_frW E (Rn_V E (rest := []) mlX8_307 wd_yX8_takesAll (kMo_takesAll l G qMo u39 u41 mo_all mo_past mo_aside mo_states mo_refused mo_causeKind mo_causeOrder mo_corner mo_linkVotes mo_linkE mo_linkF mo_follower mo_ahead mo_least mo_seam mo_above mo_below mo_text mo_textLong (u1.2 + (1 : Int32)) mo_value mo_numbers mo_not u42 hu42) ⟨rfl, rfl, Nat.le_of_ble_eq_true rfl, Nat.le_of_ble_eq_true rfl⟩ 0 rfl rfl rfl rfl rfl (Nat.le_of_ble_eq_true rfl) dX8_readsOrder_75) ?_
            show V G p l e rmMo_readsOrder s m args below meth c 3 A Q 0 0 (gMo G qMo mo_all mo_past mo_aside mo_states mo_refused mo_causeKind mo_causeOrder mo_corner mo_linkVotes mo_linkE mo_linkF mo_follower mo_ahead mo_least mo_seam mo_above mo_below mo_text mo_textLong u42.2.1 u42.2.2.1 u42.2.2.2 mo_not) 78 [(0, .ref (qMo 0)), (1, .int p1), (2, .int u1.1)] [.int u42.1]
            refine V_if_eq E (tgt := 90) dX8_readsOrder_78 (by decide) (fun hc43 => ?_) (fun hc43 => ?_)
            · have hf := ip hc43 hf
              refine V_iconst E (v := (0 : Int32)) dX8_readsOrder_90 (by decide) ?_
              have h9 := hret 91 [(0, .ref (qMo 0)), (1, .int p1), (2, .int u1.1)] dX8_readsOrder_91
              rw [← (Option.some.inj hf)] at h9
              exact h9 (z01a (Or.inl rfl))
            · have hf := iq hc43 hf
              refine V_aload_n E 0 rfl dX8_readsOrder_81 ?_
              obtain ⟨u44, hu44, hf⟩ := bd hf
              refine V_frW E (Rn_V E (rest := []) mlX8_291 wd_yX8_here (kMo_here l G qMo mo_all mo_past mo_aside mo_states mo_refused mo_causeKind mo_causeOrder mo_corner mo_linkVotes mo_linkE mo_linkF mo_follower mo_ahead mo_least mo_seam mo_above mo_below mo_text mo_textLong u42.2.1 u42.2.2.1 u42.2.2.2 mo_not u44 hu44) ⟨rfl, rfl, Nat.le_of_ble_eq_true rfl, Nat.le_of_ble_eq_true rfl⟩ 0 rfl rfl rfl rfl rfl (Nat.le_of_ble_eq_true rfl) dX8_readsOrder_82) ?_
              show V G p l e rmMo_readsOrder s m args below meth c 3 A Q 0 0 (gMo G qMo mo_all mo_past mo_aside mo_states mo_refused mo_causeKind mo_causeOrder mo_corner mo_linkVotes mo_linkE mo_linkF mo_follower mo_ahead mo_least mo_seam mo_above mo_below mo_text mo_textLong u44.2 u42.2.2.1 u42.2.2.2 mo_not) 85 [(0, .ref (qMo 0)), (1, .int p1), (2, .int u1.1)] [.int u44.1]
              refine V_bipush E (v := (59 : Int32)) dX8_readsOrder_85 (by decide) ?_
              refine V_icmp_eq E (tgt := 92) dX8_readsOrder_87 (by decide) (fun hc45 => ?_) (fun hc45 => ?_)
              · have hf := ip hc45 hf
                refine V_aload_n E 0 rfl dX8_readsOrder_92 ?_
                refine V_dup E dX8_readsOrder_93 rfl ?_
                refine gfX8_284 E 0 rfl rfl dX8_readsOrder_94 ?_
                refine V_iconst E (v := (1 : Int32)) dX8_readsOrder_97 (by decide) ?_
                refine V_iadd E dX8_readsOrder_98 ?_
                refine pfX8_284 E (ws' := (gMo G qMo mo_all mo_past mo_aside mo_states mo_refused mo_causeKind mo_causeOrder mo_corner mo_linkVotes mo_linkE mo_linkF mo_follower mo_ahead mo_least mo_seam mo_above mo_below mo_text mo_textLong (u44.2 + (1 : Int32)) u42.2.2.1 u42.2.2.2 mo_not)) 0 rfl (Nat.le_of_ble_eq_true rfl) rfl rfl dX8_readsOrder_99 rfl ?_
                refine V_iload_n E 1 rfl dX8_readsOrder_102 ?_
                refine V_if_eq E (tgt := 127) dX8_readsOrder_103 (by decide) (fun hc46 => ?_) (fun hc46 => ?_)
                · have hf := ip hc46 hf
                  refine V_iconst E (v := (1 : Int32)) dX8_readsOrder_127 (by decide) ?_
                  have h9 := hret 128 [(0, .ref (qMo 0)), (1, .int p1), (2, .int u1.1)] dX8_readsOrder_128
                  rw [← (Option.some.inj hf)] at h9
                  exact h9 (z01a (Or.inr rfl))
                · have hf := iq hc46 hf
                  refine V_aload_n E 0 rfl dX8_readsOrder_106 ?_
                  refine V_aload_n E 0 rfl dX8_readsOrder_107 ?_
                  refine V_iload_n E 2 rfl dX8_readsOrder_108 ?_
                  obtain ⟨u47, hu47, hf⟩ := bd hf
                  refine V_frW E (Rn_V E (rest := [.ref (qMo 0)]) mlX8_310 wd_yX8_can (kMo_can l G qMo u1.1 mo_all mo_past mo_aside mo_states mo_refused mo_causeKind mo_causeOrder mo_corner mo_linkVotes mo_linkE mo_linkF mo_follower mo_ahead mo_least mo_seam mo_above mo_below mo_text mo_textLong (u44.2 + (1 : Int32)) u42.2.2.1 u42.2.2.2 mo_not u47 hu47) ⟨rfl, rfl, Nat.le_of_ble_eq_true rfl, Nat.le_of_ble_eq_true rfl⟩ 0 rfl rfl rfl rfl rfl (Nat.le_of_ble_eq_true rfl) dX8_readsOrder_109) ?_
                  show V G p l e rmMo_readsOrder s m args below meth c 3 A Q 0 0 (gMo G qMo mo_all mo_past mo_aside mo_states mo_refused mo_causeKind mo_causeOrder mo_corner mo_linkVotes mo_linkE mo_linkF mo_follower mo_ahead mo_least mo_seam mo_above mo_below mo_text mo_textLong (u44.2 + (1 : Int32)) u42.2.2.1 u42.2.2.2 mo_not) 112 [(0, .ref (qMo 0)), (1, .int p1), (2, .int u1.1)] [.int u47, .ref (qMo 0)]
                  refine pfX8_313 E (ws' := (gMo G qMo mo_all mo_past mo_aside mo_states mo_refused mo_causeKind mo_causeOrder mo_corner mo_linkVotes mo_linkE mo_linkF mo_follower mo_ahead mo_least mo_seam mo_above mo_below mo_text mo_textLong (u44.2 + (1 : Int32)) u42.2.2.1 u42.2.2.2 u47)) 0 rfl (Nat.le_of_ble_eq_true rfl) rfl rfl dX8_readsOrder_112 rfl ?_
                  refine V_aload_n E 0 rfl dX8_readsOrder_115 ?_
                  refine gfX8_313 E 0 rfl rfl dX8_readsOrder_116 ?_
                  refine V_if_ne E (tgt := 127) dX8_readsOrder_119 (by decide) (fun hc48 => ?_) (fun hc48 => ?_)
                  · have hf := iq hc48 hf
                    refine V_iconst E (v := (1 : Int32)) dX8_readsOrder_127 (by decide) ?_
                    have h9 := hret 128 [(0, .ref (qMo 0)), (1, .int p1), (2, .int u1.1)] dX8_readsOrder_128
                    rw [← (Option.some.inj hf)] at h9
                    exact h9 (z01a (Or.inr rfl))
                  · have hf := ip hc48 hf
                    refine V_aload_n E 0 rfl dX8_readsOrder_122 ?_
                    refine V_iload_n E 2 rfl dX8_readsOrder_123 ?_
                    obtain ⟨u49, hu49, hf⟩ := bd hf
                    refine V_frW E (Rn_V E (rest := []) mlX8_316 wd_yX8_does (kMo_does l G qMo u1.1 mo_all mo_past mo_aside mo_states mo_refused mo_causeKind mo_causeOrder mo_corner mo_linkVotes mo_linkE mo_linkF mo_follower mo_ahead mo_least mo_seam mo_above mo_below mo_text mo_textLong (u44.2 + (1 : Int32)) u42.2.2.1 u42.2.2.2 u47 u49 hu49) ⟨rfl, rfl, Nat.le_of_ble_eq_true rfl, Nat.le_of_ble_eq_true rfl⟩ 0 rfl rfl rfl rfl rfl (Nat.le_of_ble_eq_true rfl) dX8_readsOrder_124) ?_
                    show V G p l e rmMo_readsOrder s m args below meth c 3 A Q 0 0 (gMo G qMo u49 mo_past mo_aside mo_states mo_refused mo_causeKind mo_causeOrder mo_corner mo_linkVotes mo_linkE mo_linkF mo_follower mo_ahead mo_least mo_seam mo_above mo_below mo_text mo_textLong (u44.2 + (1 : Int32)) u42.2.2.1 u42.2.2.2 u47) 127 [(0, .ref (qMo 0)), (1, .int p1), (2, .int u1.1)] []
                    refine V_iconst E (v := (1 : Int32)) dX8_readsOrder_127 (by decide) ?_
                    have h9 := hret 128 [(0, .ref (qMo 0)), (1, .int p1), (2, .int u1.1)] dX8_readsOrder_128
                    rw [← (Option.some.inj hf)] at h9
                    exact h9 (z01a (Or.inr rfl))
              · have hf := iq hc45 hf
                refine V_iconst E (v := (0 : Int32)) dX8_readsOrder_90 (by decide) ?_
                have h9 := hret 91 [(0, .ref (qMo 0)), (1, .int p1), (2, .int u1.1)] dX8_readsOrder_91
                rw [← (Option.some.inj hf)] at h9
                exact h9 (z01a (Or.inl rfl))
          clear hf
          have hf := hu41
          refine V_icmp_ne E (tgt := 74) dX8_readsOrder_67 (by decide) (fun hc40 => ?_) (fun hc40 => ?_)
          · have hf := iq hc40 hf
            refine V_iconst E (v := (-1 : Int32)) dX8_readsOrder_74 (by decide) ?_
            rw [← Option.some.inj hf] at J75
            exact J75
          · have hf := ip hc40 hf
            refine V_iconst E (v := (2 : Int32)) dX8_readsOrder_70 (by decide) ?_
            refine V_goto E (tgt := 75) dX8_readsOrder_71 (by decide) ?_
            rw [← Option.some.inj hf] at J75
            exact J75
        · have hf := iq hc38 hf
          refine V_iload_n E 2 rfl dX8_readsOrder_29 ?_
          refine V_bipush E (v := (116 : Int32)) dX8_readsOrder_30 (by decide) ?_
          refine V_icmp_eq E (tgt := 49) dX8_readsOrder_32 (by decide) (fun hc50 => ?_) (fun hc50 => ?_)
          · have hf := ip hc50 hf
            refine V_aload_n E 0 rfl dX8_readsOrder_49 ?_
            refine V_dup E dX8_readsOrder_50 rfl ?_
            refine gfX8_284 E 0 rfl rfl dX8_readsOrder_51 ?_
            refine V_iconst E (v := (1 : Int32)) dX8_readsOrder_54 (by decide) ?_
            refine V_iadd E dX8_readsOrder_55 ?_
            refine pfX8_284 E (ws' := (gMo G qMo mo_all mo_past mo_aside mo_states mo_refused mo_causeKind mo_causeOrder mo_corner mo_linkVotes mo_linkE mo_linkF mo_follower mo_ahead mo_least mo_seam mo_above mo_below mo_text mo_textLong (u1.2 + (1 : Int32)) mo_value mo_numbers mo_not)) 0 rfl (Nat.le_of_ble_eq_true rfl) rfl rfl dX8_readsOrder_56 rfl ?_
            refine V_aload_n E 0 rfl dX8_readsOrder_59 ?_
            refine V_iload_n E 2 rfl dX8_readsOrder_60 ?_
            obtain ⟨u51, hu51, hf⟩ := bd hf
            refine V_fr0 E (Rn_S E (rest := [.ref (qMo 0)]) mlX8_304 wd_yX8_numbersOf (kMo_numbersOf l G u1.1 u51 hu51) ⟨rfl, rfl, Nat.le_of_ble_eq_true rfl, Nat.le_of_ble_eq_true rfl⟩ rfl rfl (Nat.le_of_ble_eq_true rfl) dX8_readsOrder_61) ?_
            show V G p l e rmMo_readsOrder s m args below meth c 3 A Q 0 0 (gMo G qMo mo_all mo_past mo_aside mo_states mo_refused mo_causeKind mo_causeOrder mo_corner mo_linkVotes mo_linkE mo_linkF mo_follower mo_ahead mo_least mo_seam mo_above mo_below mo_text mo_textLong (u1.2 + (1 : Int32)) mo_value mo_numbers mo_not) 64 [(0, .ref (qMo 0)), (1, .int p1), (2, .int u1.1)] [.int u51, .ref (qMo 0)]
            refine V_iload_n E 2 rfl dX8_readsOrder_64 ?_
            refine V_bipush E (v := (115 : Int32)) dX8_readsOrder_65 (by decide) ?_
            obtain ⟨u53, hu53, hf⟩ := bd hf
            have J75 : V G p l e rmMo_readsOrder s m args below meth c 3 A Q 0 0 (gMo G qMo mo_all mo_past mo_aside mo_states mo_refused mo_causeKind mo_causeOrder mo_corner mo_linkVotes mo_linkE mo_linkF mo_follower mo_ahead mo_least mo_seam mo_above mo_below mo_text mo_textLong (u1.2 + (1 : Int32)) mo_value mo_numbers mo_not) 75 [(0, .ref (qMo 0)), (1, .int p1), (2, .int u1.1)] [.int u53, .int u51, .ref (qMo 0)] := by
              obtain ⟨u54, hu54, hf⟩ := bd hf
              refine V_frW E (Rn_V E (rest := []) mlX8_307 wd_yX8_takesAll (kMo_takesAll l G qMo u51 u53 mo_all mo_past mo_aside mo_states mo_refused mo_causeKind mo_causeOrder mo_corner mo_linkVotes mo_linkE mo_linkF mo_follower mo_ahead mo_least mo_seam mo_above mo_below mo_text mo_textLong (u1.2 + (1 : Int32)) mo_value mo_numbers mo_not u54 hu54) ⟨rfl, rfl, Nat.le_of_ble_eq_true rfl, Nat.le_of_ble_eq_true rfl⟩ 0 rfl rfl rfl rfl rfl (Nat.le_of_ble_eq_true rfl) dX8_readsOrder_75) ?_
              show V G p l e rmMo_readsOrder s m args below meth c 3 A Q 0 0 (gMo G qMo mo_all mo_past mo_aside mo_states mo_refused mo_causeKind mo_causeOrder mo_corner mo_linkVotes mo_linkE mo_linkF mo_follower mo_ahead mo_least mo_seam mo_above mo_below mo_text mo_textLong u54.2.1 u54.2.2.1 u54.2.2.2 mo_not) 78 [(0, .ref (qMo 0)), (1, .int p1), (2, .int u1.1)] [.int u54.1]
              refine V_if_eq E (tgt := 90) dX8_readsOrder_78 (by decide) (fun hc55 => ?_) (fun hc55 => ?_)
              · have hf := ip hc55 hf
                refine V_iconst E (v := (0 : Int32)) dX8_readsOrder_90 (by decide) ?_
                have h9 := hret 91 [(0, .ref (qMo 0)), (1, .int p1), (2, .int u1.1)] dX8_readsOrder_91
                rw [← (Option.some.inj hf)] at h9
                exact h9 (z01a (Or.inl rfl))
              · have hf := iq hc55 hf
                refine V_aload_n E 0 rfl dX8_readsOrder_81 ?_
                obtain ⟨u56, hu56, hf⟩ := bd hf
                refine V_frW E (Rn_V E (rest := []) mlX8_291 wd_yX8_here (kMo_here l G qMo mo_all mo_past mo_aside mo_states mo_refused mo_causeKind mo_causeOrder mo_corner mo_linkVotes mo_linkE mo_linkF mo_follower mo_ahead mo_least mo_seam mo_above mo_below mo_text mo_textLong u54.2.1 u54.2.2.1 u54.2.2.2 mo_not u56 hu56) ⟨rfl, rfl, Nat.le_of_ble_eq_true rfl, Nat.le_of_ble_eq_true rfl⟩ 0 rfl rfl rfl rfl rfl (Nat.le_of_ble_eq_true rfl) dX8_readsOrder_82) ?_
                show V G p l e rmMo_readsOrder s m args below meth c 3 A Q 0 0 (gMo G qMo mo_all mo_past mo_aside mo_states mo_refused mo_causeKind mo_causeOrder mo_corner mo_linkVotes mo_linkE mo_linkF mo_follower mo_ahead mo_least mo_seam mo_above mo_below mo_text mo_textLong u56.2 u54.2.2.1 u54.2.2.2 mo_not) 85 [(0, .ref (qMo 0)), (1, .int p1), (2, .int u1.1)] [.int u56.1]
                refine V_bipush E (v := (59 : Int32)) dX8_readsOrder_85 (by decide) ?_
                refine V_icmp_eq E (tgt := 92) dX8_readsOrder_87 (by decide) (fun hc57 => ?_) (fun hc57 => ?_)
                · have hf := ip hc57 hf
                  refine V_aload_n E 0 rfl dX8_readsOrder_92 ?_
                  refine V_dup E dX8_readsOrder_93 rfl ?_
                  refine gfX8_284 E 0 rfl rfl dX8_readsOrder_94 ?_
                  refine V_iconst E (v := (1 : Int32)) dX8_readsOrder_97 (by decide) ?_
                  refine V_iadd E dX8_readsOrder_98 ?_
                  refine pfX8_284 E (ws' := (gMo G qMo mo_all mo_past mo_aside mo_states mo_refused mo_causeKind mo_causeOrder mo_corner mo_linkVotes mo_linkE mo_linkF mo_follower mo_ahead mo_least mo_seam mo_above mo_below mo_text mo_textLong (u56.2 + (1 : Int32)) u54.2.2.1 u54.2.2.2 mo_not)) 0 rfl (Nat.le_of_ble_eq_true rfl) rfl rfl dX8_readsOrder_99 rfl ?_
                  refine V_iload_n E 1 rfl dX8_readsOrder_102 ?_
                  refine V_if_eq E (tgt := 127) dX8_readsOrder_103 (by decide) (fun hc58 => ?_) (fun hc58 => ?_)
                  · have hf := ip hc58 hf
                    refine V_iconst E (v := (1 : Int32)) dX8_readsOrder_127 (by decide) ?_
                    have h9 := hret 128 [(0, .ref (qMo 0)), (1, .int p1), (2, .int u1.1)] dX8_readsOrder_128
                    rw [← (Option.some.inj hf)] at h9
                    exact h9 (z01a (Or.inr rfl))
                  · have hf := iq hc58 hf
                    refine V_aload_n E 0 rfl dX8_readsOrder_106 ?_
                    refine V_aload_n E 0 rfl dX8_readsOrder_107 ?_
                    refine V_iload_n E 2 rfl dX8_readsOrder_108 ?_
                    obtain ⟨u59, hu59, hf⟩ := bd hf
                    refine V_frW E (Rn_V E (rest := [.ref (qMo 0)]) mlX8_310 wd_yX8_can (kMo_can l G qMo u1.1 mo_all mo_past mo_aside mo_states mo_refused mo_causeKind mo_causeOrder mo_corner mo_linkVotes mo_linkE mo_linkF mo_follower mo_ahead mo_least mo_seam mo_above mo_below mo_text mo_textLong (u56.2 + (1 : Int32)) u54.2.2.1 u54.2.2.2 mo_not u59 hu59) ⟨rfl, rfl, Nat.le_of_ble_eq_true rfl, Nat.le_of_ble_eq_true rfl⟩ 0 rfl rfl rfl rfl rfl (Nat.le_of_ble_eq_true rfl) dX8_readsOrder_109) ?_
                    show V G p l e rmMo_readsOrder s m args below meth c 3 A Q 0 0 (gMo G qMo mo_all mo_past mo_aside mo_states mo_refused mo_causeKind mo_causeOrder mo_corner mo_linkVotes mo_linkE mo_linkF mo_follower mo_ahead mo_least mo_seam mo_above mo_below mo_text mo_textLong (u56.2 + (1 : Int32)) u54.2.2.1 u54.2.2.2 mo_not) 112 [(0, .ref (qMo 0)), (1, .int p1), (2, .int u1.1)] [.int u59, .ref (qMo 0)]
                    refine pfX8_313 E (ws' := (gMo G qMo mo_all mo_past mo_aside mo_states mo_refused mo_causeKind mo_causeOrder mo_corner mo_linkVotes mo_linkE mo_linkF mo_follower mo_ahead mo_least mo_seam mo_above mo_below mo_text mo_textLong (u56.2 + (1 : Int32)) u54.2.2.1 u54.2.2.2 u59)) 0 rfl (Nat.le_of_ble_eq_true rfl) rfl rfl dX8_readsOrder_112 rfl ?_
                    refine V_aload_n E 0 rfl dX8_readsOrder_115 ?_
                    refine gfX8_313 E 0 rfl rfl dX8_readsOrder_116 ?_
                    refine V_if_ne E (tgt := 127) dX8_readsOrder_119 (by decide) (fun hc60 => ?_) (fun hc60 => ?_)
                    · have hf := iq hc60 hf
                      refine V_iconst E (v := (1 : Int32)) dX8_readsOrder_127 (by decide) ?_
                      have h9 := hret 128 [(0, .ref (qMo 0)), (1, .int p1), (2, .int u1.1)] dX8_readsOrder_128
                      rw [← (Option.some.inj hf)] at h9
                      exact h9 (z01a (Or.inr rfl))
                    · have hf := ip hc60 hf
                      refine V_aload_n E 0 rfl dX8_readsOrder_122 ?_
                      refine V_iload_n E 2 rfl dX8_readsOrder_123 ?_
                      obtain ⟨u61, hu61, hf⟩ := bd hf
                      refine V_frW E (Rn_V E (rest := []) mlX8_316 wd_yX8_does (kMo_does l G qMo u1.1 mo_all mo_past mo_aside mo_states mo_refused mo_causeKind mo_causeOrder mo_corner mo_linkVotes mo_linkE mo_linkF mo_follower mo_ahead mo_least mo_seam mo_above mo_below mo_text mo_textLong (u56.2 + (1 : Int32)) u54.2.2.1 u54.2.2.2 u59 u61 hu61) ⟨rfl, rfl, Nat.le_of_ble_eq_true rfl, Nat.le_of_ble_eq_true rfl⟩ 0 rfl rfl rfl rfl rfl (Nat.le_of_ble_eq_true rfl) dX8_readsOrder_124) ?_
                      show V G p l e rmMo_readsOrder s m args below meth c 3 A Q 0 0 (gMo G qMo u61 mo_past mo_aside mo_states mo_refused mo_causeKind mo_causeOrder mo_corner mo_linkVotes mo_linkE mo_linkF mo_follower mo_ahead mo_least mo_seam mo_above mo_below mo_text mo_textLong (u56.2 + (1 : Int32)) u54.2.2.1 u54.2.2.2 u59) 127 [(0, .ref (qMo 0)), (1, .int p1), (2, .int u1.1)] []
                      refine V_iconst E (v := (1 : Int32)) dX8_readsOrder_127 (by decide) ?_
                      have h9 := hret 128 [(0, .ref (qMo 0)), (1, .int p1), (2, .int u1.1)] dX8_readsOrder_128
                      rw [← (Option.some.inj hf)] at h9
                      exact h9 (z01a (Or.inr rfl))
                · have hf := iq hc57 hf
                  refine V_iconst E (v := (0 : Int32)) dX8_readsOrder_90 (by decide) ?_
                  have h9 := hret 91 [(0, .ref (qMo 0)), (1, .int p1), (2, .int u1.1)] dX8_readsOrder_91
                  rw [← (Option.some.inj hf)] at h9
                  exact h9 (z01a (Or.inl rfl))
            clear hf
            have hf := hu53
            refine V_icmp_ne E (tgt := 74) dX8_readsOrder_67 (by decide) (fun hc52 => ?_) (fun hc52 => ?_)
            · have hf := iq hc52 hf
              refine V_iconst E (v := (-1 : Int32)) dX8_readsOrder_74 (by decide) ?_
              rw [← Option.some.inj hf] at J75
              exact J75
            · have hf := ip hc52 hf
              refine V_iconst E (v := (2 : Int32)) dX8_readsOrder_70 (by decide) ?_
              refine V_goto E (tgt := 75) dX8_readsOrder_71 (by decide) ?_
              rw [← Option.some.inj hf] at J75
              exact J75
          · have hf := iq hc50 hf
            refine V_iload_n E 2 rfl dX8_readsOrder_35 ?_
            refine V_bipush E (v := (97 : Int32)) dX8_readsOrder_36 (by decide) ?_
            refine V_icmp_eq E (tgt := 49) dX8_readsOrder_38 (by decide) (fun hc62 => ?_) (fun hc62 => ?_)
            · have hf := ip hc62 hf
              refine V_aload_n E 0 rfl dX8_readsOrder_49 ?_
              refine V_dup E dX8_readsOrder_50 rfl ?_
              refine gfX8_284 E 0 rfl rfl dX8_readsOrder_51 ?_
              refine V_iconst E (v := (1 : Int32)) dX8_readsOrder_54 (by decide) ?_
              refine V_iadd E dX8_readsOrder_55 ?_
              refine pfX8_284 E (ws' := (gMo G qMo mo_all mo_past mo_aside mo_states mo_refused mo_causeKind mo_causeOrder mo_corner mo_linkVotes mo_linkE mo_linkF mo_follower mo_ahead mo_least mo_seam mo_above mo_below mo_text mo_textLong (u1.2 + (1 : Int32)) mo_value mo_numbers mo_not)) 0 rfl (Nat.le_of_ble_eq_true rfl) rfl rfl dX8_readsOrder_56 rfl ?_
              refine V_aload_n E 0 rfl dX8_readsOrder_59 ?_
              refine V_iload_n E 2 rfl dX8_readsOrder_60 ?_
              obtain ⟨u63, hu63, hf⟩ := bd hf
              refine V_fr0 E (Rn_S E (rest := [.ref (qMo 0)]) mlX8_304 wd_yX8_numbersOf (kMo_numbersOf l G u1.1 u63 hu63) ⟨rfl, rfl, Nat.le_of_ble_eq_true rfl, Nat.le_of_ble_eq_true rfl⟩ rfl rfl (Nat.le_of_ble_eq_true rfl) dX8_readsOrder_61) ?_
              show V G p l e rmMo_readsOrder s m args below meth c 3 A Q 0 0 (gMo G qMo mo_all mo_past mo_aside mo_states mo_refused mo_causeKind mo_causeOrder mo_corner mo_linkVotes mo_linkE mo_linkF mo_follower mo_ahead mo_least mo_seam mo_above mo_below mo_text mo_textLong (u1.2 + (1 : Int32)) mo_value mo_numbers mo_not) 64 [(0, .ref (qMo 0)), (1, .int p1), (2, .int u1.1)] [.int u63, .ref (qMo 0)]
              refine V_iload_n E 2 rfl dX8_readsOrder_64 ?_
              refine V_bipush E (v := (115 : Int32)) dX8_readsOrder_65 (by decide) ?_
              obtain ⟨u65, hu65, hf⟩ := bd hf
              have J75 : V G p l e rmMo_readsOrder s m args below meth c 3 A Q 0 0 (gMo G qMo mo_all mo_past mo_aside mo_states mo_refused mo_causeKind mo_causeOrder mo_corner mo_linkVotes mo_linkE mo_linkF mo_follower mo_ahead mo_least mo_seam mo_above mo_below mo_text mo_textLong (u1.2 + (1 : Int32)) mo_value mo_numbers mo_not) 75 [(0, .ref (qMo 0)), (1, .int p1), (2, .int u1.1)] [.int u65, .int u63, .ref (qMo 0)] := by
                obtain ⟨u66, hu66, hf⟩ := bd hf
                refine V_frW E (Rn_V E (rest := []) mlX8_307 wd_yX8_takesAll (kMo_takesAll l G qMo u63 u65 mo_all mo_past mo_aside mo_states mo_refused mo_causeKind mo_causeOrder mo_corner mo_linkVotes mo_linkE mo_linkF mo_follower mo_ahead mo_least mo_seam mo_above mo_below mo_text mo_textLong (u1.2 + (1 : Int32)) mo_value mo_numbers mo_not u66 hu66) ⟨rfl, rfl, Nat.le_of_ble_eq_true rfl, Nat.le_of_ble_eq_true rfl⟩ 0 rfl rfl rfl rfl rfl (Nat.le_of_ble_eq_true rfl) dX8_readsOrder_75) ?_
                show V G p l e rmMo_readsOrder s m args below meth c 3 A Q 0 0 (gMo G qMo mo_all mo_past mo_aside mo_states mo_refused mo_causeKind mo_causeOrder mo_corner mo_linkVotes mo_linkE mo_linkF mo_follower mo_ahead mo_least mo_seam mo_above mo_below mo_text mo_textLong u66.2.1 u66.2.2.1 u66.2.2.2 mo_not) 78 [(0, .ref (qMo 0)), (1, .int p1), (2, .int u1.1)] [.int u66.1]
                refine V_if_eq E (tgt := 90) dX8_readsOrder_78 (by decide) (fun hc67 => ?_) (fun hc67 => ?_)
                · have hf := ip hc67 hf
                  refine V_iconst E (v := (0 : Int32)) dX8_readsOrder_90 (by decide) ?_
                  have h9 := hret 91 [(0, .ref (qMo 0)), (1, .int p1), (2, .int u1.1)] dX8_readsOrder_91
                  rw [← (Option.some.inj hf)] at h9
                  exact h9 (z01a (Or.inl rfl))
                · have hf := iq hc67 hf
                  refine V_aload_n E 0 rfl dX8_readsOrder_81 ?_
                  obtain ⟨u68, hu68, hf⟩ := bd hf
                  refine V_frW E (Rn_V E (rest := []) mlX8_291 wd_yX8_here (kMo_here l G qMo mo_all mo_past mo_aside mo_states mo_refused mo_causeKind mo_causeOrder mo_corner mo_linkVotes mo_linkE mo_linkF mo_follower mo_ahead mo_least mo_seam mo_above mo_below mo_text mo_textLong u66.2.1 u66.2.2.1 u66.2.2.2 mo_not u68 hu68) ⟨rfl, rfl, Nat.le_of_ble_eq_true rfl, Nat.le_of_ble_eq_true rfl⟩ 0 rfl rfl rfl rfl rfl (Nat.le_of_ble_eq_true rfl) dX8_readsOrder_82) ?_
                  show V G p l e rmMo_readsOrder s m args below meth c 3 A Q 0 0 (gMo G qMo mo_all mo_past mo_aside mo_states mo_refused mo_causeKind mo_causeOrder mo_corner mo_linkVotes mo_linkE mo_linkF mo_follower mo_ahead mo_least mo_seam mo_above mo_below mo_text mo_textLong u68.2 u66.2.2.1 u66.2.2.2 mo_not) 85 [(0, .ref (qMo 0)), (1, .int p1), (2, .int u1.1)] [.int u68.1]
                  refine V_bipush E (v := (59 : Int32)) dX8_readsOrder_85 (by decide) ?_
                  refine V_icmp_eq E (tgt := 92) dX8_readsOrder_87 (by decide) (fun hc69 => ?_) (fun hc69 => ?_)
                  · have hf := ip hc69 hf
                    refine V_aload_n E 0 rfl dX8_readsOrder_92 ?_
                    refine V_dup E dX8_readsOrder_93 rfl ?_
                    refine gfX8_284 E 0 rfl rfl dX8_readsOrder_94 ?_
                    refine V_iconst E (v := (1 : Int32)) dX8_readsOrder_97 (by decide) ?_
                    refine V_iadd E dX8_readsOrder_98 ?_
                    refine pfX8_284 E (ws' := (gMo G qMo mo_all mo_past mo_aside mo_states mo_refused mo_causeKind mo_causeOrder mo_corner mo_linkVotes mo_linkE mo_linkF mo_follower mo_ahead mo_least mo_seam mo_above mo_below mo_text mo_textLong (u68.2 + (1 : Int32)) u66.2.2.1 u66.2.2.2 mo_not)) 0 rfl (Nat.le_of_ble_eq_true rfl) rfl rfl dX8_readsOrder_99 rfl ?_
                    refine V_iload_n E 1 rfl dX8_readsOrder_102 ?_
                    refine V_if_eq E (tgt := 127) dX8_readsOrder_103 (by decide) (fun hc70 => ?_) (fun hc70 => ?_)
                    · have hf := ip hc70 hf
                      refine V_iconst E (v := (1 : Int32)) dX8_readsOrder_127 (by decide) ?_
                      have h9 := hret 128 [(0, .ref (qMo 0)), (1, .int p1), (2, .int u1.1)] dX8_readsOrder_128
                      rw [← (Option.some.inj hf)] at h9
                      exact h9 (z01a (Or.inr rfl))
                    · have hf := iq hc70 hf
                      refine V_aload_n E 0 rfl dX8_readsOrder_106 ?_
                      refine V_aload_n E 0 rfl dX8_readsOrder_107 ?_
                      refine V_iload_n E 2 rfl dX8_readsOrder_108 ?_
                      obtain ⟨u71, hu71, hf⟩ := bd hf
                      refine V_frW E (Rn_V E (rest := [.ref (qMo 0)]) mlX8_310 wd_yX8_can (kMo_can l G qMo u1.1 mo_all mo_past mo_aside mo_states mo_refused mo_causeKind mo_causeOrder mo_corner mo_linkVotes mo_linkE mo_linkF mo_follower mo_ahead mo_least mo_seam mo_above mo_below mo_text mo_textLong (u68.2 + (1 : Int32)) u66.2.2.1 u66.2.2.2 mo_not u71 hu71) ⟨rfl, rfl, Nat.le_of_ble_eq_true rfl, Nat.le_of_ble_eq_true rfl⟩ 0 rfl rfl rfl rfl rfl (Nat.le_of_ble_eq_true rfl) dX8_readsOrder_109) ?_
                      show V G p l e rmMo_readsOrder s m args below meth c 3 A Q 0 0 (gMo G qMo mo_all mo_past mo_aside mo_states mo_refused mo_causeKind mo_causeOrder mo_corner mo_linkVotes mo_linkE mo_linkF mo_follower mo_ahead mo_least mo_seam mo_above mo_below mo_text mo_textLong (u68.2 + (1 : Int32)) u66.2.2.1 u66.2.2.2 mo_not) 112 [(0, .ref (qMo 0)), (1, .int p1), (2, .int u1.1)] [.int u71, .ref (qMo 0)]
                      refine pfX8_313 E (ws' := (gMo G qMo mo_all mo_past mo_aside mo_states mo_refused mo_causeKind mo_causeOrder mo_corner mo_linkVotes mo_linkE mo_linkF mo_follower mo_ahead mo_least mo_seam mo_above mo_below mo_text mo_textLong (u68.2 + (1 : Int32)) u66.2.2.1 u66.2.2.2 u71)) 0 rfl (Nat.le_of_ble_eq_true rfl) rfl rfl dX8_readsOrder_112 rfl ?_
                      refine V_aload_n E 0 rfl dX8_readsOrder_115 ?_
                      refine gfX8_313 E 0 rfl rfl dX8_readsOrder_116 ?_
                      refine V_if_ne E (tgt := 127) dX8_readsOrder_119 (by decide) (fun hc72 => ?_) (fun hc72 => ?_)
                      · have hf := iq hc72 hf
                        refine V_iconst E (v := (1 : Int32)) dX8_readsOrder_127 (by decide) ?_
                        have h9 := hret 128 [(0, .ref (qMo 0)), (1, .int p1), (2, .int u1.1)] dX8_readsOrder_128
                        rw [← (Option.some.inj hf)] at h9
                        exact h9 (z01a (Or.inr rfl))
                      · have hf := ip hc72 hf
                        refine V_aload_n E 0 rfl dX8_readsOrder_122 ?_
                        refine V_iload_n E 2 rfl dX8_readsOrder_123 ?_
                        obtain ⟨u73, hu73, hf⟩ := bd hf
                        refine V_frW E (Rn_V E (rest := []) mlX8_316 wd_yX8_does (kMo_does l G qMo u1.1 mo_all mo_past mo_aside mo_states mo_refused mo_causeKind mo_causeOrder mo_corner mo_linkVotes mo_linkE mo_linkF mo_follower mo_ahead mo_least mo_seam mo_above mo_below mo_text mo_textLong (u68.2 + (1 : Int32)) u66.2.2.1 u66.2.2.2 u71 u73 hu73) ⟨rfl, rfl, Nat.le_of_ble_eq_true rfl, Nat.le_of_ble_eq_true rfl⟩ 0 rfl rfl rfl rfl rfl (Nat.le_of_ble_eq_true rfl) dX8_readsOrder_124) ?_
                        show V G p l e rmMo_readsOrder s m args below meth c 3 A Q 0 0 (gMo G qMo u73 mo_past mo_aside mo_states mo_refused mo_causeKind mo_causeOrder mo_corner mo_linkVotes mo_linkE mo_linkF mo_follower mo_ahead mo_least mo_seam mo_above mo_below mo_text mo_textLong (u68.2 + (1 : Int32)) u66.2.2.1 u66.2.2.2 u71) 127 [(0, .ref (qMo 0)), (1, .int p1), (2, .int u1.1)] []
                        refine V_iconst E (v := (1 : Int32)) dX8_readsOrder_127 (by decide) ?_
                        have h9 := hret 128 [(0, .ref (qMo 0)), (1, .int p1), (2, .int u1.1)] dX8_readsOrder_128
                        rw [← (Option.some.inj hf)] at h9
                        exact h9 (z01a (Or.inr rfl))
                  · have hf := iq hc69 hf
                    refine V_iconst E (v := (0 : Int32)) dX8_readsOrder_90 (by decide) ?_
                    have h9 := hret 91 [(0, .ref (qMo 0)), (1, .int p1), (2, .int u1.1)] dX8_readsOrder_91
                    rw [← (Option.some.inj hf)] at h9
                    exact h9 (z01a (Or.inl rfl))
              clear hf
              have hf := hu65
              refine V_icmp_ne E (tgt := 74) dX8_readsOrder_67 (by decide) (fun hc64 => ?_) (fun hc64 => ?_)
              · have hf := iq hc64 hf
                refine V_iconst E (v := (-1 : Int32)) dX8_readsOrder_74 (by decide) ?_
                rw [← Option.some.inj hf] at J75
                exact J75
              · have hf := ip hc64 hf
                refine V_iconst E (v := (2 : Int32)) dX8_readsOrder_70 (by decide) ?_
                refine V_goto E (tgt := 75) dX8_readsOrder_71 (by decide) ?_
                rw [← Option.some.inj hf] at J75
                exact J75
            · have hf := iq hc62 hf
              refine V_iload_n E 2 rfl dX8_readsOrder_41 ?_
              refine V_bipush E (v := (120 : Int32)) dX8_readsOrder_42 (by decide) ?_
              refine V_icmp_eq E (tgt := 49) dX8_readsOrder_44 (by decide) (fun hc74 => ?_) (fun hc74 => ?_)
              · have hf := ip hc74 hf
                refine V_aload_n E 0 rfl dX8_readsOrder_49 ?_
                refine V_dup E dX8_readsOrder_50 rfl ?_
                refine gfX8_284 E 0 rfl rfl dX8_readsOrder_51 ?_
                refine V_iconst E (v := (1 : Int32)) dX8_readsOrder_54 (by decide) ?_
                refine V_iadd E dX8_readsOrder_55 ?_
                refine pfX8_284 E (ws' := (gMo G qMo mo_all mo_past mo_aside mo_states mo_refused mo_causeKind mo_causeOrder mo_corner mo_linkVotes mo_linkE mo_linkF mo_follower mo_ahead mo_least mo_seam mo_above mo_below mo_text mo_textLong (u1.2 + (1 : Int32)) mo_value mo_numbers mo_not)) 0 rfl (Nat.le_of_ble_eq_true rfl) rfl rfl dX8_readsOrder_56 rfl ?_
                refine V_aload_n E 0 rfl dX8_readsOrder_59 ?_
                refine V_iload_n E 2 rfl dX8_readsOrder_60 ?_
                obtain ⟨u75, hu75, hf⟩ := bd hf
                refine V_fr0 E (Rn_S E (rest := [.ref (qMo 0)]) mlX8_304 wd_yX8_numbersOf (kMo_numbersOf l G u1.1 u75 hu75) ⟨rfl, rfl, Nat.le_of_ble_eq_true rfl, Nat.le_of_ble_eq_true rfl⟩ rfl rfl (Nat.le_of_ble_eq_true rfl) dX8_readsOrder_61) ?_
                show V G p l e rmMo_readsOrder s m args below meth c 3 A Q 0 0 (gMo G qMo mo_all mo_past mo_aside mo_states mo_refused mo_causeKind mo_causeOrder mo_corner mo_linkVotes mo_linkE mo_linkF mo_follower mo_ahead mo_least mo_seam mo_above mo_below mo_text mo_textLong (u1.2 + (1 : Int32)) mo_value mo_numbers mo_not) 64 [(0, .ref (qMo 0)), (1, .int p1), (2, .int u1.1)] [.int u75, .ref (qMo 0)]
                refine V_iload_n E 2 rfl dX8_readsOrder_64 ?_
                refine V_bipush E (v := (115 : Int32)) dX8_readsOrder_65 (by decide) ?_
                obtain ⟨u77, hu77, hf⟩ := bd hf
                have J75 : V G p l e rmMo_readsOrder s m args below meth c 3 A Q 0 0 (gMo G qMo mo_all mo_past mo_aside mo_states mo_refused mo_causeKind mo_causeOrder mo_corner mo_linkVotes mo_linkE mo_linkF mo_follower mo_ahead mo_least mo_seam mo_above mo_below mo_text mo_textLong (u1.2 + (1 : Int32)) mo_value mo_numbers mo_not) 75 [(0, .ref (qMo 0)), (1, .int p1), (2, .int u1.1)] [.int u77, .int u75, .ref (qMo 0)] := by
                  obtain ⟨u78, hu78, hf⟩ := bd hf
                  refine V_frW E (Rn_V E (rest := []) mlX8_307 wd_yX8_takesAll (kMo_takesAll l G qMo u75 u77 mo_all mo_past mo_aside mo_states mo_refused mo_causeKind mo_causeOrder mo_corner mo_linkVotes mo_linkE mo_linkF mo_follower mo_ahead mo_least mo_seam mo_above mo_below mo_text mo_textLong (u1.2 + (1 : Int32)) mo_value mo_numbers mo_not u78 hu78) ⟨rfl, rfl, Nat.le_of_ble_eq_true rfl, Nat.le_of_ble_eq_true rfl⟩ 0 rfl rfl rfl rfl rfl (Nat.le_of_ble_eq_true rfl) dX8_readsOrder_75) ?_
                  show V G p l e rmMo_readsOrder s m args below meth c 3 A Q 0 0 (gMo G qMo mo_all mo_past mo_aside mo_states mo_refused mo_causeKind mo_causeOrder mo_corner mo_linkVotes mo_linkE mo_linkF mo_follower mo_ahead mo_least mo_seam mo_above mo_below mo_text mo_textLong u78.2.1 u78.2.2.1 u78.2.2.2 mo_not) 78 [(0, .ref (qMo 0)), (1, .int p1), (2, .int u1.1)] [.int u78.1]
                  refine V_if_eq E (tgt := 90) dX8_readsOrder_78 (by decide) (fun hc79 => ?_) (fun hc79 => ?_)
                  · have hf := ip hc79 hf
                    refine V_iconst E (v := (0 : Int32)) dX8_readsOrder_90 (by decide) ?_
                    have h9 := hret 91 [(0, .ref (qMo 0)), (1, .int p1), (2, .int u1.1)] dX8_readsOrder_91
                    rw [← (Option.some.inj hf)] at h9
                    exact h9 (z01a (Or.inl rfl))
                  · have hf := iq hc79 hf
                    refine V_aload_n E 0 rfl dX8_readsOrder_81 ?_
                    obtain ⟨u80, hu80, hf⟩ := bd hf
                    refine V_frW E (Rn_V E (rest := []) mlX8_291 wd_yX8_here (kMo_here l G qMo mo_all mo_past mo_aside mo_states mo_refused mo_causeKind mo_causeOrder mo_corner mo_linkVotes mo_linkE mo_linkF mo_follower mo_ahead mo_least mo_seam mo_above mo_below mo_text mo_textLong u78.2.1 u78.2.2.1 u78.2.2.2 mo_not u80 hu80) ⟨rfl, rfl, Nat.le_of_ble_eq_true rfl, Nat.le_of_ble_eq_true rfl⟩ 0 rfl rfl rfl rfl rfl (Nat.le_of_ble_eq_true rfl) dX8_readsOrder_82) ?_
                    show V G p l e rmMo_readsOrder s m args below meth c 3 A Q 0 0 (gMo G qMo mo_all mo_past mo_aside mo_states mo_refused mo_causeKind mo_causeOrder mo_corner mo_linkVotes mo_linkE mo_linkF mo_follower mo_ahead mo_least mo_seam mo_above mo_below mo_text mo_textLong u80.2 u78.2.2.1 u78.2.2.2 mo_not) 85 [(0, .ref (qMo 0)), (1, .int p1), (2, .int u1.1)] [.int u80.1]
                    refine V_bipush E (v := (59 : Int32)) dX8_readsOrder_85 (by decide) ?_
                    refine V_icmp_eq E (tgt := 92) dX8_readsOrder_87 (by decide) (fun hc81 => ?_) (fun hc81 => ?_)
                    · have hf := ip hc81 hf
                      refine V_aload_n E 0 rfl dX8_readsOrder_92 ?_
                      refine V_dup E dX8_readsOrder_93 rfl ?_
                      refine gfX8_284 E 0 rfl rfl dX8_readsOrder_94 ?_
                      refine V_iconst E (v := (1 : Int32)) dX8_readsOrder_97 (by decide) ?_
                      refine V_iadd E dX8_readsOrder_98 ?_
                      refine pfX8_284 E (ws' := (gMo G qMo mo_all mo_past mo_aside mo_states mo_refused mo_causeKind mo_causeOrder mo_corner mo_linkVotes mo_linkE mo_linkF mo_follower mo_ahead mo_least mo_seam mo_above mo_below mo_text mo_textLong (u80.2 + (1 : Int32)) u78.2.2.1 u78.2.2.2 mo_not)) 0 rfl (Nat.le_of_ble_eq_true rfl) rfl rfl dX8_readsOrder_99 rfl ?_
                      refine V_iload_n E 1 rfl dX8_readsOrder_102 ?_
                      refine V_if_eq E (tgt := 127) dX8_readsOrder_103 (by decide) (fun hc82 => ?_) (fun hc82 => ?_)
                      · have hf := ip hc82 hf
                        refine V_iconst E (v := (1 : Int32)) dX8_readsOrder_127 (by decide) ?_
                        have h9 := hret 128 [(0, .ref (qMo 0)), (1, .int p1), (2, .int u1.1)] dX8_readsOrder_128
                        rw [← (Option.some.inj hf)] at h9
                        exact h9 (z01a (Or.inr rfl))
                      · have hf := iq hc82 hf
                        refine V_aload_n E 0 rfl dX8_readsOrder_106 ?_
                        refine V_aload_n E 0 rfl dX8_readsOrder_107 ?_
                        refine V_iload_n E 2 rfl dX8_readsOrder_108 ?_
                        obtain ⟨u83, hu83, hf⟩ := bd hf
                        refine V_frW E (Rn_V E (rest := [.ref (qMo 0)]) mlX8_310 wd_yX8_can (kMo_can l G qMo u1.1 mo_all mo_past mo_aside mo_states mo_refused mo_causeKind mo_causeOrder mo_corner mo_linkVotes mo_linkE mo_linkF mo_follower mo_ahead mo_least mo_seam mo_above mo_below mo_text mo_textLong (u80.2 + (1 : Int32)) u78.2.2.1 u78.2.2.2 mo_not u83 hu83) ⟨rfl, rfl, Nat.le_of_ble_eq_true rfl, Nat.le_of_ble_eq_true rfl⟩ 0 rfl rfl rfl rfl rfl (Nat.le_of_ble_eq_true rfl) dX8_readsOrder_109) ?_
                        show V G p l e rmMo_readsOrder s m args below meth c 3 A Q 0 0 (gMo G qMo mo_all mo_past mo_aside mo_states mo_refused mo_causeKind mo_causeOrder mo_corner mo_linkVotes mo_linkE mo_linkF mo_follower mo_ahead mo_least mo_seam mo_above mo_below mo_text mo_textLong (u80.2 + (1 : Int32)) u78.2.2.1 u78.2.2.2 mo_not) 112 [(0, .ref (qMo 0)), (1, .int p1), (2, .int u1.1)] [.int u83, .ref (qMo 0)]
                        refine pfX8_313 E (ws' := (gMo G qMo mo_all mo_past mo_aside mo_states mo_refused mo_causeKind mo_causeOrder mo_corner mo_linkVotes mo_linkE mo_linkF mo_follower mo_ahead mo_least mo_seam mo_above mo_below mo_text mo_textLong (u80.2 + (1 : Int32)) u78.2.2.1 u78.2.2.2 u83)) 0 rfl (Nat.le_of_ble_eq_true rfl) rfl rfl dX8_readsOrder_112 rfl ?_
                        refine V_aload_n E 0 rfl dX8_readsOrder_115 ?_
                        refine gfX8_313 E 0 rfl rfl dX8_readsOrder_116 ?_
                        refine V_if_ne E (tgt := 127) dX8_readsOrder_119 (by decide) (fun hc84 => ?_) (fun hc84 => ?_)
                        · have hf := iq hc84 hf
                          refine V_iconst E (v := (1 : Int32)) dX8_readsOrder_127 (by decide) ?_
                          have h9 := hret 128 [(0, .ref (qMo 0)), (1, .int p1), (2, .int u1.1)] dX8_readsOrder_128
                          rw [← (Option.some.inj hf)] at h9
                          exact h9 (z01a (Or.inr rfl))
                        · have hf := ip hc84 hf
                          refine V_aload_n E 0 rfl dX8_readsOrder_122 ?_
                          refine V_iload_n E 2 rfl dX8_readsOrder_123 ?_
                          obtain ⟨u85, hu85, hf⟩ := bd hf
                          refine V_frW E (Rn_V E (rest := []) mlX8_316 wd_yX8_does (kMo_does l G qMo u1.1 mo_all mo_past mo_aside mo_states mo_refused mo_causeKind mo_causeOrder mo_corner mo_linkVotes mo_linkE mo_linkF mo_follower mo_ahead mo_least mo_seam mo_above mo_below mo_text mo_textLong (u80.2 + (1 : Int32)) u78.2.2.1 u78.2.2.2 u83 u85 hu85) ⟨rfl, rfl, Nat.le_of_ble_eq_true rfl, Nat.le_of_ble_eq_true rfl⟩ 0 rfl rfl rfl rfl rfl (Nat.le_of_ble_eq_true rfl) dX8_readsOrder_124) ?_
                          show V G p l e rmMo_readsOrder s m args below meth c 3 A Q 0 0 (gMo G qMo u85 mo_past mo_aside mo_states mo_refused mo_causeKind mo_causeOrder mo_corner mo_linkVotes mo_linkE mo_linkF mo_follower mo_ahead mo_least mo_seam mo_above mo_below mo_text mo_textLong (u80.2 + (1 : Int32)) u78.2.2.1 u78.2.2.2 u83) 127 [(0, .ref (qMo 0)), (1, .int p1), (2, .int u1.1)] []
                          refine V_iconst E (v := (1 : Int32)) dX8_readsOrder_127 (by decide) ?_
                          have h9 := hret 128 [(0, .ref (qMo 0)), (1, .int p1), (2, .int u1.1)] dX8_readsOrder_128
                          rw [← (Option.some.inj hf)] at h9
                          exact h9 (z01a (Or.inr rfl))
                    · have hf := iq hc81 hf
                      refine V_iconst E (v := (0 : Int32)) dX8_readsOrder_90 (by decide) ?_
                      have h9 := hret 91 [(0, .ref (qMo 0)), (1, .int p1), (2, .int u1.1)] dX8_readsOrder_91
                      rw [← (Option.some.inj hf)] at h9
                      exact h9 (z01a (Or.inl rfl))
                clear hf
                have hf := hu77
                refine V_icmp_ne E (tgt := 74) dX8_readsOrder_67 (by decide) (fun hc76 => ?_) (fun hc76 => ?_)
                · have hf := iq hc76 hf
                  refine V_iconst E (v := (-1 : Int32)) dX8_readsOrder_74 (by decide) ?_
                  rw [← Option.some.inj hf] at J75
                  exact J75
                · have hf := ip hc76 hf
                  refine V_iconst E (v := (2 : Int32)) dX8_readsOrder_70 (by decide) ?_
                  refine V_goto E (tgt := 75) dX8_readsOrder_71 (by decide) ?_
                  rw [← Option.some.inj hf] at J75
                  exact J75
              · have hf := iq hc74 hf
                refine V_iconst E (v := (0 : Int32)) dX8_readsOrder_47 (by decide) ?_
                have h9 := hret 48 [(0, .ref (qMo 0)), (1, .int p1), (2, .int u1.1)] dX8_readsOrder_48
                rw [← (Option.some.inj hf)] at h9
                exact h9 (z01a (Or.inl rfl))
abbrev rmMo_keepsAside : Room := { frames := 1, cells := 0, slots := 0, locals := 21 }
theorem wd_yX8_keepsAside : wdV yX8_keepsAside cX8_keepsAside 3 none 0 := ⟨wc_yX8_keepsAside, wi_yX8_keepsAside, wse_yX8_keepsAside, wini_X8, by decide +kernel, by decide +kernel, by decide +kernel⟩
set_option maxHeartbeats 4000000 in
set_option maxRecDepth 100000 in
theorem kMo_keepsAside (l : Launch) (G : wG) (qMo : Nat → Nat) (mo_all : Nat → Int32) (mo_past : Nat → Int32) (mo_aside : Nat → Int32) (mo_states : Int32) (mo_refused : Nat → Int32) (mo_causeKind : Int32) (mo_causeOrder : Int32) (mo_corner : Nat → Int32) (mo_linkVotes : Nat → Int32) (mo_linkE : Nat → Int32) (mo_linkF : Nat → Int32) (mo_follower : Nat → Int32) (mo_ahead : Nat → Int32) (mo_least : Nat → Int32) (mo_seam : Nat → Int32) (mo_above : Int64) (mo_below : Int64) (mo_text : Nat → Int32) (mo_textLong : Int32) (mo_place : Int32) (mo_value : Int32) (mo_numbers : Nat → Int32) (mo_not : Int32) (o : (Nat → Int32) × (Nat → Int32) × (Nat → Int32) × Int32) (hf : fMo_keepsAside mo_all mo_past mo_aside mo_states = some o) : Ct G l yX8_keepsAside cX8_keepsAside 3 none rmMo_keepsAside [.ref (qMo 0)] (gMo G qMo mo_all mo_past mo_aside mo_states mo_refused mo_causeKind mo_causeOrder mo_corner mo_linkVotes mo_linkE mo_linkF mo_follower mo_ahead mo_least mo_seam mo_above mo_below mo_text mo_textLong mo_place mo_value mo_numbers mo_not) none (gMo G qMo o.1 o.2.1 o.2.2.1 o.2.2.2 mo_refused mo_causeKind mo_causeOrder mo_corner mo_linkVotes mo_linkE mo_linkF mo_follower mo_ahead mo_least mo_seam mo_above mo_below mo_text mo_textLong mo_place mo_value mo_numbers mo_not) := by
  refine Ct.ofV (by decide +kernel) (Nat.le_of_ble_eq_true rfl) (fun p e s m args below meth c A Q E hret => ?_)
  unfold fMo_keepsAside at hf
  show V G p l e rmMo_keepsAside s m args below meth c 3 A Q 0 0 (gMo G qMo mo_all mo_past mo_aside mo_states mo_refused mo_causeKind mo_causeOrder mo_corner mo_linkVotes mo_linkE mo_linkF mo_follower mo_ahead mo_least mo_seam mo_above mo_below mo_text mo_textLong mo_place mo_value mo_numbers mo_not) 0 [(0, .ref (qMo 0))] []
  refine V_iconst E (v := (0 : Int32)) dX8_keepsAside_0 (by decide) ?_
  refine V_istore_n E (lv' := [(0, .ref (qMo 0)), (1, .int (0 : Int32))]) dX8_keepsAside_1 (by decide) rfl ?_
  have L2 : ∀ (n : Nat) (a2_1 : Int32) (c2_mo_all : Nat → Int32) (c2_mo_aside : Nat → Int32) (u : (Nat → Int32) × (Nat → Int32)), fMo_keepsAside_L2 n a2_1 c2_mo_all c2_mo_aside = some u → (V G p l e rmMo_keepsAside s m args below meth c 3 A Q 0 0 (gMo G qMo u.1 mo_past u.2 mo_states mo_refused mo_causeKind mo_causeOrder mo_corner mo_linkVotes mo_linkE mo_linkF mo_follower mo_ahead mo_least mo_seam mo_above mo_below mo_text mo_textLong mo_place mo_value mo_numbers mo_not) 41 [(0, .ref (qMo 0))] []) → V G p l e rmMo_keepsAside s m args below meth c 3 A Q 0 0 (gMo G qMo c2_mo_all mo_past c2_mo_aside mo_states mo_refused mo_causeKind mo_causeOrder mo_corner mo_linkVotes mo_linkE mo_linkF mo_follower mo_ahead mo_least mo_seam mo_above mo_below mo_text mo_textLong mo_place mo_value mo_numbers mo_not) 2 [(0, .ref (qMo 0)), (1, .int a2_1)] [] := by
    intro n
    induction n with
    | zero =>
      intro a2_1 c2_mo_all c2_mo_aside u hf hk
      rw [fMo_keepsAside_L2] at hf
      cases hf
    | succ n ih =>
      intro a2_1 c2_mo_all c2_mo_aside u hf hk
      rw [fMo_keepsAside_L2] at hf
      refine V_iload_n E 1 rfl dX8_keepsAside_2 ?_
      refine V_sipush E (v := (406 : Int32)) dX8_keepsAside_3 (by decide) ?_
      refine V_icmp_ge E (tgt := 41) dX8_keepsAside_6 (by decide) (fun hc2 => ?_) (fun hc2 => ?_)
      · have hf := ip hc2 hf
        refine V_sub [0] rfl ?_
        rw [← Option.some.inj hf] at hk
        exact hk
      · have hf := iq hc2 hf
        refine V_aload_n E 0 rfl dX8_keepsAside_9 ?_
        refine gfX8_7 E 0 rfl rfl dX8_keepsAside_10 ?_
        refine V_iload_n E 1 rfl dX8_keepsAside_13 ?_
        obtain ⟨hi3, hf⟩ := asr_ok hf
        refine V_iald E 1 rfl hi3 dX8_keepsAside_14 ?_
        refine V_istore_n E (lv' := [(0, .ref (qMo 0)), (1, .int a2_1), (2, .int (c2_mo_all a2_1.toNatClampNeg))]) dX8_keepsAside_15 (by decide) rfl ?_
        refine V_aload_n E 0 rfl dX8_keepsAside_16 ?_
        refine gfX8_7 E 0 rfl rfl dX8_keepsAside_17 ?_
        refine V_iload_n E 1 rfl dX8_keepsAside_20 ?_
        refine V_aload_n E 0 rfl dX8_keepsAside_21 ?_
        refine gfX8_16 E 0 rfl rfl dX8_keepsAside_22 ?_
        refine V_iload_n E 1 rfl dX8_keepsAside_25 ?_
        obtain ⟨hi4, hf⟩ := asr_ok hf
        refine V_iald E 3 rfl hi4 dX8_keepsAside_26 ?_
        obtain ⟨hi5, hf⟩ := asr_ok hf
        refine V_iast E (ws' := (gMo G qMo (upd c2_mo_all a2_1.toNatClampNeg (c2_mo_aside a2_1.toNatClampNeg)) mo_past c2_mo_aside mo_states mo_refused mo_causeKind mo_causeOrder mo_corner mo_linkVotes mo_linkE mo_linkF mo_follower mo_ahead mo_least mo_seam mo_above mo_below mo_text mo_textLong mo_place mo_value mo_numbers mo_not)) 1 rfl hi5 dX8_keepsAside_27 rfl ?_
        refine V_aload_n E 0 rfl dX8_keepsAside_28 ?_
        refine gfX8_16 E 0 rfl rfl dX8_keepsAside_29 ?_
        refine V_iload_n E 1 rfl dX8_keepsAside_32 ?_
        refine V_iload_n E 2 rfl dX8_keepsAside_33 ?_
        obtain ⟨hi6, hf⟩ := asr_ok hf
        refine V_iast E (ws' := (gMo G qMo (upd c2_mo_all a2_1.toNatClampNeg (c2_mo_aside a2_1.toNatClampNeg)) mo_past (upd c2_mo_aside a2_1.toNatClampNeg (c2_mo_all a2_1.toNatClampNeg)) mo_states mo_refused mo_causeKind mo_causeOrder mo_corner mo_linkVotes mo_linkE mo_linkF mo_follower mo_ahead mo_least mo_seam mo_above mo_below mo_text mo_textLong mo_place mo_value mo_numbers mo_not)) 3 rfl hi6 dX8_keepsAside_34 rfl ?_
        refine V_iinc E (v := (a2_1 + (1 : Int32))) (lv' := [(0, .ref (qMo 0)), (1, .int (a2_1 + (1 : Int32))), (2, .int (c2_mo_all a2_1.toNatClampNeg))]) 1 rfl dX8_keepsAside_35 rfl (by decide) rfl ?_
        refine V_goto E (tgt := 2) dX8_keepsAside_38 (by decide) ?_
        refine V_sub [0, 1] rfl ?_
        exact ih (a2_1 + (1 : Int32)) (upd c2_mo_all a2_1.toNatClampNeg (c2_mo_aside a2_1.toNatClampNeg)) (upd c2_mo_aside a2_1.toNatClampNeg (c2_mo_all a2_1.toNatClampNeg)) _ hf hk
  obtain ⟨u1, hu1, hf⟩ := bd hf
  refine L2 FU (0 : Int32) mo_all mo_aside u1 hu1 ?_
  refine V_aload_n E 0 rfl dX8_keepsAside_41 ?_
  obtain ⟨u7, hu7, hf⟩ := bd hf
  refine V_frW E (Rn_V E (rest := []) mlX8_95 wd_yX8_keep (kMo_keep l G qMo u1.1 mo_past u1.2 mo_states mo_refused mo_causeKind mo_causeOrder mo_corner mo_linkVotes mo_linkE mo_linkF mo_follower mo_ahead mo_least mo_seam mo_above mo_below mo_text mo_textLong mo_place mo_value mo_numbers mo_not u7 hu7) ⟨rfl, rfl, Nat.le_of_ble_eq_true rfl, Nat.le_of_ble_eq_true rfl⟩ 0 rfl rfl rfl rfl rfl (Nat.le_of_ble_eq_true rfl) dX8_keepsAside_42) ?_
  show V G p l e rmMo_keepsAside s m args below meth c 3 A Q 0 0 (gMo G qMo u1.1 u7.1 u1.2 u7.2 mo_refused mo_causeKind mo_causeOrder mo_corner mo_linkVotes mo_linkE mo_linkF mo_follower mo_ahead mo_least mo_seam mo_above mo_below mo_text mo_textLong mo_place mo_value mo_numbers mo_not) 45 [(0, .ref (qMo 0))] []
  refine V_iconst E (v := (0 : Int32)) dX8_keepsAside_45 (by decide) ?_
  refine V_istore_n E (lv' := [(0, .ref (qMo 0)), (1, .int (0 : Int32))]) dX8_keepsAside_46 (by decide) rfl ?_
  have L47 : ∀ (n : Nat) (a47_1 : Int32) (c47_mo_all : Nat → Int32) (u : (Nat → Int32)), fMo_keepsAside_L47 u1.2 n a47_1 c47_mo_all = some u → (V G p l e rmMo_keepsAside s m args below meth c 3 A Q 0 0 (gMo G qMo u u7.1 u1.2 u7.2 mo_refused mo_causeKind mo_causeOrder mo_corner mo_linkVotes mo_linkE mo_linkF mo_follower mo_ahead mo_least mo_seam mo_above mo_below mo_text mo_textLong mo_place mo_value mo_numbers mo_not) 72 [] []) → V G p l e rmMo_keepsAside s m args below meth c 3 A Q 0 0 (gMo G qMo c47_mo_all u7.1 u1.2 u7.2 mo_refused mo_causeKind mo_causeOrder mo_corner mo_linkVotes mo_linkE mo_linkF mo_follower mo_ahead mo_least mo_seam mo_above mo_below mo_text mo_textLong mo_place mo_value mo_numbers mo_not) 47 [(0, .ref (qMo 0)), (1, .int a47_1)] [] := by
    intro n
    induction n with
    | zero =>
      intro a47_1 c47_mo_all u hf hk
      rw [fMo_keepsAside_L47] at hf
      cases hf
    | succ n ih =>
      intro a47_1 c47_mo_all u hf hk
      rw [fMo_keepsAside_L47] at hf
      refine V_iload_n E 1 rfl dX8_keepsAside_47 ?_
      refine V_sipush E (v := (406 : Int32)) dX8_keepsAside_48 (by decide) ?_
      refine V_icmp_ge E (tgt := 72) dX8_keepsAside_51 (by decide) (fun hc9 => ?_) (fun hc9 => ?_)
      · have hf := ip hc9 hf
        refine V_sub [] rfl ?_
        rw [← Option.some.inj hf] at hk
        exact hk
      · have hf := iq hc9 hf
        refine V_aload_n E 0 rfl dX8_keepsAside_54 ?_
        refine gfX8_7 E 0 rfl rfl dX8_keepsAside_55 ?_
        refine V_iload_n E 1 rfl dX8_keepsAside_58 ?_
        refine V_aload_n E 0 rfl dX8_keepsAside_59 ?_
        refine gfX8_16 E 0 rfl rfl dX8_keepsAside_60 ?_
        refine V_iload_n E 1 rfl dX8_keepsAside_63 ?_
        obtain ⟨hi10, hf⟩ := asr_ok hf
        refine V_iald E 3 rfl hi10 dX8_keepsAside_64 ?_
        obtain ⟨hi11, hf⟩ := asr_ok hf
        refine V_iast E (ws' := (gMo G qMo (upd c47_mo_all a47_1.toNatClampNeg (u1.2 a47_1.toNatClampNeg)) u7.1 u1.2 u7.2 mo_refused mo_causeKind mo_causeOrder mo_corner mo_linkVotes mo_linkE mo_linkF mo_follower mo_ahead mo_least mo_seam mo_above mo_below mo_text mo_textLong mo_place mo_value mo_numbers mo_not)) 1 rfl hi11 dX8_keepsAside_65 rfl ?_
        refine V_iinc E (v := (a47_1 + (1 : Int32))) (lv' := [(0, .ref (qMo 0)), (1, .int (a47_1 + (1 : Int32)))]) 1 rfl dX8_keepsAside_66 rfl (by decide) rfl ?_
        refine V_goto E (tgt := 47) dX8_keepsAside_69 (by decide) ?_
        exact ih (a47_1 + (1 : Int32)) (upd c47_mo_all a47_1.toNatClampNeg (u1.2 a47_1.toNatClampNeg)) _ hf hk
  obtain ⟨u8, hu8, hf⟩ := bd hf
  refine L47 FU (0 : Int32) u1.1 u8 hu8 ?_
  have h9 := hret 72 [] dX8_keepsAside_72
  rw [← (Option.some.inj hf)] at h9
  exact h9
abbrev rmMo_reads : Room := { frames := 5, cells := 0, slots := 0, locals := 115 }
theorem wd_yX8_reads : wdV yX8_reads cX8_reads 4 (some .int) 0 := ⟨wc_yX8_reads, wi_yX8_reads, wse_yX8_reads, wini_X8, by decide +kernel, by decide +kernel, by decide +kernel⟩
set_option maxHeartbeats 4000000 in
set_option maxRecDepth 100000 in
theorem kMo_reads (l : Launch) (G : wG) (qMo : Nat → Nat) (mo_all : Nat → Int32) (mo_past : Nat → Int32) (mo_aside : Nat → Int32) (mo_states : Int32) (mo_refused : Nat → Int32) (mo_causeKind : Int32) (mo_causeOrder : Int32) (mo_corner : Nat → Int32) (mo_linkVotes : Nat → Int32) (mo_linkE : Nat → Int32) (mo_linkF : Nat → Int32) (mo_follower : Nat → Int32) (mo_ahead : Nat → Int32) (mo_least : Nat → Int32) (mo_seam : Nat → Int32) (mo_above : Int64) (mo_below : Int64) (mo_text : Nat → Int32) (mo_textLong : Int32) (mo_place : Int32) (mo_value : Int32) (mo_numbers : Nat → Int32) (mo_not : Int32) (o : Int32 × (Nat → Int32) × (Nat → Int32) × (Nat → Int32) × Int32 × Int32 × Int32 × Int32 × Int32 × (Nat → Int32) × Int32) (hf : fMo_reads mo_all mo_past mo_aside mo_states mo_causeKind mo_causeOrder mo_text mo_textLong mo_place mo_value mo_numbers mo_not = some o) : Ct G l yX8_reads cX8_reads 4 (some .int) rmMo_reads [.ref (qMo 0)] (gMo G qMo mo_all mo_past mo_aside mo_states mo_refused mo_causeKind mo_causeOrder mo_corner mo_linkVotes mo_linkE mo_linkF mo_follower mo_ahead mo_least mo_seam mo_above mo_below mo_text mo_textLong mo_place mo_value mo_numbers mo_not) (some (.int o.1)) (gMo G qMo o.2.1 o.2.2.1 o.2.2.2.1 o.2.2.2.2.1 mo_refused o.2.2.2.2.2.1 o.2.2.2.2.2.2.1 mo_corner mo_linkVotes mo_linkE mo_linkF mo_follower mo_ahead mo_least mo_seam mo_above mo_below mo_text mo_textLong o.2.2.2.2.2.2.2.1 o.2.2.2.2.2.2.2.2.1 o.2.2.2.2.2.2.2.2.2.1 o.2.2.2.2.2.2.2.2.2.2) := by
  refine Ct.ofI (by decide +kernel) (Nat.le_of_ble_eq_true rfl) (fun p e s m args below meth c A Q E hret => ?_)
  unfold fMo_reads at hf
  show V G p l e rmMo_reads s m args below meth c 4 A Q 0 0 (gMo G qMo mo_all mo_past mo_aside mo_states mo_refused mo_causeKind mo_causeOrder mo_corner mo_linkVotes mo_linkE mo_linkF mo_follower mo_ahead mo_least mo_seam mo_above mo_below mo_text mo_textLong mo_place mo_value mo_numbers mo_not) 0 [(0, .ref (qMo 0))] []
  refine V_aload_n E 0 rfl dX8_reads_0 ?_
  refine V_iconst E (v := (0 : Int32)) dX8_reads_1 (by decide) ?_
  refine pfX8_284 E (ws' := (gMo G qMo mo_all mo_past mo_aside mo_states mo_refused mo_causeKind mo_causeOrder mo_corner mo_linkVotes mo_linkE mo_linkF mo_follower mo_ahead mo_least mo_seam mo_above mo_below mo_text mo_textLong (0 : Int32) mo_value mo_numbers mo_not)) 0 rfl (Nat.le_of_ble_eq_true rfl) rfl rfl dX8_reads_2 rfl ?_
  refine V_aload_n E 0 rfl dX8_reads_5 ?_
  refine V_iconst E (v := (0 : Int32)) dX8_reads_6 (by decide) ?_
  obtain ⟨u1, hu1, hf⟩ := bd hf
  refine V_frW E (Rn_V E (rest := []) mlX8_319 wd_yX8_readsOrder (kMo_readsOrder l G qMo (0 : Int32) mo_all mo_past mo_aside mo_states mo_refused mo_causeKind mo_causeOrder mo_corner mo_linkVotes mo_linkE mo_linkF mo_follower mo_ahead mo_least mo_seam mo_above mo_below mo_text mo_textLong (0 : Int32) mo_value mo_numbers mo_not u1 hu1) ⟨rfl, rfl, Nat.le_of_ble_eq_true rfl, Nat.le_of_ble_eq_true rfl⟩ 0 rfl rfl rfl rfl rfl (Nat.le_of_ble_eq_true rfl) dX8_reads_7) ?_
  show V G p l e rmMo_reads s m args below meth c 4 A Q 0 0 (gMo G qMo u1.2.1 mo_past mo_aside mo_states mo_refused mo_causeKind mo_causeOrder mo_corner mo_linkVotes mo_linkE mo_linkF mo_follower mo_ahead mo_least mo_seam mo_above mo_below mo_text mo_textLong u1.2.2.1 u1.2.2.2.1 u1.2.2.2.2.1 u1.2.2.2.2.2) 10 [(0, .ref (qMo 0))] [.int u1.1]
  refine V_istore_n E (lv' := [(0, .ref (qMo 0)), (1, .int u1.1)]) dX8_reads_10 (by decide) rfl ?_
  have L11 : ∀ (n : Nat) (a11_1 : Int32) (c11_mo_all : Nat → Int32) (c11_mo_place : Int32) (c11_mo_value : Int32) (c11_mo_numbers : Nat → Int32) (c11_mo_not : Int32) (u : Int32 × (Nat → Int32) × Int32 × Int32 × (Nat → Int32) × Int32), fMo_reads_L11 mo_text mo_textLong n a11_1 c11_mo_all c11_mo_place c11_mo_value c11_mo_numbers c11_mo_not = some u → (V G p l e rmMo_reads s m args below meth c 4 A Q 0 0 (gMo G qMo u.2.1 mo_past mo_aside mo_states mo_refused mo_causeKind mo_causeOrder mo_corner mo_linkVotes mo_linkE mo_linkF mo_follower mo_ahead mo_least mo_seam mo_above mo_below mo_text mo_textLong u.2.2.1 u.2.2.2.1 u.2.2.2.2.1 u.2.2.2.2.2) 32 [(0, .ref (qMo 0)), (1, .int u.1)] []) → V G p l e rmMo_reads s m args below meth c 4 A Q 0 0 (gMo G qMo c11_mo_all mo_past mo_aside mo_states mo_refused mo_causeKind mo_causeOrder mo_corner mo_linkVotes mo_linkE mo_linkF mo_follower mo_ahead mo_least mo_seam mo_above mo_below mo_text mo_textLong c11_mo_place c11_mo_value c11_mo_numbers c11_mo_not) 11 [(0, .ref (qMo 0)), (1, .int a11_1)] [] := by
    intro n
    induction n with
    | zero =>
      intro a11_1 c11_mo_all c11_mo_place c11_mo_value c11_mo_numbers c11_mo_not u hf hk
      rw [fMo_reads_L11] at hf
      cases hf
    | succ n ih =>
      intro a11_1 c11_mo_all c11_mo_place c11_mo_value c11_mo_numbers c11_mo_not u hf hk
      rw [fMo_reads_L11] at hf
      refine V_iload_n E 1 rfl dX8_reads_11 ?_
      refine V_if_eq E (tgt := 32) dX8_reads_12 (by decide) (fun hc3 => ?_) (fun hc3 => ?_)
      · have hf := ip hc3 hf
        rw [← Option.some.inj hf] at hk
        exact hk
      · have hf := iq hc3 hf
        refine V_aload_n E 0 rfl dX8_reads_15 ?_
        obtain ⟨u4, hu4, hf⟩ := bd hf
        refine V_frW E (Rn_V E (rest := []) mlX8_291 wd_yX8_here (kMo_here l G qMo c11_mo_all mo_past mo_aside mo_states mo_refused mo_causeKind mo_causeOrder mo_corner mo_linkVotes mo_linkE mo_linkF mo_follower mo_ahead mo_least mo_seam mo_above mo_below mo_text mo_textLong c11_mo_place c11_mo_value c11_mo_numbers c11_mo_not u4 hu4) ⟨rfl, rfl, Nat.le_of_ble_eq_true rfl, Nat.le_of_ble_eq_true rfl⟩ 0 rfl rfl rfl rfl rfl (Nat.le_of_ble_eq_true rfl) dX8_reads_16) ?_
        show V G p l e rmMo_reads s m args below meth c 4 A Q 0 0 (gMo G qMo c11_mo_all mo_past mo_aside mo_states mo_refused mo_causeKind mo_causeOrder mo_corner mo_linkVotes mo_linkE mo_linkF mo_follower mo_ahead mo_least mo_seam mo_above mo_below mo_text mo_textLong u4.2 c11_mo_value c11_mo_numbers c11_mo_not) 19 [(0, .ref (qMo 0)), (1, .int a11_1)] [.int u4.1]
        refine V_iconst E (v := (-1 : Int32)) dX8_reads_19 (by decide) ?_
        refine V_icmp_eq E (tgt := 32) dX8_reads_20 (by decide) (fun hc5 => ?_) (fun hc5 => ?_)
        · have hf := ip hc5 hf
          rw [← Option.some.inj hf] at hk
          exact hk
        · have hf := iq hc5 hf
          refine V_aload_n E 0 rfl dX8_reads_23 ?_
          refine V_iconst E (v := (0 : Int32)) dX8_reads_24 (by decide) ?_
          obtain ⟨u6, hu6, hf⟩ := bd hf
          refine V_frW E (Rn_V E (rest := []) mlX8_319 wd_yX8_readsOrder (kMo_readsOrder l G qMo (0 : Int32) c11_mo_all mo_past mo_aside mo_states mo_refused mo_causeKind mo_causeOrder mo_corner mo_linkVotes mo_linkE mo_linkF mo_follower mo_ahead mo_least mo_seam mo_above mo_below mo_text mo_textLong u4.2 c11_mo_value c11_mo_numbers c11_mo_not u6 hu6) ⟨rfl, rfl, Nat.le_of_ble_eq_true rfl, Nat.le_of_ble_eq_true rfl⟩ 0 rfl rfl rfl rfl rfl (Nat.le_of_ble_eq_true rfl) dX8_reads_25) ?_
          show V G p l e rmMo_reads s m args below meth c 4 A Q 0 0 (gMo G qMo u6.2.1 mo_past mo_aside mo_states mo_refused mo_causeKind mo_causeOrder mo_corner mo_linkVotes mo_linkE mo_linkF mo_follower mo_ahead mo_least mo_seam mo_above mo_below mo_text mo_textLong u6.2.2.1 u6.2.2.2.1 u6.2.2.2.2.1 u6.2.2.2.2.2) 28 [(0, .ref (qMo 0)), (1, .int a11_1)] [.int u6.1]
          refine V_istore_n E (lv' := [(0, .ref (qMo 0)), (1, .int u6.1)]) dX8_reads_28 (by decide) rfl ?_
          refine V_goto E (tgt := 11) dX8_reads_29 (by decide) ?_
          exact ih u6.1 u6.2.1 u6.2.2.1 u6.2.2.2.1 u6.2.2.2.2.1 u6.2.2.2.2.2 _ hf hk
  obtain ⟨u2, hu2, hf⟩ := bd hf
  refine L11 FU u1.1 u1.2.1 u1.2.2.1 u1.2.2.2.1 u1.2.2.2.2.1 u1.2.2.2.2.2 u2 hu2 ?_
  refine V_iload_n E 1 rfl dX8_reads_32 ?_
  refine V_if_ne E (tgt := 44) dX8_reads_33 (by decide) (fun hc7 => ?_) (fun hc7 => ?_)
  · have hf := iq hc7 hf
    refine V_iconst E (v := (0 : Int32)) dX8_reads_44 (by decide) ?_
    refine V_istore_n E (lv' := [(0, .ref (qMo 0)), (1, .int u2.1), (2, .int (0 : Int32))]) dX8_reads_45 (by decide) rfl ?_
    have L46 : ∀ (n : Nat) (a46_2 : Int32) (c46_mo_aside : Nat → Int32) (u : (Nat → Int32)), fMo_reads_L46 u2.2.1 n a46_2 c46_mo_aside = some u → (V G p l e rmMo_reads s m args below meth c 4 A Q 0 0 (gMo G qMo u2.2.1 mo_past u mo_states mo_refused mo_causeKind mo_causeOrder mo_corner mo_linkVotes mo_linkE mo_linkF mo_follower mo_ahead mo_least mo_seam mo_above mo_below mo_text mo_textLong u2.2.2.1 u2.2.2.2.1 u2.2.2.2.2.1 u2.2.2.2.2.2) 71 [(0, .ref (qMo 0))] []) → V G p l e rmMo_reads s m args below meth c 4 A Q 0 0 (gMo G qMo u2.2.1 mo_past c46_mo_aside mo_states mo_refused mo_causeKind mo_causeOrder mo_corner mo_linkVotes mo_linkE mo_linkF mo_follower mo_ahead mo_least mo_seam mo_above mo_below mo_text mo_textLong u2.2.2.1 u2.2.2.2.1 u2.2.2.2.2.1 u2.2.2.2.2.2) 46 [(0, .ref (qMo 0)), (2, .int a46_2)] [] := by
      intro n
      induction n with
      | zero =>
        intro a46_2 c46_mo_aside u hf hk
        rw [fMo_reads_L46] at hf
        cases hf
      | succ n ih =>
        intro a46_2 c46_mo_aside u hf hk
        rw [fMo_reads_L46] at hf
        refine V_iload_n E 1 rfl dX8_reads_46 ?_
        refine V_sipush E (v := (406 : Int32)) dX8_reads_47 (by decide) ?_
        refine V_icmp_ge E (tgt := 71) dX8_reads_50 (by decide) (fun hc9 => ?_) (fun hc9 => ?_)
        · have hf := ip hc9 hf
          refine V_sub [0] rfl ?_
          rw [← Option.some.inj hf] at hk
          exact hk
        · have hf := iq hc9 hf
          refine V_aload_n E 0 rfl dX8_reads_53 ?_
          refine gfX8_16 E 0 rfl rfl dX8_reads_54 ?_
          refine V_iload_n E 1 rfl dX8_reads_57 ?_
          refine V_aload_n E 0 rfl dX8_reads_58 ?_
          refine gfX8_7 E 0 rfl rfl dX8_reads_59 ?_
          refine V_iload_n E 1 rfl dX8_reads_62 ?_
          obtain ⟨hi10, hf⟩ := asr_ok hf
          refine V_iald E 1 rfl hi10 dX8_reads_63 ?_
          obtain ⟨hi11, hf⟩ := asr_ok hf
          refine V_iast E (ws' := (gMo G qMo u2.2.1 mo_past (upd c46_mo_aside a46_2.toNatClampNeg (u2.2.1 a46_2.toNatClampNeg)) mo_states mo_refused mo_causeKind mo_causeOrder mo_corner mo_linkVotes mo_linkE mo_linkF mo_follower mo_ahead mo_least mo_seam mo_above mo_below mo_text mo_textLong u2.2.2.1 u2.2.2.2.1 u2.2.2.2.2.1 u2.2.2.2.2.2)) 3 rfl hi11 dX8_reads_64 rfl ?_
          refine V_iinc E (v := (a46_2 + (1 : Int32))) (lv' := [(0, .ref (qMo 0)), (2, .int (a46_2 + (1 : Int32)))]) 1 rfl dX8_reads_65 rfl (by decide) rfl ?_
          refine V_goto E (tgt := 46) dX8_reads_68 (by decide) ?_
          exact ih (a46_2 + (1 : Int32)) (upd c46_mo_aside a46_2.toNatClampNeg (u2.2.1 a46_2.toNatClampNeg)) _ hf hk
    refine V_sub [0, 2] rfl ?_
    obtain ⟨u8, hu8, hf⟩ := bd hf
    refine L46 FU (0 : Int32) mo_aside u8 hu8 ?_
    refine V_iconst E (v := (0 : Int32)) dX8_reads_71 (by decide) ?_
    refine V_istore_n E (lv' := [(0, .ref (qMo 0)), (2, .int (0 : Int32))]) dX8_reads_72 (by decide) rfl ?_
    refine V_aload_n E 0 rfl dX8_reads_73 ?_
    refine V_iconst E (v := (0 : Int32)) dX8_reads_74 (by decide) ?_
    refine pfX8_284 E (ws' := (gMo G qMo u2.2.1 mo_past u8 mo_states mo_refused mo_causeKind mo_causeOrder mo_corner mo_linkVotes mo_linkE mo_linkF mo_follower mo_ahead mo_least mo_seam mo_above mo_below mo_text mo_textLong (0 : Int32) u2.2.2.2.1 u2.2.2.2.2.1 u2.2.2.2.2.2)) 0 rfl (Nat.le_of_ble_eq_true rfl) rfl rfl dX8_reads_75 rfl ?_
    refine V_aload_n E 0 rfl dX8_reads_78 ?_
    refine V_iconst E (v := (0 : Int32)) dX8_reads_79 (by decide) ?_
    refine pfX8_313 E (ws' := (gMo G qMo u2.2.1 mo_past u8 mo_states mo_refused mo_causeKind mo_causeOrder mo_corner mo_linkVotes mo_linkE mo_linkF mo_follower mo_ahead mo_least mo_seam mo_above mo_below mo_text mo_textLong (0 : Int32) u2.2.2.2.1 u2.2.2.2.2.1 (0 : Int32))) 0 rfl (Nat.le_of_ble_eq_true rfl) rfl rfl dX8_reads_80 rfl ?_
    have L83 : ∀ (n : Nat) (a83_2 : Int32) (c83_mo_all : Nat → Int32) (c83_mo_causeKind : Int32) (c83_mo_causeOrder : Int32) (c83_mo_place : Int32) (c83_mo_value : Int32) (c83_mo_numbers : Nat → Int32) (c83_mo_not : Int32) (u : Sum (Int32 × (Nat → Int32) × (Nat → Int32) × (Nat → Int32) × Int32 × Int32 × Int32 × Int32 × Int32 × (Nat → Int32) × Int32) (Int32 × (Nat → Int32) × Int32 × Int32 × Int32 × Int32 × (Nat → Int32) × Int32)), fMo_reads_L83 mo_past u8 mo_states mo_text mo_textLong n a83_2 c83_mo_all c83_mo_causeKind c83_mo_causeOrder c83_mo_place c83_mo_value c83_mo_numbers c83_mo_not = some u → (∀ x, u = .inr x → V G p l e rmMo_reads s m args below meth c 4 A Q 0 0 (gMo G qMo x.2.1 mo_past u8 mo_states mo_refused x.2.2.1 x.2.2.2.1 mo_corner mo_linkVotes mo_linkE mo_linkF mo_follower mo_ahead mo_least mo_seam mo_above mo_below mo_text mo_textLong x.2.2.2.2.1 x.2.2.2.2.2.1 x.2.2.2.2.2.2.1 x.2.2.2.2.2.2.2) 157 [(0, .ref (qMo 0)), (2, .int x.1)] []) → (∀ r, u = .inl r → r = o) → V G p l e rmMo_reads s m args below meth c 4 A Q 0 0 (gMo G qMo c83_mo_all mo_past u8 mo_states mo_refused c83_mo_causeKind c83_mo_causeOrder mo_corner mo_linkVotes mo_linkE mo_linkF mo_follower mo_ahead mo_least mo_seam mo_above mo_below mo_text mo_textLong c83_mo_place c83_mo_value c83_mo_numbers c83_mo_not) 83 [(0, .ref (qMo 0)), (2, .int a83_2)] [] := by
      intro n
      induction n with
      | zero =>
        intro a83_2 c83_mo_all c83_mo_causeKind c83_mo_causeOrder c83_mo_place c83_mo_value c83_mo_numbers c83_mo_not u hf hk hr
        rw [fMo_reads_L83] at hf
        cases hf
      | succ n ih =>
        intro a83_2 c83_mo_all c83_mo_causeKind c83_mo_causeOrder c83_mo_place c83_mo_value c83_mo_numbers c83_mo_not u hf hk hr
        rw [fMo_reads_L83] at hf
        refine V_aload_n E 0 rfl dX8_reads_83 ?_
        obtain ⟨u13, hu13, hf⟩ := bd hf
        refine V_frW E (Rn_V E (rest := []) mlX8_291 wd_yX8_here (kMo_here l G qMo c83_mo_all mo_past u8 mo_states mo_refused c83_mo_causeKind c83_mo_causeOrder mo_corner mo_linkVotes mo_linkE mo_linkF mo_follower mo_ahead mo_least mo_seam mo_above mo_below mo_text mo_textLong c83_mo_place c83_mo_value c83_mo_numbers c83_mo_not u13 hu13) ⟨rfl, rfl, Nat.le_of_ble_eq_true rfl, Nat.le_of_ble_eq_true rfl⟩ 0 rfl rfl rfl rfl rfl (Nat.le_of_ble_eq_true rfl) dX8_reads_84) ?_
        show V G p l e rmMo_reads s m args below meth c 4 A Q 0 0 (gMo G qMo c83_mo_all mo_past u8 mo_states mo_refused c83_mo_causeKind c83_mo_causeOrder mo_corner mo_linkVotes mo_linkE mo_linkF mo_follower mo_ahead mo_least mo_seam mo_above mo_below mo_text mo_textLong u13.2 c83_mo_value c83_mo_numbers c83_mo_not) 87 [(0, .ref (qMo 0)), (2, .int a83_2)] [.int u13.1]
        refine V_iconst E (v := (-1 : Int32)) dX8_reads_87 (by decide) ?_
        refine V_icmp_eq E (tgt := 157) dX8_reads_88 (by decide) (fun hc14 => ?_) (fun hc14 => ?_)
        · have hf := ip hc14 hf
          exact hk _ (Option.some.inj hf).symm
        · have hf := iq hc14 hf
          refine V_aload_n E 0 rfl dX8_reads_91 ?_
          refine V_iconst E (v := (1 : Int32)) dX8_reads_92 (by decide) ?_
          obtain ⟨u15, hu15, hf⟩ := bd hf
          refine V_frW E (Rn_V E (rest := []) mlX8_319 wd_yX8_readsOrder (kMo_readsOrder l G qMo (1 : Int32) c83_mo_all mo_past u8 mo_states mo_refused c83_mo_causeKind c83_mo_causeOrder mo_corner mo_linkVotes mo_linkE mo_linkF mo_follower mo_ahead mo_least mo_seam mo_above mo_below mo_text mo_textLong u13.2 c83_mo_value c83_mo_numbers c83_mo_not u15 hu15) ⟨rfl, rfl, Nat.le_of_ble_eq_true rfl, Nat.le_of_ble_eq_true rfl⟩ 0 rfl rfl rfl rfl rfl (Nat.le_of_ble_eq_true rfl) dX8_reads_93) ?_
          show V G p l e rmMo_reads s m args below meth c 4 A Q 0 0 (gMo G qMo u15.2.1 mo_past u8 mo_states mo_refused c83_mo_causeKind c83_mo_causeOrder mo_corner mo_linkVotes mo_linkE mo_linkF mo_follower mo_ahead mo_least mo_seam mo_above mo_below mo_text mo_textLong u15.2.2.1 u15.2.2.2.1 u15.2.2.2.2.1 u15.2.2.2.2.2) 96 [(0, .ref (qMo 0)), (2, .int a83_2)] [.int u15.1]
          refine V_istore_n E (lv' := [(0, .ref (qMo 0)), (1, .int u15.1), (2, .int a83_2)]) dX8_reads_96 (by decide) rfl ?_
          refine V_aload_n E 0 rfl dX8_reads_97 ?_
          refine gfX8_313 E 0 rfl rfl dX8_reads_98 ?_
          refine V_if_ge E (tgt := 151) dX8_reads_101 (by decide) (fun hc16 => ?_) (fun hc16 => ?_)
          · have hf := ip hc16 hf
            refine V_iinc E (v := (a83_2 + (1 : Int32))) (lv' := [(0, .ref (qMo 0)), (1, .int u15.1), (2, .int (a83_2 + (1 : Int32)))]) 2 rfl dX8_reads_151 rfl (by decide) rfl ?_
            refine V_goto E (tgt := 83) dX8_reads_154 (by decide) ?_
            refine V_sub [0, 2] rfl ?_
            exact ih (a83_2 + (1 : Int32)) u15.2.1 c83_mo_causeKind c83_mo_causeOrder u15.2.2.1 u15.2.2.2.1 u15.2.2.2.2.1 u15.2.2.2.2.2 _ hf hk hr
          · have hf := iq hc16 hf
            refine V_iconst E (v := (0 : Int32)) dX8_reads_104 (by decide) ?_
            refine V_istore_n E (lv' := [(0, .ref (qMo 0)), (1, .int u15.1), (2, .int a83_2), (3, .int (0 : Int32))]) dX8_reads_105 (by decide) rfl ?_
            have L106 : ∀ (n : Nat) (a106_3 : Int32) (c106_mo_all : Nat → Int32) (u : (Nat → Int32)), fMo_reads_L106 u8 n a106_3 c106_mo_all = some u → (V G p l e rmMo_reads s m args below meth c 4 A Q 0 0 (gMo G qMo u mo_past u8 mo_states mo_refused c83_mo_causeKind c83_mo_causeOrder mo_corner mo_linkVotes mo_linkE mo_linkF mo_follower mo_ahead mo_least mo_seam mo_above mo_below mo_text mo_textLong u15.2.2.1 u15.2.2.2.1 u15.2.2.2.2.1 u15.2.2.2.2.2) 131 [(0, .ref (qMo 0)), (2, .int a83_2)] []) → V G p l e rmMo_reads s m args below meth c 4 A Q 0 0 (gMo G qMo c106_mo_all mo_past u8 mo_states mo_refused c83_mo_causeKind c83_mo_causeOrder mo_corner mo_linkVotes mo_linkE mo_linkF mo_follower mo_ahead mo_least mo_seam mo_above mo_below mo_text mo_textLong u15.2.2.1 u15.2.2.2.1 u15.2.2.2.2.1 u15.2.2.2.2.2) 106 [(0, .ref (qMo 0)), (2, .int a83_2), (3, .int a106_3)] [] := by
              intro n
              induction n with
              | zero =>
                intro a106_3 c106_mo_all u hf hk
                rw [fMo_reads_L106] at hf
                cases hf
              | succ n ih =>
                intro a106_3 c106_mo_all u hf hk
                rw [fMo_reads_L106] at hf
                refine V_iload_n E 2 rfl dX8_reads_106 ?_
                refine V_sipush E (v := (406 : Int32)) dX8_reads_107 (by decide) ?_
                refine V_icmp_ge E (tgt := 131) dX8_reads_110 (by decide) (fun hc18 => ?_) (fun hc18 => ?_)
                · have hf := ip hc18 hf
                  refine V_sub [0, 1] rfl ?_
                  rw [← Option.some.inj hf] at hk
                  exact hk
                · have hf := iq hc18 hf
                  refine V_aload_n E 0 rfl dX8_reads_113 ?_
                  refine gfX8_7 E 0 rfl rfl dX8_reads_114 ?_
                  refine V_iload_n E 2 rfl dX8_reads_117 ?_
                  refine V_aload_n E 0 rfl dX8_reads_118 ?_
                  refine gfX8_16 E 0 rfl rfl dX8_reads_119 ?_
                  refine V_iload_n E 2 rfl dX8_reads_122 ?_
                  obtain ⟨hi19, hf⟩ := asr_ok hf
                  refine V_iald E 3 rfl hi19 dX8_reads_123 ?_
                  obtain ⟨hi20, hf⟩ := asr_ok hf
                  refine V_iast E (ws' := (gMo G qMo (upd c106_mo_all a106_3.toNatClampNeg (u8 a106_3.toNatClampNeg)) mo_past u8 mo_states mo_refused c83_mo_causeKind c83_mo_causeOrder mo_corner mo_linkVotes mo_linkE mo_linkF mo_follower mo_ahead mo_least mo_seam mo_above mo_below mo_text mo_textLong u15.2.2.1 u15.2.2.2.1 u15.2.2.2.2.1 u15.2.2.2.2.2)) 1 rfl hi20 dX8_reads_124 rfl ?_
                  refine V_iinc E (v := (a106_3 + (1 : Int32))) (lv' := [(0, .ref (qMo 0)), (2, .int a83_2), (3, .int (a106_3 + (1 : Int32)))]) 2 rfl dX8_reads_125 rfl (by decide) rfl ?_
                  refine V_goto E (tgt := 106) dX8_reads_128 (by decide) ?_
                  exact ih (a106_3 + (1 : Int32)) (upd c106_mo_all a106_3.toNatClampNeg (u8 a106_3.toNatClampNeg)) _ hf hk
            refine V_sub [0, 2, 3] rfl ?_
            obtain ⟨u17, hu17, hf⟩ := bd hf
            refine L106 FU (0 : Int32) u15.2.1 u17 hu17 ?_
            refine V_aload_n E 0 rfl dX8_reads_131 ?_
            refine V_aload_n E 0 rfl dX8_reads_132 ?_
            refine gfX8_313 E 0 rfl rfl dX8_reads_133 ?_
            refine V_ineg E dX8_reads_136 ?_
            refine pfX8_322 E (ws' := (gMo G qMo u17 mo_past u8 mo_states mo_refused (-u15.2.2.2.2.2) c83_mo_causeOrder mo_corner mo_linkVotes mo_linkE mo_linkF mo_follower mo_ahead mo_least mo_seam mo_above mo_below mo_text mo_textLong u15.2.2.1 u15.2.2.2.1 u15.2.2.2.2.1 u15.2.2.2.2.2)) 0 rfl (Nat.le_of_ble_eq_true rfl) rfl rfl dX8_reads_137 rfl ?_
            refine V_aload_n E 0 rfl dX8_reads_140 ?_
            refine V_iload_n E 1 rfl dX8_reads_141 ?_
            refine pfX8_22 E (ws' := (gMo G qMo u17 mo_past u8 mo_states mo_refused (-u15.2.2.2.2.2) a83_2 mo_corner mo_linkVotes mo_linkE mo_linkF mo_follower mo_ahead mo_least mo_seam mo_above mo_below mo_text mo_textLong u15.2.2.1 u15.2.2.2.1 u15.2.2.2.2.1 u15.2.2.2.2.2)) 0 rfl (Nat.le_of_ble_eq_true rfl) rfl rfl dX8_reads_142 rfl ?_
            refine V_sipush E (v := (-1000 : Int32)) dX8_reads_145 (by decide) ?_
            refine V_iload_n E 1 rfl dX8_reads_148 ?_
            refine V_isub E dX8_reads_149 ?_
            have h9 := hret 150 [(0, .ref (qMo 0)), (2, .int a83_2)] dX8_reads_150
            rw [← (hr _ (Option.some.inj hf).symm)] at h9
            exact h9
    obtain ⟨u12, hu12, hf⟩ := bd hf
    refine L83 FU (0 : Int32) u2.2.1 mo_causeKind mo_causeOrder (0 : Int32) u2.2.2.2.1 u2.2.2.2.2.1 (0 : Int32) u12 hu12 (fun x21 hx => ?_) (fun r hx => ?_)
    · rw [hx, Sum.elim_inr] at hf
      refine V_aload_n E 0 rfl dX8_reads_157 ?_
      obtain ⟨u22, hu22, hf⟩ := bd hf
      refine V_frW E (Rn_V E (rest := []) mlX8_325 wd_yX8_keepsAside (kMo_keepsAside l G qMo x21.2.1 mo_past u8 mo_states mo_refused x21.2.2.1 x21.2.2.2.1 mo_corner mo_linkVotes mo_linkE mo_linkF mo_follower mo_ahead mo_least mo_seam mo_above mo_below mo_text mo_textLong x21.2.2.2.2.1 x21.2.2.2.2.2.1 x21.2.2.2.2.2.2.1 x21.2.2.2.2.2.2.2 u22 hu22) ⟨rfl, rfl, Nat.le_of_ble_eq_true rfl, Nat.le_of_ble_eq_true rfl⟩ 0 rfl rfl rfl rfl rfl (Nat.le_of_ble_eq_true rfl) dX8_reads_158) ?_
      show V G p l e rmMo_reads s m args below meth c 4 A Q 0 0 (gMo G qMo u22.1 u22.2.1 u22.2.2.1 u22.2.2.2 mo_refused x21.2.2.1 x21.2.2.2.1 mo_corner mo_linkVotes mo_linkE mo_linkF mo_follower mo_ahead mo_least mo_seam mo_above mo_below mo_text mo_textLong x21.2.2.2.2.1 x21.2.2.2.2.2.1 x21.2.2.2.2.2.2.1 x21.2.2.2.2.2.2.2) 161 [(0, .ref (qMo 0)), (2, .int x21.1)] []
      refine V_iload_n E 1 rfl dX8_reads_161 ?_
      have h9 := hret 162 [(0, .ref (qMo 0)), (2, .int x21.1)] dX8_reads_162
      rw [← (Option.some.inj hf)] at h9
      exact h9
    · rw [hx, Sum.elim_inl] at hf
      exact Option.some.inj hf
  · have hf := ip hc7 hf
    refine V_bipush E (v := (-10 : Int32)) dX8_reads_36 (by decide) ?_
    refine V_aload_n E 0 rfl dX8_reads_38 ?_
    refine gfX8_284 E 0 rfl rfl dX8_reads_39 ?_
    refine V_isub E dX8_reads_42 ?_
    have h9 := hret 43 [(0, .ref (qMo 0)), (1, .int u2.1)] dX8_reads_43
    rw [← (Option.some.inj hf)] at h9
    exact h9
abbrev rmMo_why : Room := { frames := 1, cells := 0, slots := 0, locals := 25 }
theorem wd_yX8_why : wdV yX8_why cX8_why 2 (some .int) 1 := ⟨wc_yX8_why, wi_yX8_why, wse_yX8_why, wini_X8, by decide +kernel, by decide +kernel, by decide +kernel⟩
set_option maxHeartbeats 4000000 in
set_option maxRecDepth 100000 in
theorem kMo_why (l : Launch) (G : wG) (qMo : Nat → Nat) (p1 : Int32) (mo_all : Nat → Int32) (mo_past : Nat → Int32) (mo_aside : Nat → Int32) (mo_states : Int32) (mo_refused : Nat → Int32) (mo_causeKind : Int32) (mo_causeOrder : Int32) (mo_corner : Nat → Int32) (mo_linkVotes : Nat → Int32) (mo_linkE : Nat → Int32) (mo_linkF : Nat → Int32) (mo_follower : Nat → Int32) (mo_ahead : Nat → Int32) (mo_least : Nat → Int32) (mo_seam : Nat → Int32) (mo_above : Int64) (mo_below : Int64) (mo_text : Nat → Int32) (mo_textLong : Int32) (mo_place : Int32) (mo_value : Int32) (mo_numbers : Nat → Int32) (mo_not : Int32) (o : Int32 × (Nat → Int32)) (hf : fMo_why p1 mo_refused mo_causeKind mo_causeOrder = some o) : Ct G l yX8_why cX8_why 2 (some .int) rmMo_why [.ref (qMo 0), .int p1] (gMo G qMo mo_all mo_past mo_aside mo_states mo_refused mo_causeKind mo_causeOrder mo_corner mo_linkVotes mo_linkE mo_linkF mo_follower mo_ahead mo_least mo_seam mo_above mo_below mo_text mo_textLong mo_place mo_value mo_numbers mo_not) (some (.int o.1)) (gMo G qMo mo_all mo_past mo_aside mo_states o.2 mo_causeKind mo_causeOrder mo_corner mo_linkVotes mo_linkE mo_linkF mo_follower mo_ahead mo_least mo_seam mo_above mo_below mo_text mo_textLong mo_place mo_value mo_numbers mo_not) := by
  refine Ct.ofI (by decide +kernel) (Nat.le_of_ble_eq_true rfl) (fun p e s m args below meth c A Q E hret => ?_)
  unfold fMo_why at hf
  show V G p l e rmMo_why s m args below meth c 2 A Q 0 0 (gMo G qMo mo_all mo_past mo_aside mo_states mo_refused mo_causeKind mo_causeOrder mo_corner mo_linkVotes mo_linkE mo_linkF mo_follower mo_ahead mo_least mo_seam mo_above mo_below mo_text mo_textLong mo_place mo_value mo_numbers mo_not) 0 [(0, .ref (qMo 0)), (1, .int p1)] []
  refine V_iload_n E 1 rfl dX8_why_0 ?_
  refine V_i2l E dX8_why_1 ?_
  refine V_lconst E (v := (0 : Int64)) dX8_why_2 (by decide) ?_
  refine V_lconst E (v := (1 : Int64)) dX8_why_3 (by decide) ?_
  obtain ⟨u1, hu1, hf⟩ := bd hf
  refine V_fr0 E (Rn_S E (rest := []) mlX8_63 wd_yX8_in (kMo_in l G p1.toInt64 (0 : Int64) (1 : Int64) u1 hu1) ⟨rfl, rfl, Nat.le_of_ble_eq_true rfl, Nat.le_of_ble_eq_true rfl⟩ rfl rfl (Nat.le_of_ble_eq_true rfl) dX8_why_4) ?_
  show V G p l e rmMo_why s m args below meth c 2 A Q 0 0 (gMo G qMo mo_all mo_past mo_aside mo_states mo_refused mo_causeKind mo_causeOrder mo_corner mo_linkVotes mo_linkE mo_linkF mo_follower mo_ahead mo_least mo_seam mo_above mo_below mo_text mo_textLong mo_place mo_value mo_numbers mo_not) 7 [(0, .ref (qMo 0)), (1, .int p1)] [.int u1]
  refine V_if_ne E (tgt := 23) dX8_why_7 (by decide) (fun hc2 => ?_) (fun hc2 => ?_)
  · have hf := iq hc2 hf
    refine V_iload_n E 1 rfl dX8_why_23 ?_
    refine V_if_ne E (tgt := 34) dX8_why_24 (by decide) (fun hc3 => ?_) (fun hc3 => ?_)
    · have hf := iq hc3 hf
      refine V_aload_n E 0 rfl dX8_why_34 ?_
      refine gfX8_22 E 0 rfl rfl dX8_why_35 ?_
      have h9 := hret 38 [(0, .ref (qMo 0)), (1, .int p1)] dX8_why_38
      rw [← (Option.some.inj hf)] at h9
      exact h9
    · have hf := ip hc3 hf
      refine V_aload_n E 0 rfl dX8_why_27 ?_
      refine gfX8_322 E 0 rfl rfl dX8_why_28 ?_
      refine V_goto E (tgt := 38) dX8_why_31 (by decide) ?_
      have h9 := hret 38 [(0, .ref (qMo 0)), (1, .int p1)] dX8_why_38
      rw [← (Option.some.inj hf)] at h9
      exact h9
  · have hf := ip hc2 hf
    refine V_aload_n E 0 rfl dX8_why_10 ?_
    refine gfX8_19 E 0 rfl rfl dX8_why_11 ?_
    refine V_iconst E (v := (0 : Int32)) dX8_why_14 (by decide) ?_
    refine V_dup2 E dX8_why_15 rfl rfl ?_
    obtain ⟨hi4, hf⟩ := asr_ok hf
    refine V_iald E 4 rfl hi4 dX8_why_16 ?_
    refine V_iconst E (v := (1 : Int32)) dX8_why_17 (by decide) ?_
    refine V_iadd E dX8_why_18 ?_
    obtain ⟨hi5, hf⟩ := asr_ok hf
    refine V_iast E (ws' := (gMo G qMo mo_all mo_past mo_aside mo_states (upd mo_refused (0 : Int32).toNatClampNeg ((mo_refused (0 : Int32).toNatClampNeg) + (1 : Int32))) mo_causeKind mo_causeOrder mo_corner mo_linkVotes mo_linkE mo_linkF mo_follower mo_ahead mo_least mo_seam mo_above mo_below mo_text mo_textLong mo_place mo_value mo_numbers mo_not)) 4 rfl hi5 dX8_why_19 rfl ?_
    refine V_bipush E (v := (-10 : Int32)) dX8_why_20 (by decide) ?_
    have h9 := hret 22 [(0, .ref (qMo 0)), (1, .int p1)] dX8_why_22
    rw [← (Option.some.inj hf)] at h9
    exact h9
abbrev rmMo_back : Room := { frames := 1, cells := 0, slots := 0, locals := 21 }
theorem wd_yX8_back : wdV yX8_back cX8_back 2 (some .int) 0 := ⟨wc_yX8_back, wi_yX8_back, wse_yX8_back, wini_X8, by decide +kernel, by decide +kernel, by decide +kernel⟩
set_option maxHeartbeats 4000000 in
set_option maxRecDepth 100000 in
theorem kMo_back (l : Launch) (G : wG) (qMo : Nat → Nat) (mo_all : Nat → Int32) (mo_past : Nat → Int32) (mo_aside : Nat → Int32) (mo_states : Int32) (mo_refused : Nat → Int32) (mo_causeKind : Int32) (mo_causeOrder : Int32) (mo_corner : Nat → Int32) (mo_linkVotes : Nat → Int32) (mo_linkE : Nat → Int32) (mo_linkF : Nat → Int32) (mo_follower : Nat → Int32) (mo_ahead : Nat → Int32) (mo_least : Nat → Int32) (mo_seam : Nat → Int32) (mo_above : Int64) (mo_below : Int64) (mo_text : Nat → Int32) (mo_textLong : Int32) (mo_place : Int32) (mo_value : Int32) (mo_numbers : Nat → Int32) (mo_not : Int32) (o : Int32 × (Nat → Int32) × Int32 × (Nat → Int32)) (hf : fMo_back mo_all mo_past mo_states mo_refused = some o) : Ct G l yX8_back cX8_back 2 (some .int) rmMo_back [.ref (qMo 0)] (gMo G qMo mo_all mo_past mo_aside mo_states mo_refused mo_causeKind mo_causeOrder mo_corner mo_linkVotes mo_linkE mo_linkF mo_follower mo_ahead mo_least mo_seam mo_above mo_below mo_text mo_textLong mo_place mo_value mo_numbers mo_not) (some (.int o.1)) (gMo G qMo o.2.1 mo_past mo_aside o.2.2.1 o.2.2.2 mo_causeKind mo_causeOrder mo_corner mo_linkVotes mo_linkE mo_linkF mo_follower mo_ahead mo_least mo_seam mo_above mo_below mo_text mo_textLong mo_place mo_value mo_numbers mo_not) := by
  refine Ct.ofI (by decide +kernel) (Nat.le_of_ble_eq_true rfl) (fun p e s m args below meth c A Q E hret => ?_)
  unfold fMo_back at hf
  show V G p l e rmMo_back s m args below meth c 2 A Q 0 0 (gMo G qMo mo_all mo_past mo_aside mo_states mo_refused mo_causeKind mo_causeOrder mo_corner mo_linkVotes mo_linkE mo_linkF mo_follower mo_ahead mo_least mo_seam mo_above mo_below mo_text mo_textLong mo_place mo_value mo_numbers mo_not) 0 [(0, .ref (qMo 0))] []
  refine V_aload_n E 0 rfl dX8_back_0 ?_
  refine gfX8_56 E 0 rfl rfl dX8_back_1 ?_
  refine V_if_ne E (tgt := 14) dX8_back_4 (by decide) (fun hc1 => ?_) (fun hc1 => ?_)
  · have hf := iq hc1 hf
    refine V_aload_n E 0 rfl dX8_back_14 ?_
    refine V_dup E dX8_back_15 rfl ?_
    refine gfX8_56 E 0 rfl rfl dX8_back_16 ?_
    refine V_iconst E (v := (1 : Int32)) dX8_back_19 (by decide) ?_
    refine V_isub E dX8_back_20 ?_
    refine pfX8_56 E (ws' := (gMo G qMo mo_all mo_past mo_aside (mo_states - (1 : Int32)) mo_refused mo_causeKind mo_causeOrder mo_corner mo_linkVotes mo_linkE mo_linkF mo_follower mo_ahead mo_least mo_seam mo_above mo_below mo_text mo_textLong mo_place mo_value mo_numbers mo_not)) 0 rfl (Nat.le_of_ble_eq_true rfl) rfl rfl dX8_back_21 rfl ?_
    refine V_iconst E (v := (0 : Int32)) dX8_back_24 (by decide) ?_
    refine V_istore_n E (lv' := [(0, .ref (qMo 0)), (1, .int (0 : Int32))]) dX8_back_25 (by decide) rfl ?_
    have L26 : ∀ (n : Nat) (a26_1 : Int32) (c26_mo_all : Nat → Int32) (u : (Nat → Int32)), fMo_back_L26 mo_past (mo_states - (1 : Int32)) n a26_1 c26_mo_all = some u → (V G p l e rmMo_back s m args below meth c 2 A Q 0 0 (gMo G qMo u mo_past mo_aside (mo_states - (1 : Int32)) mo_refused mo_causeKind mo_causeOrder mo_corner mo_linkVotes mo_linkE mo_linkF mo_follower mo_ahead mo_least mo_seam mo_above mo_below mo_text mo_textLong mo_place mo_value mo_numbers mo_not) 60 [(0, .ref (qMo 0))] []) → V G p l e rmMo_back s m args below meth c 2 A Q 0 0 (gMo G qMo c26_mo_all mo_past mo_aside (mo_states - (1 : Int32)) mo_refused mo_causeKind mo_causeOrder mo_corner mo_linkVotes mo_linkE mo_linkF mo_follower mo_ahead mo_least mo_seam mo_above mo_below mo_text mo_textLong mo_place mo_value mo_numbers mo_not) 26 [(0, .ref (qMo 0)), (1, .int a26_1)] [] := by
      intro n
      induction n with
      | zero =>
        intro a26_1 c26_mo_all u hf hk
        rw [fMo_back_L26] at hf
        cases hf
      | succ n ih =>
        intro a26_1 c26_mo_all u hf hk
        rw [fMo_back_L26] at hf
        refine V_iload_n E 1 rfl dX8_back_26 ?_
        refine V_sipush E (v := (406 : Int32)) dX8_back_27 (by decide) ?_
        refine V_icmp_ge E (tgt := 60) dX8_back_30 (by decide) (fun hc3 => ?_) (fun hc3 => ?_)
        · have hf := ip hc3 hf
          refine V_sub [0] rfl ?_
          rw [← Option.some.inj hf] at hk
          exact hk
        · have hf := iq hc3 hf
          refine V_aload_n E 0 rfl dX8_back_33 ?_
          refine gfX8_7 E 0 rfl rfl dX8_back_34 ?_
          refine V_iload_n E 1 rfl dX8_back_37 ?_
          refine V_aload_n E 0 rfl dX8_back_38 ?_
          refine gfX8_13 E 0 rfl rfl dX8_back_39 ?_
          refine V_sipush E (v := (406 : Int32)) dX8_back_42 (by decide) ?_
          refine V_aload_n E 0 rfl dX8_back_45 ?_
          refine gfX8_56 E 0 rfl rfl dX8_back_46 ?_
          refine V_imul E dX8_back_49 ?_
          refine V_iload_n E 1 rfl dX8_back_50 ?_
          refine V_iadd E dX8_back_51 ?_
          obtain ⟨hi4, hf⟩ := asr_ok hf
          refine V_iald E 2 rfl hi4 dX8_back_52 ?_
          obtain ⟨hi5, hf⟩ := asr_ok hf
          refine V_iast E (ws' := (gMo G qMo (upd c26_mo_all a26_1.toNatClampNeg (mo_past (((406 : Int32) * (mo_states - (1 : Int32))) + a26_1).toNatClampNeg)) mo_past mo_aside (mo_states - (1 : Int32)) mo_refused mo_causeKind mo_causeOrder mo_corner mo_linkVotes mo_linkE mo_linkF mo_follower mo_ahead mo_least mo_seam mo_above mo_below mo_text mo_textLong mo_place mo_value mo_numbers mo_not)) 1 rfl hi5 dX8_back_53 rfl ?_
          refine V_iinc E (v := (a26_1 + (1 : Int32))) (lv' := [(0, .ref (qMo 0)), (1, .int (a26_1 + (1 : Int32)))]) 1 rfl dX8_back_54 rfl (by decide) rfl ?_
          refine V_goto E (tgt := 26) dX8_back_57 (by decide) ?_
          exact ih (a26_1 + (1 : Int32)) (upd c26_mo_all a26_1.toNatClampNeg (mo_past (((406 : Int32) * (mo_states - (1 : Int32))) + a26_1).toNatClampNeg)) _ hf hk
    obtain ⟨u2, hu2, hf⟩ := bd hf
    refine L26 FU (0 : Int32) mo_all u2 hu2 ?_
    refine V_aload_n E 0 rfl dX8_back_60 ?_
    refine gfX8_56 E 0 rfl rfl dX8_back_61 ?_
    have h9 := hret 64 [(0, .ref (qMo 0))] dX8_back_64
    rw [← (Option.some.inj hf)] at h9
    exact h9
  · have hf := ip hc1 hf
    refine V_aload_n E 0 rfl dX8_back_7 ?_
    refine V_bipush E (v := (-3 : Int32)) dX8_back_8 (by decide) ?_
    obtain ⟨u6, hu6, hf⟩ := bd hf
    refine V_frW E (Rn_V E (rest := []) mlX8_91 wd_yX8_refuses (kMo_refuses l G qMo (-3 : Int32) mo_all mo_past mo_aside mo_states mo_refused mo_causeKind mo_causeOrder mo_corner mo_linkVotes mo_linkE mo_linkF mo_follower mo_ahead mo_least mo_seam mo_above mo_below mo_text mo_textLong mo_place mo_value mo_numbers mo_not u6 hu6) ⟨rfl, rfl, Nat.le_of_ble_eq_true rfl, Nat.le_of_ble_eq_true rfl⟩ 0 rfl rfl rfl rfl rfl (Nat.le_of_ble_eq_true rfl) dX8_back_10) ?_
    show V G p l e rmMo_back s m args below meth c 2 A Q 0 0 (gMo G qMo mo_all mo_past mo_aside mo_states u6.2 mo_causeKind mo_causeOrder mo_corner mo_linkVotes mo_linkE mo_linkF mo_follower mo_ahead mo_least mo_seam mo_above mo_below mo_text mo_textLong mo_place mo_value mo_numbers mo_not) 13 [(0, .ref (qMo 0))] [.int u6.1]
    have h9 := hret 13 [(0, .ref (qMo 0))] dX8_back_13
    rw [← (Option.some.inj hf)] at h9
    exact h9
abbrev rmMo_toldOf : Room := { frames := 1, cells := 0, slots := 0, locals := 20 }
theorem wd_yX8_toldOf : wdV yX8_toldOf cX8_toldOf 2 (some .int) 1 := ⟨wc_yX8_toldOf, wi_yX8_toldOf, wse_yX8_toldOf, wini_X8, by decide +kernel, by decide +kernel, by decide +kernel⟩
set_option maxHeartbeats 4000000 in
set_option maxRecDepth 100000 in
theorem kMo_toldOf (l : Launch) (G : wG) (qMo : Nat → Nat) (p1 : Int32) (mo_all : Nat → Int32) (mo_past : Nat → Int32) (mo_aside : Nat → Int32) (mo_states : Int32) (mo_refused : Nat → Int32) (mo_causeKind : Int32) (mo_causeOrder : Int32) (mo_corner : Nat → Int32) (mo_linkVotes : Nat → Int32) (mo_linkE : Nat → Int32) (mo_linkF : Nat → Int32) (mo_follower : Nat → Int32) (mo_ahead : Nat → Int32) (mo_least : Nat → Int32) (mo_seam : Nat → Int32) (mo_above : Int64) (mo_below : Int64) (mo_text : Nat → Int32) (mo_textLong : Int32) (mo_place : Int32) (mo_value : Int32) (mo_numbers : Nat → Int32) (mo_not : Int32) (o : Int32) (hf : fMo_toldOf p1 mo_all mo_states mo_refused mo_textLong = some o) : Ct G l yX8_toldOf cX8_toldOf 2 (some .int) rmMo_toldOf [.ref (qMo 0), .int p1] (gMo G qMo mo_all mo_past mo_aside mo_states mo_refused mo_causeKind mo_causeOrder mo_corner mo_linkVotes mo_linkE mo_linkF mo_follower mo_ahead mo_least mo_seam mo_above mo_below mo_text mo_textLong mo_place mo_value mo_numbers mo_not) (some (.int o)) (gMo G qMo mo_all mo_past mo_aside mo_states mo_refused mo_causeKind mo_causeOrder mo_corner mo_linkVotes mo_linkE mo_linkF mo_follower mo_ahead mo_least mo_seam mo_above mo_below mo_text mo_textLong mo_place mo_value mo_numbers mo_not) := by
  refine Ct.ofI (by decide +kernel) (Nat.le_of_ble_eq_true rfl) (fun p e s m args below meth c A Q E hret => ?_)
  unfold fMo_toldOf at hf
  show V G p l e rmMo_toldOf s m args below meth c 2 A Q 0 0 (gMo G qMo mo_all mo_past mo_aside mo_states mo_refused mo_causeKind mo_causeOrder mo_corner mo_linkVotes mo_linkE mo_linkF mo_follower mo_ahead mo_least mo_seam mo_above mo_below mo_text mo_textLong mo_place mo_value mo_numbers mo_not) 0 [(0, .ref (qMo 0)), (1, .int p1)] []
  refine V_iload_n E 1 rfl dX8_toldOf_0 ?_
  by_cases hc1 : p1 = (3 : Int32)
  · have hf := ip hc1 hf
    refine V_tsIn E (tgt := 40) (off := 39) dX8_toldOf_1 (by rw [hc1]; decide) (by decide) ?_
    refine V_aload_n E 0 rfl dX8_toldOf_40 ?_
    refine gfX8_281 E 0 rfl rfl dX8_toldOf_41 ?_
    have h9 := hret 44 [(0, .ref (qMo 0)), (1, .int p1)] dX8_toldOf_44
    rw [← (Option.some.inj hf)] at h9
    exact h9
  · have hf := iq hc1 hf
    by_cases hc2 : p1 = (4 : Int32)
    · have hf := ip hc2 hf
      refine V_tsIn E (tgt := 45) (off := 44) dX8_toldOf_1 (by rw [hc2]; decide) (by decide) ?_
      refine V_aload_n E 0 rfl dX8_toldOf_45 ?_
      refine gfX8_7 E 0 rfl rfl dX8_toldOf_46 ?_
      refine V_iconst E (v := (0 : Int32)) dX8_toldOf_49 (by decide) ?_
      obtain ⟨hi3, hf⟩ := asr_ok hf
      refine V_iald E 1 rfl hi3 dX8_toldOf_50 ?_
      have h9 := hret 51 [(0, .ref (qMo 0)), (1, .int p1)] dX8_toldOf_51
      rw [← (Option.some.inj hf)] at h9
      exact h9
    · have hf := iq hc2 hf
      by_cases hc4 : p1 = (5 : Int32)
      · have hf := ip hc4 hf
        refine V_tsIn E (tgt := 52) (off := 51) dX8_toldOf_1 (by rw [hc4]; decide) (by decide) ?_
        refine V_aload_n E 0 rfl dX8_toldOf_52 ?_
        obtain ⟨u5, hu5, hf⟩ := bd hf
        refine V_frW E (Rn_V E (rest := []) mlX8_59 wd_yX8_many (kMo_many l G qMo mo_all mo_past mo_aside mo_states mo_refused mo_causeKind mo_causeOrder mo_corner mo_linkVotes mo_linkE mo_linkF mo_follower mo_ahead mo_least mo_seam mo_above mo_below mo_text mo_textLong mo_place mo_value mo_numbers mo_not u5 hu5) ⟨rfl, rfl, Nat.le_of_ble_eq_true rfl, Nat.le_of_ble_eq_true rfl⟩ 0 rfl rfl rfl rfl rfl (Nat.le_of_ble_eq_true rfl) dX8_toldOf_53) ?_
        show V G p l e rmMo_toldOf s m args below meth c 2 A Q 0 0 (gMo G qMo mo_all mo_past mo_aside mo_states mo_refused mo_causeKind mo_causeOrder mo_corner mo_linkVotes mo_linkE mo_linkF mo_follower mo_ahead mo_least mo_seam mo_above mo_below mo_text mo_textLong mo_place mo_value mo_numbers mo_not) 56 [(0, .ref (qMo 0)), (1, .int p1)] [.int u5]
        have h9 := hret 56 [(0, .ref (qMo 0)), (1, .int p1)] dX8_toldOf_56
        rw [← (Option.some.inj hf)] at h9
        exact h9
      · have hf := iq hc4 hf
        by_cases hc6 : p1 = (6 : Int32)
        · have hf := ip hc6 hf
          refine V_tsIn E (tgt := 57) (off := 56) dX8_toldOf_1 (by rw [hc6]; decide) (by decide) ?_
          refine V_aload_n E 0 rfl dX8_toldOf_57 ?_
          refine gfX8_7 E 0 rfl rfl dX8_toldOf_58 ?_
          refine V_iconst E (v := (1 : Int32)) dX8_toldOf_61 (by decide) ?_
          obtain ⟨hi7, hf⟩ := asr_ok hf
          refine V_iald E 1 rfl hi7 dX8_toldOf_62 ?_
          have h9 := hret 63 [(0, .ref (qMo 0)), (1, .int p1)] dX8_toldOf_63
          rw [← (Option.some.inj hf)] at h9
          exact h9
        · have hf := iq hc6 hf
          by_cases hc8 : p1 = (7 : Int32)
          · have hf := ip hc8 hf
            refine V_tsIn E (tgt := 64) (off := 63) dX8_toldOf_1 (by rw [hc8]; decide) (by decide) ?_
            refine V_aload_n E 0 rfl dX8_toldOf_64 ?_
            refine gfX8_7 E 0 rfl rfl dX8_toldOf_65 ?_
            refine V_iconst E (v := (2 : Int32)) dX8_toldOf_68 (by decide) ?_
            obtain ⟨hi9, hf⟩ := asr_ok hf
            refine V_iald E 1 rfl hi9 dX8_toldOf_69 ?_
            have h9 := hret 70 [(0, .ref (qMo 0)), (1, .int p1)] dX8_toldOf_70
            rw [← (Option.some.inj hf)] at h9
            exact h9
          · have hf := iq hc8 hf
            by_cases hc10 : p1 = (8 : Int32)
            · have hf := ip hc10 hf
              refine V_tsIn E (tgt := 71) (off := 70) dX8_toldOf_1 (by rw [hc10]; decide) (by decide) ?_
              refine V_aload_n E 0 rfl dX8_toldOf_71 ?_
              refine gfX8_56 E 0 rfl rfl dX8_toldOf_72 ?_
              have h9 := hret 75 [(0, .ref (qMo 0)), (1, .int p1)] dX8_toldOf_75
              rw [← (Option.some.inj hf)] at h9
              exact h9
            · have hf := iq hc10 hf
              refine V_tsD E (tgt := 76) [3, 4, 5, 6, 7, 8] dX8_toldOf_1 (List.forall_mem_cons.mpr ⟨tsne hc1 (by decide), List.forall_mem_cons.mpr ⟨tsne hc2 (by decide), List.forall_mem_cons.mpr ⟨tsne hc4 (by decide), List.forall_mem_cons.mpr ⟨tsne hc6 (by decide), List.forall_mem_cons.mpr ⟨tsne hc8 (by decide), List.forall_mem_cons.mpr ⟨tsne hc10 (by decide), fun _ h => absurd h List.not_mem_nil⟩⟩⟩⟩⟩⟩) (by decide) (by decide) (by decide) ?_
              refine V_aload_n E 0 rfl dX8_toldOf_76 ?_
              refine gfX8_19 E 0 rfl rfl dX8_toldOf_77 ?_
              refine V_iload_n E 1 rfl dX8_toldOf_80 ?_
              obtain ⟨hi11, hf⟩ := asr_ok hf
              refine V_iald E 4 rfl hi11 dX8_toldOf_81 ?_
              have h9 := hret 82 [(0, .ref (qMo 0)), (1, .int p1)] dX8_toldOf_82
              rw [← (Option.some.inj hf)] at h9
              exact h9
abbrev rmMo_told : Room := { frames := 2, cells := 0, slots := 0, locals := 41 }
theorem wd_yX8_told : wdV yX8_told cX8_told 2 (some .int) 1 := ⟨wc_yX8_told, wi_yX8_told, wse_yX8_told, wini_X8, by decide +kernel, by decide +kernel, by decide +kernel⟩
set_option maxHeartbeats 4000000 in
set_option maxRecDepth 100000 in
theorem kMo_told (l : Launch) (G : wG) (qMo : Nat → Nat) (p1 : Int32) (mo_all : Nat → Int32) (mo_past : Nat → Int32) (mo_aside : Nat → Int32) (mo_states : Int32) (mo_refused : Nat → Int32) (mo_causeKind : Int32) (mo_causeOrder : Int32) (mo_corner : Nat → Int32) (mo_linkVotes : Nat → Int32) (mo_linkE : Nat → Int32) (mo_linkF : Nat → Int32) (mo_follower : Nat → Int32) (mo_ahead : Nat → Int32) (mo_least : Nat → Int32) (mo_seam : Nat → Int32) (mo_above : Int64) (mo_below : Int64) (mo_text : Nat → Int32) (mo_textLong : Int32) (mo_place : Int32) (mo_value : Int32) (mo_numbers : Nat → Int32) (mo_not : Int32) (o : Int32 × (Nat → Int32)) (hf : fMo_told p1 mo_all mo_states mo_refused mo_textLong = some o) : Ct G l yX8_told cX8_told 2 (some .int) rmMo_told [.ref (qMo 0), .int p1] (gMo G qMo mo_all mo_past mo_aside mo_states mo_refused mo_causeKind mo_causeOrder mo_corner mo_linkVotes mo_linkE mo_linkF mo_follower mo_ahead mo_least mo_seam mo_above mo_below mo_text mo_textLong mo_place mo_value mo_numbers mo_not) (some (.int o.1)) (gMo G qMo mo_all mo_past mo_aside mo_states o.2 mo_causeKind mo_causeOrder mo_corner mo_linkVotes mo_linkE mo_linkF mo_follower mo_ahead mo_least mo_seam mo_above mo_below mo_text mo_textLong mo_place mo_value mo_numbers mo_not) := by
  refine Ct.ofI (by decide +kernel) (Nat.le_of_ble_eq_true rfl) (fun p e s m args below meth c A Q E hret => ?_)
  unfold fMo_told at hf
  show V G p l e rmMo_told s m args below meth c 2 A Q 0 0 (gMo G qMo mo_all mo_past mo_aside mo_states mo_refused mo_causeKind mo_causeOrder mo_corner mo_linkVotes mo_linkE mo_linkF mo_follower mo_ahead mo_least mo_seam mo_above mo_below mo_text mo_textLong mo_place mo_value mo_numbers mo_not) 0 [(0, .ref (qMo 0)), (1, .int p1)] []
  refine V_iload_n E 1 rfl dX8_told_0 ?_
  refine V_i2l E dX8_told_1 ?_
  refine V_lconst E (v := (0 : Int64)) dX8_told_2 (by decide) ?_
  refine V_ldc2 E (v := (8 : Int64)) dX8_told_3 kX8_328 ?_
  obtain ⟨u1, hu1, hf⟩ := bd hf
  refine V_fr0 E (Rn_S E (rest := []) mlX8_63 wd_yX8_in (kMo_in l G p1.toInt64 (0 : Int64) (8 : Int64) u1 hu1) ⟨rfl, rfl, Nat.le_of_ble_eq_true rfl, Nat.le_of_ble_eq_true rfl⟩ rfl rfl (Nat.le_of_ble_eq_true rfl) dX8_told_6) ?_
  show V G p l e rmMo_told s m args below meth c 2 A Q 0 0 (gMo G qMo mo_all mo_past mo_aside mo_states mo_refused mo_causeKind mo_causeOrder mo_corner mo_linkVotes mo_linkE mo_linkF mo_follower mo_ahead mo_least mo_seam mo_above mo_below mo_text mo_textLong mo_place mo_value mo_numbers mo_not) 9 [(0, .ref (qMo 0)), (1, .int p1)] [.int u1]
  refine V_if_eq E (tgt := 20) dX8_told_9 (by decide) (fun hc2 => ?_) (fun hc2 => ?_)
  · have hf := ip hc2 hf
    refine V_aload_n E 0 rfl dX8_told_20 ?_
    refine V_bipush E (v := (-2 : Int32)) dX8_told_21 (by decide) ?_
    obtain ⟨u3, hu3, hf⟩ := bd hf
    refine V_frW E (Rn_V E (rest := []) mlX8_91 wd_yX8_refuses (kMo_refuses l G qMo (-2 : Int32) mo_all mo_past mo_aside mo_states mo_refused mo_causeKind mo_causeOrder mo_corner mo_linkVotes mo_linkE mo_linkF mo_follower mo_ahead mo_least mo_seam mo_above mo_below mo_text mo_textLong mo_place mo_value mo_numbers mo_not u3 hu3) ⟨rfl, rfl, Nat.le_of_ble_eq_true rfl, Nat.le_of_ble_eq_true rfl⟩ 0 rfl rfl rfl rfl rfl (Nat.le_of_ble_eq_true rfl) dX8_told_23) ?_
    show V G p l e rmMo_told s m args below meth c 2 A Q 0 0 (gMo G qMo mo_all mo_past mo_aside mo_states u3.2 mo_causeKind mo_causeOrder mo_corner mo_linkVotes mo_linkE mo_linkF mo_follower mo_ahead mo_least mo_seam mo_above mo_below mo_text mo_textLong mo_place mo_value mo_numbers mo_not) 26 [(0, .ref (qMo 0)), (1, .int p1)] [.int u3.1]
    have h9 := hret 26 [(0, .ref (qMo 0)), (1, .int p1)] dX8_told_26
    rw [← (Option.some.inj hf)] at h9
    exact h9
  · have hf := iq hc2 hf
    refine V_aload_n E 0 rfl dX8_told_12 ?_
    refine V_iload_n E 1 rfl dX8_told_13 ?_
    obtain ⟨u4, hu4, hf⟩ := bd hf
    refine V_frW E (Rn_V E (rest := []) mlX8_330 wd_yX8_toldOf (kMo_toldOf l G qMo p1 mo_all mo_past mo_aside mo_states mo_refused mo_causeKind mo_causeOrder mo_corner mo_linkVotes mo_linkE mo_linkF mo_follower mo_ahead mo_least mo_seam mo_above mo_below mo_text mo_textLong mo_place mo_value mo_numbers mo_not u4 hu4) ⟨rfl, rfl, Nat.le_of_ble_eq_true rfl, Nat.le_of_ble_eq_true rfl⟩ 0 rfl rfl rfl rfl rfl (Nat.le_of_ble_eq_true rfl) dX8_told_14) ?_
    show V G p l e rmMo_told s m args below meth c 2 A Q 0 0 (gMo G qMo mo_all mo_past mo_aside mo_states mo_refused mo_causeKind mo_causeOrder mo_corner mo_linkVotes mo_linkE mo_linkF mo_follower mo_ahead mo_least mo_seam mo_above mo_below mo_text mo_textLong mo_place mo_value mo_numbers mo_not) 17 [(0, .ref (qMo 0)), (1, .int p1)] [.int u4]
    refine V_goto E (tgt := 26) dX8_told_17 (by decide) ?_
    have h9 := hret 26 [(0, .ref (qMo 0)), (1, .int p1)] dX8_told_26
    rw [← (Option.some.inj hf)] at h9
    exact h9
abbrev rmMo_digest : Room := { frames := 8, cells := 0, slots := 0, locals := 186 }
theorem wd_yX8_digest : wdV yX8_digest cX8_digest 5 (some .long) 0 := ⟨wc_yX8_digest, wi_yX8_digest, wse_yX8_digest, wini_X8, by decide +kernel, by decide +kernel, by decide +kernel⟩
set_option maxHeartbeats 4000000 in
set_option maxRecDepth 100000 in
theorem kMo_digest (l : Launch) (G : wG) (qMo : Nat → Nat) (mo_all : Nat → Int32) (mo_past : Nat → Int32) (mo_aside : Nat → Int32) (mo_states : Int32) (mo_refused : Nat → Int32) (mo_causeKind : Int32) (mo_causeOrder : Int32) (mo_corner : Nat → Int32) (mo_linkVotes : Nat → Int32) (mo_linkE : Nat → Int32) (mo_linkF : Nat → Int32) (mo_follower : Nat → Int32) (mo_ahead : Nat → Int32) (mo_least : Nat → Int32) (mo_seam : Nat → Int32) (mo_above : Int64) (mo_below : Int64) (mo_text : Nat → Int32) (mo_textLong : Int32) (mo_place : Int32) (mo_value : Int32) (mo_numbers : Nat → Int32) (mo_not : Int32) (o : Int64 × (Nat → Int32) × (Nat → Int32) × (Nat → Int32) × (Nat → Int32) × (Nat → Int32) × (Nat → Int32)) (hf : fMo_digest mo_all mo_states mo_refused mo_causeKind mo_causeOrder mo_corner mo_linkVotes mo_linkE mo_linkF mo_follower mo_ahead mo_textLong = some o) : Ct G l yX8_digest cX8_digest 5 (some .long) rmMo_digest [.ref (qMo 0)] (gMo G qMo mo_all mo_past mo_aside mo_states mo_refused mo_causeKind mo_causeOrder mo_corner mo_linkVotes mo_linkE mo_linkF mo_follower mo_ahead mo_least mo_seam mo_above mo_below mo_text mo_textLong mo_place mo_value mo_numbers mo_not) (some (.long o.1)) (gMo G qMo mo_all mo_past mo_aside mo_states mo_refused mo_causeKind mo_causeOrder o.2.1 o.2.2.1 o.2.2.2.1 o.2.2.2.2.1 o.2.2.2.2.2.1 o.2.2.2.2.2.2 mo_least mo_seam mo_above mo_below mo_text mo_textLong mo_place mo_value mo_numbers mo_not) := by
  refine Ct.ofJ (by decide +kernel) (Nat.le_of_ble_eq_true rfl) (fun p e s m args below meth c A Q E hret => ?_)
  unfold fMo_digest at hf
  show V G p l e rmMo_digest s m args below meth c 5 A Q 0 0 (gMo G qMo mo_all mo_past mo_aside mo_states mo_refused mo_causeKind mo_causeOrder mo_corner mo_linkVotes mo_linkE mo_linkF mo_follower mo_ahead mo_least mo_seam mo_above mo_below mo_text mo_textLong mo_place mo_value mo_numbers mo_not) 0 [(0, .ref (qMo 0))] []
  refine V_ldc2 E (v := (2269 : Int64)) dX8_digest_0 kX8_333 ?_
  refine V_lstore_n E (lv' := [(0, .ref (qMo 0)), (1, .long (2269 : Int64))]) dX8_digest_3 (by decide) rfl ?_
  refine V_iconst E (v := (0 : Int32)) dX8_digest_4 (by decide) ?_
  refine V_istore_n E (lv' := [(0, .ref (qMo 0)), (1, .long (2269 : Int64)), (3, .int (0 : Int32))]) dX8_digest_5 (by decide) rfl ?_
  have L6 : ∀ (n : Nat) (a6_1 : Int64) (a6_3 : Int32) (u : Int64), fMo_digest_L6 mo_all mo_states mo_refused mo_textLong n a6_1 a6_3 = some u → (V G p l e rmMo_digest s m args below meth c 5 A Q 0 0 (gMo G qMo mo_all mo_past mo_aside mo_states mo_refused mo_causeKind mo_causeOrder mo_corner mo_linkVotes mo_linkE mo_linkF mo_follower mo_ahead mo_least mo_seam mo_above mo_below mo_text mo_textLong mo_place mo_value mo_numbers mo_not) 31 [(0, .ref (qMo 0)), (1, .long u)] []) → V G p l e rmMo_digest s m args below meth c 5 A Q 0 0 (gMo G qMo mo_all mo_past mo_aside mo_states mo_refused mo_causeKind mo_causeOrder mo_corner mo_linkVotes mo_linkE mo_linkF mo_follower mo_ahead mo_least mo_seam mo_above mo_below mo_text mo_textLong mo_place mo_value mo_numbers mo_not) 6 [(0, .ref (qMo 0)), (1, .long a6_1), (3, .int a6_3)] [] := by
    intro n
    induction n with
    | zero =>
      intro a6_1 a6_3 u hf hk
      rw [fMo_digest_L6] at hf
      cases hf
    | succ n ih =>
      intro a6_1 a6_3 u hf hk
      rw [fMo_digest_L6] at hf
      refine V_iload_n E 2 rfl dX8_digest_6 ?_
      refine V_bipush E (v := (9 : Int32)) dX8_digest_7 (by decide) ?_
      refine V_icmp_ge E (tgt := 31) dX8_digest_9 (by decide) (fun hc2 => ?_) (fun hc2 => ?_)
      · have hf := ip hc2 hf
        refine V_sub [0, 1] rfl ?_
        rw [← Option.some.inj hf] at hk
        exact hk
      · have hf := iq hc2 hf
        refine V_ldc2 E (v := (31 : Int64)) dX8_digest_12 kX8_335 ?_
        refine V_lload_n E 1 rfl dX8_digest_15 ?_
        refine V_lmul E dX8_digest_16 ?_
        refine V_aload_n E 0 rfl dX8_digest_17 ?_
        refine V_iload_n E 2 rfl dX8_digest_18 ?_
        obtain ⟨u3, hu3, hf⟩ := bd hf
        refine V_frW E (Rn_V E (rest := [.long ((31 : Int64) * a6_1)]) mlX8_330 wd_yX8_toldOf (kMo_toldOf l G qMo a6_3 mo_all mo_past mo_aside mo_states mo_refused mo_causeKind mo_causeOrder mo_corner mo_linkVotes mo_linkE mo_linkF mo_follower mo_ahead mo_least mo_seam mo_above mo_below mo_text mo_textLong mo_place mo_value mo_numbers mo_not u3 hu3) ⟨rfl, rfl, Nat.le_of_ble_eq_true rfl, Nat.le_of_ble_eq_true rfl⟩ 0 rfl rfl rfl rfl rfl (Nat.le_of_ble_eq_true rfl) dX8_digest_19) ?_
        show V G p l e rmMo_digest s m args below meth c 5 A Q 0 0 (gMo G qMo mo_all mo_past mo_aside mo_states mo_refused mo_causeKind mo_causeOrder mo_corner mo_linkVotes mo_linkE mo_linkF mo_follower mo_ahead mo_least mo_seam mo_above mo_below mo_text mo_textLong mo_place mo_value mo_numbers mo_not) 22 [(0, .ref (qMo 0)), (1, .long a6_1), (3, .int a6_3)] [.int u3, .long ((31 : Int64) * a6_1)]
        refine V_i2l E dX8_digest_22 ?_
        refine V_ladd E dX8_digest_23 ?_
        obtain ⟨t4, ht4, hf⟩ := bd hf
        have ht4 := Option.some.inj ht4
        rw [ht4]
        refine V_lstore_n E (lv' := [(0, .ref (qMo 0)), (1, .long t4), (3, .int a6_3)]) dX8_digest_24 (by decide) rfl ?_
        refine V_iinc E (v := (a6_3 + (1 : Int32))) (lv' := [(0, .ref (qMo 0)), (1, .long t4), (3, .int (a6_3 + (1 : Int32)))]) 2 rfl dX8_digest_25 rfl (by decide) rfl ?_
        refine V_goto E (tgt := 6) dX8_digest_28 (by decide) ?_
        exact ih t4 (a6_3 + (1 : Int32)) _ hf hk
  obtain ⟨u1, hu1, hf⟩ := bd hf
  refine L6 FU (2269 : Int64) (0 : Int32) u1 hu1 ?_
  refine V_ldc2 E (v := (31 : Int64)) dX8_digest_31 kX8_335 ?_
  refine V_ldc2 E (v := (31 : Int64)) dX8_digest_34 kX8_335 ?_
  refine V_lload_n E 1 rfl dX8_digest_37 ?_
  refine V_lmul E dX8_digest_38 ?_
  refine V_aload_n E 0 rfl dX8_digest_39 ?_
  refine gfX8_322 E 0 rfl rfl dX8_digest_40 ?_
  refine V_i2l E dX8_digest_43 ?_
  refine V_ladd E dX8_digest_44 ?_
  refine V_lmul E dX8_digest_45 ?_
  refine V_aload_n E 0 rfl dX8_digest_46 ?_
  refine gfX8_22 E 0 rfl rfl dX8_digest_47 ?_
  refine V_i2l E dX8_digest_50 ?_
  refine V_ladd E dX8_digest_51 ?_
  obtain ⟨t5, ht5, hf⟩ := bd hf
  have ht5 := Option.some.inj ht5
  rw [ht5]
  refine V_lstore_n E (lv' := [(0, .ref (qMo 0)), (1, .long t5)]) dX8_digest_52 (by decide) rfl ?_
  refine V_aload_n E 0 rfl dX8_digest_53 ?_
  obtain ⟨u6, hu6, hf⟩ := bd hf
  refine V_frW E (Rn_V E (rest := []) mlX8_196 wd_yX8_laysChain (kMo_laysChain l G qMo mo_all mo_past mo_aside mo_states mo_refused mo_causeKind mo_causeOrder mo_corner mo_linkVotes mo_linkE mo_linkF mo_follower mo_ahead mo_least mo_seam mo_above mo_below mo_text mo_textLong mo_place mo_value mo_numbers mo_not u6 hu6) ⟨rfl, rfl, Nat.le_of_ble_eq_true rfl, Nat.le_of_ble_eq_true rfl⟩ 0 rfl rfl rfl rfl rfl (Nat.le_of_ble_eq_true rfl) dX8_digest_54) ?_
  show V G p l e rmMo_digest s m args below meth c 5 A Q 0 0 (gMo G qMo mo_all mo_past mo_aside mo_states mo_refused mo_causeKind mo_causeOrder u6.1 u6.2.1 u6.2.2.1 u6.2.2.2.1 u6.2.2.2.2.1 u6.2.2.2.2.2 mo_least mo_seam mo_above mo_below mo_text mo_textLong mo_place mo_value mo_numbers mo_not) 57 [(0, .ref (qMo 0)), (1, .long t5)] []
  refine V_iconst E (v := (0 : Int32)) dX8_digest_57 (by decide) ?_
  refine V_istore_n E (lv' := [(0, .ref (qMo 0)), (1, .long t5), (3, .int (0 : Int32))]) dX8_digest_58 (by decide) rfl ?_
  have L59 : ∀ (n : Nat) (a59_1 : Int64) (a59_3 : Int32) (u : Int64), fMo_digest_L59 mo_all u6.1 u6.2.2.2.2.1 n a59_1 a59_3 = some u → (V G p l e rmMo_digest s m args below meth c 5 A Q 0 0 (gMo G qMo mo_all mo_past mo_aside mo_states mo_refused mo_causeKind mo_causeOrder u6.1 u6.2.1 u6.2.2.1 u6.2.2.2.1 u6.2.2.2.2.1 u6.2.2.2.2.2 mo_least mo_seam mo_above mo_below mo_text mo_textLong mo_place mo_value mo_numbers mo_not) 138 [(0, .ref (qMo 0)), (1, .long u)] []) → V G p l e rmMo_digest s m args below meth c 5 A Q 0 0 (gMo G qMo mo_all mo_past mo_aside mo_states mo_refused mo_causeKind mo_causeOrder u6.1 u6.2.1 u6.2.2.1 u6.2.2.2.1 u6.2.2.2.2.1 u6.2.2.2.2.2 mo_least mo_seam mo_above mo_below mo_text mo_textLong mo_place mo_value mo_numbers mo_not) 59 [(0, .ref (qMo 0)), (1, .long a59_1), (3, .int a59_3)] [] := by
    intro n
    induction n with
    | zero =>
      intro a59_1 a59_3 u hf hk
      rw [fMo_digest_L59] at hf
      cases hf
    | succ n ih =>
      intro a59_1 a59_3 u hf hk
      rw [fMo_digest_L59] at hf
      refine V_iload_n E 2 rfl dX8_digest_59 ?_
      refine V_aload_n E 0 rfl dX8_digest_60 ?_
      obtain ⟨u8, hu8, hf⟩ := bd hf
      refine V_frW E (Rn_V E (rest := [.int a59_3]) mlX8_59 wd_yX8_many (kMo_many l G qMo mo_all mo_past mo_aside mo_states mo_refused mo_causeKind mo_causeOrder u6.1 u6.2.1 u6.2.2.1 u6.2.2.2.1 u6.2.2.2.2.1 u6.2.2.2.2.2 mo_least mo_seam mo_above mo_below mo_text mo_textLong mo_place mo_value mo_numbers mo_not u8 hu8) ⟨rfl, rfl, Nat.le_of_ble_eq_true rfl, Nat.le_of_ble_eq_true rfl⟩ 0 rfl rfl rfl rfl rfl (Nat.le_of_ble_eq_true rfl) dX8_digest_61) ?_
      show V G p l e rmMo_digest s m args below meth c 5 A Q 0 0 (gMo G qMo mo_all mo_past mo_aside mo_states mo_refused mo_causeKind mo_causeOrder u6.1 u6.2.1 u6.2.2.1 u6.2.2.2.1 u6.2.2.2.2.1 u6.2.2.2.2.2 mo_least mo_seam mo_above mo_below mo_text mo_textLong mo_place mo_value mo_numbers mo_not) 64 [(0, .ref (qMo 0)), (1, .long a59_1), (3, .int a59_3)] [.int u8, .int a59_3]
      refine V_icmp_ge E (tgt := 138) dX8_digest_64 (by decide) (fun hc9 => ?_) (fun hc9 => ?_)
      · have hf := ip hc9 hf
        refine V_sub [0, 1] rfl ?_
        rw [← Option.some.inj hf] at hk
        exact hk
      · have hf := iq hc9 hf
        refine V_iconst E (v := (0 : Int32)) dX8_digest_67 (by decide) ?_
        refine V_istore E (lv' := [(0, .ref (qMo 0)), (1, .long a59_1), (3, .int a59_3), (4, .int (0 : Int32))]) dX8_digest_68 (by decide) rfl ?_
        have L70 : ∀ (n : Nat) (a70_1 : Int64) (a70_4 : Int32) (u : Int64), fMo_digest_L70 a59_3 mo_all n a70_1 a70_4 = some u → (V G p l e rmMo_digest s m args below meth c 5 A Q 0 0 (gMo G qMo mo_all mo_past mo_aside mo_states mo_refused mo_causeKind mo_causeOrder u6.1 u6.2.1 u6.2.2.1 u6.2.2.2.1 u6.2.2.2.2.1 u6.2.2.2.2.2 mo_least mo_seam mo_above mo_below mo_text mo_textLong mo_place mo_value mo_numbers mo_not) 106 [(0, .ref (qMo 0)), (1, .long u), (3, .int a59_3)] []) → V G p l e rmMo_digest s m args below meth c 5 A Q 0 0 (gMo G qMo mo_all mo_past mo_aside mo_states mo_refused mo_causeKind mo_causeOrder u6.1 u6.2.1 u6.2.2.1 u6.2.2.2.1 u6.2.2.2.2.1 u6.2.2.2.2.2 mo_least mo_seam mo_above mo_below mo_text mo_textLong mo_place mo_value mo_numbers mo_not) 70 [(0, .ref (qMo 0)), (1, .long a70_1), (3, .int a59_3), (4, .int a70_4)] [] := by
          intro n
          induction n with
          | zero =>
            intro a70_1 a70_4 u hf hk
            rw [fMo_digest_L70] at hf
            cases hf
          | succ n ih =>
            intro a70_1 a70_4 u hf hk
            rw [fMo_digest_L70] at hf
            refine V_iload E 3 rfl dX8_digest_70 ?_
            refine V_bipush E (v := (32 : Int32)) dX8_digest_72 (by decide) ?_
            refine V_icmp_ge E (tgt := 106) dX8_digest_74 (by decide) (fun hc11 => ?_) (fun hc11 => ?_)
            · have hf := ip hc11 hf
              refine V_sub [0, 1, 2] rfl ?_
              rw [← Option.some.inj hf] at hk
              exact hk
            · have hf := iq hc11 hf
              refine V_ldc2 E (v := (31 : Int64)) dX8_digest_77 kX8_335 ?_
              refine V_lload_n E 1 rfl dX8_digest_80 ?_
              refine V_lmul E dX8_digest_81 ?_
              refine V_aload_n E 0 rfl dX8_digest_82 ?_
              refine V_iload_n E 2 rfl dX8_digest_83 ?_
              refine V_iload E 3 rfl dX8_digest_84 ?_
              refine V_bipush E (v := (8 : Int32)) dX8_digest_86 (by decide) ?_
              obtain ⟨hz12, hf⟩ := asr_ok hf
              refine V_idiv E dX8_digest_88 hz12 ?_
              refine V_iload E 3 rfl dX8_digest_89 ?_
              refine V_bipush E (v := (8 : Int32)) dX8_digest_91 (by decide) ?_
              obtain ⟨hz13, hf⟩ := asr_ok hf
              refine V_irem E dX8_digest_93 hz13 ?_
              obtain ⟨u14, hu14, hf⟩ := bd hf
              refine V_frW E (Rn_V E (rest := [.long ((31 : Int64) * a70_1)]) mlX8_143 wd_yX8_at (kMo_at l G qMo a59_3 (a70_4 / (8 : Int32)) (a70_4 - a70_4 / (8 : Int32) * (8 : Int32)) mo_all mo_past mo_aside mo_states mo_refused mo_causeKind mo_causeOrder u6.1 u6.2.1 u6.2.2.1 u6.2.2.2.1 u6.2.2.2.2.1 u6.2.2.2.2.2 mo_least mo_seam mo_above mo_below mo_text mo_textLong mo_place mo_value mo_numbers mo_not u14 hu14) ⟨rfl, rfl, Nat.le_of_ble_eq_true rfl, Nat.le_of_ble_eq_true rfl⟩ 0 rfl rfl rfl rfl rfl (Nat.le_of_ble_eq_true rfl) dX8_digest_94) ?_
              show V G p l e rmMo_digest s m args below meth c 5 A Q 0 0 (gMo G qMo mo_all mo_past mo_aside mo_states mo_refused mo_causeKind mo_causeOrder u6.1 u6.2.1 u6.2.2.1 u6.2.2.2.1 u6.2.2.2.2.1 u6.2.2.2.2.2 mo_least mo_seam mo_above mo_below mo_text mo_textLong mo_place mo_value mo_numbers mo_not) 97 [(0, .ref (qMo 0)), (1, .long a70_1), (3, .int a59_3), (4, .int a70_4)] [.int u14, .long ((31 : Int64) * a70_1)]
              refine V_i2l E dX8_digest_97 ?_
              refine V_ladd E dX8_digest_98 ?_
              obtain ⟨t15, ht15, hf⟩ := bd hf
              have ht15 := Option.some.inj ht15
              rw [ht15]
              refine V_lstore_n E (lv' := [(0, .ref (qMo 0)), (1, .long t15), (3, .int a59_3), (4, .int a70_4)]) dX8_digest_99 (by decide) rfl ?_
              refine V_iinc E (v := (a70_4 + (1 : Int32))) (lv' := [(0, .ref (qMo 0)), (1, .long t15), (3, .int a59_3), (4, .int (a70_4 + (1 : Int32)))]) 3 rfl dX8_digest_100 rfl (by decide) rfl ?_
              refine V_goto E (tgt := 70) dX8_digest_103 (by decide) ?_
              exact ih t15 (a70_4 + (1 : Int32)) _ hf hk
        obtain ⟨u10, hu10, hf⟩ := bd hf
        refine L70 FU a59_1 (0 : Int32) u10 hu10 ?_
        refine V_ldc2 E (v := (31 : Int64)) dX8_digest_106 kX8_335 ?_
        refine V_ldc2 E (v := (31 : Int64)) dX8_digest_109 kX8_335 ?_
        refine V_lload_n E 1 rfl dX8_digest_112 ?_
        refine V_lmul E dX8_digest_113 ?_
        refine V_aload_n E 0 rfl dX8_digest_114 ?_
        refine gfX8_26 E 0 rfl rfl dX8_digest_115 ?_
        refine V_iload_n E 2 rfl dX8_digest_118 ?_
        obtain ⟨hi16, hf⟩ := asr_ok hf
        refine V_iald E 5 rfl hi16 dX8_digest_119 ?_
        refine V_i2l E dX8_digest_120 ?_
        refine V_ladd E dX8_digest_121 ?_
        refine V_lmul E dX8_digest_122 ?_
        refine V_aload_n E 0 rfl dX8_digest_123 ?_
        refine gfX8_38 E 0 rfl rfl dX8_digest_124 ?_
        refine V_iload_n E 2 rfl dX8_digest_127 ?_
        obtain ⟨hi17, hf⟩ := asr_ok hf
        refine V_iald E 9 rfl hi17 dX8_digest_128 ?_
        refine V_i2l E dX8_digest_129 ?_
        refine V_ladd E dX8_digest_130 ?_
        obtain ⟨t18, ht18, hf⟩ := bd hf
        have ht18 := Option.some.inj ht18
        rw [ht18]
        refine V_lstore_n E (lv' := [(0, .ref (qMo 0)), (1, .long t18), (3, .int a59_3)]) dX8_digest_131 (by decide) rfl ?_
        refine V_iinc E (v := (a59_3 + (1 : Int32))) (lv' := [(0, .ref (qMo 0)), (1, .long t18), (3, .int (a59_3 + (1 : Int32)))]) 2 rfl dX8_digest_132 rfl (by decide) rfl ?_
        refine V_goto E (tgt := 59) dX8_digest_135 (by decide) ?_
        exact ih t18 (a59_3 + (1 : Int32)) _ hf hk
  obtain ⟨u7, hu7, hf⟩ := bd hf
  refine L59 FU t5 (0 : Int32) u7 hu7 ?_
  refine V_iconst E (v := (0 : Int32)) dX8_digest_138 (by decide) ?_
  refine V_istore_n E (lv' := [(0, .ref (qMo 0)), (1, .long u7), (3, .int (0 : Int32))]) dX8_digest_139 (by decide) rfl ?_
  have L140 : ∀ (n : Nat) (a140_1 : Int64) (a140_3 : Int32) (u : Int64), fMo_digest_L140 mo_all u6.2.2.1 u6.2.2.2.1 u6.2.2.2.2.1 u6.2.2.2.2.2 n a140_1 a140_3 = some u → (V G p l e rmMo_digest s m args below meth c 5 A Q 0 0 (gMo G qMo mo_all mo_past mo_aside mo_states mo_refused mo_causeKind mo_causeOrder u6.1 u6.2.1 u6.2.2.1 u6.2.2.2.1 u6.2.2.2.2.1 u6.2.2.2.2.2 mo_least mo_seam mo_above mo_below mo_text mo_textLong mo_place mo_value mo_numbers mo_not) 165 [(1, .long u)] []) → V G p l e rmMo_digest s m args below meth c 5 A Q 0 0 (gMo G qMo mo_all mo_past mo_aside mo_states mo_refused mo_causeKind mo_causeOrder u6.1 u6.2.1 u6.2.2.1 u6.2.2.2.1 u6.2.2.2.2.1 u6.2.2.2.2.2 mo_least mo_seam mo_above mo_below mo_text mo_textLong mo_place mo_value mo_numbers mo_not) 140 [(0, .ref (qMo 0)), (1, .long a140_1), (3, .int a140_3)] [] := by
    intro n
    induction n with
    | zero =>
      intro a140_1 a140_3 u hf hk
      rw [fMo_digest_L140] at hf
      cases hf
    | succ n ih =>
      intro a140_1 a140_3 u hf hk
      rw [fMo_digest_L140] at hf
      refine V_iload_n E 2 rfl dX8_digest_140 ?_
      refine V_bipush E (v := (6 : Int32)) dX8_digest_141 (by decide) ?_
      refine V_icmp_ge E (tgt := 165) dX8_digest_143 (by decide) (fun hc20 => ?_) (fun hc20 => ?_)
      · have hf := ip hc20 hf
        refine V_sub [1] rfl ?_
        rw [← Option.some.inj hf] at hk
        exact hk
      · have hf := iq hc20 hf
        refine V_ldc2 E (v := (31 : Int64)) dX8_digest_146 kX8_335 ?_
        refine V_lload_n E 1 rfl dX8_digest_149 ?_
        refine V_lmul E dX8_digest_150 ?_
        refine V_aload_n E 0 rfl dX8_digest_151 ?_
        refine V_iload_n E 2 rfl dX8_digest_152 ?_
        obtain ⟨u21, hu21, hf⟩ := bd hf
        refine V_frW E (Rn_V E (rest := [.long ((31 : Int64) * a140_1)]) mlX8_222 wd_yX8_allNow (kMo_allNow l G qMo a140_3 mo_all mo_past mo_aside mo_states mo_refused mo_causeKind mo_causeOrder u6.1 u6.2.1 u6.2.2.1 u6.2.2.2.1 u6.2.2.2.2.1 u6.2.2.2.2.2 mo_least mo_seam mo_above mo_below mo_text mo_textLong mo_place mo_value mo_numbers mo_not u21 hu21) ⟨rfl, rfl, Nat.le_of_ble_eq_true rfl, Nat.le_of_ble_eq_true rfl⟩ 0 rfl rfl rfl rfl rfl (Nat.le_of_ble_eq_true rfl) dX8_digest_153) ?_
        show V G p l e rmMo_digest s m args below meth c 5 A Q 0 0 (gMo G qMo mo_all mo_past mo_aside mo_states mo_refused mo_causeKind mo_causeOrder u6.1 u6.2.1 u6.2.2.1 u6.2.2.2.1 u6.2.2.2.2.1 u6.2.2.2.2.2 mo_least mo_seam mo_above mo_below mo_text mo_textLong mo_place mo_value mo_numbers mo_not) 156 [(0, .ref (qMo 0)), (1, .long a140_1), (3, .int a140_3)] [.int u21, .long ((31 : Int64) * a140_1)]
        refine V_i2l E dX8_digest_156 ?_
        refine V_ladd E dX8_digest_157 ?_
        obtain ⟨t22, ht22, hf⟩ := bd hf
        have ht22 := Option.some.inj ht22
        rw [ht22]
        refine V_lstore_n E (lv' := [(0, .ref (qMo 0)), (1, .long t22), (3, .int a140_3)]) dX8_digest_158 (by decide) rfl ?_
        refine V_iinc E (v := (a140_3 + (1 : Int32))) (lv' := [(0, .ref (qMo 0)), (1, .long t22), (3, .int (a140_3 + (1 : Int32)))]) 2 rfl dX8_digest_159 rfl (by decide) rfl ?_
        refine V_goto E (tgt := 140) dX8_digest_162 (by decide) ?_
        exact ih t22 (a140_3 + (1 : Int32)) _ hf hk
  obtain ⟨u19, hu19, hf⟩ := bd hf
  refine L140 FU u7 (0 : Int32) u19 hu19 ?_
  refine V_lload_n E 0 rfl dX8_digest_165 ?_
  have h9 := hret 166 [(1, .long u19)] dX8_digest_166
  rw [← (Option.some.inj hf)] at h9
  exact h9
