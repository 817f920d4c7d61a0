
abbrev rmMo_in : Room := { frames := 0, cells := 0, slots := 0, locals := 0 }
theorem wd_yX8_in : wdS yX8_in cX8_in 6 (some .boolean) 3 := ⟨wc_yX8_in, wst_yX8_in, wini_X8, by decide +kernel, by decide +kernel, by decide +kernel⟩
set_option maxHeartbeats 4000000 in
set_option maxRecDepth 100000 in
theorem kMo_in (l : Launch) (G : wG) (p0 : Int64) (p2 : Int64) (p4 : Int64) (o : Int32) (hf : fMo_in p0 p2 p4 = some o) : Ct G l yX8_in cX8_in 6 (some .boolean) rmMo_in [.long p0, .long p2, .long p4] [] (some (.int o)) [] := by
  refine Ct.ofZ (by decide +kernel) (Nat.le_of_ble_eq_true rfl) (fun p e s m args below meth c A Q E hret => ?_)
  unfold fMo_in at hf
  show V G p l e rmMo_in s m args below meth c 6 A Q 0 0 [] 0 [(0, .long p0), (2, .long p2), (4, .long p4)] []
  refine V_lload_n E 0 rfl dX8_in_0 ?_
  refine V_lload_n E 1 rfl dX8_in_1 ?_
  refine V_lcmp E dX8_in_2 ?_
  refine V_if_lt E (tgt := 17) dX8_in_3 (by decide) (fun hc1 => ?_) (fun hc1 => ?_)
  · have hf := ip hc1 hf
    refine V_iconst E (v := (0 : Int32)) dX8_in_17 (by decide) ?_
    have h9 := hret 18 [(0, .long p0), (2, .long p2), (4, .long p4)] dX8_in_18
    rw [← (Option.some.inj hf)] at h9
    exact h9 (z01a (Or.inl rfl))
  · have hf := iq hc1 hf
    refine V_lload_n E 0 rfl dX8_in_6 ?_
    refine V_lload E 2 rfl dX8_in_7 ?_
    refine V_lcmp E dX8_in_9 ?_
    refine V_if_gt E (tgt := 17) dX8_in_10 (by decide) (fun hc2 => ?_) (fun hc2 => ?_)
    · have hf := ip hc2 hf
      refine V_iconst E (v := (0 : Int32)) dX8_in_17 (by decide) ?_
      have h9 := hret 18 [(0, .long p0), (2, .long p2), (4, .long p4)] dX8_in_18
      rw [← (Option.some.inj hf)] at h9
      exact h9 (z01a (Or.inl rfl))
    · have hf := iq hc2 hf
      refine V_iconst E (v := (1 : Int32)) dX8_in_13 (by decide) ?_
      refine V_goto E (tgt := 18) dX8_in_14 (by decide) ?_
      have h9 := hret 18 [(0, .long p0), (2, .long p2), (4, .long p4)] dX8_in_18
      rw [← (Option.some.inj hf)] at h9
      exact h9 (z01a (Or.inr rfl))
abbrev rmMo_refuses : Room := { frames := 0, cells := 0, slots := 0, locals := 0 }
theorem wd_yX8_refuses : wdV yX8_refuses cX8_refuses 2 (some .int) 1 := ⟨wc_yX8_refuses, wi_yX8_refuses, wse_yX8_refuses, wini_X8, by decide +kernel, by decide +kernel, by decide +kernel⟩
set_option maxHeartbeats 4000000 in
set_option maxRecDepth 100000 in
theorem kMo_refuses (l : Launch) (G : wG) (qMo : Nat → Nat) (p1 : Int32) (mo_all : Nat → Int32) (mo_past : Nat → Int32) (mo_aside : Nat → Int32) (mo_states : Int32) (mo_refused : Nat → Int32) (mo_causeKind : Int32) (mo_causeOrder : Int32) (mo_corner : Nat → Int32) (mo_linkVotes : Nat → Int32) (mo_linkE : Nat → Int32) (mo_linkF : Nat → Int32) (mo_follower : Nat → Int32) (mo_ahead : Nat → Int32) (mo_least : Nat → Int32) (mo_seam : Nat → Int32) (mo_above : Int64) (mo_below : Int64) (mo_text : Nat → Int32) (mo_textLong : Int32) (mo_place : Int32) (mo_value : Int32) (mo_numbers : Nat → Int32) (mo_not : Int32) (o : Int32 × (Nat → Int32)) (hf : fMo_refuses p1 mo_refused = some o) : Ct G l yX8_refuses cX8_refuses 2 (some .int) rmMo_refuses [.ref (qMo 0), .int p1] (gMo G qMo mo_all mo_past mo_aside mo_states mo_refused mo_causeKind mo_causeOrder mo_corner mo_linkVotes mo_linkE mo_linkF mo_follower mo_ahead mo_least mo_seam mo_above mo_below mo_text mo_textLong mo_place mo_value mo_numbers mo_not) (some (.int o.1)) (gMo G qMo mo_all mo_past mo_aside mo_states o.2 mo_causeKind mo_causeOrder mo_corner mo_linkVotes mo_linkE mo_linkF mo_follower mo_ahead mo_least mo_seam mo_above mo_below mo_text mo_textLong mo_place mo_value mo_numbers mo_not) := by
  refine Ct.ofI (by decide +kernel) (Nat.le_of_ble_eq_true rfl) (fun p e s m args below meth c A Q E hret => ?_)
  unfold fMo_refuses at hf
  show V G p l e rmMo_refuses s m args below meth c 2 A Q 0 0 (gMo G qMo mo_all mo_past mo_aside mo_states mo_refused mo_causeKind mo_causeOrder mo_corner mo_linkVotes mo_linkE mo_linkF mo_follower mo_ahead mo_least mo_seam mo_above mo_below mo_text mo_textLong mo_place mo_value mo_numbers mo_not) 0 [(0, .ref (qMo 0)), (1, .int p1)] []
  refine V_aload_n E 0 rfl dX8_refuses_0 ?_
  refine gfX8_19 E 0 rfl rfl dX8_refuses_1 ?_
  refine V_bipush E (v := (-2 : Int32)) dX8_refuses_4 (by decide) ?_
  refine V_iload_n E 1 rfl dX8_refuses_6 ?_
  refine V_isub E dX8_refuses_7 ?_
  refine V_dup2 E dX8_refuses_8 rfl rfl ?_
  obtain ⟨hi1, hf⟩ := asr_ok hf
  refine V_iald E 4 rfl hi1 dX8_refuses_9 ?_
  refine V_iconst E (v := (1 : Int32)) dX8_refuses_10 (by decide) ?_
  refine V_iadd E dX8_refuses_11 ?_
  obtain ⟨hi2, hf⟩ := asr_ok hf
  refine V_iast E (ws' := (gMo G qMo mo_all mo_past mo_aside mo_states (upd mo_refused ((-2 : Int32) - p1).toNatClampNeg ((mo_refused ((-2 : Int32) - p1).toNatClampNeg) + (1 : Int32))) mo_causeKind mo_causeOrder mo_corner mo_linkVotes mo_linkE mo_linkF mo_follower mo_ahead mo_least mo_seam mo_above mo_below mo_text mo_textLong mo_place mo_value mo_numbers mo_not)) 4 rfl hi2 dX8_refuses_12 rfl ?_
  refine V_iload_n E 1 rfl dX8_refuses_13 ?_
  have h9 := hret 14 [(0, .ref (qMo 0)), (1, .int p1)] dX8_refuses_14
  rw [← (Option.some.inj hf)] at h9
  exact h9
abbrev rmMo_keep : Room := { frames := 0, cells := 0, slots := 0, locals := 0 }
theorem wd_yX8_keep : wdV yX8_keep cX8_keep 2 none 0 := ⟨wc_yX8_keep, wi_yX8_keep, wse_yX8_keep, wini_X8, by decide +kernel, by decide +kernel, by decide +kernel⟩
set_option maxHeartbeats 4000000 in
set_option maxRecDepth 100000 in
theorem kMo_keep (l : Launch) (G : wG) (qMo : Nat → Nat) (mo_all : Nat → Int32) (mo_past : Nat → Int32) (mo_aside : Nat → Int32) (mo_states : Int32) (mo_refused : Nat → Int32) (mo_causeKind : Int32) (mo_causeOrder : Int32) (mo_corner : Nat → Int32) (mo_linkVotes : Nat → Int32) (mo_linkE : Nat → Int32) (mo_linkF : Nat → Int32) (mo_follower : Nat → Int32) (mo_ahead : Nat → Int32) (mo_least : Nat → Int32) (mo_seam : Nat → Int32) (mo_above : Int64) (mo_below : Int64) (mo_text : Nat → Int32) (mo_textLong : Int32) (mo_place : Int32) (mo_value : Int32) (mo_numbers : Nat → Int32) (mo_not : Int32) (o : (Nat → Int32) × Int32) (hf : fMo_keep mo_all mo_past mo_states = some o) : Ct G l yX8_keep cX8_keep 2 none rmMo_keep [.ref (qMo 0)] (gMo G qMo mo_all mo_past mo_aside mo_states mo_refused mo_causeKind mo_causeOrder mo_corner mo_linkVotes mo_linkE mo_linkF mo_follower mo_ahead mo_least mo_seam mo_above mo_below mo_text mo_textLong mo_place mo_value mo_numbers mo_not) none (gMo G qMo mo_all o.1 mo_aside o.2 mo_refused mo_causeKind mo_causeOrder mo_corner mo_linkVotes mo_linkE mo_linkF mo_follower mo_ahead mo_least mo_seam mo_above mo_below mo_text mo_textLong mo_place mo_value mo_numbers mo_not) := by
  refine Ct.ofV (by decide +kernel) (Nat.le_of_ble_eq_true rfl) (fun p e s m args below meth c A Q E hret => ?_)
  unfold fMo_keep at hf
  show V G p l e rmMo_keep s m args below meth c 2 A Q 0 0 (gMo G qMo mo_all mo_past mo_aside mo_states mo_refused mo_causeKind mo_causeOrder mo_corner mo_linkVotes mo_linkE mo_linkF mo_follower mo_ahead mo_least mo_seam mo_above mo_below mo_text mo_textLong mo_place mo_value mo_numbers mo_not) 0 [(0, .ref (qMo 0))] []
  refine V_aload_n E 0 rfl dX8_keep_0 ?_
  refine gfX8_56 E 0 rfl rfl dX8_keep_1 ?_
  refine V_iconst E (v := (5 : Int32)) dX8_keep_4 (by decide) ?_
  obtain ⟨u2, hu2, hf⟩ := bd hf
  have J49 : V G p l e rmMo_keep s m args below meth c 2 A Q 0 0 (gMo G qMo mo_all u2.1 mo_aside u2.2 mo_refused mo_causeKind mo_causeOrder mo_corner mo_linkVotes mo_linkE mo_linkF mo_follower mo_ahead mo_least mo_seam mo_above mo_below mo_text mo_textLong mo_place mo_value mo_numbers mo_not) 49 [(0, .ref (qMo 0))] [] := by
    refine V_iconst E (v := (0 : Int32)) dX8_keep_49 (by decide) ?_
    refine V_istore_n E (lv' := [(0, .ref (qMo 0)), (1, .int (0 : Int32))]) dX8_keep_50 (by decide) rfl ?_
    have L51 : ∀ (n : Nat) (a51_1 : Int32) (c51_mo_past : Nat → Int32) (u : (Nat → Int32)), fMo_keep_L51 mo_all u2.2 n a51_1 c51_mo_past = some u → (V G p l e rmMo_keep s m args below meth c 2 A Q 0 0 (gMo G qMo mo_all u mo_aside u2.2 mo_refused mo_causeKind mo_causeOrder mo_corner mo_linkVotes mo_linkE mo_linkF mo_follower mo_ahead mo_least mo_seam mo_above mo_below mo_text mo_textLong mo_place mo_value mo_numbers mo_not) 85 [(0, .ref (qMo 0))] []) → V G p l e rmMo_keep s m args below meth c 2 A Q 0 0 (gMo G qMo mo_all c51_mo_past mo_aside u2.2 mo_refused mo_causeKind mo_causeOrder mo_corner mo_linkVotes mo_linkE mo_linkF mo_follower mo_ahead mo_least mo_seam mo_above mo_below mo_text mo_textLong mo_place mo_value mo_numbers mo_not) 51 [(0, .ref (qMo 0)), (1, .int a51_1)] [] := by
      intro n
      induction n with
      | zero =>
        intro a51_1 c51_mo_past u hf hk
        rw [fMo_keep_L51] at hf
        cases hf
      | succ n ih =>
        intro a51_1 c51_mo_past u hf hk
        rw [fMo_keep_L51] at hf
        refine V_iload_n E 1 rfl dX8_keep_51 ?_
        refine V_sipush E (v := (406 : Int32)) dX8_keep_52 (by decide) ?_
        refine V_icmp_ge E (tgt := 85) dX8_keep_55 (by decide) (fun hc8 => ?_) (fun hc8 => ?_)
        · have hf := ip hc8 hf
          refine V_sub [0] rfl ?_
          rw [← Option.some.inj hf] at hk
          exact hk
        · have hf := iq hc8 hf
          refine V_aload_n E 0 rfl dX8_keep_58 ?_
          refine gfX8_13 E 0 rfl rfl dX8_keep_59 ?_
          refine V_sipush E (v := (406 : Int32)) dX8_keep_62 (by decide) ?_
          refine V_aload_n E 0 rfl dX8_keep_65 ?_
          refine gfX8_56 E 0 rfl rfl dX8_keep_66 ?_
          refine V_imul E dX8_keep_69 ?_
          refine V_iload_n E 1 rfl dX8_keep_70 ?_
          refine V_iadd E dX8_keep_71 ?_
          refine V_aload_n E 0 rfl dX8_keep_72 ?_
          refine gfX8_7 E 0 rfl rfl dX8_keep_73 ?_
          refine V_iload_n E 1 rfl dX8_keep_76 ?_
          obtain ⟨hi9, hf⟩ := asr_ok hf
          refine V_iald E 1 rfl hi9 dX8_keep_77 ?_
          obtain ⟨hi10, hf⟩ := asr_ok hf
          refine V_iast E (ws' := (gMo G qMo mo_all (upd c51_mo_past (((406 : Int32) * u2.2) + a51_1).toNatClampNeg (mo_all a51_1.toNatClampNeg)) mo_aside u2.2 mo_refused mo_causeKind mo_causeOrder mo_corner mo_linkVotes mo_linkE mo_linkF mo_follower mo_ahead mo_least mo_seam mo_above mo_below mo_text mo_textLong mo_place mo_value mo_numbers mo_not)) 2 rfl hi10 dX8_keep_78 rfl ?_
          refine V_iinc E (v := (a51_1 + (1 : Int32))) (lv' := [(0, .ref (qMo 0)), (1, .int (a51_1 + (1 : Int32)))]) 1 rfl dX8_keep_79 rfl (by decide) rfl ?_
          refine V_goto E (tgt := 51) dX8_keep_82 (by decide) ?_
          exact ih (a51_1 + (1 : Int32)) (upd c51_mo_past (((406 : Int32) * u2.2) + a51_1).toNatClampNeg (mo_all a51_1.toNatClampNeg)) _ hf hk
    obtain ⟨u7, hu7, hf⟩ := bd hf
    refine L51 FU (0 : Int32) u2.1 u7 hu7 ?_
    refine V_aload_n E 0 rfl dX8_keep_85 ?_
    refine V_dup E dX8_keep_86 rfl ?_
    refine gfX8_56 E 0 rfl rfl dX8_keep_87 ?_
    refine V_iconst E (v := (1 : Int32)) dX8_keep_90 (by decide) ?_
    refine V_iadd E dX8_keep_91 ?_
    refine pfX8_56 E (ws' := (gMo G qMo mo_all u7 mo_aside (u2.2 + (1 : Int32)) mo_refused mo_causeKind mo_causeOrder mo_corner mo_linkVotes mo_linkE mo_linkF mo_follower mo_ahead mo_least mo_seam mo_above mo_below mo_text mo_textLong mo_place mo_value mo_numbers mo_not)) 0 rfl (Nat.le_of_ble_eq_true rfl) rfl rfl dX8_keep_92 rfl ?_
    have h9 := hret 95 [(0, .ref (qMo 0))] dX8_keep_95
    rw [← (Option.some.inj hf)] at h9
    exact h9
  clear hf
  have hf := hu2
  refine V_icmp_ne E (tgt := 49) dX8_keep_5 (by decide) (fun hc1 => ?_) (fun hc1 => ?_)
  · have hf := iq hc1 hf
    rw [← Option.some.inj hf] at J49
    exact J49
  · have hf := ip hc1 hf
    refine V_iconst E (v := (0 : Int32)) dX8_keep_8 (by decide) ?_
    refine V_istore_n E (lv' := [(0, .ref (qMo 0)), (1, .int (0 : Int32))]) dX8_keep_9 (by decide) rfl ?_
    have L10 : ∀ (n : Nat) (a10_1 : Int32) (c10_mo_past : Nat → Int32) (u : (Nat → Int32)), fMo_keep_L10 n a10_1 c10_mo_past = some u → (V G p l e rmMo_keep s m args below meth c 2 A Q 0 0 (gMo G qMo mo_all u mo_aside mo_states mo_refused mo_causeKind mo_causeOrder mo_corner mo_linkVotes mo_linkE mo_linkF mo_follower mo_ahead mo_least mo_seam mo_above mo_below mo_text mo_textLong mo_place mo_value mo_numbers mo_not) 39 [(0, .ref (qMo 0))] []) → V G p l e rmMo_keep s m args below meth c 2 A Q 0 0 (gMo G qMo mo_all c10_mo_past mo_aside mo_states mo_refused mo_causeKind mo_causeOrder mo_corner mo_linkVotes mo_linkE mo_linkF mo_follower mo_ahead mo_least mo_seam mo_above mo_below mo_text mo_textLong mo_place mo_value mo_numbers mo_not) 10 [(0, .ref (qMo 0)), (1, .int a10_1)] [] := by
      intro n
      induction n with
      | zero =>
        intro a10_1 c10_mo_past u hf hk
        rw [fMo_keep_L10] at hf
        cases hf
      | succ n ih =>
        intro a10_1 c10_mo_past u hf hk
        rw [fMo_keep_L10] at hf
        refine V_iload_n E 1 rfl dX8_keep_10 ?_
        refine V_sipush E (v := (1624 : Int32)) dX8_keep_11 (by decide) ?_
        refine V_icmp_ge E (tgt := 39) dX8_keep_14 (by decide) (fun hc4 => ?_) (fun hc4 => ?_)
        · have hf := ip hc4 hf
          refine V_sub [0] rfl ?_
          rw [← Option.some.inj hf] at hk
          exact hk
        · have hf := iq hc4 hf
          refine V_aload_n E 0 rfl dX8_keep_17 ?_
          refine gfX8_13 E 0 rfl rfl dX8_keep_18 ?_
          refine V_iload_n E 1 rfl dX8_keep_21 ?_
          refine V_aload_n E 0 rfl dX8_keep_22 ?_
          refine gfX8_13 E 0 rfl rfl dX8_keep_23 ?_
          refine V_iload_n E 1 rfl dX8_keep_26 ?_
          refine V_sipush E (v := (406 : Int32)) dX8_keep_27 (by decide) ?_
          refine V_iadd E dX8_keep_30 ?_
          obtain ⟨hi5, hf⟩ := asr_ok hf
          refine V_iald E 2 rfl hi5 dX8_keep_31 ?_
          obtain ⟨hi6, hf⟩ := asr_ok hf
          refine V_iast E (ws' := (gMo G qMo mo_all (upd c10_mo_past a10_1.toNatClampNeg (c10_mo_past (a10_1 + (406 : Int32)).toNatClampNeg)) mo_aside mo_states mo_refused mo_causeKind mo_causeOrder mo_corner mo_linkVotes mo_linkE mo_linkF mo_follower mo_ahead mo_least mo_seam mo_above mo_below mo_text mo_textLong mo_place mo_value mo_numbers mo_not)) 2 rfl hi6 dX8_keep_32 rfl ?_
          refine V_iinc E (v := (a10_1 + (1 : Int32))) (lv' := [(0, .ref (qMo 0)), (1, .int (a10_1 + (1 : Int32)))]) 1 rfl dX8_keep_33 rfl (by decide) rfl ?_
          refine V_goto E (tgt := 10) dX8_keep_36 (by decide) ?_
          exact ih (a10_1 + (1 : Int32)) (upd c10_mo_past a10_1.toNatClampNeg (c10_mo_past (a10_1 + (406 : Int32)).toNatClampNeg)) _ hf hk
    obtain ⟨u3, hu3, hf⟩ := bd hf
    refine L10 FU (0 : Int32) mo_past u3 hu3 ?_
    refine V_aload_n E 0 rfl dX8_keep_39 ?_
    refine V_dup E dX8_keep_40 rfl ?_
    refine gfX8_56 E 0 rfl rfl dX8_keep_41 ?_
    refine V_iconst E (v := (1 : Int32)) dX8_keep_44 (by decide) ?_
    refine V_isub E dX8_keep_45 ?_
    refine pfX8_56 E (ws' := (gMo G qMo mo_all u3 mo_aside (mo_states - (1 : Int32)) mo_refused mo_causeKind mo_causeOrder mo_corner mo_linkVotes mo_linkE mo_linkF mo_follower mo_ahead mo_least mo_seam mo_above mo_below mo_text mo_textLong mo_place mo_value mo_numbers mo_not)) 0 rfl (Nat.le_of_ble_eq_true rfl) rfl rfl dX8_keep_46 rfl ?_
    rw [← Option.some.inj hf] at J49
    exact J49
abbrev rmMo_abs : Room := { frames := 0, cells := 0, slots := 0, locals := 0 }
theorem wd_yX8_abs : wdS yX8_abs cX8_abs 1 (some .int) 1 := ⟨wc_yX8_abs, wst_yX8_abs, wini_X8, by decide +kernel, by decide +kernel, by decide +kernel⟩
set_option maxHeartbeats 4000000 in
set_option maxRecDepth 100000 in
theorem kMo_abs (l : Launch) (G : wG) (p0 : Int32) (o : Int32) (hf : fMo_abs p0 = some o) : Ct G l yX8_abs cX8_abs 1 (some .int) rmMo_abs [.int p0] [] (some (.int o)) [] := by
  refine Ct.ofI (by decide +kernel) (Nat.le_of_ble_eq_true rfl) (fun p e s m args below meth c A Q E hret => ?_)
  unfold fMo_abs at hf
  show V G p l e rmMo_abs s m args below meth c 1 A Q 0 0 [] 0 [(0, .int p0)] []
  refine V_iload_n E 0 rfl dX8_abs_0 ?_
  refine V_if_ge E (tgt := 9) dX8_abs_1 (by decide) (fun hc1 => ?_) (fun hc1 => ?_)
  · have hf := ip hc1 hf
    refine V_iload_n E 0 rfl dX8_abs_9 ?_
    have h9 := hret 10 [(0, .int p0)] dX8_abs_10
    rw [← (Option.some.inj hf)] at h9
    exact h9
  · have hf := iq hc1 hf
    refine V_iload_n E 0 rfl dX8_abs_4 ?_
    refine V_ineg E dX8_abs_5 ?_
    refine V_goto E (tgt := 10) dX8_abs_6 (by decide) ?_
    have h9 := hret 10 [(0, .int p0)] dX8_abs_10
    rw [← (Option.some.inj hf)] at h9
    exact h9
abbrev rmMo_held : Room := { frames := 0, cells := 0, slots := 0, locals := 0 }
theorem wd_yX8_held : wdS yX8_held cX8_held 1 (some .int) 1 := ⟨wc_yX8_held, wst_yX8_held, wini_X8, by decide +kernel, by decide +kernel, by decide +kernel⟩
set_option maxHeartbeats 4000000 in
set_option maxRecDepth 100000 in
theorem kMo_held (l : Launch) (G : wG) (p0 : Int32) (o : Int32) (hf : fMo_held p0 = some o) : Ct G l yX8_held cX8_held 1 (some .int) rmMo_held [.int p0] [] (some (.int o)) [] := by
  refine Ct.ofI (by decide +kernel) (Nat.le_of_ble_eq_true rfl) (fun p e s m args below meth c A Q E hret => ?_)
  unfold fMo_held at hf
  show V G p l e rmMo_held s m args below meth c 1 A Q 0 0 [] 0 [(0, .int p0)] []
  refine V_iload_n E 0 rfl dX8_held_0 ?_
  refine V_if_ge E (tgt := 8) dX8_held_1 (by decide) (fun hc1 => ?_) (fun hc1 => ?_)
  · have hf := ip hc1 hf
    refine V_iload_n E 0 rfl dX8_held_8 ?_
    refine V_bipush E (v := (63 : Int32)) dX8_held_9 (by decide) ?_
    refine V_icmp_le E (tgt := 19) dX8_held_11 (by decide) (fun hc2 => ?_) (fun hc2 => ?_)
    · have hf := ip hc2 hf
      refine V_iload_n E 0 rfl dX8_held_19 ?_
      have h9 := hret 20 [(0, .int p0)] dX8_held_20
      rw [← (Option.some.inj hf)] at h9
      exact h9
    · have hf := iq hc2 hf
      refine V_bipush E (v := (63 : Int32)) dX8_held_14 (by decide) ?_
      refine V_goto E (tgt := 20) dX8_held_16 (by decide) ?_
      have h9 := hret 20 [(0, .int p0)] dX8_held_20
      rw [← (Option.some.inj hf)] at h9
      exact h9
  · have hf := iq hc1 hf
    refine V_iconst E (v := (0 : Int32)) dX8_held_4 (by decide) ?_
    refine V_goto E (tgt := 20) dX8_held_5 (by decide) ?_
    have h9 := hret 20 [(0, .int p0)] dX8_held_20
    rw [← (Option.some.inj hf)] at h9
    exact h9
abbrev rmMo_many : Room := { frames := 0, cells := 0, slots := 0, locals := 0 }
theorem wd_yX8_many : wdV yX8_many cX8_many 1 (some .int) 0 := ⟨wc_yX8_many, wi_yX8_many, wse_yX8_many, wini_X8, by decide +kernel, by decide +kernel, by decide +kernel⟩
set_option maxHeartbeats 4000000 in
set_option maxRecDepth 100000 in
theorem kMo_many (l : Launch) (G : wG) (qMo : Nat → Nat) (mo_all : Nat → Int32) (mo_past : Nat → Int32) (mo_aside : Nat → Int32) (mo_states : Int32) (mo_refused : Nat → Int32) (mo_causeKind : Int32) (mo_causeOrder : Int32) (mo_corner : Nat → Int32) (mo_linkVotes : Nat → Int32) (mo_linkE : Nat → Int32) (mo_linkF : Nat → Int32) (mo_follower : Nat → Int32) (mo_ahead : Nat → Int32) (mo_least : Nat → Int32) (mo_seam : Nat → Int32) (mo_above : Int64) (mo_below : Int64) (mo_text : Nat → Int32) (mo_textLong : Int32) (mo_place : Int32) (mo_value : Int32) (mo_numbers : Nat → Int32) (mo_not : Int32) (o : Int32) (hf : fMo_many mo_all = some o) : Ct G l yX8_many cX8_many 1 (some .int) rmMo_many [.ref (qMo 0)] (gMo G qMo mo_all mo_past mo_aside mo_states mo_refused mo_causeKind mo_causeOrder mo_corner mo_linkVotes mo_linkE mo_linkF mo_follower mo_ahead mo_least mo_seam mo_above mo_below mo_text mo_textLong mo_place mo_value mo_numbers mo_not) (some (.int o)) (gMo G qMo mo_all mo_past mo_aside mo_states mo_refused mo_causeKind mo_causeOrder mo_corner mo_linkVotes mo_linkE mo_linkF mo_follower mo_ahead mo_least mo_seam mo_above mo_below mo_text mo_textLong mo_place mo_value mo_numbers mo_not) := by
  refine Ct.ofI (by decide +kernel) (Nat.le_of_ble_eq_true rfl) (fun p e s m args below meth c A Q E hret => ?_)
  unfold fMo_many at hf
  show V G p l e rmMo_many s m args below meth c 1 A Q 0 0 (gMo G qMo mo_all mo_past mo_aside mo_states mo_refused mo_causeKind mo_causeOrder mo_corner mo_linkVotes mo_linkE mo_linkF mo_follower mo_ahead mo_least mo_seam mo_above mo_below mo_text mo_textLong mo_place mo_value mo_numbers mo_not) 0 [(0, .ref (qMo 0))] []
  refine V_aload_n E 0 rfl dX8_many_0 ?_
  refine gfX8_7 E 0 rfl rfl dX8_many_1 ?_
  refine V_iconst E (v := (3 : Int32)) dX8_many_4 (by decide) ?_
  obtain ⟨hi1, hf⟩ := asr_ok hf
  refine V_iald E 1 rfl hi1 dX8_many_5 ?_
  have h9 := hret 6 [(0, .ref (qMo 0))] dX8_many_6
  rw [← (Option.some.inj hf)] at h9
  exact h9
abbrev rmMo_isPicture : Room := { frames := 1, cells := 0, slots := 0, locals := 25 }
theorem wd_yX8_isPicture : wdV yX8_isPicture cX8_isPicture 2 (some .boolean) 1 := ⟨wc_yX8_isPicture, wi_yX8_isPicture, wse_yX8_isPicture, wini_X8, by decide +kernel, by decide +kernel, by decide +kernel⟩
set_option maxHeartbeats 4000000 in
set_option maxRecDepth 100000 in
theorem kMo_isPicture (l : Launch) (G : wG) (qMo : Nat → Nat) (p1 : Int32) (mo_all : Nat → Int32) (mo_past : Nat → Int32) (mo_aside : Nat → Int32) (mo_states : Int32) (mo_refused : Nat → Int32) (mo_causeKind : Int32) (mo_causeOrder : Int32) (mo_corner : Nat → Int32) (mo_linkVotes : Nat → Int32) (mo_linkE : Nat → Int32) (mo_linkF : Nat → Int32) (mo_follower : Nat → Int32) (mo_ahead : Nat → Int32) (mo_least : Nat → Int32) (mo_seam : Nat → Int32) (mo_above : Int64) (mo_below : Int64) (mo_text : Nat → Int32) (mo_textLong : Int32) (mo_place : Int32) (mo_value : Int32) (mo_numbers : Nat → Int32) (mo_not : Int32) (o : Int32) (hf : fMo_isPicture p1 mo_all = some o) : Ct G l yX8_isPicture cX8_isPicture 2 (some .boolean) rmMo_isPicture [.ref (qMo 0), .int p1] (gMo G qMo mo_all mo_past mo_aside mo_states mo_refused mo_causeKind mo_causeOrder mo_corner mo_linkVotes mo_linkE mo_linkF mo_follower mo_ahead mo_least mo_seam mo_above mo_below mo_text mo_textLong mo_place mo_value mo_numbers mo_not) (some (.int o)) (gMo G qMo mo_all mo_past mo_aside mo_states mo_refused mo_causeKind mo_causeOrder mo_corner mo_linkVotes mo_linkE mo_linkF mo_follower mo_ahead mo_least mo_seam mo_above mo_below mo_text mo_textLong mo_place mo_value mo_numbers mo_not) := by
  refine Ct.ofZ (by decide +kernel) (Nat.le_of_ble_eq_true rfl) (fun p e s m args below meth c A Q E hret => ?_)
  unfold fMo_isPicture at hf
  show V G p l e rmMo_isPicture s m args below meth c 2 A Q 0 0 (gMo G qMo mo_all mo_past mo_aside mo_states mo_refused mo_causeKind mo_causeOrder mo_corner mo_linkVotes mo_linkE mo_linkF mo_follower mo_ahead mo_least mo_seam mo_above mo_below mo_text mo_textLong mo_place mo_value mo_numbers mo_not) 0 [(0, .ref (qMo 0)), (1, .int p1)] []
  refine V_iload_n E 1 rfl dX8_isPicture_0 ?_
  refine V_i2l E dX8_isPicture_1 ?_
  refine V_lconst E (v := (0 : Int64)) dX8_isPicture_2 (by decide) ?_
  refine V_aload_n E 0 rfl dX8_isPicture_3 ?_
  obtain ⟨u1, hu1, hf⟩ := bd hf
  refine V_frW E (Rn_V E (rest := [.long (0 : Int64), .long p1.toInt64]) mlX8_59 wd_yX8_many (kMo_many l G qMo mo_all mo_past mo_aside mo_states mo_refused mo_causeKind mo_causeOrder mo_corner mo_linkVotes mo_linkE mo_linkF mo_follower mo_ahead mo_least mo_seam mo_above mo_below mo_text mo_textLong mo_place mo_value mo_numbers mo_not u1 hu1) ⟨rfl, rfl, Nat.le_of_ble_eq_true rfl, Nat.le_of_ble_eq_true rfl⟩ 0 rfl rfl rfl rfl rfl (Nat.le_of_ble_eq_true rfl) dX8_isPicture_4) ?_
  show V G p l e rmMo_isPicture s m args below meth c 2 A Q 0 0 (gMo G qMo mo_all mo_past mo_aside mo_states mo_refused mo_causeKind mo_causeOrder mo_corner mo_linkVotes mo_linkE mo_linkF mo_follower mo_ahead mo_least mo_seam mo_above mo_below mo_text mo_textLong mo_place mo_value mo_numbers mo_not) 7 [(0, .ref (qMo 0)), (1, .int p1)] [.int u1, .long (0 : Int64), .long p1.toInt64]
  refine V_iconst E (v := (1 : Int32)) dX8_isPicture_7 (by decide) ?_
  refine V_isub E dX8_isPicture_8 ?_
  refine V_i2l E dX8_isPicture_9 ?_
  obtain ⟨u2, hu2, hf⟩ := bd hf
  refine V_fr0 E (Rn_S E (rest := []) mlX8_63 wd_yX8_in (kMo_in l G p1.toInt64 (0 : Int64) ((u1 - (1 : Int32)).toInt64) u2 hu2) ⟨rfl, rfl, Nat.le_of_ble_eq_true rfl, Nat.le_of_ble_eq_true rfl⟩ rfl rfl (Nat.le_of_ble_eq_true rfl) dX8_isPicture_10) ?_
  show V G p l e rmMo_isPicture s m args below meth c 2 A Q 0 0 (gMo G qMo mo_all mo_past mo_aside mo_states mo_refused mo_causeKind mo_causeOrder mo_corner mo_linkVotes mo_linkE mo_linkF mo_follower mo_ahead mo_least mo_seam mo_above mo_below mo_text mo_textLong mo_place mo_value mo_numbers mo_not) 13 [(0, .ref (qMo 0)), (1, .int p1)] [.int u2]
  obtain ⟨hz, hf⟩ := asr_ok hf
  have h9 := hret 13 [(0, .ref (qMo 0)), (1, .int p1)] dX8_isPicture_13
  rw [← (Option.some.inj hf)] at h9
  exact h9 (z01a hz)
abbrev rmMo_isCell : Room := { frames := 1, cells := 0, slots := 0, locals := 25 }
theorem wd_yX8_isCell : wdS yX8_isCell cX8_isCell 2 (some .boolean) 2 := ⟨wc_yX8_isCell, wst_yX8_isCell, wini_X8, by decide +kernel, by decide +kernel, by decide +kernel⟩
set_option maxHeartbeats 4000000 in
set_option maxRecDepth 100000 in
theorem kMo_isCell (l : Launch) (G : wG) (p0 : Int32) (p1 : Int32) (o : Int32) (hf : fMo_isCell p0 p1 = some o) : Ct G l yX8_isCell cX8_isCell 2 (some .boolean) rmMo_isCell [.int p0, .int p1] [] (some (.int o)) [] := by
  refine Ct.ofZ (by decide +kernel) (Nat.le_of_ble_eq_true rfl) (fun p e s m args below meth c A Q E hret => ?_)
  unfold fMo_isCell at hf
  show V G p l e rmMo_isCell s m args below meth c 2 A Q 0 0 [] 0 [(0, .int p0), (1, .int p1)] []
  refine V_iload_n E 0 rfl dX8_isCell_0 ?_
  refine V_i2l E dX8_isCell_1 ?_
  refine V_lconst E (v := (0 : Int64)) dX8_isCell_2 (by decide) ?_
  refine V_ldc2 E (v := (3 : Int64)) dX8_isCell_3 kX8_67 ?_
  obtain ⟨u1, hu1, hf⟩ := bd hf
  refine V_fr0 E (Rn_S E (rest := []) mlX8_63 wd_yX8_in (kMo_in l G p0.toInt64 (0 : Int64) (3 : Int64) u1 hu1) ⟨rfl, rfl, Nat.le_of_ble_eq_true rfl, Nat.le_of_ble_eq_true rfl⟩ rfl rfl (Nat.le_of_ble_eq_true rfl) dX8_isCell_6) ?_
  show V G p l e rmMo_isCell s m args below meth c 2 A Q 0 0 [] 9 [(0, .int p0), (1, .int p1)] [.int u1]
  refine V_if_eq E (tgt := 28) dX8_isCell_9 (by decide) (fun hc2 => ?_) (fun hc2 => ?_)
  · have hf := ip hc2 hf
    refine V_iconst E (v := (0 : Int32)) dX8_isCell_28 (by decide) ?_
    have h9 := hret 29 [(0, .int p0), (1, .int p1)] dX8_isCell_29
    rw [← (Option.some.inj hf)] at h9
    exact h9 (z01a (Or.inl rfl))
  · have hf := iq hc2 hf
    refine V_iload_n E 1 rfl dX8_isCell_12 ?_
    refine V_i2l E dX8_isCell_13 ?_
    refine V_lconst E (v := (0 : Int64)) dX8_isCell_14 (by decide) ?_
    refine V_ldc2 E (v := (7 : Int64)) dX8_isCell_15 kX8_69 ?_
    obtain ⟨u3, hu3, hf⟩ := bd hf
    refine V_fr0 E (Rn_S E (rest := []) mlX8_63 wd_yX8_in (kMo_in l G p1.toInt64 (0 : Int64) (7 : Int64) u3 hu3) ⟨rfl, rfl, Nat.le_of_ble_eq_true rfl, Nat.le_of_ble_eq_true rfl⟩ rfl rfl (Nat.le_of_ble_eq_true rfl) dX8_isCell_18) ?_
    show V G p l e rmMo_isCell s m args below meth c 2 A Q 0 0 [] 21 [(0, .int p0), (1, .int p1)] [.int u3]
    refine V_if_eq E (tgt := 28) dX8_isCell_21 (by decide) (fun hc4 => ?_) (fun hc4 => ?_)
    · have hf := ip hc4 hf
      refine V_iconst E (v := (0 : Int32)) dX8_isCell_28 (by decide) ?_
      have h9 := hret 29 [(0, .int p0), (1, .int p1)] dX8_isCell_29
      rw [← (Option.some.inj hf)] at h9
      exact h9 (z01a (Or.inl rfl))
    · have hf := iq hc4 hf
      refine V_iconst E (v := (1 : Int32)) dX8_isCell_24 (by decide) ?_
      refine V_goto E (tgt := 29) dX8_isCell_25 (by decide) ?_
      have h9 := hret 29 [(0, .int p0), (1, .int p1)] dX8_isCell_29
      rw [← (Option.some.inj hf)] at h9
      exact h9 (z01a (Or.inr rfl))
abbrev rmMo_at : Room := { frames := 0, cells := 0, slots := 0, locals := 0 }
theorem wd_yX8_at : wdV yX8_at cX8_at 4 (some .int) 3 := ⟨wc_yX8_at, wi_yX8_at, wse_yX8_at, wini_X8, by decide +kernel, by decide +kernel, by decide +kernel⟩
set_option maxHeartbeats 4000000 in
set_option maxRecDepth 100000 in
theorem kMo_at (l : Launch) (G : wG) (qMo : Nat → Nat) (p1 : Int32) (p2 : Int32) (p3 : Int32) (mo_all : Nat → Int32) (mo_past : Nat → Int32) (mo_aside : Nat → Int32) (mo_states : Int32) (mo_refused : Nat → Int32) (mo_causeKind : Int32) (mo_causeOrder : Int32) (mo_corner : Nat → Int32) (mo_linkVotes : Nat → Int32) (mo_linkE : Nat → Int32) (mo_linkF : Nat → Int32) (mo_follower : Nat → Int32) (mo_ahead : Nat → Int32) (mo_least : Nat → Int32) (mo_seam : Nat → Int32) (mo_above : Int64) (mo_below : Int64) (mo_text : Nat → Int32) (mo_textLong : Int32) (mo_place : Int32) (mo_value : Int32) (mo_numbers : Nat → Int32) (mo_not : Int32) (o : Int32) (hf : fMo_at p1 p2 p3 mo_all = some o) : Ct G l yX8_at cX8_at 4 (some .int) rmMo_at [.ref (qMo 0), .int p1, .int p2, .int p3] (gMo G qMo mo_all mo_past mo_aside mo_states mo_refused mo_causeKind mo_causeOrder mo_corner mo_linkVotes mo_linkE mo_linkF mo_follower mo_ahead mo_least mo_seam mo_above mo_below mo_text mo_textLong mo_place mo_value mo_numbers mo_not) (some (.int o)) (gMo G qMo mo_all mo_past mo_aside mo_states mo_refused mo_causeKind mo_causeOrder mo_corner mo_linkVotes mo_linkE mo_linkF mo_follower mo_ahead mo_least mo_seam mo_above mo_below mo_text mo_textLong mo_place mo_value mo_numbers mo_not) := by
  refine Ct.ofI (by decide +kernel) (Nat.le_of_ble_eq_true rfl) (fun p e s m args below meth c A Q E hret => ?_)
  unfold fMo_at at hf
  show V G p l e rmMo_at s m args below meth c 4 A Q 0 0 (gMo G qMo mo_all mo_past mo_aside mo_states mo_refused mo_causeKind mo_causeOrder mo_corner mo_linkVotes mo_linkE mo_linkF mo_follower mo_ahead mo_least mo_seam mo_above mo_below mo_text mo_textLong mo_place mo_value mo_numbers mo_not) 0 [(0, .ref (qMo 0)), (1, .int p1), (2, .int p2), (3, .int p3)] []
  refine V_aload_n E 0 rfl dX8_at_0 ?_
  refine gfX8_7 E 0 rfl rfl dX8_at_1 ?_
  refine V_sipush E (v := (196 : Int32)) dX8_at_4 (by decide) ?_
  refine V_bipush E (v := (35 : Int32)) dX8_at_7 (by decide) ?_
  refine V_iload_n E 1 rfl dX8_at_9 ?_
  refine V_imul E dX8_at_10 ?_
  refine V_iadd E dX8_at_11 ?_
  refine V_bipush E (v := (8 : Int32)) dX8_at_12 (by decide) ?_
  refine V_iload_n E 2 rfl dX8_at_14 ?_
  refine V_imul E dX8_at_15 ?_
  refine V_iadd E dX8_at_16 ?_
  refine V_iload_n E 3 rfl dX8_at_17 ?_
  refine V_iadd E dX8_at_18 ?_
  obtain ⟨hi1, hf⟩ := asr_ok hf
  refine V_iald E 1 rfl hi1 dX8_at_19 ?_
  have h9 := hret 20 [(0, .ref (qMo 0)), (1, .int p1), (2, .int p2), (3, .int p3)] dX8_at_20
  rw [← (Option.some.inj hf)] at h9
  exact h9
abbrev rmMo_shotOf : Room := { frames := 0, cells := 0, slots := 0, locals := 0 }
theorem wd_yX8_shotOf : wdV yX8_shotOf cX8_shotOf 3 (some .int) 2 := ⟨wc_yX8_shotOf, wi_yX8_shotOf, wse_yX8_shotOf, wini_X8, by decide +kernel, by decide +kernel, by decide +kernel⟩
set_option maxHeartbeats 4000000 in
set_option maxRecDepth 100000 in
theorem kMo_shotOf (l : Launch) (G : wG) (qMo : Nat → Nat) (p1 : Int32) (p2 : Int32) (mo_all : Nat → Int32) (mo_past : Nat → Int32) (mo_aside : Nat → Int32) (mo_states : Int32) (mo_refused : Nat → Int32) (mo_causeKind : Int32) (mo_causeOrder : Int32) (mo_corner : Nat → Int32) (mo_linkVotes : Nat → Int32) (mo_linkE : Nat → Int32) (mo_linkF : Nat → Int32) (mo_follower : Nat → Int32) (mo_ahead : Nat → Int32) (mo_least : Nat → Int32) (mo_seam : Nat → Int32) (mo_above : Int64) (mo_below : Int64) (mo_text : Nat → Int32) (mo_textLong : Int32) (mo_place : Int32) (mo_value : Int32) (mo_numbers : Nat → Int32) (mo_not : Int32) (o : Int32) (hf : fMo_shotOf p1 p2 mo_all = some o) : Ct G l yX8_shotOf cX8_shotOf 3 (some .int) rmMo_shotOf [.ref (qMo 0), .int p1, .int p2] (gMo G qMo mo_all mo_past mo_aside mo_states mo_refused mo_causeKind mo_causeOrder mo_corner mo_linkVotes mo_linkE mo_linkF mo_follower mo_ahead mo_least mo_seam mo_above mo_below mo_text mo_textLong mo_place mo_value mo_numbers mo_not) (some (.int o)) (gMo G qMo mo_all mo_past mo_aside mo_states mo_refused mo_causeKind mo_causeOrder mo_corner mo_linkVotes mo_linkE mo_linkF mo_follower mo_ahead mo_least mo_seam mo_above mo_below mo_text mo_textLong mo_place mo_value mo_numbers mo_not) := by
  refine Ct.ofI (by decide +kernel) (Nat.le_of_ble_eq_true rfl) (fun p e s m args below meth c A Q E hret => ?_)
  unfold fMo_shotOf at hf
  show V G p l e rmMo_shotOf s m args below meth c 3 A Q 0 0 (gMo G qMo mo_all mo_past mo_aside mo_states mo_refused mo_causeKind mo_causeOrder mo_corner mo_linkVotes mo_linkE mo_linkF mo_follower mo_ahead mo_least mo_seam mo_above mo_below mo_text mo_textLong mo_place mo_value mo_numbers mo_not) 0 [(0, .ref (qMo 0)), (1, .int p1), (2, .int p2)] []
  refine V_aload_n E 0 rfl dX8_shotOf_0 ?_
  refine gfX8_7 E 0 rfl rfl dX8_shotOf_1 ?_
  refine V_sipush E (v := (196 : Int32)) dX8_shotOf_4 (by decide) ?_
  refine V_bipush E (v := (35 : Int32)) dX8_shotOf_7 (by decide) ?_
  refine V_iload_n E 1 rfl dX8_shotOf_9 ?_
  refine V_imul E dX8_shotOf_10 ?_
  refine V_iadd E dX8_shotOf_11 ?_
  refine V_bipush E (v := (32 : Int32)) dX8_shotOf_12 (by decide) ?_
  refine V_iadd E dX8_shotOf_14 ?_
  refine V_iload_n E 2 rfl dX8_shotOf_15 ?_
  refine V_iadd E dX8_shotOf_16 ?_
  obtain ⟨hi1, hf⟩ := asr_ok hf
  refine V_iald E 1 rfl hi1 dX8_shotOf_17 ?_
  have h9 := hret 18 [(0, .ref (qMo 0)), (1, .int p1), (2, .int p2)] dX8_shotOf_18
  rw [← (Option.some.inj hf)] at h9
  exact h9
abbrev rmMo_isWorld : Room := { frames := 1, cells := 0, slots := 0, locals := 25 }
theorem wd_yX8_isWorld : wdS yX8_isWorld cX8_isWorld 2 (some .boolean) 2 := ⟨wc_yX8_isWorld, wst_yX8_isWorld, wini_X8, by decide +kernel, by decide +kernel, by decide +kernel⟩
set_option maxHeartbeats 4000000 in
set_option maxRecDepth 100000 in
theorem kMo_isWorld (l : Launch) (G : wG) (p0 : Int32) (p1 : Int32) (o : Int32) (hf : fMo_isWorld p0 p1 = some o) : Ct G l yX8_isWorld cX8_isWorld 2 (some .boolean) rmMo_isWorld [.int p0, .int p1] [] (some (.int o)) [] := by
  refine Ct.ofZ (by decide +kernel) (Nat.le_of_ble_eq_true rfl) (fun p e s m args below meth c A Q E hret => ?_)
  unfold fMo_isWorld at hf
  show V G p l e rmMo_isWorld s m args below meth c 2 A Q 0 0 [] 0 [(0, .int p0), (1, .int p1)] []
  refine V_iload_n E 0 rfl dX8_isWorld_0 ?_
  refine V_i2l E dX8_isWorld_1 ?_
  refine V_lconst E (v := (0 : Int64)) dX8_isWorld_2 (by decide) ?_
  refine V_ldc2 E (v := (999999 : Int64)) dX8_isWorld_3 kX8_71 ?_
  obtain ⟨u1, hu1, hf⟩ := bd hf
  refine V_fr0 E (Rn_S E (rest := []) mlX8_63 wd_yX8_in (kMo_in l G p0.toInt64 (0 : Int64) (999999 : Int64) u1 hu1) ⟨rfl, rfl, Nat.le_of_ble_eq_true rfl, Nat.le_of_ble_eq_true rfl⟩ rfl rfl (Nat.le_of_ble_eq_true rfl) dX8_isWorld_6) ?_
  show V G p l e rmMo_isWorld s m args below meth c 2 A Q 0 0 [] 9 [(0, .int p0), (1, .int p1)] [.int u1]
  refine V_if_eq E (tgt := 30) dX8_isWorld_9 (by decide) (fun hc2 => ?_) (fun hc2 => ?_)
  · have hf := ip hc2 hf
    refine V_iconst E (v := (0 : Int32)) dX8_isWorld_30 (by decide) ?_
    have h9 := hret 31 [(0, .int p0), (1, .int p1)] dX8_isWorld_31
    rw [← (Option.some.inj hf)] at h9
    exact h9 (z01a (Or.inl rfl))
  · have hf := iq hc2 hf
    refine V_iload_n E 1 rfl dX8_isWorld_12 ?_
    refine V_i2l E dX8_isWorld_13 ?_
    refine V_ldc2 E (v := (12 : Int64)) dX8_isWorld_14 kX8_73 ?_
    refine V_ldc2 E (v := (32 : Int64)) dX8_isWorld_17 kX8_75 ?_
    obtain ⟨u3, hu3, hf⟩ := bd hf
    refine V_fr0 E (Rn_S E (rest := []) mlX8_63 wd_yX8_in (kMo_in l G p1.toInt64 (12 : Int64) (32 : Int64) u3 hu3) ⟨rfl, rfl, Nat.le_of_ble_eq_true rfl, Nat.le_of_ble_eq_true rfl⟩ rfl rfl (Nat.le_of_ble_eq_true rfl) dX8_isWorld_20) ?_
    show V G p l e rmMo_isWorld s m args below meth c 2 A Q 0 0 [] 23 [(0, .int p0), (1, .int p1)] [.int u3]
    refine V_if_eq E (tgt := 30) dX8_isWorld_23 (by decide) (fun hc4 => ?_) (fun hc4 => ?_)
    · have hf := ip hc4 hf
      refine V_iconst E (v := (0 : Int32)) dX8_isWorld_30 (by decide) ?_
      have h9 := hret 31 [(0, .int p0), (1, .int p1)] dX8_isWorld_31
      rw [← (Option.some.inj hf)] at h9
      exact h9 (z01a (Or.inl rfl))
    · have hf := iq hc4 hf
      refine V_iconst E (v := (1 : Int32)) dX8_isWorld_26 (by decide) ?_
      refine V_goto E (tgt := 31) dX8_isWorld_27 (by decide) ?_
      have h9 := hret 31 [(0, .int p0), (1, .int p1)] dX8_isWorld_31
      rw [← (Option.some.inj hf)] at h9
      exact h9 (z01a (Or.inr rfl))
abbrev rmMo_worldNow : Room := { frames := 0, cells := 0, slots := 0, locals := 0 }
theorem wd_yX8_worldNow : wdV yX8_worldNow cX8_worldNow 8 (some .int) 2 := ⟨wc_yX8_worldNow, wi_yX8_worldNow, wse_yX8_worldNow, wini_X8, by decide +kernel, by decide +kernel, by decide +kernel⟩
set_option maxHeartbeats 4000000 in
set_option maxRecDepth 100000 in
theorem kMo_worldNow (l : Launch) (G : wG) (qMo : Nat → Nat) (p1 : Int32) (p2 : Int32) (mo_all : Nat → Int32) (mo_past : Nat → Int32) (mo_aside : Nat → Int32) (mo_states : Int32) (mo_refused : Nat → Int32) (mo_causeKind : Int32) (mo_causeOrder : Int32) (mo_corner : Nat → Int32) (mo_linkVotes : Nat → Int32) (mo_linkE : Nat → Int32) (mo_linkF : Nat → Int32) (mo_follower : Nat → Int32) (mo_ahead : Nat → Int32) (mo_least : Nat → Int32) (mo_seam : Nat → Int32) (mo_above : Int64) (mo_below : Int64) (mo_text : Nat → Int32) (mo_textLong : Int32) (mo_place : Int32) (mo_value : Int32) (mo_numbers : Nat → Int32) (mo_not : Int32) (o : Int32 × (Nat → Int32)) (hf : fMo_worldNow p1 p2 mo_all = some o) : Ct G l yX8_worldNow cX8_worldNow 8 (some .int) rmMo_worldNow [.ref (qMo 0), .int p1, .int p2] (gMo G qMo mo_all mo_past mo_aside mo_states mo_refused mo_causeKind mo_causeOrder mo_corner mo_linkVotes mo_linkE mo_linkF mo_follower mo_ahead mo_least mo_seam mo_above mo_below mo_text mo_textLong mo_place mo_value mo_numbers mo_not) (some (.int o.1)) (gMo G qMo o.2 mo_past mo_aside mo_states mo_refused mo_causeKind mo_causeOrder mo_corner mo_linkVotes mo_linkE mo_linkF mo_follower mo_ahead mo_least mo_seam mo_above mo_below mo_text mo_textLong mo_place mo_value mo_numbers mo_not) := by
  refine Ct.ofI (by decide +kernel) (Nat.le_of_ble_eq_true rfl) (fun p e s m args below meth c A Q E hret => ?_)
  unfold fMo_worldNow at hf
  show V G p l e rmMo_worldNow s m args below meth c 8 A Q 0 0 (gMo G qMo mo_all mo_past mo_aside mo_states mo_refused mo_causeKind mo_causeOrder mo_corner mo_linkVotes mo_linkE mo_linkF mo_follower mo_ahead mo_least mo_seam mo_above mo_below mo_text mo_textLong mo_place mo_value mo_numbers mo_not) 0 [(0, .ref (qMo 0)), (1, .int p1), (2, .int p2)] []
  refine V_aload_n E 0 rfl dX8_worldNow_0 ?_
  refine gfX8_7 E 0 rfl rfl dX8_worldNow_1 ?_
  refine V_iconst E (v := (0 : Int32)) dX8_worldNow_4 (by decide) ?_
  obtain ⟨hi1, hf⟩ := asr_ok hf
  refine V_iald E 1 rfl hi1 dX8_worldNow_5 ?_
  obtain ⟨t2, ht2, hf⟩ := bd hf
  have ht2 := Option.some.inj ht2
  rw [ht2]
  refine V_istore_n E (lv' := [(0, .ref (qMo 0)), (1, .int p1), (2, .int p2), (3, .int t2)]) dX8_worldNow_6 (by decide) rfl ?_
  refine V_iload_n E 1 rfl dX8_worldNow_7 ?_
  refine V_i2l E dX8_worldNow_8 ?_
  refine V_lstore E (lv' := [(0, .ref (qMo 0)), (1, .int p1), (2, .int p2), (3, .int t2), (4, .long p1.toInt64)]) dX8_worldNow_9 (by decide) rfl ?_
  refine V_iconst E (v := (0 : Int32)) dX8_worldNow_11 (by decide) ?_
  refine V_istore E (lv' := [(0, .ref (qMo 0)), (1, .int p1), (2, .int p2), (3, .int t2), (4, .long p1.toInt64), (6, .int (0 : Int32))]) dX8_worldNow_12 (by decide) rfl ?_
  have L14 : ∀ (n : Nat) (a14_4 : Int64) (a14_6 : Int32) (c14_mo_all : Nat → Int32) (u : (Nat → Int32)), fMo_worldNow_L14 p2 n a14_4 a14_6 c14_mo_all = some u → (V G p l e rmMo_worldNow s m args below meth c 8 A Q 0 0 (gMo G qMo u mo_past mo_aside mo_states mo_refused mo_causeKind mo_causeOrder mo_corner mo_linkVotes mo_linkE mo_linkF mo_follower mo_ahead mo_least mo_seam mo_above mo_below mo_text mo_textLong mo_place mo_value mo_numbers mo_not) 84 [(0, .ref (qMo 0)), (2, .int p2), (3, .int t2)] []) → V G p l e rmMo_worldNow s m args below meth c 8 A Q 0 0 (gMo G qMo c14_mo_all mo_past mo_aside mo_states mo_refused mo_causeKind mo_causeOrder mo_corner mo_linkVotes mo_linkE mo_linkF mo_follower mo_ahead mo_least mo_seam mo_above mo_below mo_text mo_textLong mo_place mo_value mo_numbers mo_not) 14 [(0, .ref (qMo 0)), (2, .int p2), (3, .int t2), (4, .long a14_4), (6, .int a14_6)] [] := by
    intro n
    induction n with
    | zero =>
      intro a14_4 a14_6 c14_mo_all u hf hk
      rw [fMo_worldNow_L14] at hf
      cases hf
    | succ n ih =>
      intro a14_4 a14_6 c14_mo_all u hf hk
      rw [fMo_worldNow_L14] at hf
      refine V_iload E 4 rfl dX8_worldNow_14 ?_
      refine V_iload_n E 1 rfl dX8_worldNow_16 ?_
      refine V_icmp_ge E (tgt := 84) dX8_worldNow_17 (by decide) (fun hc4 => ?_) (fun hc4 => ?_)
      · have hf := ip hc4 hf
        refine V_sub [0, 1, 2] rfl ?_
        rw [← Option.some.inj hf] at hk
        exact hk
      · have hf := iq hc4 hf
        refine V_iconst E (v := (0 : Int32)) dX8_worldNow_20 (by decide) ?_
        refine V_istore E (lv' := [(0, .ref (qMo 0)), (2, .int p2), (3, .int t2), (4, .long a14_4), (6, .int a14_6), (7, .int (0 : Int32))]) dX8_worldNow_21 (by decide) rfl ?_
        have L23 : ∀ (n : Nat) (a23_4 : Int64) (a23_7 : Int32) (c23_mo_all : Nat → Int32) (u : Int64 × (Nat → Int32)), fMo_worldNow_L23 a14_6 n a23_4 a23_7 c23_mo_all = some u → (V G p l e rmMo_worldNow s m args below meth c 8 A Q 0 0 (gMo G qMo u.2 mo_past mo_aside mo_states mo_refused mo_causeKind mo_causeOrder mo_corner mo_linkVotes mo_linkE mo_linkF mo_follower mo_ahead mo_least mo_seam mo_above mo_below mo_text mo_textLong mo_place mo_value mo_numbers mo_not) 78 [(0, .ref (qMo 0)), (2, .int p2), (3, .int t2), (4, .long u.1), (6, .int a14_6)] []) → V G p l e rmMo_worldNow s m args below meth c 8 A Q 0 0 (gMo G qMo c23_mo_all mo_past mo_aside mo_states mo_refused mo_causeKind mo_causeOrder mo_corner mo_linkVotes mo_linkE mo_linkF mo_follower mo_ahead mo_least mo_seam mo_above mo_below mo_text mo_textLong mo_place mo_value mo_numbers mo_not) 23 [(0, .ref (qMo 0)), (2, .int p2), (3, .int t2), (4, .long a23_4), (6, .int a14_6), (7, .int a23_7)] [] := by
          intro n
          induction n with
          | zero =>
            intro a23_4 a23_7 c23_mo_all u hf hk
            rw [fMo_worldNow_L23] at hf
            cases hf
          | succ n ih =>
            intro a23_4 a23_7 c23_mo_all u hf hk
            rw [fMo_worldNow_L23] at hf
            refine V_iload E 5 rfl dX8_worldNow_23 ?_
            refine V_bipush E (v := (6 : Int32)) dX8_worldNow_25 (by decide) ?_
            refine V_icmp_ge E (tgt := 78) dX8_worldNow_27 (by decide) (fun hc6 => ?_) (fun hc6 => ?_)
            · have hf := ip hc6 hf
              refine V_sub [0, 1, 2, 3, 4] rfl ?_
              rw [← Option.some.inj hf] at hk
              exact hk
            · have hf := iq hc6 hf
              refine V_lload E 3 rfl dX8_worldNow_30 ?_
              refine V_ldc2 E (v := (1103515245 : Int64)) dX8_worldNow_32 kX8_77 ?_
              refine V_lmul E dX8_worldNow_35 ?_
              refine V_ldc2 E (v := (12345 : Int64)) dX8_worldNow_36 kX8_79 ?_
              refine V_ladd E dX8_worldNow_39 ?_
              refine V_ldc2 E (v := (2147483648 : Int64)) dX8_worldNow_40 kX8_81 ?_
              obtain ⟨hz7, hf⟩ := asr_ok hf
              refine V_lrem E dX8_worldNow_43 hz7 ?_
              obtain ⟨t8, ht8, hf⟩ := bd hf
              have ht8 := Option.some.inj ht8
              rw [ht8]
              refine V_lstore E (lv' := [(0, .ref (qMo 0)), (2, .int p2), (3, .int t2), (4, .long t8), (6, .int a14_6), (7, .int a23_7)]) dX8_worldNow_44 (by decide) rfl ?_
              refine V_aload_n E 0 rfl dX8_worldNow_46 ?_
              refine gfX8_7 E 0 rfl rfl dX8_worldNow_47 ?_
              refine V_iconst E (v := (4 : Int32)) dX8_worldNow_50 (by decide) ?_
              refine V_bipush E (v := (32 : Int32)) dX8_worldNow_51 (by decide) ?_
              refine V_iload E 5 rfl dX8_worldNow_53 ?_
              refine V_imul E dX8_worldNow_55 ?_
              refine V_iadd E dX8_worldNow_56 ?_
              refine V_iload E 4 rfl dX8_worldNow_57 ?_
              refine V_iadd E dX8_worldNow_59 ?_
              refine V_lload E 3 rfl dX8_worldNow_60 ?_
              refine V_ldc2 E (v := (65536 : Int64)) dX8_worldNow_62 kX8_83 ?_
              obtain ⟨hz9, hf⟩ := asr_ok hf
              refine V_ldiv E dX8_worldNow_65 hz9 ?_
              refine V_ldc2 E (v := (64 : Int64)) dX8_worldNow_66 kX8_85 ?_
              obtain ⟨hz10, hf⟩ := asr_ok hf
              refine V_lrem E dX8_worldNow_69 hz10 ?_
              refine V_l2i E dX8_worldNow_70 ?_
              obtain ⟨hi11, hf⟩ := asr_ok hf
              refine V_iast E (ws' := (gMo G qMo (upd c23_mo_all (((4 : Int32) + ((32 : Int32) * a23_7)) + a14_6).toNatClampNeg (((t8 / (65536 : Int64)) - (t8 / (65536 : Int64)) / (64 : Int64) * (64 : Int64)).toInt32)) mo_past mo_aside mo_states mo_refused mo_causeKind mo_causeOrder mo_corner mo_linkVotes mo_linkE mo_linkF mo_follower mo_ahead mo_least mo_seam mo_above mo_below mo_text mo_textLong mo_place mo_value mo_numbers mo_not)) 1 rfl hi11 dX8_worldNow_71 rfl ?_
              refine V_iinc E (v := (a23_7 + (1 : Int32))) (lv' := [(0, .ref (qMo 0)), (2, .int p2), (3, .int t2), (4, .long t8), (6, .int a14_6), (7, .int (a23_7 + (1 : Int32)))]) 5 rfl dX8_worldNow_72 rfl (by decide) rfl ?_
              refine V_goto E (tgt := 23) dX8_worldNow_75 (by decide) ?_
              exact ih t8 (a23_7 + (1 : Int32)) (upd c23_mo_all (((4 : Int32) + ((32 : Int32) * a23_7)) + a14_6).toNatClampNeg (((t8 / (65536 : Int64)) - (t8 / (65536 : Int64)) / (64 : Int64) * (64 : Int64)).toInt32)) _ hf hk
        obtain ⟨u5, hu5, hf⟩ := bd hf
        refine L23 FU a14_4 (0 : Int32) c14_mo_all u5 hu5 ?_
        refine V_iinc E (v := (a14_6 + (1 : Int32))) (lv' := [(0, .ref (qMo 0)), (2, .int p2), (3, .int t2), (4, .long u5.1), (6, .int (a14_6 + (1 : Int32)))]) 4 rfl dX8_worldNow_78 rfl (by decide) rfl ?_
        refine V_goto E (tgt := 14) dX8_worldNow_81 (by decide) ?_
        exact ih u5.1 (a14_6 + (1 : Int32)) u5.2 _ hf hk
  refine V_sub [0, 2, 3, 4, 5] rfl ?_
  obtain ⟨u3, hu3, hf⟩ := bd hf
  refine L14 FU p1.toInt64 (0 : Int32) mo_all u3 hu3 ?_
  refine V_aload_n E 0 rfl dX8_worldNow_84 ?_
  refine gfX8_7 E 0 rfl rfl dX8_worldNow_85 ?_
  refine V_iconst E (v := (0 : Int32)) dX8_worldNow_88 (by decide) ?_
  refine V_iload_n E 1 rfl dX8_worldNow_89 ?_
  obtain ⟨hi12, hf⟩ := asr_ok hf
  refine V_iast E (ws' := (gMo G qMo (upd u3 (0 : Int32).toNatClampNeg p2) mo_past mo_aside mo_states mo_refused mo_causeKind mo_causeOrder mo_corner mo_linkVotes mo_linkE mo_linkF mo_follower mo_ahead mo_least mo_seam mo_above mo_below mo_text mo_textLong mo_place mo_value mo_numbers mo_not)) 1 rfl hi12 dX8_worldNow_90 rfl ?_
  refine V_iload_n E 2 rfl dX8_worldNow_91 ?_
  have h9 := hret 92 [(0, .ref (qMo 0)), (2, .int p2), (3, .int t2)] dX8_worldNow_92
  rw [← (Option.some.inj hf)] at h9
  exact h9
abbrev rmMo_world : Room := { frames := 2, cells := 0, slots := 0, locals := 46 }
theorem wd_yX8_world : wdV yX8_world cX8_world 3 (some .int) 2 := ⟨wc_yX8_world, wi_yX8_world, wse_yX8_world, wini_X8, by decide +kernel, by decide +kernel, by decide +kernel⟩
set_option maxHeartbeats 4000000 in
set_option maxRecDepth 100000 in
theorem kMo_world (l : Launch) (G : wG) (qMo : Nat → Nat) (p1 : Int32) (p2 : Int32) (mo_all : Nat → Int32) (mo_past : Nat → Int32) (mo_aside : Nat → Int32) (mo_states : Int32) (mo_refused : Nat → Int32) (mo_causeKind : Int32) (mo_causeOrder : Int32) (mo_corner : Nat → Int32) (mo_linkVotes : Nat → Int32) (mo_linkE : Nat → Int32) (mo_linkF : Nat → Int32) (mo_follower : Nat → Int32) (mo_ahead : Nat → Int32) (mo_least : Nat → Int32) (mo_seam : Nat → Int32) (mo_above : Int64) (mo_below : Int64) (mo_text : Nat → Int32) (mo_textLong : Int32) (mo_place : Int32) (mo_value : Int32) (mo_numbers : Nat → Int32) (mo_not : Int32) (o : Int32 × (Nat → Int32) × (Nat → Int32) × Int32 × (Nat → Int32)) (hf : fMo_world p1 p2 mo_all mo_past mo_states mo_refused = some o) : Ct G l yX8_world cX8_world 3 (some .int) rmMo_world [.ref (qMo 0), .int p1, .int p2] (gMo G qMo mo_all mo_past mo_aside mo_states mo_refused mo_causeKind mo_causeOrder mo_corner mo_linkVotes mo_linkE mo_linkF mo_follower mo_ahead mo_least mo_seam mo_above mo_below mo_text mo_textLong mo_place mo_value mo_numbers mo_not) (some (.int o.1)) (gMo G qMo o.2.1 o.2.2.1 mo_aside o.2.2.2.1 o.2.2.2.2 mo_causeKind mo_causeOrder mo_corner mo_linkVotes mo_linkE mo_linkF mo_follower mo_ahead mo_least mo_seam mo_above mo_below mo_text mo_textLong mo_place mo_value mo_numbers mo_not) := by
  refine Ct.ofI (by decide +kernel) (Nat.le_of_ble_eq_true rfl) (fun p e s m args below meth c A Q E hret => ?_)
  unfold fMo_world at hf
  show V G p l e rmMo_world s m args below meth c 3 A Q 0 0 (gMo G qMo mo_all mo_past mo_aside mo_states mo_refused mo_causeKind mo_causeOrder mo_corner mo_linkVotes mo_linkE mo_linkF mo_follower mo_ahead mo_least mo_seam mo_above mo_below mo_text mo_textLong mo_place mo_value mo_numbers mo_not) 0 [(0, .ref (qMo 0)), (1, .int p1), (2, .int p2)] []
  refine V_iload_n E 1 rfl dX8_world_0 ?_
  refine V_iload_n E 2 rfl dX8_world_1 ?_
  obtain ⟨u1, hu1, hf⟩ := bd hf
  refine V_fr0 E (Rn_S E (rest := []) mlX8_87 wd_yX8_isWorld (kMo_isWorld l G p1 p2 u1 hu1) ⟨rfl, rfl, Nat.le_of_ble_eq_true rfl, Nat.le_of_ble_eq_true rfl⟩ rfl rfl (Nat.le_of_ble_eq_true rfl) dX8_world_2) ?_
  show V G p l e rmMo_world s m args below meth c 3 A Q 0 0 (gMo G qMo mo_all mo_past mo_aside mo_states mo_refused mo_causeKind mo_causeOrder mo_corner mo_linkVotes mo_linkE mo_linkF mo_follower mo_ahead mo_least mo_seam mo_above mo_below mo_text mo_textLong mo_place mo_value mo_numbers mo_not) 5 [(0, .ref (qMo 0)), (1, .int p1), (2, .int p2)] [.int u1]
  refine V_if_ne E (tgt := 15) dX8_world_5 (by decide) (fun hc2 => ?_) (fun hc2 => ?_)
  · have hf := iq hc2 hf
    refine V_aload_n E 0 rfl dX8_world_15 ?_
    obtain ⟨u3, hu3, hf⟩ := bd hf
    refine V_frW E (Rn_V E (rest := []) mlX8_95 wd_yX8_keep (kMo_keep l G qMo mo_all mo_past mo_aside mo_states mo_refused mo_causeKind mo_causeOrder mo_corner mo_linkVotes mo_linkE mo_linkF mo_follower mo_ahead mo_least mo_seam mo_above mo_below mo_text mo_textLong mo_place mo_value mo_numbers mo_not u3 hu3) ⟨rfl, rfl, Nat.le_of_ble_eq_true rfl, Nat.le_of_ble_eq_true rfl⟩ 0 rfl rfl rfl rfl rfl (Nat.le_of_ble_eq_true rfl) dX8_world_16) ?_
    show V G p l e rmMo_world s m args below meth c 3 A Q 0 0 (gMo G qMo mo_all u3.1 mo_aside u3.2 mo_refused mo_causeKind mo_causeOrder mo_corner mo_linkVotes mo_linkE mo_linkF mo_follower mo_ahead mo_least mo_seam mo_above mo_below mo_text mo_textLong mo_place mo_value mo_numbers mo_not) 19 [(0, .ref (qMo 0)), (1, .int p1), (2, .int p2)] []
    refine V_aload_n E 0 rfl dX8_world_19 ?_
    refine V_iload_n E 1 rfl dX8_world_20 ?_
    refine V_iload_n E 2 rfl dX8_world_21 ?_
    obtain ⟨u4, hu4, hf⟩ := bd hf
    refine V_frW E (Rn_V E (rest := []) mlX8_98 wd_yX8_worldNow (kMo_worldNow l G qMo p1 p2 mo_all u3.1 mo_aside u3.2 mo_refused mo_causeKind mo_causeOrder mo_corner mo_linkVotes mo_linkE mo_linkF mo_follower mo_ahead mo_least mo_seam mo_above mo_below mo_text mo_textLong mo_place mo_value mo_numbers mo_not u4 hu4) ⟨rfl, rfl, Nat.le_of_ble_eq_true rfl, Nat.le_of_ble_eq_true rfl⟩ 0 rfl rfl rfl rfl rfl (Nat.le_of_ble_eq_true rfl) dX8_world_22) ?_
    show V G p l e rmMo_world s m args below meth c 3 A Q 0 0 (gMo G qMo u4.2 u3.1 mo_aside u3.2 mo_refused mo_causeKind mo_causeOrder mo_corner mo_linkVotes mo_linkE mo_linkF mo_follower mo_ahead mo_least mo_seam mo_above mo_below mo_text mo_textLong mo_place mo_value mo_numbers mo_not) 25 [(0, .ref (qMo 0)), (1, .int p1), (2, .int p2)] [.int u4.1]
    have h9 := hret 25 [(0, .ref (qMo 0)), (1, .int p1), (2, .int p2)] dX8_world_25
    rw [← (Option.some.inj hf)] at h9
    exact h9
  · have hf := ip hc2 hf
    refine V_aload_n E 0 rfl dX8_world_8 ?_
    refine V_bipush E (v := (-2 : Int32)) dX8_world_9 (by decide) ?_
    obtain ⟨u5, hu5, hf⟩ := bd hf
    refine V_frW E (Rn_V E (rest := []) mlX8_91 wd_yX8_refuses (kMo_refuses l G qMo (-2 : Int32) mo_all mo_past mo_aside mo_states mo_refused mo_causeKind mo_causeOrder mo_corner mo_linkVotes mo_linkE mo_linkF mo_follower mo_ahead mo_least mo_seam mo_above mo_below mo_text mo_textLong mo_place mo_value mo_numbers mo_not u5 hu5) ⟨rfl, rfl, Nat.le_of_ble_eq_true rfl, Nat.le_of_ble_eq_true rfl⟩ 0 rfl rfl rfl rfl rfl (Nat.le_of_ble_eq_true rfl) dX8_world_11) ?_
    show V G p l e rmMo_world s m args below meth c 3 A Q 0 0 (gMo G qMo mo_all mo_past mo_aside mo_states u5.2 mo_causeKind mo_causeOrder mo_corner mo_linkVotes mo_linkE mo_linkF mo_follower mo_ahead mo_least mo_seam mo_above mo_below mo_text mo_textLong mo_place mo_value mo_numbers mo_not) 14 [(0, .ref (qMo 0)), (1, .int p1), (2, .int p2)] [.int u5.1]
    have h9 := hret 14 [(0, .ref (qMo 0)), (1, .int p1), (2, .int p2)] dX8_world_14
    rw [← (Option.some.inj hf)] at h9
    exact h9
abbrev rmMo_isDot : Room := { frames := 1, cells := 0, slots := 0, locals := 25 }
theorem wd_yX8_isDot : wdV yX8_isDot cX8_isDot 3 (some .boolean) 2 := ⟨wc_yX8_isDot, wi_yX8_isDot, wse_yX8_isDot, wini_X8, by decide +kernel, by decide +kernel, by decide +kernel⟩
set_option maxHeartbeats 4000000 in
set_option maxRecDepth 100000 in
theorem kMo_isDot (l : Launch) (G : wG) (qMo : Nat → Nat) (p1 : Int32) (p2 : Int32) (mo_all : Nat → Int32) (mo_past : Nat → Int32) (mo_aside : Nat → Int32) (mo_states : Int32) (mo_refused : Nat → Int32) (mo_causeKind : Int32) (mo_causeOrder : Int32) (mo_corner : Nat → Int32) (mo_linkVotes : Nat → Int32) (mo_linkE : Nat → Int32) (mo_linkF : Nat → Int32) (mo_follower : Nat → Int32) (mo_ahead : Nat → Int32) (mo_least : Nat → Int32) (mo_seam : Nat → Int32) (mo_above : Int64) (mo_below : Int64) (mo_text : Nat → Int32) (mo_textLong : Int32) (mo_place : Int32) (mo_value : Int32) (mo_numbers : Nat → Int32) (mo_not : Int32) (o : Int32) (hf : fMo_isDot p1 p2 mo_all = some o) : Ct G l yX8_isDot cX8_isDot 3 (some .boolean) rmMo_isDot [.ref (qMo 0), .int p1, .int p2] (gMo G qMo mo_all mo_past mo_aside mo_states mo_refused mo_causeKind mo_causeOrder mo_corner mo_linkVotes mo_linkE mo_linkF mo_follower mo_ahead mo_least mo_seam mo_above mo_below mo_text mo_textLong mo_place mo_value mo_numbers mo_not) (some (.int o)) (gMo G qMo mo_all mo_past mo_aside mo_states mo_refused mo_causeKind mo_causeOrder mo_corner mo_linkVotes mo_linkE mo_linkF mo_follower mo_ahead mo_least mo_seam mo_above mo_below mo_text mo_textLong mo_place mo_value mo_numbers mo_not) := by
  refine Ct.ofZ (by decide +kernel) (Nat.le_of_ble_eq_true rfl) (fun p e s m args below meth c A Q E hret => ?_)
  unfold fMo_isDot at hf
  show V G p l e rmMo_isDot s m args below meth c 3 A Q 0 0 (gMo G qMo mo_all mo_past mo_aside mo_states mo_refused mo_causeKind mo_causeOrder mo_corner mo_linkVotes mo_linkE mo_linkF mo_follower mo_ahead mo_least mo_seam mo_above mo_below mo_text mo_textLong mo_place mo_value mo_numbers mo_not) 0 [(0, .ref (qMo 0)), (1, .int p1), (2, .int p2)] []
  refine V_iload_n E 1 rfl dX8_isDot_0 ?_
  refine V_i2l E dX8_isDot_1 ?_
  refine V_lconst E (v := (0 : Int64)) dX8_isDot_2 (by decide) ?_
  refine V_ldc2 E (v := (5 : Int64)) dX8_isDot_3 kX8_102 ?_
  obtain ⟨u1, hu1, hf⟩ := bd hf
  refine V_fr0 E (Rn_S E (rest := []) mlX8_63 wd_yX8_in (kMo_in l G p1.toInt64 (0 : Int64) (5 : Int64) u1 hu1) ⟨rfl, rfl, Nat.le_of_ble_eq_true rfl, Nat.le_of_ble_eq_true rfl⟩ rfl rfl (Nat.le_of_ble_eq_true rfl) dX8_isDot_6) ?_
  show V G p l e rmMo_isDot s m args below meth c 3 A Q 0 0 (gMo G qMo mo_all mo_past mo_aside mo_states mo_refused mo_causeKind mo_causeOrder mo_corner mo_linkVotes mo_linkE mo_linkF mo_follower mo_ahead mo_least mo_seam mo_above mo_below mo_text mo_textLong mo_place mo_value mo_numbers mo_not) 9 [(0, .ref (qMo 0)), (1, .int p1), (2, .int p2)] [.int u1]
  refine V_if_eq E (tgt := 34) dX8_isDot_9 (by decide) (fun hc2 => ?_) (fun hc2 => ?_)
  · have hf := ip hc2 hf
    refine V_iconst E (v := (0 : Int32)) dX8_isDot_34 (by decide) ?_
    have h9 := hret 35 [(0, .ref (qMo 0)), (1, .int p1), (2, .int p2)] dX8_isDot_35
    rw [← (Option.some.inj hf)] at h9
    exact h9 (z01a (Or.inl rfl))
  · have hf := iq hc2 hf
    refine V_iload_n E 2 rfl dX8_isDot_12 ?_
    refine V_i2l E dX8_isDot_13 ?_
    refine V_lconst E (v := (0 : Int64)) dX8_isDot_14 (by decide) ?_
    refine V_aload_n E 0 rfl dX8_isDot_15 ?_
    refine gfX8_7 E 0 rfl rfl dX8_isDot_16 ?_
    refine V_iconst E (v := (0 : Int32)) dX8_isDot_19 (by decide) ?_
    obtain ⟨hi3, hf⟩ := asr_ok hf
    refine V_iald E 1 rfl hi3 dX8_isDot_20 ?_
    refine V_iconst E (v := (1 : Int32)) dX8_isDot_21 (by decide) ?_
    refine V_isub E dX8_isDot_22 ?_
    refine V_i2l E dX8_isDot_23 ?_
    obtain ⟨u4, hu4, hf⟩ := bd hf
    refine V_fr0 E (Rn_S E (rest := []) mlX8_63 wd_yX8_in (kMo_in l G p2.toInt64 (0 : Int64) (((mo_all (0 : Int32).toNatClampNeg) - (1 : Int32)).toInt64) u4 hu4) ⟨rfl, rfl, Nat.le_of_ble_eq_true rfl, Nat.le_of_ble_eq_true rfl⟩ rfl rfl (Nat.le_of_ble_eq_true rfl) dX8_isDot_24) ?_
    show V G p l e rmMo_isDot s m args below meth c 3 A Q 0 0 (gMo G qMo mo_all mo_past mo_aside mo_states mo_refused mo_causeKind mo_causeOrder mo_corner mo_linkVotes mo_linkE mo_linkF mo_follower mo_ahead mo_least mo_seam mo_above mo_below mo_text mo_textLong mo_place mo_value mo_numbers mo_not) 27 [(0, .ref (qMo 0)), (1, .int p1), (2, .int p2)] [.int u4]
    refine V_if_eq E (tgt := 34) dX8_isDot_27 (by decide) (fun hc5 => ?_) (fun hc5 => ?_)
    · have hf := ip hc5 hf
      refine V_iconst E (v := (0 : Int32)) dX8_isDot_34 (by decide) ?_
      have h9 := hret 35 [(0, .ref (qMo 0)), (1, .int p1), (2, .int p2)] dX8_isDot_35
      rw [← (Option.some.inj hf)] at h9
      exact h9 (z01a (Or.inl rfl))
    · have hf := iq hc5 hf
      refine V_iconst E (v := (1 : Int32)) dX8_isDot_30 (by decide) ?_
      refine V_goto E (tgt := 35) dX8_isDot_31 (by decide) ?_
      have h9 := hret 35 [(0, .ref (qMo 0)), (1, .int p1), (2, .int p2)] dX8_isDot_35
      rw [← (Option.some.inj hf)] at h9
      exact h9 (z01a (Or.inr rfl))
abbrev rmMo_cellNow : Room := { frames := 0, cells := 0, slots := 0, locals := 0 }
theorem wd_yX8_cellNow : wdV yX8_cellNow cX8_cellNow 4 (some .int) 2 := ⟨wc_yX8_cellNow, wi_yX8_cellNow, wse_yX8_cellNow, wini_X8, by decide +kernel, by decide +kernel, by decide +kernel⟩
set_option maxHeartbeats 4000000 in
set_option maxRecDepth 100000 in
theorem kMo_cellNow (l : Launch) (G : wG) (qMo : Nat → Nat) (p1 : Int32) (p2 : Int32) (mo_all : Nat → Int32) (mo_past : Nat → Int32) (mo_aside : Nat → Int32) (mo_states : Int32) (mo_refused : Nat → Int32) (mo_causeKind : Int32) (mo_causeOrder : Int32) (mo_corner : Nat → Int32) (mo_linkVotes : Nat → Int32) (mo_linkE : Nat → Int32) (mo_linkF : Nat → Int32) (mo_follower : Nat → Int32) (mo_ahead : Nat → Int32) (mo_least : Nat → Int32) (mo_seam : Nat → Int32) (mo_above : Int64) (mo_below : Int64) (mo_text : Nat → Int32) (mo_textLong : Int32) (mo_place : Int32) (mo_value : Int32) (mo_numbers : Nat → Int32) (mo_not : Int32) (o : Int32 × (Nat → Int32)) (hf : fMo_cellNow p1 p2 mo_all = some o) : Ct G l yX8_cellNow cX8_cellNow 4 (some .int) rmMo_cellNow [.ref (qMo 0), .int p1, .int p2] (gMo G qMo mo_all mo_past mo_aside mo_states mo_refused mo_causeKind mo_causeOrder mo_corner mo_linkVotes mo_linkE mo_linkF mo_follower mo_ahead mo_least mo_seam mo_above mo_below mo_text mo_textLong mo_place mo_value mo_numbers mo_not) (some (.int o.1)) (gMo G qMo o.2 mo_past mo_aside mo_states mo_refused mo_causeKind mo_causeOrder mo_corner mo_linkVotes mo_linkE mo_linkF mo_follower mo_ahead mo_least mo_seam mo_above mo_below mo_text mo_textLong mo_place mo_value mo_numbers mo_not) := by
  refine Ct.ofI (by decide +kernel) (Nat.le_of_ble_eq_true rfl) (fun p e s m args below meth c A Q E hret => ?_)
  unfold fMo_cellNow at hf
  show V G p l e rmMo_cellNow s m args below meth c 4 A Q 0 0 (gMo G qMo mo_all mo_past mo_aside mo_states mo_refused mo_causeKind mo_causeOrder mo_corner mo_linkVotes mo_linkE mo_linkF mo_follower mo_ahead mo_least mo_seam mo_above mo_below mo_text mo_textLong mo_place mo_value mo_numbers mo_not) 0 [(0, .ref (qMo 0)), (1, .int p1), (2, .int p2)] []
  refine V_aload_n E 0 rfl dX8_cellNow_0 ?_
  refine gfX8_7 E 0 rfl rfl dX8_cellNow_1 ?_
  refine V_iload_n E 1 rfl dX8_cellNow_4 ?_
  obtain ⟨hi1, hf⟩ := asr_ok hf
  refine V_iald E 1 rfl hi1 dX8_cellNow_5 ?_
  refine V_istore_n E (lv' := [(0, .ref (qMo 0)), (1, .int p1), (2, .int p2), (3, .int (mo_all p1.toNatClampNeg))]) dX8_cellNow_6 (by decide) rfl ?_
  refine V_aload_n E 0 rfl dX8_cellNow_7 ?_
  refine gfX8_7 E 0 rfl rfl dX8_cellNow_8 ?_
  refine V_iload_n E 1 rfl dX8_cellNow_11 ?_
  refine V_iload_n E 2 rfl dX8_cellNow_12 ?_
  obtain ⟨hi2, hf⟩ := asr_ok hf
  refine V_iast E (ws' := (gMo G qMo (upd mo_all p1.toNatClampNeg p2) mo_past mo_aside mo_states mo_refused mo_causeKind mo_causeOrder mo_corner mo_linkVotes mo_linkE mo_linkF mo_follower mo_ahead mo_least mo_seam mo_above mo_below mo_text mo_textLong mo_place mo_value mo_numbers mo_not)) 1 rfl hi2 dX8_cellNow_13 rfl ?_
  refine V_iload_n E 3 rfl dX8_cellNow_14 ?_
  have h9 := hret 15 [(0, .ref (qMo 0)), (1, .int p1), (2, .int p2), (3, .int (mo_all p1.toNatClampNeg))] dX8_cellNow_15
  rw [← (Option.some.inj hf)] at h9
  exact h9
abbrev rmMo_dots : Room := { frames := 2, cells := 0, slots := 0, locals := 47 }
theorem wd_yX8_dots : wdV yX8_dots cX8_dots 4 (some .int) 3 := ⟨wc_yX8_dots, wi_yX8_dots, wse_yX8_dots, wini_X8, by decide +kernel, by decide +kernel, by decide +kernel⟩
set_option maxHeartbeats 4000000 in
set_option maxRecDepth 100000 in
theorem kMo_dots (l : Launch) (G : wG) (qMo : Nat → Nat) (p1 : Int32) (p2 : Int32) (p3 : Int32) (mo_all : Nat → Int32) (mo_past : Nat → Int32) (mo_aside : Nat → Int32) (mo_states : Int32) (mo_refused : Nat → Int32) (mo_causeKind : Int32) (mo_causeOrder : Int32) (mo_corner : Nat → Int32) (mo_linkVotes : Nat → Int32) (mo_linkE : Nat → Int32) (mo_linkF : Nat → Int32) (mo_follower : Nat → Int32) (mo_ahead : Nat → Int32) (mo_least : Nat → Int32) (mo_seam : Nat → Int32) (mo_above : Int64) (mo_below : Int64) (mo_text : Nat → Int32) (mo_textLong : Int32) (mo_place : Int32) (mo_value : Int32) (mo_numbers : Nat → Int32) (mo_not : Int32) (o : Int32 × (Nat → Int32) × (Nat → Int32) × Int32 × (Nat → Int32)) (hf : fMo_dots p1 p2 p3 mo_all mo_past mo_states mo_refused = some o) : Ct G l yX8_dots cX8_dots 4 (some .int) rmMo_dots [.ref (qMo 0), .int p1, .int p2, .int p3] (gMo G qMo mo_all mo_past mo_aside mo_states mo_refused mo_causeKind mo_causeOrder mo_corner mo_linkVotes mo_linkE mo_linkF mo_follower mo_ahead mo_least mo_seam mo_above mo_below mo_text mo_textLong mo_place mo_value mo_numbers mo_not) (some (.int o.1)) (gMo G qMo o.2.1 o.2.2.1 mo_aside o.2.2.2.1 o.2.2.2.2 mo_causeKind mo_causeOrder mo_corner mo_linkVotes mo_linkE mo_linkF mo_follower mo_ahead mo_least mo_seam mo_above mo_below mo_text mo_textLong mo_place mo_value mo_numbers mo_not) := by
  refine Ct.ofI (by decide +kernel) (Nat.le_of_ble_eq_true rfl) (fun p e s m args below meth c A Q E hret => ?_)
  unfold fMo_dots at hf
  show V G p l e rmMo_dots s m args below meth c 4 A Q 0 0 (gMo G qMo mo_all mo_past mo_aside mo_states mo_refused mo_causeKind mo_causeOrder mo_corner mo_linkVotes mo_linkE mo_linkF mo_follower mo_ahead mo_least mo_seam mo_above mo_below mo_text mo_textLong mo_place mo_value mo_numbers mo_not) 0 [(0, .ref (qMo 0)), (1, .int p1), (2, .int p2), (3, .int p3)] []
  refine V_aload_n E 0 rfl dX8_dots_0 ?_
  refine V_iload_n E 1 rfl dX8_dots_1 ?_
  refine V_iload_n E 2 rfl dX8_dots_2 ?_
  obtain ⟨u1, hu1, hf⟩ := bd hf
  refine V_frW E (Rn_V E (rest := []) mlX8_104 wd_yX8_isDot (kMo_isDot l G qMo p1 p2 mo_all mo_past mo_aside mo_states mo_refused mo_causeKind mo_causeOrder mo_corner mo_linkVotes mo_linkE mo_linkF mo_follower mo_ahead mo_least mo_seam mo_above mo_below mo_text mo_textLong mo_place mo_value mo_numbers mo_not u1 hu1) ⟨rfl, rfl, Nat.le_of_ble_eq_true rfl, Nat.le_of_ble_eq_true rfl⟩ 0 rfl rfl rfl rfl rfl (Nat.le_of_ble_eq_true rfl) dX8_dots_3) ?_
  show V G p l e rmMo_dots s m args below meth c 4 A Q 0 0 (gMo G qMo mo_all mo_past mo_aside mo_states mo_refused mo_causeKind mo_causeOrder mo_corner mo_linkVotes mo_linkE mo_linkF mo_follower mo_ahead mo_least mo_seam mo_above mo_below mo_text mo_textLong mo_place mo_value mo_numbers mo_not) 6 [(0, .ref (qMo 0)), (1, .int p1), (2, .int p2), (3, .int p3)] [.int u1]
  refine V_if_eq E (tgt := 21) dX8_dots_6 (by decide) (fun hc2 => ?_) (fun hc2 => ?_)
  · have hf := ip hc2 hf
    refine V_aload_n E 0 rfl dX8_dots_21 ?_
    refine V_bipush E (v := (-2 : Int32)) dX8_dots_22 (by decide) ?_
    obtain ⟨u3, hu3, hf⟩ := bd hf
    refine V_frW E (Rn_V E (rest := []) mlX8_91 wd_yX8_refuses (kMo_refuses l G qMo (-2 : Int32) mo_all mo_past mo_aside mo_states mo_refused mo_causeKind mo_causeOrder mo_corner mo_linkVotes mo_linkE mo_linkF mo_follower mo_ahead mo_least mo_seam mo_above mo_below mo_text mo_textLong mo_place mo_value mo_numbers mo_not u3 hu3) ⟨rfl, rfl, Nat.le_of_ble_eq_true rfl, Nat.le_of_ble_eq_true rfl⟩ 0 rfl rfl rfl rfl rfl (Nat.le_of_ble_eq_true rfl) dX8_dots_24) ?_
    show V G p l e rmMo_dots s m args below meth c 4 A Q 0 0 (gMo G qMo mo_all mo_past mo_aside mo_states u3.2 mo_causeKind mo_causeOrder mo_corner mo_linkVotes mo_linkE mo_linkF mo_follower mo_ahead mo_least mo_seam mo_above mo_below mo_text mo_textLong mo_place mo_value mo_numbers mo_not) 27 [(0, .ref (qMo 0)), (1, .int p1), (2, .int p2), (3, .int p3)] [.int u3.1]
    have h9 := hret 27 [(0, .ref (qMo 0)), (1, .int p1), (2, .int p2), (3, .int p3)] dX8_dots_27
    rw [← (Option.some.inj hf)] at h9
    exact h9
  · have hf := iq hc2 hf
    refine V_iload_n E 3 rfl dX8_dots_9 ?_
    refine V_i2l E dX8_dots_10 ?_
    refine V_lconst E (v := (0 : Int64)) dX8_dots_11 (by decide) ?_
    refine V_ldc2 E (v := (63 : Int64)) dX8_dots_12 kX8_107 ?_
    obtain ⟨u4, hu4, hf⟩ := bd hf
    refine V_fr0 E (Rn_S E (rest := []) mlX8_63 wd_yX8_in (kMo_in l G p3.toInt64 (0 : Int64) (63 : Int64) u4 hu4) ⟨rfl, rfl, Nat.le_of_ble_eq_true rfl, Nat.le_of_ble_eq_true rfl⟩ rfl rfl (Nat.le_of_ble_eq_true rfl) dX8_dots_15) ?_
    show V G p l e rmMo_dots s m args below meth c 4 A Q 0 0 (gMo G qMo mo_all mo_past mo_aside mo_states mo_refused mo_causeKind mo_causeOrder mo_corner mo_linkVotes mo_linkE mo_linkF mo_follower mo_ahead mo_least mo_seam mo_above mo_below mo_text mo_textLong mo_place mo_value mo_numbers mo_not) 18 [(0, .ref (qMo 0)), (1, .int p1), (2, .int p2), (3, .int p3)] [.int u4]
    refine V_if_ne E (tgt := 28) dX8_dots_18 (by decide) (fun hc5 => ?_) (fun hc5 => ?_)
    · have hf := iq hc5 hf
      refine V_aload_n E 0 rfl dX8_dots_28 ?_
      obtain ⟨u6, hu6, hf⟩ := bd hf
      refine V_frW E (Rn_V E (rest := []) mlX8_95 wd_yX8_keep (kMo_keep l G qMo mo_all mo_past mo_aside mo_states mo_refused mo_causeKind mo_causeOrder mo_corner mo_linkVotes mo_linkE mo_linkF mo_follower mo_ahead mo_least mo_seam mo_above mo_below mo_text mo_textLong mo_place mo_value mo_numbers mo_not u6 hu6) ⟨rfl, rfl, Nat.le_of_ble_eq_true rfl, Nat.le_of_ble_eq_true rfl⟩ 0 rfl rfl rfl rfl rfl (Nat.le_of_ble_eq_true rfl) dX8_dots_29) ?_
      show V G p l e rmMo_dots s m args below meth c 4 A Q 0 0 (gMo G qMo mo_all u6.1 mo_aside u6.2 mo_refused mo_causeKind mo_causeOrder mo_corner mo_linkVotes mo_linkE mo_linkF mo_follower mo_ahead mo_least mo_seam mo_above mo_below mo_text mo_textLong mo_place mo_value mo_numbers mo_not) 32 [(0, .ref (qMo 0)), (1, .int p1), (2, .int p2), (3, .int p3)] []
      refine V_aload_n E 0 rfl dX8_dots_32 ?_
      refine V_iconst E (v := (4 : Int32)) dX8_dots_33 (by decide) ?_
      refine V_bipush E (v := (32 : Int32)) dX8_dots_34 (by decide) ?_
      refine V_iload_n E 1 rfl dX8_dots_36 ?_
      refine V_imul E dX8_dots_37 ?_
      refine V_iadd E dX8_dots_38 ?_
      refine V_iload_n E 2 rfl dX8_dots_39 ?_
      refine V_iadd E dX8_dots_40 ?_
      refine V_iload_n E 3 rfl dX8_dots_41 ?_
      obtain ⟨u7, hu7, hf⟩ := bd hf
      refine V_frW E (Rn_V E (rest := []) mlX8_109 wd_yX8_cellNow (kMo_cellNow l G qMo (((4 : Int32) + ((32 : Int32) * p1)) + p2) p3 mo_all u6.1 mo_aside u6.2 mo_refused mo_causeKind mo_causeOrder mo_corner mo_linkVotes mo_linkE mo_linkF mo_follower mo_ahead mo_least mo_seam mo_above mo_below mo_text mo_textLong mo_place mo_value mo_numbers mo_not u7 hu7) ⟨rfl, rfl, Nat.le_of_ble_eq_true rfl, Nat.le_of_ble_eq_true rfl⟩ 0 rfl rfl rfl rfl rfl (Nat.le_of_ble_eq_true rfl) dX8_dots_42) ?_
      show V G p l e rmMo_dots s m args below meth c 4 A Q 0 0 (gMo G qMo u7.2 u6.1 mo_aside u6.2 mo_refused mo_causeKind mo_causeOrder mo_corner mo_linkVotes mo_linkE mo_linkF mo_follower mo_ahead mo_least mo_seam mo_above mo_below mo_text mo_textLong mo_place mo_value mo_numbers mo_not) 45 [(0, .ref (qMo 0)), (1, .int p1), (2, .int p2), (3, .int p3)] [.int u7.1]
      have h9 := hret 45 [(0, .ref (qMo 0)), (1, .int p1), (2, .int p2), (3, .int p3)] dX8_dots_45
      rw [← (Option.some.inj hf)] at h9
      exact h9
    · have hf := ip hc5 hf
      refine V_aload_n E 0 rfl dX8_dots_21 ?_
      refine V_bipush E (v := (-2 : Int32)) dX8_dots_22 (by decide) ?_
      obtain ⟨u8, hu8, hf⟩ := bd hf
      refine V_frW E (Rn_V E (rest := []) mlX8_91 wd_yX8_refuses (kMo_refuses l G qMo (-2 : Int32) mo_all mo_past mo_aside mo_states mo_refused mo_causeKind mo_causeOrder mo_corner mo_linkVotes mo_linkE mo_linkF mo_follower mo_ahead mo_least mo_seam mo_above mo_below mo_text mo_textLong mo_place mo_value mo_numbers mo_not u8 hu8) ⟨rfl, rfl, Nat.le_of_ble_eq_true rfl, Nat.le_of_ble_eq_true rfl⟩ 0 rfl rfl rfl rfl rfl (Nat.le_of_ble_eq_true rfl) dX8_dots_24) ?_
      show V G p l e rmMo_dots s m args below meth c 4 A Q 0 0 (gMo G qMo mo_all mo_past mo_aside mo_states u8.2 mo_causeKind mo_causeOrder mo_corner mo_linkVotes mo_linkE mo_linkF mo_follower mo_ahead mo_least mo_seam mo_above mo_below mo_text mo_textLong mo_place mo_value mo_numbers mo_not) 27 [(0, .ref (qMo 0)), (1, .int p1), (2, .int p2), (3, .int p3)] [.int u8.1]
      have h9 := hret 27 [(0, .ref (qMo 0)), (1, .int p1), (2, .int p2), (3, .int p3)] dX8_dots_27
      rw [← (Option.some.inj hf)] at h9
      exact h9
abbrev rmMo_canShoot : Room := { frames := 1, cells := 0, slots := 0, locals := 25 }
theorem wd_yX8_canShoot : wdV yX8_canShoot cX8_canShoot 4 (some .int) 3 := ⟨wc_yX8_canShoot, wi_yX8_canShoot, wse_yX8_canShoot, wini_X8, by decide +kernel, by decide +kernel, by decide +kernel⟩
set_option maxHeartbeats 4000000 in
set_option maxRecDepth 100000 in
theorem kMo_canShoot (l : Launch) (G : wG) (qMo : Nat → Nat) (p1 : Int32) (p2 : Int32) (p3 : Int32) (mo_all : Nat → Int32) (mo_past : Nat → Int32) (mo_aside : Nat → Int32) (mo_states : Int32) (mo_refused : Nat → Int32) (mo_causeKind : Int32) (mo_causeOrder : Int32) (mo_corner : Nat → Int32) (mo_linkVotes : Nat → Int32) (mo_linkE : Nat → Int32) (mo_linkF : Nat → Int32) (mo_follower : Nat → Int32) (mo_ahead : Nat → Int32) (mo_least : Nat → Int32) (mo_seam : Nat → Int32) (mo_above : Int64) (mo_below : Int64) (mo_text : Nat → Int32) (mo_textLong : Int32) (mo_place : Int32) (mo_value : Int32) (mo_numbers : Nat → Int32) (mo_not : Int32) (o : Int32) (hf : fMo_canShoot p1 p2 p3 mo_all = some o) : Ct G l yX8_canShoot cX8_canShoot 4 (some .int) rmMo_canShoot [.ref (qMo 0), .int p1, .int p2, .int p3] (gMo G qMo mo_all mo_past mo_aside mo_states mo_refused mo_causeKind mo_causeOrder mo_corner mo_linkVotes mo_linkE mo_linkF mo_follower mo_ahead mo_least mo_seam mo_above mo_below mo_text mo_textLong mo_place mo_value mo_numbers mo_not) (some (.int o)) (gMo G qMo mo_all mo_past mo_aside mo_states mo_refused mo_causeKind mo_causeOrder mo_corner mo_linkVotes mo_linkE mo_linkF mo_follower mo_ahead mo_least mo_seam mo_above mo_below mo_text mo_textLong mo_place mo_value mo_numbers mo_not) := by
  refine Ct.ofI (by decide +kernel) (Nat.le_of_ble_eq_true rfl) (fun p e s m args below meth c A Q E hret => ?_)
  unfold fMo_canShoot at hf
  show V G p l e rmMo_canShoot s m args below meth c 4 A Q 0 0 (gMo G qMo mo_all mo_past mo_aside mo_states mo_refused mo_causeKind mo_causeOrder mo_corner mo_linkVotes mo_linkE mo_linkF mo_follower mo_ahead mo_least mo_seam mo_above mo_below mo_text mo_textLong mo_place mo_value mo_numbers mo_not) 0 [(0, .ref (qMo 0)), (1, .int p1), (2, .int p2), (3, .int p3)] []
  refine V_iload_n E 1 rfl dX8_canShoot_0 ?_
  refine V_i2l E dX8_canShoot_1 ?_
  refine V_lconst E (v := (0 : Int64)) dX8_canShoot_2 (by decide) ?_
  refine V_aload_n E 0 rfl dX8_canShoot_3 ?_
  refine gfX8_7 E 0 rfl rfl dX8_canShoot_4 ?_
  refine V_iconst E (v := (0 : Int32)) dX8_canShoot_7 (by decide) ?_
  obtain ⟨hi1, hf⟩ := asr_ok hf
  refine V_iald E 1 rfl hi1 dX8_canShoot_8 ?_
  refine V_iconst E (v := (1 : Int32)) dX8_canShoot_9 (by decide) ?_
  refine V_isub E dX8_canShoot_10 ?_
  refine V_i2l E dX8_canShoot_11 ?_
  obtain ⟨u2, hu2, hf⟩ := bd hf
  refine V_fr0 E (Rn_S E (rest := []) mlX8_63 wd_yX8_in (kMo_in l G p1.toInt64 (0 : Int64) (((mo_all (0 : Int32).toNatClampNeg) - (1 : Int32)).toInt64) u2 hu2) ⟨rfl, rfl, Nat.le_of_ble_eq_true rfl, Nat.le_of_ble_eq_true rfl⟩ rfl rfl (Nat.le_of_ble_eq_true rfl) dX8_canShoot_12) ?_
  show V G p l e rmMo_canShoot s m args below meth c 4 A Q 0 0 (gMo G qMo mo_all mo_past mo_aside mo_states mo_refused mo_causeKind mo_causeOrder mo_corner mo_linkVotes mo_linkE mo_linkF mo_follower mo_ahead mo_least mo_seam mo_above mo_below mo_text mo_textLong mo_place mo_value mo_numbers mo_not) 15 [(0, .ref (qMo 0)), (1, .int p1), (2, .int p2), (3, .int p3)] [.int u2]
  refine V_if_eq E (tgt := 44) dX8_canShoot_15 (by decide) (fun hc3 => ?_) (fun hc3 => ?_)
  · have hf := ip hc3 hf
    refine V_bipush E (v := (-2 : Int32)) dX8_canShoot_44 (by decide) ?_
    refine V_goto E (tgt := 64) dX8_canShoot_46 (by decide) ?_
    have h9 := hret 64 [(0, .ref (qMo 0)), (1, .int p1), (2, .int p2), (3, .int p3)] dX8_canShoot_64
    rw [← (Option.some.inj hf)] at h9
    exact h9
  · have hf := iq hc3 hf
    refine V_iload_n E 2 rfl dX8_canShoot_18 ?_
    refine V_i2l E dX8_canShoot_19 ?_
    refine V_lconst E (v := (0 : Int64)) dX8_canShoot_20 (by decide) ?_
    refine V_ldc2 E (v := (2 : Int64)) dX8_canShoot_21 kX8_112 ?_
    obtain ⟨u4, hu4, hf⟩ := bd hf
    refine V_fr0 E (Rn_S E (rest := []) mlX8_63 wd_yX8_in (kMo_in l G p2.toInt64 (0 : Int64) (2 : Int64) u4 hu4) ⟨rfl, rfl, Nat.le_of_ble_eq_true rfl, Nat.le_of_ble_eq_true rfl⟩ rfl rfl (Nat.le_of_ble_eq_true rfl) dX8_canShoot_24) ?_
    show V G p l e rmMo_canShoot s m args below meth c 4 A Q 0 0 (gMo G qMo mo_all mo_past mo_aside mo_states mo_refused mo_causeKind mo_causeOrder mo_corner mo_linkVotes mo_linkE mo_linkF mo_follower mo_ahead mo_least mo_seam mo_above mo_below mo_text mo_textLong mo_place mo_value mo_numbers mo_not) 27 [(0, .ref (qMo 0)), (1, .int p1), (2, .int p2), (3, .int p3)] [.int u4]
    refine V_if_eq E (tgt := 44) dX8_canShoot_27 (by decide) (fun hc5 => ?_) (fun hc5 => ?_)
    · have hf := ip hc5 hf
      refine V_bipush E (v := (-2 : Int32)) dX8_canShoot_44 (by decide) ?_
      refine V_goto E (tgt := 64) dX8_canShoot_46 (by decide) ?_
      have h9 := hret 64 [(0, .ref (qMo 0)), (1, .int p1), (2, .int p2), (3, .int p3)] dX8_canShoot_64
      rw [← (Option.some.inj hf)] at h9
      exact h9
    · have hf := iq hc5 hf
      refine V_iload_n E 3 rfl dX8_canShoot_30 ?_
      refine V_i2l E dX8_canShoot_31 ?_
      refine V_ldc2 E (v := (-20 : Int64)) dX8_canShoot_32 kX8_114 ?_
      refine V_ldc2 E (v := (20 : Int64)) dX8_canShoot_35 kX8_116 ?_
      obtain ⟨u6, hu6, hf⟩ := bd hf
      refine V_fr0 E (Rn_S E (rest := []) mlX8_63 wd_yX8_in (kMo_in l G p3.toInt64 (-20 : Int64) (20 : Int64) u6 hu6) ⟨rfl, rfl, Nat.le_of_ble_eq_true rfl, Nat.le_of_ble_eq_true rfl⟩ rfl rfl (Nat.le_of_ble_eq_true rfl) dX8_canShoot_38) ?_
      show V G p l e rmMo_canShoot s m args below meth c 4 A Q 0 0 (gMo G qMo mo_all mo_past mo_aside mo_states mo_refused mo_causeKind mo_causeOrder mo_corner mo_linkVotes mo_linkE mo_linkF mo_follower mo_ahead mo_least mo_seam mo_above mo_below mo_text mo_textLong mo_place mo_value mo_numbers mo_not) 41 [(0, .ref (qMo 0)), (1, .int p1), (2, .int p2), (3, .int p3)] [.int u6]
      refine V_if_ne E (tgt := 49) dX8_canShoot_41 (by decide) (fun hc7 => ?_) (fun hc7 => ?_)
      · have hf := iq hc7 hf
        refine V_aload_n E 0 rfl dX8_canShoot_49 ?_
        obtain ⟨u8, hu8, hf⟩ := bd hf
        refine V_frW E (Rn_V E (rest := []) mlX8_59 wd_yX8_many (kMo_many l G qMo mo_all mo_past mo_aside mo_states mo_refused mo_causeKind mo_causeOrder mo_corner mo_linkVotes mo_linkE mo_linkF mo_follower mo_ahead mo_least mo_seam mo_above mo_below mo_text mo_textLong mo_place mo_value mo_numbers mo_not u8 hu8) ⟨rfl, rfl, Nat.le_of_ble_eq_true rfl, Nat.le_of_ble_eq_true rfl⟩ 0 rfl rfl rfl rfl rfl (Nat.le_of_ble_eq_true rfl) dX8_canShoot_50) ?_
        show V G p l e rmMo_canShoot s m args below meth c 4 A Q 0 0 (gMo G qMo mo_all mo_past mo_aside mo_states mo_refused mo_causeKind mo_causeOrder mo_corner mo_linkVotes mo_linkE mo_linkF mo_follower mo_ahead mo_least mo_seam mo_above mo_below mo_text mo_textLong mo_place mo_value mo_numbers mo_not) 53 [(0, .ref (qMo 0)), (1, .int p1), (2, .int p2), (3, .int p3)] [.int u8]
        refine V_bipush E (v := (6 : Int32)) dX8_canShoot_53 (by decide) ?_
        refine V_icmp_ne E (tgt := 63) dX8_canShoot_55 (by decide) (fun hc9 => ?_) (fun hc9 => ?_)
        · have hf := iq hc9 hf
          refine V_iconst E (v := (0 : Int32)) dX8_canShoot_63 (by decide) ?_
          have h9 := hret 64 [(0, .ref (qMo 0)), (1, .int p1), (2, .int p2), (3, .int p3)] dX8_canShoot_64
          rw [← (Option.some.inj hf)] at h9
          exact h9
        · have hf := ip hc9 hf
          refine V_bipush E (v := (-4 : Int32)) dX8_canShoot_58 (by decide) ?_
          refine V_goto E (tgt := 64) dX8_canShoot_60 (by decide) ?_
          have h9 := hret 64 [(0, .ref (qMo 0)), (1, .int p1), (2, .int p2), (3, .int p3)] dX8_canShoot_64
          rw [← (Option.some.inj hf)] at h9
          exact h9
      · have hf := ip hc7 hf
        refine V_bipush E (v := (-2 : Int32)) dX8_canShoot_44 (by decide) ?_
        refine V_goto E (tgt := 64) dX8_canShoot_46 (by decide) ?_
        have h9 := hret 64 [(0, .ref (qMo 0)), (1, .int p1), (2, .int p2), (3, .int p3)] dX8_canShoot_64
        rw [← (Option.some.inj hf)] at h9
        exact h9
abbrev rmMo_shotNow : Room := { frames := 1, cells := 0, slots := 0, locals := 20 }
theorem wd_yX8_shotNow : wdV yX8_shotNow cX8_shotNow 7 (some .int) 3 := ⟨wc_yX8_shotNow, wi_yX8_shotNow, wse_yX8_shotNow, wini_X8, by decide +kernel, by decide +kernel, by decide +kernel⟩
set_option maxHeartbeats 4000000 in
set_option maxRecDepth 100000 in
theorem kMo_shotNow (l : Launch) (G : wG) (qMo : Nat → Nat) (p1 : Int32) (p2 : Int32) (p3 : Int32) (mo_all : Nat → Int32) (mo_past : Nat → Int32) (mo_aside : Nat → Int32) (mo_states : Int32) (mo_refused : Nat → Int32) (mo_causeKind : Int32) (mo_causeOrder : Int32) (mo_corner : Nat → Int32) (mo_linkVotes : Nat → Int32) (mo_linkE : Nat → Int32) (mo_linkF : Nat → Int32) (mo_follower : Nat → Int32) (mo_ahead : Nat → Int32) (mo_least : Nat → Int32) (mo_seam : Nat → Int32) (mo_above : Int64) (mo_below : Int64) (mo_text : Nat → Int32) (mo_textLong : Int32) (mo_place : Int32) (mo_value : Int32) (mo_numbers : Nat → Int32) (mo_not : Int32) (o : Int32 × (Nat → Int32)) (hf : fMo_shotNow p1 p2 p3 mo_all = some o) : Ct G l yX8_shotNow cX8_shotNow 7 (some .int) rmMo_shotNow [.ref (qMo 0), .int p1, .int p2, .int p3] (gMo G qMo mo_all mo_past mo_aside mo_states mo_refused mo_causeKind mo_causeOrder mo_corner mo_linkVotes mo_linkE mo_linkF mo_follower mo_ahead mo_least mo_seam mo_above mo_below mo_text mo_textLong mo_place mo_value mo_numbers mo_not) (some (.int o.1)) (gMo G qMo o.2 mo_past mo_aside mo_states mo_refused mo_causeKind mo_causeOrder mo_corner mo_linkVotes mo_linkE mo_linkF mo_follower mo_ahead mo_least mo_seam mo_above mo_below mo_text mo_textLong mo_place mo_value mo_numbers mo_not) := by
  refine Ct.ofI (by decide +kernel) (Nat.le_of_ble_eq_true rfl) (fun p e s m args below meth c A Q E hret => ?_)
  unfold fMo_shotNow at hf
  show V G p l e rmMo_shotNow s m args below meth c 7 A Q 0 0 (gMo G qMo mo_all mo_past mo_aside mo_states mo_refused mo_causeKind mo_causeOrder mo_corner mo_linkVotes mo_linkE mo_linkF mo_follower mo_ahead mo_least mo_seam mo_above mo_below mo_text mo_textLong mo_place mo_value mo_numbers mo_not) 0 [(0, .ref (qMo 0)), (1, .int p1), (2, .int p2), (3, .int p3)] []
  refine V_aload_n E 0 rfl dX8_shotNow_0 ?_
  obtain ⟨u1, hu1, hf⟩ := bd hf
  refine V_frW E (Rn_V E (rest := []) mlX8_59 wd_yX8_many (kMo_many l G qMo mo_all mo_past mo_aside mo_states mo_refused mo_causeKind mo_causeOrder mo_corner mo_linkVotes mo_linkE mo_linkF mo_follower mo_ahead mo_least mo_seam mo_above mo_below mo_text mo_textLong mo_place mo_value mo_numbers mo_not u1 hu1) ⟨rfl, rfl, Nat.le_of_ble_eq_true rfl, Nat.le_of_ble_eq_true rfl⟩ 0 rfl rfl rfl rfl rfl (Nat.le_of_ble_eq_true rfl) dX8_shotNow_1) ?_
  show V G p l e rmMo_shotNow s m args below meth c 7 A Q 0 0 (gMo G qMo mo_all mo_past mo_aside mo_states mo_refused mo_causeKind mo_causeOrder mo_corner mo_linkVotes mo_linkE mo_linkF mo_follower mo_ahead mo_least mo_seam mo_above mo_below mo_text mo_textLong mo_place mo_value mo_numbers mo_not) 4 [(0, .ref (qMo 0)), (1, .int p1), (2, .int p2), (3, .int p3)] [.int u1]
  refine V_istore E (lv' := [(0, .ref (qMo 0)), (1, .int p1), (2, .int p2), (3, .int p3), (4, .int u1)]) dX8_shotNow_4 (by decide) rfl ?_
  refine V_iconst E (v := (0 : Int32)) dX8_shotNow_6 (by decide) ?_
  refine V_istore E (lv' := [(0, .ref (qMo 0)), (1, .int p1), (2, .int p2), (3, .int p3), (4, .int u1), (5, .int (0 : Int32))]) dX8_shotNow_7 (by decide) rfl ?_
  have L9 : ∀ (n : Nat) (a9_5 : Int32) (c9_mo_all : Nat → Int32) (u : (Nat → Int32)), fMo_shotNow_L9 p1 p2 p3 u1 n a9_5 c9_mo_all = some u → (V G p l e rmMo_shotNow s m args below meth c 7 A Q 0 0 (gMo G qMo u mo_past mo_aside mo_states mo_refused mo_causeKind mo_causeOrder mo_corner mo_linkVotes mo_linkE mo_linkF mo_follower mo_ahead mo_least mo_seam mo_above mo_below mo_text mo_textLong mo_place mo_value mo_numbers mo_not) 91 [(0, .ref (qMo 0)), (1, .int p1), (2, .int p2), (4, .int u1)] []) → V G p l e rmMo_shotNow s m args below meth c 7 A Q 0 0 (gMo G qMo c9_mo_all mo_past mo_aside mo_states mo_refused mo_causeKind mo_causeOrder mo_corner mo_linkVotes mo_linkE mo_linkF mo_follower mo_ahead mo_least mo_seam mo_above mo_below mo_text mo_textLong mo_place mo_value mo_numbers mo_not) 9 [(0, .ref (qMo 0)), (1, .int p1), (2, .int p2), (3, .int p3), (4, .int u1), (5, .int a9_5)] [] := by
    intro n
    induction n with
    | zero =>
      intro a9_5 c9_mo_all u hf hk
      rw [fMo_shotNow_L9] at hf
      cases hf
    | succ n ih =>
      intro a9_5 c9_mo_all u hf hk
      rw [fMo_shotNow_L9] at hf
      refine V_iload E 5 rfl dX8_shotNow_9 ?_
      refine V_iconst E (v := (4 : Int32)) dX8_shotNow_11 (by decide) ?_
      refine V_icmp_ge E (tgt := 91) dX8_shotNow_12 (by decide) (fun hc3 => ?_) (fun hc3 => ?_)
      · have hf := ip hc3 hf
        refine V_sub [0, 1, 2, 4] rfl ?_
        rw [← Option.some.inj hf] at hk
        exact hk
      · have hf := iq hc3 hf
        refine V_iconst E (v := (0 : Int32)) dX8_shotNow_15 (by decide) ?_
        refine V_istore E (lv' := [(0, .ref (qMo 0)), (1, .int p1), (2, .int p2), (3, .int p3), (4, .int u1), (5, .int a9_5), (6, .int (0 : Int32))]) dX8_shotNow_16 (by decide) rfl ?_
        have L18 : ∀ (n : Nat) (a18_6 : Int32) (c18_mo_all : Nat → Int32) (u : (Nat → Int32)), fMo_shotNow_L18 p1 p2 p3 u1 a9_5 n a18_6 c18_mo_all = some u → (V G p l e rmMo_shotNow s m args below meth c 7 A Q 0 0 (gMo G qMo u mo_past mo_aside mo_states mo_refused mo_causeKind mo_causeOrder mo_corner mo_linkVotes mo_linkE mo_linkF mo_follower mo_ahead mo_least mo_seam mo_above mo_below mo_text mo_textLong mo_place mo_value mo_numbers mo_not) 85 [(0, .ref (qMo 0)), (1, .int p1), (2, .int p2), (3, .int p3), (4, .int u1), (5, .int a9_5)] []) → V G p l e rmMo_shotNow s m args below meth c 7 A Q 0 0 (gMo G qMo c18_mo_all mo_past mo_aside mo_states mo_refused mo_causeKind mo_causeOrder mo_corner mo_linkVotes mo_linkE mo_linkF mo_follower mo_ahead mo_least mo_seam mo_above mo_below mo_text mo_textLong mo_place mo_value mo_numbers mo_not) 18 [(0, .ref (qMo 0)), (1, .int p1), (2, .int p2), (3, .int p3), (4, .int u1), (5, .int a9_5), (6, .int a18_6)] [] := by
          intro n
          induction n with
          | zero =>
            intro a18_6 c18_mo_all u hf hk
            rw [fMo_shotNow_L18] at hf
            cases hf
          | succ n ih =>
            intro a18_6 c18_mo_all u hf hk
            rw [fMo_shotNow_L18] at hf
            refine V_iload E 6 rfl dX8_shotNow_18 ?_
            refine V_bipush E (v := (8 : Int32)) dX8_shotNow_20 (by decide) ?_
            refine V_icmp_ge E (tgt := 85) dX8_shotNow_22 (by decide) (fun hc5 => ?_) (fun hc5 => ?_)
            · have hf := ip hc5 hf
              refine V_sub [0, 1, 2, 3, 4, 5] rfl ?_
              rw [← Option.some.inj hf] at hk
              exact hk
            · have hf := iq hc5 hf
              refine V_aload_n E 0 rfl dX8_shotNow_25 ?_
              refine gfX8_7 E 0 rfl rfl dX8_shotNow_26 ?_
              refine V_sipush E (v := (196 : Int32)) dX8_shotNow_29 (by decide) ?_
              refine V_bipush E (v := (35 : Int32)) dX8_shotNow_32 (by decide) ?_
              refine V_iload E 4 rfl dX8_shotNow_34 ?_
              refine V_imul E dX8_shotNow_36 ?_
              refine V_iadd E dX8_shotNow_37 ?_
              refine V_bipush E (v := (8 : Int32)) dX8_shotNow_38 (by decide) ?_
              refine V_iload E 5 rfl dX8_shotNow_40 ?_
              refine V_imul E dX8_shotNow_42 ?_
              refine V_iadd E dX8_shotNow_43 ?_
              refine V_iload E 6 rfl dX8_shotNow_44 ?_
              refine V_iadd E dX8_shotNow_46 ?_
              refine V_aload_n E 0 rfl dX8_shotNow_47 ?_
              refine gfX8_7 E 0 rfl rfl dX8_shotNow_48 ?_
              refine V_iconst E (v := (4 : Int32)) dX8_shotNow_51 (by decide) ?_
              refine V_bipush E (v := (32 : Int32)) dX8_shotNow_52 (by decide) ?_
              refine V_iload_n E 2 rfl dX8_shotNow_54 ?_
              refine V_iload E 5 rfl dX8_shotNow_55 ?_
              refine V_iadd E dX8_shotNow_57 ?_
              refine V_imul E dX8_shotNow_58 ?_
              refine V_iadd E dX8_shotNow_59 ?_
              refine V_iload_n E 1 rfl dX8_shotNow_60 ?_
              refine V_iload E 6 rfl dX8_shotNow_61 ?_
              refine V_iadd E dX8_shotNow_63 ?_
              refine V_aload_n E 0 rfl dX8_shotNow_64 ?_
              refine gfX8_7 E 0 rfl rfl dX8_shotNow_65 ?_
              refine V_iconst E (v := (0 : Int32)) dX8_shotNow_68 (by decide) ?_
              obtain ⟨hi6, hf⟩ := asr_ok hf
              refine V_iald E 1 rfl hi6 dX8_shotNow_69 ?_
              obtain ⟨hz7, hf⟩ := asr_ok hf
              refine V_irem E dX8_shotNow_70 hz7 ?_
              refine V_iadd E dX8_shotNow_71 ?_
              obtain ⟨hi8, hf⟩ := asr_ok hf
              refine V_iald E 1 rfl hi8 dX8_shotNow_72 ?_
              refine V_iload_n E 3 rfl dX8_shotNow_73 ?_
              refine V_iadd E dX8_shotNow_74 ?_
              obtain ⟨u9, hu9, hf⟩ := bd hf
              refine V_fr0 E (Rn_S E (rest := [.int ((((196 : Int32) + ((35 : Int32) * u1)) + ((8 : Int32) * a9_5)) + a18_6), .ref (qMo 1)]) mlX8_118 wd_yX8_held (kMo_held l G ((c18_mo_all (((4 : Int32) + ((32 : Int32) * (p2 + a9_5))) + ((p1 + a18_6) - (p1 + a18_6) / (c18_mo_all (0 : Int32).toNatClampNeg) * (c18_mo_all (0 : Int32).toNatClampNeg))).toNatClampNeg) + p3) u9 hu9) ⟨rfl, rfl, Nat.le_of_ble_eq_true rfl, Nat.le_of_ble_eq_true rfl⟩ rfl rfl (Nat.le_of_ble_eq_true rfl) dX8_shotNow_75) ?_
              show V G p l e rmMo_shotNow s m args below meth c 7 A Q 0 0 (gMo G qMo c18_mo_all mo_past mo_aside mo_states mo_refused mo_causeKind mo_causeOrder mo_corner mo_linkVotes mo_linkE mo_linkF mo_follower mo_ahead mo_least mo_seam mo_above mo_below mo_text mo_textLong mo_place mo_value mo_numbers mo_not) 78 [(0, .ref (qMo 0)), (1, .int p1), (2, .int p2), (3, .int p3), (4, .int u1), (5, .int a9_5), (6, .int a18_6)] [.int u9, .int ((((196 : Int32) + ((35 : Int32) * u1)) + ((8 : Int32) * a9_5)) + a18_6), .ref (qMo 1)]
              obtain ⟨hi10, hf⟩ := asr_ok hf
              refine V_iast E (ws' := (gMo G qMo (upd c18_mo_all ((((196 : Int32) + ((35 : Int32) * u1)) + ((8 : Int32) * a9_5)) + a18_6).toNatClampNeg u9) mo_past mo_aside mo_states mo_refused mo_causeKind mo_causeOrder mo_corner mo_linkVotes mo_linkE mo_linkF mo_follower mo_ahead mo_least mo_seam mo_above mo_below mo_text mo_textLong mo_place mo_value mo_numbers mo_not)) 1 rfl hi10 dX8_shotNow_78 rfl ?_
              refine V_iinc E (v := (a18_6 + (1 : Int32))) (lv' := [(0, .ref (qMo 0)), (1, .int p1), (2, .int p2), (3, .int p3), (4, .int u1), (5, .int a9_5), (6, .int (a18_6 + (1 : Int32)))]) 6 rfl dX8_shotNow_79 rfl (by decide) rfl ?_
              refine V_goto E (tgt := 18) dX8_shotNow_82 (by decide) ?_
              exact ih (a18_6 + (1 : Int32)) (upd c18_mo_all ((((196 : Int32) + ((35 : Int32) * u1)) + ((8 : Int32) * a9_5)) + a18_6).toNatClampNeg u9) _ hf hk
        obtain ⟨u4, hu4, hf⟩ := bd hf
        refine L18 FU (0 : Int32) c9_mo_all u4 hu4 ?_
        refine V_iinc E (v := (a9_5 + (1 : Int32))) (lv' := [(0, .ref (qMo 0)), (1, .int p1), (2, .int p2), (3, .int p3), (4, .int u1), (5, .int (a9_5 + (1 : Int32)))]) 5 rfl dX8_shotNow_85 rfl (by decide) rfl ?_
        refine V_goto E (tgt := 9) dX8_shotNow_88 (by decide) ?_
        exact ih (a9_5 + (1 : Int32)) u4 _ hf hk
  obtain ⟨u2, hu2, hf⟩ := bd hf
  refine L9 FU (0 : Int32) mo_all u2 hu2 ?_
  refine V_aload_n E 0 rfl dX8_shotNow_91 ?_
  refine gfX8_7 E 0 rfl rfl dX8_shotNow_92 ?_
  refine V_sipush E (v := (196 : Int32)) dX8_shotNow_95 (by decide) ?_
  refine V_bipush E (v := (35 : Int32)) dX8_shotNow_98 (by decide) ?_
  refine V_iload E 3 rfl dX8_shotNow_100 ?_
  refine V_imul E dX8_shotNow_102 ?_
  refine V_iadd E dX8_shotNow_103 ?_
  refine V_bipush E (v := (32 : Int32)) dX8_shotNow_104 (by decide) ?_
  refine V_iadd E dX8_shotNow_106 ?_
  refine V_iload_n E 1 rfl dX8_shotNow_107 ?_
  obtain ⟨hi11, hf⟩ := asr_ok hf
  refine V_iast E (ws' := (gMo G qMo (upd u2 (((196 : Int32) + ((35 : Int32) * u1)) + (32 : Int32)).toNatClampNeg p1) mo_past mo_aside mo_states mo_refused mo_causeKind mo_causeOrder mo_corner mo_linkVotes mo_linkE mo_linkF mo_follower mo_ahead mo_least mo_seam mo_above mo_below mo_text mo_textLong mo_place mo_value mo_numbers mo_not)) 1 rfl hi11 dX8_shotNow_108 rfl ?_
  refine V_aload_n E 0 rfl dX8_shotNow_109 ?_
  refine gfX8_7 E 0 rfl rfl dX8_shotNow_110 ?_
  refine V_sipush E (v := (196 : Int32)) dX8_shotNow_113 (by decide) ?_
  refine V_bipush E (v := (35 : Int32)) dX8_shotNow_116 (by decide) ?_
  refine V_iload E 3 rfl dX8_shotNow_118 ?_
  refine V_imul E dX8_shotNow_120 ?_
  refine V_iadd E dX8_shotNow_121 ?_
  refine V_bipush E (v := (32 : Int32)) dX8_shotNow_122 (by decide) ?_
  refine V_iadd E dX8_shotNow_124 ?_
  refine V_iconst E (v := (1 : Int32)) dX8_shotNow_125 (by decide) ?_
  refine V_iadd E dX8_shotNow_126 ?_
  refine V_iload_n E 2 rfl dX8_shotNow_127 ?_
  obtain ⟨hi12, hf⟩ := asr_ok hf
  refine V_iast E (ws' := (gMo G qMo (upd (upd u2 (((196 : Int32) + ((35 : Int32) * u1)) + (32 : Int32)).toNatClampNeg p1) ((((196 : Int32) + ((35 : Int32) * u1)) + (32 : Int32)) + (1 : Int32)).toNatClampNeg p2) mo_past mo_aside mo_states mo_refused mo_causeKind mo_causeOrder mo_corner mo_linkVotes mo_linkE mo_linkF mo_follower mo_ahead mo_least mo_seam mo_above mo_below mo_text mo_textLong mo_place mo_value mo_numbers mo_not)) 1 rfl hi12 dX8_shotNow_128 rfl ?_
  refine V_aload_n E 0 rfl dX8_shotNow_129 ?_
  refine gfX8_7 E 0 rfl rfl dX8_shotNow_130 ?_
  refine V_sipush E (v := (196 : Int32)) dX8_shotNow_133 (by decide) ?_
  refine V_bipush E (v := (35 : Int32)) dX8_shotNow_136 (by decide) ?_
  refine V_iload E 3 rfl dX8_shotNow_138 ?_
  refine V_imul E dX8_shotNow_140 ?_
  refine V_iadd E dX8_shotNow_141 ?_
  refine V_bipush E (v := (32 : Int32)) dX8_shotNow_142 (by decide) ?_
  refine V_iadd E dX8_shotNow_144 ?_
  refine V_iconst E (v := (2 : Int32)) dX8_shotNow_145 (by decide) ?_
  refine V_iadd E dX8_shotNow_146 ?_
  refine V_aload_n E 0 rfl dX8_shotNow_147 ?_
  refine gfX8_7 E 0 rfl rfl dX8_shotNow_148 ?_
  refine V_iconst E (v := (0 : Int32)) dX8_shotNow_151 (by decide) ?_
  obtain ⟨hi13, hf⟩ := asr_ok hf
  refine V_iald E 1 rfl hi13 dX8_shotNow_152 ?_
  obtain ⟨hi14, hf⟩ := asr_ok hf
  refine V_iast E (ws' := (gMo G qMo (upd (upd (upd u2 (((196 : Int32) + ((35 : Int32) * u1)) + (32 : Int32)).toNatClampNeg p1) ((((196 : Int32) + ((35 : Int32) * u1)) + (32 : Int32)) + (1 : Int32)).toNatClampNeg p2) ((((196 : Int32) + ((35 : Int32) * u1)) + (32 : Int32)) + (2 : Int32)).toNatClampNeg ((upd (upd u2 (((196 : Int32) + ((35 : Int32) * u1)) + (32 : Int32)).toNatClampNeg p1) ((((196 : Int32) + ((35 : Int32) * u1)) + (32 : Int32)) + (1 : Int32)).toNatClampNeg p2) (0 : Int32).toNatClampNeg)) mo_past mo_aside mo_states mo_refused mo_causeKind mo_causeOrder mo_corner mo_linkVotes mo_linkE mo_linkF mo_follower mo_ahead mo_least mo_seam mo_above mo_below mo_text mo_textLong mo_place mo_value mo_numbers mo_not)) 1 rfl hi14 dX8_shotNow_153 rfl ?_
  refine V_aload_n E 0 rfl dX8_shotNow_154 ?_
  refine gfX8_7 E 0 rfl rfl dX8_shotNow_155 ?_
  refine V_iconst E (v := (3 : Int32)) dX8_shotNow_158 (by decide) ?_
  refine V_dup2 E dX8_shotNow_159 rfl rfl ?_
  obtain ⟨hi15, hf⟩ := asr_ok hf
  refine V_iald E 1 rfl hi15 dX8_shotNow_160 ?_
  refine V_iconst E (v := (1 : Int32)) dX8_shotNow_161 (by decide) ?_
  refine V_iadd E dX8_shotNow_162 ?_
  obtain ⟨hi16, hf⟩ := asr_ok hf
  refine V_iast E (ws' := (gMo G qMo (upd (upd (upd (upd u2 (((196 : Int32) + ((35 : Int32) * u1)) + (32 : Int32)).toNatClampNeg p1) ((((196 : Int32) + ((35 : Int32) * u1)) + (32 : Int32)) + (1 : Int32)).toNatClampNeg p2) ((((196 : Int32) + ((35 : Int32) * u1)) + (32 : Int32)) + (2 : Int32)).toNatClampNeg ((upd (upd u2 (((196 : Int32) + ((35 : Int32) * u1)) + (32 : Int32)).toNatClampNeg p1) ((((196 : Int32) + ((35 : Int32) * u1)) + (32 : Int32)) + (1 : Int32)).toNatClampNeg p2) (0 : Int32).toNatClampNeg)) (3 : Int32).toNatClampNeg (((upd (upd (upd u2 (((196 : Int32) + ((35 : Int32) * u1)) + (32 : Int32)).toNatClampNeg p1) ((((196 : Int32) + ((35 : Int32) * u1)) + (32 : Int32)) + (1 : Int32)).toNatClampNeg p2) ((((196 : Int32) + ((35 : Int32) * u1)) + (32 : Int32)) + (2 : Int32)).toNatClampNeg ((upd (upd u2 (((196 : Int32) + ((35 : Int32) * u1)) + (32 : Int32)).toNatClampNeg p1) ((((196 : Int32) + ((35 : Int32) * u1)) + (32 : Int32)) + (1 : Int32)).toNatClampNeg p2) (0 : Int32).toNatClampNeg)) (3 : Int32).toNatClampNeg) + (1 : Int32))) mo_past mo_aside mo_states mo_refused mo_causeKind mo_causeOrder mo_corner mo_linkVotes mo_linkE mo_linkF mo_follower mo_ahead mo_least mo_seam mo_above mo_below mo_text mo_textLong mo_place mo_value mo_numbers mo_not)) 1 rfl hi16 dX8_shotNow_163 rfl ?_
  refine V_iload E 3 rfl dX8_shotNow_164 ?_
  have h9 := hret 166 [(0, .ref (qMo 0)), (1, .int p1), (2, .int p2), (4, .int u1)] dX8_shotNow_166
  rw [← (Option.some.inj hf)] at h9
  exact h9
abbrev rmMo_shot : Room := { frames := 2, cells := 0, slots := 0, locals := 48 }
theorem wd_yX8_shot : wdV yX8_shot cX8_shot 5 (some .int) 3 := ⟨wc_yX8_shot, wi_yX8_shot, wse_yX8_shot, wini_X8, by decide +kernel, by decide +kernel, by decide +kernel⟩
set_option maxHeartbeats 4000000 in
set_option maxRecDepth 100000 in
theorem kMo_shot (l : Launch) (G : wG) (qMo : Nat → Nat) (p1 : Int32) (p2 : Int32) (p3 : Int32) (mo_all : Nat → Int32) (mo_past : Nat → Int32) (mo_aside : Nat → Int32) (mo_states : Int32) (mo_refused : Nat → Int32) (mo_causeKind : Int32) (mo_causeOrder : Int32) (mo_corner : Nat → Int32) (mo_linkVotes : Nat → Int32) (mo_linkE : Nat → Int32) (mo_linkF : Nat → Int32) (mo_follower : Nat → Int32) (mo_ahead : Nat → Int32) (mo_least : Nat → Int32) (mo_seam : Nat → Int32) (mo_above : Int64) (mo_below : Int64) (mo_text : Nat → Int32) (mo_textLong : Int32) (mo_place : Int32) (mo_value : Int32) (mo_numbers : Nat → Int32) (mo_not : Int32) (o : Int32 × (Nat → Int32) × (Nat → Int32) × Int32 × (Nat → Int32)) (hf : fMo_shot p1 p2 p3 mo_all mo_past mo_states mo_refused = some o) : Ct G l yX8_shot cX8_shot 5 (some .int) rmMo_shot [.ref (qMo 0), .int p1, .int p2, .int p3] (gMo G qMo mo_all mo_past mo_aside mo_states mo_refused mo_causeKind mo_causeOrder mo_corner mo_linkVotes mo_linkE mo_linkF mo_follower mo_ahead mo_least mo_seam mo_above mo_below mo_text mo_textLong mo_place mo_value mo_numbers mo_not) (some (.int o.1)) (gMo G qMo o.2.1 o.2.2.1 mo_aside o.2.2.2.1 o.2.2.2.2 mo_causeKind mo_causeOrder mo_corner mo_linkVotes mo_linkE mo_linkF mo_follower mo_ahead mo_least mo_seam mo_above mo_below mo_text mo_textLong mo_place mo_value mo_numbers mo_not) := by
  refine Ct.ofI (by decide +kernel) (Nat.le_of_ble_eq_true rfl) (fun p e s m args below meth c A Q E hret => ?_)
  unfold fMo_shot at hf
  show V G p l e rmMo_shot s m args below meth c 5 A Q 0 0 (gMo G qMo mo_all mo_past mo_aside mo_states mo_refused mo_causeKind mo_causeOrder mo_corner mo_linkVotes mo_linkE mo_linkF mo_follower mo_ahead mo_least mo_seam mo_above mo_below mo_text mo_textLong mo_place mo_value mo_numbers mo_not) 0 [(0, .ref (qMo 0)), (1, .int p1), (2, .int p2), (3, .int p3)] []
  refine V_aload_n E 0 rfl dX8_shot_0 ?_
  refine V_iload_n E 1 rfl dX8_shot_1 ?_
  refine V_iload_n E 2 rfl dX8_shot_2 ?_
  refine V_iload_n E 3 rfl dX8_shot_3 ?_
  obtain ⟨u1, hu1, hf⟩ := bd hf
  refine V_frW E (Rn_V E (rest := []) mlX8_121 wd_yX8_canShoot (kMo_canShoot l G qMo p1 p2 p3 mo_all mo_past mo_aside mo_states mo_refused mo_causeKind mo_causeOrder mo_corner mo_linkVotes mo_linkE mo_linkF mo_follower mo_ahead mo_least mo_seam mo_above mo_below mo_text mo_textLong mo_place mo_value mo_numbers mo_not u1 hu1) ⟨rfl, rfl, Nat.le_of_ble_eq_true rfl, Nat.le_of_ble_eq_true rfl⟩ 0 rfl rfl rfl rfl rfl (Nat.le_of_ble_eq_true rfl) dX8_shot_4) ?_
  show V G p l e rmMo_shot s m args below meth c 5 A Q 0 0 (gMo G qMo mo_all mo_past mo_aside mo_states mo_refused mo_causeKind mo_causeOrder mo_corner mo_linkVotes mo_linkE mo_linkF mo_follower mo_ahead mo_least mo_seam mo_above mo_below mo_text mo_textLong mo_place mo_value mo_numbers mo_not) 7 [(0, .ref (qMo 0)), (1, .int p1), (2, .int p2), (3, .int p3)] [.int u1]
  refine V_istore E (lv' := [(0, .ref (qMo 0)), (1, .int p1), (2, .int p2), (3, .int p3), (4, .int u1)]) dX8_shot_7 (by decide) rfl ?_
  refine V_iload E 4 rfl dX8_shot_9 ?_
  refine V_if_ge E (tgt := 21) dX8_shot_11 (by decide) (fun hc2 => ?_) (fun hc2 => ?_)
  · have hf := ip hc2 hf
    refine V_aload_n E 0 rfl dX8_shot_21 ?_
    obtain ⟨u3, hu3, hf⟩ := bd hf
    refine V_frW E (Rn_V E (rest := []) mlX8_95 wd_yX8_keep (kMo_keep l G qMo mo_all mo_past mo_aside mo_states mo_refused mo_causeKind mo_causeOrder mo_corner mo_linkVotes mo_linkE mo_linkF mo_follower mo_ahead mo_least mo_seam mo_above mo_below mo_text mo_textLong mo_place mo_value mo_numbers mo_not u3 hu3) ⟨rfl, rfl, Nat.le_of_ble_eq_true rfl, Nat.le_of_ble_eq_true rfl⟩ 0 rfl rfl rfl rfl rfl (Nat.le_of_ble_eq_true rfl) dX8_shot_22) ?_
    show V G p l e rmMo_shot s m args below meth c 5 A Q 0 0 (gMo G qMo mo_all u3.1 mo_aside u3.2 mo_refused mo_causeKind mo_causeOrder mo_corner mo_linkVotes mo_linkE mo_linkF mo_follower mo_ahead mo_least mo_seam mo_above mo_below mo_text mo_textLong mo_place mo_value mo_numbers mo_not) 25 [(0, .ref (qMo 0)), (1, .int p1), (2, .int p2), (3, .int p3), (4, .int u1)] []
    refine V_aload_n E 0 rfl dX8_shot_25 ?_
    refine V_iload_n E 1 rfl dX8_shot_26 ?_
    refine V_iload_n E 2 rfl dX8_shot_27 ?_
    refine V_iload_n E 3 rfl dX8_shot_28 ?_
    obtain ⟨u4, hu4, hf⟩ := bd hf
    refine V_frW E (Rn_V E (rest := []) mlX8_125 wd_yX8_shotNow (kMo_shotNow l G qMo p1 p2 p3 mo_all u3.1 mo_aside u3.2 mo_refused mo_causeKind mo_causeOrder mo_corner mo_linkVotes mo_linkE mo_linkF mo_follower mo_ahead mo_least mo_seam mo_above mo_below mo_text mo_textLong mo_place mo_value mo_numbers mo_not u4 hu4) ⟨rfl, rfl, Nat.le_of_ble_eq_true rfl, Nat.le_of_ble_eq_true rfl⟩ 0 rfl rfl rfl rfl rfl (Nat.le_of_ble_eq_true rfl) dX8_shot_29) ?_
    show V G p l e rmMo_shot s m args below meth c 5 A Q 0 0 (gMo G qMo u4.2 u3.1 mo_aside u3.2 mo_refused mo_causeKind mo_causeOrder mo_corner mo_linkVotes mo_linkE mo_linkF mo_follower mo_ahead mo_least mo_seam mo_above mo_below mo_text mo_textLong mo_place mo_value mo_numbers mo_not) 32 [(0, .ref (qMo 0)), (1, .int p1), (2, .int p2), (3, .int p3), (4, .int u1)] [.int u4.1]
    have h9 := hret 32 [(0, .ref (qMo 0)), (1, .int p1), (2, .int p2), (3, .int p3), (4, .int u1)] dX8_shot_32
    rw [← (Option.some.inj hf)] at h9
    exact h9
  · have hf := iq hc2 hf
    refine V_aload_n E 0 rfl dX8_shot_14 ?_
    refine V_iload E 4 rfl dX8_shot_15 ?_
    obtain ⟨u5, hu5, hf⟩ := bd hf
    refine V_frW E (Rn_V E (rest := []) mlX8_91 wd_yX8_refuses (kMo_refuses l G qMo u1 mo_all mo_past mo_aside mo_states mo_refused mo_causeKind mo_causeOrder mo_corner mo_linkVotes mo_linkE mo_linkF mo_follower mo_ahead mo_least mo_seam mo_above mo_below mo_text mo_textLong mo_place mo_value mo_numbers mo_not u5 hu5) ⟨rfl, rfl, Nat.le_of_ble_eq_true rfl, Nat.le_of_ble_eq_true rfl⟩ 0 rfl rfl rfl rfl rfl (Nat.le_of_ble_eq_true rfl) dX8_shot_17) ?_
    show V G p l e rmMo_shot s m args below meth c 5 A Q 0 0 (gMo G qMo mo_all mo_past mo_aside mo_states u5.2 mo_causeKind mo_causeOrder mo_corner mo_linkVotes mo_linkE mo_linkF mo_follower mo_ahead mo_least mo_seam mo_above mo_below mo_text mo_textLong mo_place mo_value mo_numbers mo_not) 20 [(0, .ref (qMo 0)), (1, .int p1), (2, .int p2), (3, .int p3), (4, .int u1)] [.int u5.1]
    have h9 := hret 20 [(0, .ref (qMo 0)), (1, .int p1), (2, .int p2), (3, .int p3), (4, .int u1)] dX8_shot_20
    rw [← (Option.some.inj hf)] at h9
    exact h9
abbrev rmMo_paint : Room := { frames := 2, cells := 0, slots := 0, locals := 46 }
theorem wd_yX8_paint : wdV yX8_paint cX8_paint 5 (some .int) 4 := ⟨wc_yX8_paint, wi_yX8_paint, wse_yX8_paint, wini_X8, by decide +kernel, by decide +kernel, by decide +kernel⟩
set_option maxHeartbeats 4000000 in
set_option maxRecDepth 100000 in
theorem kMo_paint (l : Launch) (G : wG) (qMo : Nat → Nat) (p1 : Int32) (p2 : Int32) (p3 : Int32) (p4 : Int32) (mo_all : Nat → Int32) (mo_past : Nat → Int32) (mo_aside : Nat → Int32) (mo_states : Int32) (mo_refused : Nat → Int32) (mo_causeKind : Int32) (mo_causeOrder : Int32) (mo_corner : Nat → Int32) (mo_linkVotes : Nat → Int32) (mo_linkE : Nat → Int32) (mo_linkF : Nat → Int32) (mo_follower : Nat → Int32) (mo_ahead : Nat → Int32) (mo_least : Nat → Int32) (mo_seam : Nat → Int32) (mo_above : Int64) (mo_below : Int64) (mo_text : Nat → Int32) (mo_textLong : Int32) (mo_place : Int32) (mo_value : Int32) (mo_numbers : Nat → Int32) (mo_not : Int32) (o : Int32 × (Nat → Int32) × (Nat → Int32) × Int32 × (Nat → Int32)) (hf : fMo_paint p1 p2 p3 p4 mo_all mo_past mo_states mo_refused = some o) : Ct G l yX8_paint cX8_paint 5 (some .int) rmMo_paint [.ref (qMo 0), .int p1, .int p2, .int p3, .int p4] (gMo G qMo mo_all mo_past mo_aside mo_states mo_refused mo_causeKind mo_causeOrder mo_corner mo_linkVotes mo_linkE mo_linkF mo_follower mo_ahead mo_least mo_seam mo_above mo_below mo_text mo_textLong mo_place mo_value mo_numbers mo_not) (some (.int o.1)) (gMo G qMo o.2.1 o.2.2.1 mo_aside o.2.2.2.1 o.2.2.2.2 mo_causeKind mo_causeOrder mo_corner mo_linkVotes mo_linkE mo_linkF mo_follower mo_ahead mo_least mo_seam mo_above mo_below mo_text mo_textLong mo_place mo_value mo_numbers mo_not) := by
  refine Ct.ofI (by decide +kernel) (Nat.le_of_ble_eq_true rfl) (fun p e s m args below meth c A Q E hret => ?_)
  unfold fMo_paint at hf
  show V G p l e rmMo_paint s m args below meth c 5 A Q 0 0 (gMo G qMo mo_all mo_past mo_aside mo_states mo_refused mo_causeKind mo_causeOrder mo_corner mo_linkVotes mo_linkE mo_linkF mo_follower mo_ahead mo_least mo_seam mo_above mo_below mo_text mo_textLong mo_place mo_value mo_numbers mo_not) 0 [(0, .ref (qMo 0)), (1, .int p1), (2, .int p2), (3, .int p3), (4, .int p4)] []
  refine V_aload_n E 0 rfl dX8_paint_0 ?_
  refine V_iload_n E 1 rfl dX8_paint_1 ?_
  obtain ⟨u1, hu1, hf⟩ := bd hf
  refine V_frW E (Rn_V E (rest := []) mlX8_128 wd_yX8_isPicture (kMo_isPicture l G qMo p1 mo_all mo_past mo_aside mo_states mo_refused mo_causeKind mo_causeOrder mo_corner mo_linkVotes mo_linkE mo_linkF mo_follower mo_ahead mo_least mo_seam mo_above mo_below mo_text mo_textLong mo_place mo_value mo_numbers mo_not u1 hu1) ⟨rfl, rfl, Nat.le_of_ble_eq_true rfl, Nat.le_of_ble_eq_true rfl⟩ 0 rfl rfl rfl rfl rfl (Nat.le_of_ble_eq_true rfl) dX8_paint_2) ?_
  show V G p l e rmMo_paint s m args below meth c 5 A Q 0 0 (gMo G qMo mo_all mo_past mo_aside mo_states mo_refused mo_causeKind mo_causeOrder mo_corner mo_linkVotes mo_linkE mo_linkF mo_follower mo_ahead mo_least mo_seam mo_above mo_below mo_text mo_textLong mo_place mo_value mo_numbers mo_not) 5 [(0, .ref (qMo 0)), (1, .int p1), (2, .int p2), (3, .int p3), (4, .int p4)] [.int u1]
  refine V_if_eq E (tgt := 29) dX8_paint_5 (by decide) (fun hc2 => ?_) (fun hc2 => ?_)
  · have hf := ip hc2 hf
    refine V_aload_n E 0 rfl dX8_paint_29 ?_
    refine V_bipush E (v := (-2 : Int32)) dX8_paint_30 (by decide) ?_
    obtain ⟨u3, hu3, hf⟩ := bd hf
    refine V_frW E (Rn_V E (rest := []) mlX8_91 wd_yX8_refuses (kMo_refuses l G qMo (-2 : Int32) mo_all mo_past mo_aside mo_states mo_refused mo_causeKind mo_causeOrder mo_corner mo_linkVotes mo_linkE mo_linkF mo_follower mo_ahead mo_least mo_seam mo_above mo_below mo_text mo_textLong mo_place mo_value mo_numbers mo_not u3 hu3) ⟨rfl, rfl, Nat.le_of_ble_eq_true rfl, Nat.le_of_ble_eq_true rfl⟩ 0 rfl rfl rfl rfl rfl (Nat.le_of_ble_eq_true rfl) dX8_paint_32) ?_
    show V G p l e rmMo_paint s m args below meth c 5 A Q 0 0 (gMo G qMo mo_all mo_past mo_aside mo_states u3.2 mo_causeKind mo_causeOrder mo_corner mo_linkVotes mo_linkE mo_linkF mo_follower mo_ahead mo_least mo_seam mo_above mo_below mo_text mo_textLong mo_place mo_value mo_numbers mo_not) 35 [(0, .ref (qMo 0)), (1, .int p1), (2, .int p2), (3, .int p3), (4, .int p4)] [.int u3.1]
    have h9 := hret 35 [(0, .ref (qMo 0)), (1, .int p1), (2, .int p2), (3, .int p3), (4, .int p4)] dX8_paint_35
    rw [← (Option.some.inj hf)] at h9
    exact h9
  · have hf := iq hc2 hf
    refine V_iload_n E 2 rfl dX8_paint_8 ?_
    refine V_iload_n E 3 rfl dX8_paint_9 ?_
    obtain ⟨u4, hu4, hf⟩ := bd hf
    refine V_fr0 E (Rn_S E (rest := []) mlX8_132 wd_yX8_isCell (kMo_isCell l G p2 p3 u4 hu4) ⟨rfl, rfl, Nat.le_of_ble_eq_true rfl, Nat.le_of_ble_eq_true rfl⟩ rfl rfl (Nat.le_of_ble_eq_true rfl) dX8_paint_10) ?_
    show V G p l e rmMo_paint s m args below meth c 5 A Q 0 0 (gMo G qMo mo_all mo_past mo_aside mo_states mo_refused mo_causeKind mo_causeOrder mo_corner mo_linkVotes mo_linkE mo_linkF mo_follower mo_ahead mo_least mo_seam mo_above mo_below mo_text mo_textLong mo_place mo_value mo_numbers mo_not) 13 [(0, .ref (qMo 0)), (1, .int p1), (2, .int p2), (3, .int p3), (4, .int p4)] [.int u4]
    refine V_if_eq E (tgt := 29) dX8_paint_13 (by decide) (fun hc5 => ?_) (fun hc5 => ?_)
    · have hf := ip hc5 hf
      refine V_aload_n E 0 rfl dX8_paint_29 ?_
      refine V_bipush E (v := (-2 : Int32)) dX8_paint_30 (by decide) ?_
      obtain ⟨u6, hu6, hf⟩ := bd hf
      refine V_frW E (Rn_V E (rest := []) mlX8_91 wd_yX8_refuses (kMo_refuses l G qMo (-2 : Int32) mo_all mo_past mo_aside mo_states mo_refused mo_causeKind mo_causeOrder mo_corner mo_linkVotes mo_linkE mo_linkF mo_follower mo_ahead mo_least mo_seam mo_above mo_below mo_text mo_textLong mo_place mo_value mo_numbers mo_not u6 hu6) ⟨rfl, rfl, Nat.le_of_ble_eq_true rfl, Nat.le_of_ble_eq_true rfl⟩ 0 rfl rfl rfl rfl rfl (Nat.le_of_ble_eq_true rfl) dX8_paint_32) ?_
      show V G p l e rmMo_paint s m args below meth c 5 A Q 0 0 (gMo G qMo mo_all mo_past mo_aside mo_states u6.2 mo_causeKind mo_causeOrder mo_corner mo_linkVotes mo_linkE mo_linkF mo_follower mo_ahead mo_least mo_seam mo_above mo_below mo_text mo_textLong mo_place mo_value mo_numbers mo_not) 35 [(0, .ref (qMo 0)), (1, .int p1), (2, .int p2), (3, .int p3), (4, .int p4)] [.int u6.1]
      have h9 := hret 35 [(0, .ref (qMo 0)), (1, .int p1), (2, .int p2), (3, .int p3), (4, .int p4)] dX8_paint_35
      rw [← (Option.some.inj hf)] at h9
      exact h9
    · have hf := iq hc5 hf
      refine V_iload E 4 rfl dX8_paint_16 ?_
      refine V_i2l E dX8_paint_18 ?_
      refine V_lconst E (v := (0 : Int64)) dX8_paint_19 (by decide) ?_
      refine V_ldc2 E (v := (63 : Int64)) dX8_paint_20 kX8_107 ?_
      obtain ⟨u7, hu7, hf⟩ := bd hf
      refine V_fr0 E (Rn_S E (rest := []) mlX8_63 wd_yX8_in (kMo_in l G p4.toInt64 (0 : Int64) (63 : Int64) u7 hu7) ⟨rfl, rfl, Nat.le_of_ble_eq_true rfl, Nat.le_of_ble_eq_true rfl⟩ rfl rfl (Nat.le_of_ble_eq_true rfl) dX8_paint_23) ?_
      show V G p l e rmMo_paint s m args below meth c 5 A Q 0 0 (gMo G qMo mo_all mo_past mo_aside mo_states mo_refused mo_causeKind mo_causeOrder mo_corner mo_linkVotes mo_linkE mo_linkF mo_follower mo_ahead mo_least mo_seam mo_above mo_below mo_text mo_textLong mo_place mo_value mo_numbers mo_not) 26 [(0, .ref (qMo 0)), (1, .int p1), (2, .int p2), (3, .int p3), (4, .int p4)] [.int u7]
      refine V_if_ne E (tgt := 36) dX8_paint_26 (by decide) (fun hc8 => ?_) (fun hc8 => ?_)
      · have hf := iq hc8 hf
        refine V_aload_n E 0 rfl dX8_paint_36 ?_
        obtain ⟨u9, hu9, hf⟩ := bd hf
        refine V_frW E (Rn_V E (rest := []) mlX8_95 wd_yX8_keep (kMo_keep l G qMo mo_all mo_past mo_aside mo_states mo_refused mo_causeKind mo_causeOrder mo_corner mo_linkVotes mo_linkE mo_linkF mo_follower mo_ahead mo_least mo_seam mo_above mo_below mo_text mo_textLong mo_place mo_value mo_numbers mo_not u9 hu9) ⟨rfl, rfl, Nat.le_of_ble_eq_true rfl, Nat.le_of_ble_eq_true rfl⟩ 0 rfl rfl rfl rfl rfl (Nat.le_of_ble_eq_true rfl) dX8_paint_37) ?_
        show V G p l e rmMo_paint s m args below meth c 5 A Q 0 0 (gMo G qMo mo_all u9.1 mo_aside u9.2 mo_refused mo_causeKind mo_causeOrder mo_corner mo_linkVotes mo_linkE mo_linkF mo_follower mo_ahead mo_least mo_seam mo_above mo_below mo_text mo_textLong mo_place mo_value mo_numbers mo_not) 40 [(0, .ref (qMo 0)), (1, .int p1), (2, .int p2), (3, .int p3), (4, .int p4)] []
        refine V_aload_n E 0 rfl dX8_paint_40 ?_
        refine V_sipush E (v := (196 : Int32)) dX8_paint_41 (by decide) ?_
        refine V_bipush E (v := (35 : Int32)) dX8_paint_44 (by decide) ?_
        refine V_iload_n E 1 rfl dX8_paint_46 ?_
        refine V_imul E dX8_paint_47 ?_
        refine V_iadd E dX8_paint_48 ?_
        refine V_bipush E (v := (8 : Int32)) dX8_paint_49 (by decide) ?_
        refine V_iload_n E 2 rfl dX8_paint_51 ?_
        refine V_imul E dX8_paint_52 ?_
        refine V_iadd E dX8_paint_53 ?_
        refine V_iload_n E 3 rfl dX8_paint_54 ?_
        refine V_iadd E dX8_paint_55 ?_
        refine V_iload E 4 rfl dX8_paint_56 ?_
        obtain ⟨u10, hu10, hf⟩ := bd hf
        refine V_frW E (Rn_V E (rest := []) mlX8_109 wd_yX8_cellNow (kMo_cellNow l G qMo ((((196 : Int32) + ((35 : Int32) * p1)) + ((8 : Int32) * p2)) + p3) p4 mo_all u9.1 mo_aside u9.2 mo_refused mo_causeKind mo_causeOrder mo_corner mo_linkVotes mo_linkE mo_linkF mo_follower mo_ahead mo_least mo_seam mo_above mo_below mo_text mo_textLong mo_place mo_value mo_numbers mo_not u10 hu10) ⟨rfl, rfl, Nat.le_of_ble_eq_true rfl, Nat.le_of_ble_eq_true rfl⟩ 0 rfl rfl rfl rfl rfl (Nat.le_of_ble_eq_true rfl) dX8_paint_58) ?_
        show V G p l e rmMo_paint s m args below meth c 5 A Q 0 0 (gMo G qMo u10.2 u9.1 mo_aside u9.2 mo_refused mo_causeKind mo_causeOrder mo_corner mo_linkVotes mo_linkE mo_linkF mo_follower mo_ahead mo_least mo_seam mo_above mo_below mo_text mo_textLong mo_place mo_value mo_numbers mo_not) 61 [(0, .ref (qMo 0)), (1, .int p1), (2, .int p2), (3, .int p3), (4, .int p4)] [.int u10.1]
        have h9 := hret 61 [(0, .ref (qMo 0)), (1, .int p1), (2, .int p2), (3, .int p3), (4, .int p4)] dX8_paint_61
        rw [← (Option.some.inj hf)] at h9
        exact h9
      · have hf := ip hc8 hf
        refine V_aload_n E 0 rfl dX8_paint_29 ?_
        refine V_bipush E (v := (-2 : Int32)) dX8_paint_30 (by decide) ?_
        obtain ⟨u11, hu11, hf⟩ := bd hf
        refine V_frW E (Rn_V E (rest := []) mlX8_91 wd_yX8_refuses (kMo_refuses l G qMo (-2 : Int32) mo_all mo_past mo_aside mo_states mo_refused mo_causeKind mo_causeOrder mo_corner mo_linkVotes mo_linkE mo_linkF mo_follower mo_ahead mo_least mo_seam mo_above mo_below mo_text mo_textLong mo_place mo_value mo_numbers mo_not u11 hu11) ⟨rfl, rfl, Nat.le_of_ble_eq_true rfl, Nat.le_of_ble_eq_true rfl⟩ 0 rfl rfl rfl rfl rfl (Nat.le_of_ble_eq_true rfl) dX8_paint_32) ?_
        show V G p l e rmMo_paint s m args below meth c 5 A Q 0 0 (gMo G qMo mo_all mo_past mo_aside mo_states u11.2 mo_causeKind mo_causeOrder mo_corner mo_linkVotes mo_linkE mo_linkF mo_follower mo_ahead mo_least mo_seam mo_above mo_below mo_text mo_textLong mo_place mo_value mo_numbers mo_not) 35 [(0, .ref (qMo 0)), (1, .int p1), (2, .int p2), (3, .int p3), (4, .int p4)] [.int u11.1]
        have h9 := hret 35 [(0, .ref (qMo 0)), (1, .int p1), (2, .int p2), (3, .int p3), (4, .int p4)] dX8_paint_35
        rw [← (Option.some.inj hf)] at h9
        exact h9
abbrev rmMo_dropNow : Room := { frames := 1, cells := 0, slots := 0, locals := 20 }
theorem wd_yX8_dropNow : wdV yX8_dropNow cX8_dropNow 3 (some .int) 1 := ⟨wc_yX8_dropNow, wi_yX8_dropNow, wse_yX8_dropNow, wini_X8, by decide +kernel, by decide +kernel, by decide +kernel⟩
set_option maxHeartbeats 4000000 in
set_option maxRecDepth 100000 in
theorem kMo_dropNow (l : Launch) (G : wG) (qMo : Nat → Nat) (p1 : Int32) (mo_all : Nat → Int32) (mo_past : Nat → Int32) (mo_aside : Nat → Int32) (mo_states : Int32) (mo_refused : Nat → Int32) (mo_causeKind : Int32) (mo_causeOrder : Int32) (mo_corner : Nat → Int32) (mo_linkVotes : Nat → Int32) (mo_linkE : Nat → Int32) (mo_linkF : Nat → Int32) (mo_follower : Nat → Int32) (mo_ahead : Nat → Int32) (mo_least : Nat → Int32) (mo_seam : Nat → Int32) (mo_above : Int64) (mo_below : Int64) (mo_text : Nat → Int32) (mo_textLong : Int32) (mo_place : Int32) (mo_value : Int32) (mo_numbers : Nat → Int32) (mo_not : Int32) (o : Int32 × (Nat → Int32)) (hf : fMo_dropNow p1 mo_all = some o) : Ct G l yX8_dropNow cX8_dropNow 3 (some .int) rmMo_dropNow [.ref (qMo 0), .int p1] (gMo G qMo mo_all mo_past mo_aside mo_states mo_refused mo_causeKind mo_causeOrder mo_corner mo_linkVotes mo_linkE mo_linkF mo_follower mo_ahead mo_least mo_seam mo_above mo_below mo_text mo_textLong mo_place mo_value mo_numbers mo_not) (some (.int o.1)) (gMo G qMo o.2 mo_past mo_aside mo_states mo_refused mo_causeKind mo_causeOrder mo_corner mo_linkVotes mo_linkE mo_linkF mo_follower mo_ahead mo_least mo_seam mo_above mo_below mo_text mo_textLong mo_place mo_value mo_numbers mo_not) := by
  refine Ct.ofI (by decide +kernel) (Nat.le_of_ble_eq_true rfl) (fun p e s m args below meth c A Q E hret => ?_)
  unfold fMo_dropNow at hf
  show V G p l e rmMo_dropNow s m args below meth c 3 A Q 0 0 (gMo G qMo mo_all mo_past mo_aside mo_states mo_refused mo_causeKind mo_causeOrder mo_corner mo_linkVotes mo_linkE mo_linkF mo_follower mo_ahead mo_least mo_seam mo_above mo_below mo_text mo_textLong mo_place mo_value mo_numbers mo_not) 0 [(0, .ref (qMo 0)), (1, .int p1)] []
  refine V_sipush E (v := (196 : Int32)) dX8_dropNow_0 (by decide) ?_
  refine V_bipush E (v := (35 : Int32)) dX8_dropNow_3 (by decide) ?_
  refine V_iload_n E 1 rfl dX8_dropNow_5 ?_
  refine V_imul E dX8_dropNow_6 ?_
  refine V_iadd E dX8_dropNow_7 ?_
  obtain ⟨t1, ht1, hf⟩ := bd hf
  have ht1 := Option.some.inj ht1
  rw [ht1]
  refine V_istore_n E (lv' := [(0, .ref (qMo 0)), (1, .int p1), (2, .int t1)]) dX8_dropNow_8 (by decide) rfl ?_
  have L9 : ∀ (n : Nat) (a9_2 : Int32) (c9_mo_all : Nat → Int32) (u : (Nat → Int32)), fMo_dropNow_L9 n a9_2 c9_mo_all = some u → (V G p l e rmMo_dropNow s m args below meth c 3 A Q 0 0 (gMo G qMo u mo_past mo_aside mo_states mo_refused mo_causeKind mo_causeOrder mo_corner mo_linkVotes mo_linkE mo_linkF mo_follower mo_ahead mo_least mo_seam mo_above mo_below mo_text mo_textLong mo_place mo_value mo_numbers mo_not) 47 [(0, .ref (qMo 0))] []) → V G p l e rmMo_dropNow s m args below meth c 3 A Q 0 0 (gMo G qMo c9_mo_all mo_past mo_aside mo_states mo_refused mo_causeKind mo_causeOrder mo_corner mo_linkVotes mo_linkE mo_linkF mo_follower mo_ahead mo_least mo_seam mo_above mo_below mo_text mo_textLong mo_place mo_value mo_numbers mo_not) 9 [(0, .ref (qMo 0)), (2, .int a9_2)] [] := by
    intro n
    induction n with
    | zero =>
      intro a9_2 c9_mo_all u hf hk
      rw [fMo_dropNow_L9] at hf
      cases hf
    | succ n ih =>
      intro a9_2 c9_mo_all u hf hk
      rw [fMo_dropNow_L9] at hf
      refine V_iload_n E 1 rfl dX8_dropNow_9 ?_
      refine V_sipush E (v := (196 : Int32)) dX8_dropNow_10 (by decide) ?_
      refine V_bipush E (v := (35 : Int32)) dX8_dropNow_13 (by decide) ?_
      refine V_aload_n E 0 rfl dX8_dropNow_15 ?_
      obtain ⟨u3, hu3, hf⟩ := bd hf
      refine V_frW E (Rn_V E (rest := [.int (35 : Int32), .int (196 : Int32), .int a9_2]) mlX8_59 wd_yX8_many (kMo_many l G qMo c9_mo_all mo_past mo_aside mo_states mo_refused mo_causeKind mo_causeOrder mo_corner mo_linkVotes mo_linkE mo_linkF mo_follower mo_ahead mo_least mo_seam mo_above mo_below mo_text mo_textLong mo_place mo_value mo_numbers mo_not u3 hu3) ⟨rfl, rfl, Nat.le_of_ble_eq_true rfl, Nat.le_of_ble_eq_true rfl⟩ 0 rfl rfl rfl rfl rfl (Nat.le_of_ble_eq_true rfl) dX8_dropNow_16) ?_
      show V G p l e rmMo_dropNow s m args below meth c 3 A Q 0 0 (gMo G qMo c9_mo_all mo_past mo_aside mo_states mo_refused mo_causeKind mo_causeOrder mo_corner mo_linkVotes mo_linkE mo_linkF mo_follower mo_ahead mo_least mo_seam mo_above mo_below mo_text mo_textLong mo_place mo_value mo_numbers mo_not) 19 [(0, .ref (qMo 0)), (2, .int a9_2)] [.int u3, .int (35 : Int32), .int (196 : Int32), .int a9_2]
      refine V_iconst E (v := (1 : Int32)) dX8_dropNow_19 (by decide) ?_
      refine V_isub E dX8_dropNow_20 ?_
      refine V_imul E dX8_dropNow_21 ?_
      refine V_iadd E dX8_dropNow_22 ?_
      refine V_icmp_ge E (tgt := 47) dX8_dropNow_23 (by decide) (fun hc4 => ?_) (fun hc4 => ?_)
      · have hf := ip hc4 hf
        refine V_sub [0] rfl ?_
        rw [← Option.some.inj hf] at hk
        exact hk
      · have hf := iq hc4 hf
        refine V_aload_n E 0 rfl dX8_dropNow_26 ?_
        refine gfX8_7 E 0 rfl rfl dX8_dropNow_27 ?_
        refine V_iload_n E 1 rfl dX8_dropNow_30 ?_
        refine V_aload_n E 0 rfl dX8_dropNow_31 ?_
        refine gfX8_7 E 0 rfl rfl dX8_dropNow_32 ?_
        refine V_iload_n E 1 rfl dX8_dropNow_35 ?_
        refine V_bipush E (v := (35 : Int32)) dX8_dropNow_36 (by decide) ?_
        refine V_iadd E dX8_dropNow_38 ?_
        obtain ⟨hi5, hf⟩ := asr_ok hf
        refine V_iald E 1 rfl hi5 dX8_dropNow_39 ?_
        obtain ⟨hi6, hf⟩ := asr_ok hf
        refine V_iast E (ws' := (gMo G qMo (upd c9_mo_all a9_2.toNatClampNeg (c9_mo_all (a9_2 + (35 : Int32)).toNatClampNeg)) mo_past mo_aside mo_states mo_refused mo_causeKind mo_causeOrder mo_corner mo_linkVotes mo_linkE mo_linkF mo_follower mo_ahead mo_least mo_seam mo_above mo_below mo_text mo_textLong mo_place mo_value mo_numbers mo_not)) 1 rfl hi6 dX8_dropNow_40 rfl ?_
        refine V_iinc E (v := (a9_2 + (1 : Int32))) (lv' := [(0, .ref (qMo 0)), (2, .int (a9_2 + (1 : Int32)))]) 1 rfl dX8_dropNow_41 rfl (by decide) rfl ?_
        refine V_goto E (tgt := 9) dX8_dropNow_44 (by decide) ?_
        exact ih (a9_2 + (1 : Int32)) (upd c9_mo_all a9_2.toNatClampNeg (c9_mo_all (a9_2 + (35 : Int32)).toNatClampNeg)) _ hf hk
  refine V_sub [0, 2] rfl ?_
  obtain ⟨u2, hu2, hf⟩ := bd hf
  refine L9 FU t1 mo_all u2 hu2 ?_
  refine V_aload_n E 0 rfl dX8_dropNow_47 ?_
  refine gfX8_7 E 0 rfl rfl dX8_dropNow_48 ?_
  refine V_iconst E (v := (3 : Int32)) dX8_dropNow_51 (by decide) ?_
  refine V_dup2 E dX8_dropNow_52 rfl rfl ?_
  obtain ⟨hi7, hf⟩ := asr_ok hf
  refine V_iald E 1 rfl hi7 dX8_dropNow_53 ?_
  refine V_iconst E (v := (1 : Int32)) dX8_dropNow_54 (by decide) ?_
  refine V_isub E dX8_dropNow_55 ?_
  obtain ⟨hi8, hf⟩ := asr_ok hf
  refine V_iast E (ws' := (gMo G qMo (upd u2 (3 : Int32).toNatClampNeg ((u2 (3 : Int32).toNatClampNeg) - (1 : Int32))) mo_past mo_aside mo_states mo_refused mo_causeKind mo_causeOrder mo_corner mo_linkVotes mo_linkE mo_linkF mo_follower mo_ahead mo_least mo_seam mo_above mo_below mo_text mo_textLong mo_place mo_value mo_numbers mo_not)) 1 rfl hi8 dX8_dropNow_56 rfl ?_
  refine V_aload_n E 0 rfl dX8_dropNow_57 ?_
  obtain ⟨u9, hu9, hf⟩ := bd hf
  refine V_frW E (Rn_V E (rest := []) mlX8_59 wd_yX8_many (kMo_many l G qMo (upd u2 (3 : Int32).toNatClampNeg ((u2 (3 : Int32).toNatClampNeg) - (1 : Int32))) mo_past mo_aside mo_states mo_refused mo_causeKind mo_causeOrder mo_corner mo_linkVotes mo_linkE mo_linkF mo_follower mo_ahead mo_least mo_seam mo_above mo_below mo_text mo_textLong mo_place mo_value mo_numbers mo_not u9 hu9) ⟨rfl, rfl, Nat.le_of_ble_eq_true rfl, Nat.le_of_ble_eq_true rfl⟩ 0 rfl rfl rfl rfl rfl (Nat.le_of_ble_eq_true rfl) dX8_dropNow_58) ?_
  show V G p l e rmMo_dropNow s m args below meth c 3 A Q 0 0 (gMo G qMo (upd u2 (3 : Int32).toNatClampNeg ((u2 (3 : Int32).toNatClampNeg) - (1 : Int32))) mo_past mo_aside mo_states mo_refused mo_causeKind mo_causeOrder mo_corner mo_linkVotes mo_linkE mo_linkF mo_follower mo_ahead mo_least mo_seam mo_above mo_below mo_text mo_textLong mo_place mo_value mo_numbers mo_not) 61 [(0, .ref (qMo 0))] [.int u9]
  have h9 := hret 61 [(0, .ref (qMo 0))] dX8_dropNow_61
  rw [← (Option.some.inj hf)] at h9
  exact h9
abbrev rmMo_drops : Room := { frames := 2, cells := 0, slots := 0, locals := 46 }
theorem wd_yX8_drops : wdV yX8_drops cX8_drops 2 (some .int) 1 := ⟨wc_yX8_drops, wi_yX8_drops, wse_yX8_drops, wini_X8, by decide +kernel, by decide +kernel, by decide +kernel⟩
set_option maxHeartbeats 4000000 in
set_option maxRecDepth 100000 in
theorem kMo_drops (l : Launch) (G : wG) (qMo : Nat → Nat) (p1 : Int32) (mo_all : Nat → Int32) (mo_past : Nat → Int32) (mo_aside : Nat → Int32) (mo_states : Int32) (mo_refused : Nat → Int32) (mo_causeKind : Int32) (mo_causeOrder : Int32) (mo_corner : Nat → Int32) (mo_linkVotes : Nat → Int32) (mo_linkE : Nat → Int32) (mo_linkF : Nat → Int32) (mo_follower : Nat → Int32) (mo_ahead : Nat → Int32) (mo_least : Nat → Int32) (mo_seam : Nat → Int32) (mo_above : Int64) (mo_below : Int64) (mo_text : Nat → Int32) (mo_textLong : Int32) (mo_place : Int32) (mo_value : Int32) (mo_numbers : Nat → Int32) (mo_not : Int32) (o : Int32 × (Nat → Int32) × (Nat → Int32) × Int32 × (Nat → Int32)) (hf : fMo_drops p1 mo_all mo_past mo_states mo_refused = some o) : Ct G l yX8_drops cX8_drops 2 (some .int) rmMo_drops [.ref (qMo 0), .int p1] (gMo G qMo mo_all mo_past mo_aside mo_states mo_refused mo_causeKind mo_causeOrder mo_corner mo_linkVotes mo_linkE mo_linkF mo_follower mo_ahead mo_least mo_seam mo_above mo_below mo_text mo_textLong mo_place mo_value mo_numbers mo_not) (some (.int o.1)) (gMo G qMo o.2.1 o.2.2.1 mo_aside o.2.2.2.1 o.2.2.2.2 mo_causeKind mo_causeOrder mo_corner mo_linkVotes mo_linkE mo_linkF mo_follower mo_ahead mo_least mo_seam mo_above mo_below mo_text mo_textLong mo_place mo_value mo_numbers mo_not) := by
  refine Ct.ofI (by decide +kernel) (Nat.le_of_ble_eq_true rfl) (fun p e s m args below meth c A Q E hret => ?_)
  unfold fMo_drops at hf
  show V G p l e rmMo_drops s m args below meth c 2 A Q 0 0 (gMo G qMo mo_all mo_past mo_aside mo_states mo_refused mo_causeKind mo_causeOrder mo_corner mo_linkVotes mo_linkE mo_linkF mo_follower mo_ahead mo_least mo_seam mo_above mo_below mo_text mo_textLong mo_place mo_value mo_numbers mo_not) 0 [(0, .ref (qMo 0)), (1, .int p1)] []
  refine V_aload_n E 0 rfl dX8_drops_0 ?_
  refine V_iload_n E 1 rfl dX8_drops_1 ?_
  obtain ⟨u1, hu1, hf⟩ := bd hf
  refine V_frW E (Rn_V E (rest := []) mlX8_128 wd_yX8_isPicture (kMo_isPicture l G qMo p1 mo_all mo_past mo_aside mo_states mo_refused mo_causeKind mo_causeOrder mo_corner mo_linkVotes mo_linkE mo_linkF mo_follower mo_ahead mo_least mo_seam mo_above mo_below mo_text mo_textLong mo_place mo_value mo_numbers mo_not u1 hu1) ⟨rfl, rfl, Nat.le_of_ble_eq_true rfl, Nat.le_of_ble_eq_true rfl⟩ 0 rfl rfl rfl rfl rfl (Nat.le_of_ble_eq_true rfl) dX8_drops_2) ?_
  show V G p l e rmMo_drops s m args below meth c 2 A Q 0 0 (gMo G qMo mo_all mo_past mo_aside mo_states mo_refused mo_causeKind mo_causeOrder mo_corner mo_linkVotes mo_linkE mo_linkF mo_follower mo_ahead mo_least mo_seam mo_above mo_below mo_text mo_textLong mo_place mo_value mo_numbers mo_not) 5 [(0, .ref (qMo 0)), (1, .int p1)] [.int u1]
  refine V_if_ne E (tgt := 15) dX8_drops_5 (by decide) (fun hc2 => ?_) (fun hc2 => ?_)
  · have hf := iq hc2 hf
    refine V_aload_n E 0 rfl dX8_drops_15 ?_
    obtain ⟨u3, hu3, hf⟩ := bd hf
    refine V_frW E (Rn_V E (rest := []) mlX8_95 wd_yX8_keep (kMo_keep l G qMo mo_all mo_past mo_aside mo_states mo_refused mo_causeKind mo_causeOrder mo_corner mo_linkVotes mo_linkE mo_linkF mo_follower mo_ahead mo_least mo_seam mo_above mo_below mo_text mo_textLong mo_place mo_value mo_numbers mo_not u3 hu3) ⟨rfl, rfl, Nat.le_of_ble_eq_true rfl, Nat.le_of_ble_eq_true rfl⟩ 0 rfl rfl rfl rfl rfl (Nat.le_of_ble_eq_true rfl) dX8_drops_16) ?_
    show V G p l e rmMo_drops s m args below meth c 2 A Q 0 0 (gMo G qMo mo_all u3.1 mo_aside u3.2 mo_refused mo_causeKind mo_causeOrder mo_corner mo_linkVotes mo_linkE mo_linkF mo_follower mo_ahead mo_least mo_seam mo_above mo_below mo_text mo_textLong mo_place mo_value mo_numbers mo_not) 19 [(0, .ref (qMo 0)), (1, .int p1)] []
    refine V_aload_n E 0 rfl dX8_drops_19 ?_
    refine V_iload_n E 1 rfl dX8_drops_20 ?_
    obtain ⟨u4, hu4, hf⟩ := bd hf
    refine V_frW E (Rn_V E (rest := []) mlX8_135 wd_yX8_dropNow (kMo_dropNow l G qMo p1 mo_all u3.1 mo_aside u3.2 mo_refused mo_causeKind mo_causeOrder mo_corner mo_linkVotes mo_linkE mo_linkF mo_follower mo_ahead mo_least mo_seam mo_above mo_below mo_text mo_textLong mo_place mo_value mo_numbers mo_not u4 hu4) ⟨rfl, rfl, Nat.le_of_ble_eq_true rfl, Nat.le_of_ble_eq_true rfl⟩ 0 rfl rfl rfl rfl rfl (Nat.le_of_ble_eq_true rfl) dX8_drops_21) ?_
    show V G p l e rmMo_drops s m args below meth c 2 A Q 0 0 (gMo G qMo u4.2 u3.1 mo_aside u3.2 mo_refused mo_causeKind mo_causeOrder mo_corner mo_linkVotes mo_linkE mo_linkF mo_follower mo_ahead mo_least mo_seam mo_above mo_below mo_text mo_textLong mo_place mo_value mo_numbers mo_not) 24 [(0, .ref (qMo 0)), (1, .int p1)] [.int u4.1]
    have h9 := hret 24 [(0, .ref (qMo 0)), (1, .int p1)] dX8_drops_24
    rw [← (Option.some.inj hf)] at h9
    exact h9
  · have hf := ip hc2 hf
    refine V_aload_n E 0 rfl dX8_drops_8 ?_
    refine V_bipush E (v := (-2 : Int32)) dX8_drops_9 (by decide) ?_
    obtain ⟨u5, hu5, hf⟩ := bd hf
    refine V_frW E (Rn_V E (rest := []) mlX8_91 wd_yX8_refuses (kMo_refuses l G qMo (-2 : Int32) mo_all mo_past mo_aside mo_states mo_refused mo_causeKind mo_causeOrder mo_corner mo_linkVotes mo_linkE mo_linkF mo_follower mo_ahead mo_least mo_seam mo_above mo_below mo_text mo_textLong mo_place mo_value mo_numbers mo_not u5 hu5) ⟨rfl, rfl, Nat.le_of_ble_eq_true rfl, Nat.le_of_ble_eq_true rfl⟩ 0 rfl rfl rfl rfl rfl (Nat.le_of_ble_eq_true rfl) dX8_drops_11) ?_
    show V G p l e rmMo_drops s m args below meth c 2 A Q 0 0 (gMo G qMo mo_all mo_past mo_aside mo_states u5.2 mo_causeKind mo_causeOrder mo_corner mo_linkVotes mo_linkE mo_linkF mo_follower mo_ahead mo_least mo_seam mo_above mo_below mo_text mo_textLong mo_place mo_value mo_numbers mo_not) 14 [(0, .ref (qMo 0)), (1, .int p1)] [.int u5.1]
    have h9 := hret 14 [(0, .ref (qMo 0)), (1, .int p1)] dX8_drops_14
    rw [← (Option.some.inj hf)] at h9
    exact h9
abbrev rmMo_isSetting : Room := { frames := 1, cells := 0, slots := 0, locals := 25 }
theorem wd_yX8_isSetting : wdS yX8_isSetting cX8_isSetting 2 (some .boolean) 2 := ⟨wc_yX8_isSetting, wst_yX8_isSetting, wini_X8, by decide +kernel, by decide +kernel, by decide +kernel⟩
set_option maxHeartbeats 4000000 in
set_option maxRecDepth 100000 in
theorem kMo_isSetting (l : Launch) (G : wG) (p0 : Int32) (p1 : Int32) (o : Int32) (hf : fMo_isSetting p0 p1 = some o) : Ct G l yX8_isSetting cX8_isSetting 2 (some .boolean) rmMo_isSetting [.int p0, .int p1] [] (some (.int o)) [] := by
  refine Ct.ofZ (by decide +kernel) (Nat.le_of_ble_eq_true rfl) (fun p e s m args below meth c A Q E hret => ?_)
  unfold fMo_isSetting at hf
  show V G p l e rmMo_isSetting s m args below meth c 2 A Q 0 0 [] 0 [(0, .int p0), (1, .int p1)] []
  refine V_iload_n E 0 rfl dX8_isSetting_0 ?_
  refine V_if_ne E (tgt := 16) dX8_isSetting_1 (by decide) (fun hc1 => ?_) (fun hc1 => ?_)
  · have hf := iq hc1 hf
    refine V_iload_n E 0 rfl dX8_isSetting_16 ?_
    refine V_iconst E (v := (1 : Int32)) dX8_isSetting_17 (by decide) ?_
    refine V_icmp_ne E (tgt := 37) dX8_isSetting_18 (by decide) (fun hc2 => ?_) (fun hc2 => ?_)
    · have hf := iq hc2 hf
      refine V_iconst E (v := (0 : Int32)) dX8_isSetting_37 (by decide) ?_
      have h9 := hret 38 [(0, .int p0), (1, .int p1)] dX8_isSetting_38
      rw [← (Option.some.inj hf)] at h9
      exact h9 (z01a (Or.inl rfl))
    · have hf := ip hc2 hf
      refine V_iload_n E 1 rfl dX8_isSetting_21 ?_
      refine V_i2l E dX8_isSetting_22 ?_
      refine V_lconst E (v := (0 : Int64)) dX8_isSetting_23 (by decide) ?_
      refine V_ldc2 E (v := (63 : Int64)) dX8_isSetting_24 kX8_107 ?_
      obtain ⟨u3, hu3, hf⟩ := bd hf
      refine V_fr0 E (Rn_S E (rest := []) mlX8_63 wd_yX8_in (kMo_in l G p1.toInt64 (0 : Int64) (63 : Int64) u3 hu3) ⟨rfl, rfl, Nat.le_of_ble_eq_true rfl, Nat.le_of_ble_eq_true rfl⟩ rfl rfl (Nat.le_of_ble_eq_true rfl) dX8_isSetting_27) ?_
      show V G p l e rmMo_isSetting s m args below meth c 2 A Q 0 0 [] 30 [(0, .int p0), (1, .int p1)] [.int u3]
      refine V_if_eq E (tgt := 37) dX8_isSetting_30 (by decide) (fun hc4 => ?_) (fun hc4 => ?_)
      · have hf := ip hc4 hf
        refine V_iconst E (v := (0 : Int32)) dX8_isSetting_37 (by decide) ?_
        have h9 := hret 38 [(0, .int p0), (1, .int p1)] dX8_isSetting_38
        rw [← (Option.some.inj hf)] at h9
        exact h9 (z01a (Or.inl rfl))
      · have hf := iq hc4 hf
        refine V_iconst E (v := (1 : Int32)) dX8_isSetting_33 (by decide) ?_
        refine V_goto E (tgt := 38) dX8_isSetting_34 (by decide) ?_
        have h9 := hret 38 [(0, .int p0), (1, .int p1)] dX8_isSetting_38
        rw [← (Option.some.inj hf)] at h9
        exact h9 (z01a (Or.inr rfl))
  · have hf := ip hc1 hf
    refine V_iload_n E 1 rfl dX8_isSetting_4 ?_
    refine V_i2l E dX8_isSetting_5 ?_
    refine V_lconst E (v := (1 : Int64)) dX8_isSetting_6 (by decide) ?_
    refine V_ldc2 E (v := (126 : Int64)) dX8_isSetting_7 kX8_138 ?_
    obtain ⟨u5, hu5, hf⟩ := bd hf
    refine V_fr0 E (Rn_S E (rest := []) mlX8_63 wd_yX8_in (kMo_in l G p1.toInt64 (1 : Int64) (126 : Int64) u5 hu5) ⟨rfl, rfl, Nat.le_of_ble_eq_true rfl, Nat.le_of_ble_eq_true rfl⟩ rfl rfl (Nat.le_of_ble_eq_true rfl) dX8_isSetting_10) ?_
    show V G p l e rmMo_isSetting s m args below meth c 2 A Q 0 0 [] 13 [(0, .int p0), (1, .int p1)] [.int u5]
    refine V_if_ne E (tgt := 33) dX8_isSetting_13 (by decide) (fun hc6 => ?_) (fun hc6 => ?_)
    · have hf := iq hc6 hf
      refine V_iconst E (v := (1 : Int32)) dX8_isSetting_33 (by decide) ?_
      refine V_goto E (tgt := 38) dX8_isSetting_34 (by decide) ?_
      have h9 := hret 38 [(0, .int p0), (1, .int p1)] dX8_isSetting_38
      rw [← (Option.some.inj hf)] at h9
      exact h9 (z01a (Or.inr rfl))
    · have hf := ip hc6 hf
      refine V_iload_n E 0 rfl dX8_isSetting_16 ?_
      refine V_iconst E (v := (1 : Int32)) dX8_isSetting_17 (by decide) ?_
      refine V_icmp_ne E (tgt := 37) dX8_isSetting_18 (by decide) (fun hc7 => ?_) (fun hc7 => ?_)
      · have hf := iq hc7 hf
        refine V_iconst E (v := (0 : Int32)) dX8_isSetting_37 (by decide) ?_
        have h9 := hret 38 [(0, .int p0), (1, .int p1)] dX8_isSetting_38
        rw [← (Option.some.inj hf)] at h9
        exact h9 (z01a (Or.inl rfl))
      · have hf := ip hc7 hf
        refine V_iload_n E 1 rfl dX8_isSetting_21 ?_
        refine V_i2l E dX8_isSetting_22 ?_
        refine V_lconst E (v := (0 : Int64)) dX8_isSetting_23 (by decide) ?_
        refine V_ldc2 E (v := (63 : Int64)) dX8_isSetting_24 kX8_107 ?_
        obtain ⟨u8, hu8, hf⟩ := bd hf
        refine V_fr0 E (Rn_S E (rest := []) mlX8_63 wd_yX8_in (kMo_in l G p1.toInt64 (0 : Int64) (63 : Int64) u8 hu8) ⟨rfl, rfl, Nat.le_of_ble_eq_true rfl, Nat.le_of_ble_eq_true rfl⟩ rfl rfl (Nat.le_of_ble_eq_true rfl) dX8_isSetting_27) ?_
        show V G p l e rmMo_isSetting s m args below meth c 2 A Q 0 0 [] 30 [(0, .int p0), (1, .int p1)] [.int u8]
        refine V_if_eq E (tgt := 37) dX8_isSetting_30 (by decide) (fun hc9 => ?_) (fun hc9 => ?_)
        · have hf := ip hc9 hf
          refine V_iconst E (v := (0 : Int32)) dX8_isSetting_37 (by decide) ?_
          have h9 := hret 38 [(0, .int p0), (1, .int p1)] dX8_isSetting_38
          rw [← (Option.some.inj hf)] at h9
          exact h9 (z01a (Or.inl rfl))
        · have hf := iq hc9 hf
          refine V_iconst E (v := (1 : Int32)) dX8_isSetting_33 (by decide) ?_
          refine V_goto E (tgt := 38) dX8_isSetting_34 (by decide) ?_
          have h9 := hret 38 [(0, .int p0), (1, .int p1)] dX8_isSetting_38
          rw [← (Option.some.inj hf)] at h9
          exact h9 (z01a (Or.inr rfl))
abbrev rmMo_sets : Room := { frames := 2, cells := 0, slots := 0, locals := 46 }
theorem wd_yX8_sets : wdV yX8_sets cX8_sets 3 (some .int) 2 := ⟨wc_yX8_sets, wi_yX8_sets, wse_yX8_sets, wini_X8, by decide +kernel, by decide +kernel, by decide +kernel⟩
set_option maxHeartbeats 4000000 in
set_option maxRecDepth 100000 in
theorem kMo_sets (l : Launch) (G : wG) (qMo : Nat → Nat) (p1 : Int32) (p2 : Int32) (mo_all : Nat → Int32) (mo_past : Nat → Int32) (mo_aside : Nat → Int32) (mo_states : Int32) (mo_refused : Nat → Int32) (mo_causeKind : Int32) (mo_causeOrder : Int32) (mo_corner : Nat → Int32) (mo_linkVotes : Nat → Int32) (mo_linkE : Nat → Int32) (mo_linkF : Nat → Int32) (mo_follower : Nat → Int32) (mo_ahead : Nat → Int32) (mo_least : Nat → Int32) (mo_seam : Nat → Int32) (mo_above : Int64) (mo_below : Int64) (mo_text : Nat → Int32) (mo_textLong : Int32) (mo_place : Int32) (mo_value : Int32) (mo_numbers : Nat → Int32) (mo_not : Int32) (o : Int32 × (Nat → Int32) × (Nat → Int32) × Int32 × (Nat → Int32)) (hf : fMo_sets p1 p2 mo_all mo_past mo_states mo_refused = some o) : Ct G l yX8_sets cX8_sets 3 (some .int) rmMo_sets [.ref (qMo 0), .int p1, .int p2] (gMo G qMo mo_all mo_past mo_aside mo_states mo_refused mo_causeKind mo_causeOrder mo_corner mo_linkVotes mo_linkE mo_linkF mo_follower mo_ahead mo_least mo_seam mo_above mo_below mo_text mo_textLong mo_place mo_value mo_numbers mo_not) (some (.int o.1)) (gMo G qMo o.2.1 o.2.2.1 mo_aside o.2.2.2.1 o.2.2.2.2 mo_causeKind mo_causeOrder mo_corner mo_linkVotes mo_linkE mo_linkF mo_follower mo_ahead mo_least mo_seam mo_above mo_below mo_text mo_textLong mo_place mo_value mo_numbers mo_not) := by
  refine Ct.ofI (by decide +kernel) (Nat.le_of_ble_eq_true rfl) (fun p e s m args below meth c A Q E hret => ?_)
  unfold fMo_sets at hf
  show V G p l e rmMo_sets s m args below meth c 3 A Q 0 0 (gMo G qMo mo_all mo_past mo_aside mo_states mo_refused mo_causeKind mo_causeOrder mo_corner mo_linkVotes mo_linkE mo_linkF mo_follower mo_ahead mo_least mo_seam mo_above mo_below mo_text mo_textLong mo_place mo_value mo_numbers mo_not) 0 [(0, .ref (qMo 0)), (1, .int p1), (2, .int p2)] []
  refine V_iload_n E 1 rfl dX8_sets_0 ?_
  refine V_iload_n E 2 rfl dX8_sets_1 ?_
  obtain ⟨u1, hu1, hf⟩ := bd hf
  refine V_fr0 E (Rn_S E (rest := []) mlX8_140 wd_yX8_isSetting (kMo_isSetting l G p1 p2 u1 hu1) ⟨rfl, rfl, Nat.le_of_ble_eq_true rfl, Nat.le_of_ble_eq_true rfl⟩ rfl rfl (Nat.le_of_ble_eq_true rfl) dX8_sets_2) ?_
  show V G p l e rmMo_sets s m args below meth c 3 A Q 0 0 (gMo G qMo mo_all mo_past mo_aside mo_states mo_refused mo_causeKind mo_causeOrder mo_corner mo_linkVotes mo_linkE mo_linkF mo_follower mo_ahead mo_least mo_seam mo_above mo_below mo_text mo_textLong mo_place mo_value mo_numbers mo_not) 5 [(0, .ref (qMo 0)), (1, .int p1), (2, .int p2)] [.int u1]
  refine V_if_ne E (tgt := 15) dX8_sets_5 (by decide) (fun hc2 => ?_) (fun hc2 => ?_)
  · have hf := iq hc2 hf
    refine V_aload_n E 0 rfl dX8_sets_15 ?_
    obtain ⟨u3, hu3, hf⟩ := bd hf
    refine V_frW E (Rn_V E (rest := []) mlX8_95 wd_yX8_keep (kMo_keep l G qMo mo_all mo_past mo_aside mo_states mo_refused mo_causeKind mo_causeOrder mo_corner mo_linkVotes mo_linkE mo_linkF mo_follower mo_ahead mo_least mo_seam mo_above mo_below mo_text mo_textLong mo_place mo_value mo_numbers mo_not u3 hu3) ⟨rfl, rfl, Nat.le_of_ble_eq_true rfl, Nat.le_of_ble_eq_true rfl⟩ 0 rfl rfl rfl rfl rfl (Nat.le_of_ble_eq_true rfl) dX8_sets_16) ?_
    show V G p l e rmMo_sets s m args below meth c 3 A Q 0 0 (gMo G qMo mo_all u3.1 mo_aside u3.2 mo_refused mo_causeKind mo_causeOrder mo_corner mo_linkVotes mo_linkE mo_linkF mo_follower mo_ahead mo_least mo_seam mo_above mo_below mo_text mo_textLong mo_place mo_value mo_numbers mo_not) 19 [(0, .ref (qMo 0)), (1, .int p1), (2, .int p2)] []
    refine V_aload_n E 0 rfl dX8_sets_19 ?_
    refine V_iconst E (v := (1 : Int32)) dX8_sets_20 (by decide) ?_
    refine V_iload_n E 1 rfl dX8_sets_21 ?_
    refine V_iadd E dX8_sets_22 ?_
    refine V_iload_n E 2 rfl dX8_sets_23 ?_
    obtain ⟨u4, hu4, hf⟩ := bd hf
    refine V_frW E (Rn_V E (rest := []) mlX8_109 wd_yX8_cellNow (kMo_cellNow l G qMo ((1 : Int32) + p1) p2 mo_all u3.1 mo_aside u3.2 mo_refused mo_causeKind mo_causeOrder mo_corner mo_linkVotes mo_linkE mo_linkF mo_follower mo_ahead mo_least mo_seam mo_above mo_below mo_text mo_textLong mo_place mo_value mo_numbers mo_not u4 hu4) ⟨rfl, rfl, Nat.le_of_ble_eq_true rfl, Nat.le_of_ble_eq_true rfl⟩ 0 rfl rfl rfl rfl rfl (Nat.le_of_ble_eq_true rfl) dX8_sets_24) ?_
    show V G p l e rmMo_sets s m args below meth c 3 A Q 0 0 (gMo G qMo u4.2 u3.1 mo_aside u3.2 mo_refused mo_causeKind mo_causeOrder mo_corner mo_linkVotes mo_linkE mo_linkF mo_follower mo_ahead mo_least mo_seam mo_above mo_below mo_text mo_textLong mo_place mo_value mo_numbers mo_not) 27 [(0, .ref (qMo 0)), (1, .int p1), (2, .int p2)] [.int u4.1]
    have h9 := hret 27 [(0, .ref (qMo 0)), (1, .int p1), (2, .int p2)] dX8_sets_27
    rw [← (Option.some.inj hf)] at h9
    exact h9
  · have hf := ip hc2 hf
    refine V_aload_n E 0 rfl dX8_sets_8 ?_
    refine V_bipush E (v := (-2 : Int32)) dX8_sets_9 (by decide) ?_
    obtain ⟨u5, hu5, hf⟩ := bd hf
    refine V_frW E (Rn_V E (rest := []) mlX8_91 wd_yX8_refuses (kMo_refuses l G qMo (-2 : Int32) mo_all mo_past mo_aside mo_states mo_refused mo_causeKind mo_causeOrder mo_corner mo_linkVotes mo_linkE mo_linkF mo_follower mo_ahead mo_least mo_seam mo_above mo_below mo_text mo_textLong mo_place mo_value mo_numbers mo_not u5 hu5) ⟨rfl, rfl, Nat.le_of_ble_eq_true rfl, Nat.le_of_ble_eq_true rfl⟩ 0 rfl rfl rfl rfl rfl (Nat.le_of_ble_eq_true rfl) dX8_sets_11) ?_
    show V G p l e rmMo_sets s m args below meth c 3 A Q 0 0 (gMo G qMo mo_all mo_past mo_aside mo_states u5.2 mo_causeKind mo_causeOrder mo_corner mo_linkVotes mo_linkE mo_linkF mo_follower mo_ahead mo_least mo_seam mo_above mo_below mo_text mo_textLong mo_place mo_value mo_numbers mo_not) 14 [(0, .ref (qMo 0)), (1, .int p1), (2, .int p2)] [.int u5.1]
    have h9 := hret 14 [(0, .ref (qMo 0)), (1, .int p1), (2, .int p2)] dX8_sets_14
    rw [← (Option.some.inj hf)] at h9
    exact h9
abbrev rmMo_value : Room := { frames := 2, cells := 0, slots := 0, locals := 47 }
theorem wd_yX8_value : wdV yX8_value cX8_value 4 (some .int) 3 := ⟨wc_yX8_value, wi_yX8_value, wse_yX8_value, wini_X8, by decide +kernel, by decide +kernel, by decide +kernel⟩
set_option maxHeartbeats 4000000 in
set_option maxRecDepth 100000 in
theorem kMo_value (l : Launch) (G : wG) (qMo : Nat → Nat) (p1 : Int32) (p2 : Int32) (p3 : Int32) (mo_all : Nat → Int32) (mo_past : Nat → Int32) (mo_aside : Nat → Int32) (mo_states : Int32) (mo_refused : Nat → Int32) (mo_causeKind : Int32) (mo_causeOrder : Int32) (mo_corner : Nat → Int32) (mo_linkVotes : Nat → Int32) (mo_linkE : Nat → Int32) (mo_linkF : Nat → Int32) (mo_follower : Nat → Int32) (mo_ahead : Nat → Int32) (mo_least : Nat → Int32) (mo_seam : Nat → Int32) (mo_above : Int64) (mo_below : Int64) (mo_text : Nat → Int32) (mo_textLong : Int32) (mo_place : Int32) (mo_value : Int32) (mo_numbers : Nat → Int32) (mo_not : Int32) (o : Int32 × (Nat → Int32)) (hf : fMo_value p1 p2 p3 mo_all mo_refused = some o) : Ct G l yX8_value cX8_value 4 (some .int) rmMo_value [.ref (qMo 0), .int p1, .int p2, .int p3] (gMo G qMo mo_all mo_past mo_aside mo_states mo_refused mo_causeKind mo_causeOrder mo_corner mo_linkVotes mo_linkE mo_linkF mo_follower mo_ahead mo_least mo_seam mo_above mo_below mo_text mo_textLong mo_place mo_value mo_numbers mo_not) (some (.int o.1)) (gMo G qMo mo_all mo_past mo_aside mo_states o.2 mo_causeKind mo_causeOrder mo_corner mo_linkVotes mo_linkE mo_linkF mo_follower mo_ahead mo_least mo_seam mo_above mo_below mo_text mo_textLong mo_place mo_value mo_numbers mo_not) := by
  refine Ct.ofI (by decide +kernel) (Nat.le_of_ble_eq_true rfl) (fun p e s m args below meth c A Q E hret => ?_)
  unfold fMo_value at hf
  show V G p l e rmMo_value s m args below meth c 4 A Q 0 0 (gMo G qMo mo_all mo_past mo_aside mo_states mo_refused mo_causeKind mo_causeOrder mo_corner mo_linkVotes mo_linkE mo_linkF mo_follower mo_ahead mo_least mo_seam mo_above mo_below mo_text mo_textLong mo_place mo_value mo_numbers mo_not) 0 [(0, .ref (qMo 0)), (1, .int p1), (2, .int p2), (3, .int p3)] []
  refine V_iload_n E 1 rfl dX8_value_0 ?_
  refine V_iconst E (v := (-1 : Int32)) dX8_value_1 (by decide) ?_
  refine V_icmp_ne E (tgt := 37) dX8_value_2 (by decide) (fun hc1 => ?_) (fun hc1 => ?_)
  · have hf := iq hc1 hf
    refine V_aload_n E 0 rfl dX8_value_37 ?_
    refine V_iload_n E 1 rfl dX8_value_38 ?_
    obtain ⟨u2, hu2, hf⟩ := bd hf
    refine V_frW E (Rn_V E (rest := []) mlX8_128 wd_yX8_isPicture (kMo_isPicture l G qMo p1 mo_all mo_past mo_aside mo_states mo_refused mo_causeKind mo_causeOrder mo_corner mo_linkVotes mo_linkE mo_linkF mo_follower mo_ahead mo_least mo_seam mo_above mo_below mo_text mo_textLong mo_place mo_value mo_numbers mo_not u2 hu2) ⟨rfl, rfl, Nat.le_of_ble_eq_true rfl, Nat.le_of_ble_eq_true rfl⟩ 0 rfl rfl rfl rfl rfl (Nat.le_of_ble_eq_true rfl) dX8_value_39) ?_
    show V G p l e rmMo_value s m args below meth c 4 A Q 0 0 (gMo G qMo mo_all mo_past mo_aside mo_states mo_refused mo_causeKind mo_causeOrder mo_corner mo_linkVotes mo_linkE mo_linkF mo_follower mo_ahead mo_least mo_seam mo_above mo_below mo_text mo_textLong mo_place mo_value mo_numbers mo_not) 42 [(0, .ref (qMo 0)), (1, .int p1), (2, .int p2), (3, .int p3)] [.int u2]
    refine V_if_eq E (tgt := 63) dX8_value_42 (by decide) (fun hc3 => ?_) (fun hc3 => ?_)
    · have hf := ip hc3 hf
      refine V_aload_n E 0 rfl dX8_value_63 ?_
      refine V_bipush E (v := (-2 : Int32)) dX8_value_64 (by decide) ?_
      obtain ⟨u4, hu4, hf⟩ := bd hf
      refine V_frW E (Rn_V E (rest := []) mlX8_91 wd_yX8_refuses (kMo_refuses l G qMo (-2 : Int32) mo_all mo_past mo_aside mo_states mo_refused mo_causeKind mo_causeOrder mo_corner mo_linkVotes mo_linkE mo_linkF mo_follower mo_ahead mo_least mo_seam mo_above mo_below mo_text mo_textLong mo_place mo_value mo_numbers mo_not u4 hu4) ⟨rfl, rfl, Nat.le_of_ble_eq_true rfl, Nat.le_of_ble_eq_true rfl⟩ 0 rfl rfl rfl rfl rfl (Nat.le_of_ble_eq_true rfl) dX8_value_66) ?_
      show V G p l e rmMo_value s m args below meth c 4 A Q 0 0 (gMo G qMo mo_all mo_past mo_aside mo_states u4.2 mo_causeKind mo_causeOrder mo_corner mo_linkVotes mo_linkE mo_linkF mo_follower mo_ahead mo_least mo_seam mo_above mo_below mo_text mo_textLong mo_place mo_value mo_numbers mo_not) 69 [(0, .ref (qMo 0)), (1, .int p1), (2, .int p2), (3, .int p3)] [.int u4.1]
      have h9 := hret 69 [(0, .ref (qMo 0)), (1, .int p1), (2, .int p2), (3, .int p3)] dX8_value_69
      rw [← (Option.some.inj hf)] at h9
      exact h9
    · have hf := iq hc3 hf
      refine V_iload_n E 2 rfl dX8_value_45 ?_
      refine V_iload_n E 3 rfl dX8_value_46 ?_
      obtain ⟨u5, hu5, hf⟩ := bd hf
      refine V_fr0 E (Rn_S E (rest := []) mlX8_132 wd_yX8_isCell (kMo_isCell l G p2 p3 u5 hu5) ⟨rfl, rfl, Nat.le_of_ble_eq_true rfl, Nat.le_of_ble_eq_true rfl⟩ rfl rfl (Nat.le_of_ble_eq_true rfl) dX8_value_47) ?_
      show V G p l e rmMo_value s m args below meth c 4 A Q 0 0 (gMo G qMo mo_all mo_past mo_aside mo_states mo_refused mo_causeKind mo_causeOrder mo_corner mo_linkVotes mo_linkE mo_linkF mo_follower mo_ahead mo_least mo_seam mo_above mo_below mo_text mo_textLong mo_place mo_value mo_numbers mo_not) 50 [(0, .ref (qMo 0)), (1, .int p1), (2, .int p2), (3, .int p3)] [.int u5]
      refine V_if_eq E (tgt := 63) dX8_value_50 (by decide) (fun hc6 => ?_) (fun hc6 => ?_)
      · have hf := ip hc6 hf
        refine V_aload_n E 0 rfl dX8_value_63 ?_
        refine V_bipush E (v := (-2 : Int32)) dX8_value_64 (by decide) ?_
        obtain ⟨u7, hu7, hf⟩ := bd hf
        refine V_frW E (Rn_V E (rest := []) mlX8_91 wd_yX8_refuses (kMo_refuses l G qMo (-2 : Int32) mo_all mo_past mo_aside mo_states mo_refused mo_causeKind mo_causeOrder mo_corner mo_linkVotes mo_linkE mo_linkF mo_follower mo_ahead mo_least mo_seam mo_above mo_below mo_text mo_textLong mo_place mo_value mo_numbers mo_not u7 hu7) ⟨rfl, rfl, Nat.le_of_ble_eq_true rfl, Nat.le_of_ble_eq_true rfl⟩ 0 rfl rfl rfl rfl rfl (Nat.le_of_ble_eq_true rfl) dX8_value_66) ?_
        show V G p l e rmMo_value s m args below meth c 4 A Q 0 0 (gMo G qMo mo_all mo_past mo_aside mo_states u7.2 mo_causeKind mo_causeOrder mo_corner mo_linkVotes mo_linkE mo_linkF mo_follower mo_ahead mo_least mo_seam mo_above mo_below mo_text mo_textLong mo_place mo_value mo_numbers mo_not) 69 [(0, .ref (qMo 0)), (1, .int p1), (2, .int p2), (3, .int p3)] [.int u7.1]
        have h9 := hret 69 [(0, .ref (qMo 0)), (1, .int p1), (2, .int p2), (3, .int p3)] dX8_value_69
        rw [← (Option.some.inj hf)] at h9
        exact h9
      · have hf := iq hc6 hf
        refine V_aload_n E 0 rfl dX8_value_53 ?_
        refine V_iload_n E 1 rfl dX8_value_54 ?_
        refine V_iload_n E 2 rfl dX8_value_55 ?_
        refine V_iload_n E 3 rfl dX8_value_56 ?_
        obtain ⟨u8, hu8, hf⟩ := bd hf
        refine V_frW E (Rn_V E (rest := []) mlX8_143 wd_yX8_at (kMo_at l G qMo p1 p2 p3 mo_all mo_past mo_aside mo_states mo_refused mo_causeKind mo_causeOrder mo_corner mo_linkVotes mo_linkE mo_linkF mo_follower mo_ahead mo_least mo_seam mo_above mo_below mo_text mo_textLong mo_place mo_value mo_numbers mo_not u8 hu8) ⟨rfl, rfl, Nat.le_of_ble_eq_true rfl, Nat.le_of_ble_eq_true rfl⟩ 0 rfl rfl rfl rfl rfl (Nat.le_of_ble_eq_true rfl) dX8_value_57) ?_
        show V G p l e rmMo_value s m args below meth c 4 A Q 0 0 (gMo G qMo mo_all mo_past mo_aside mo_states mo_refused mo_causeKind mo_causeOrder mo_corner mo_linkVotes mo_linkE mo_linkF mo_follower mo_ahead mo_least mo_seam mo_above mo_below mo_text mo_textLong mo_place mo_value mo_numbers mo_not) 60 [(0, .ref (qMo 0)), (1, .int p1), (2, .int p2), (3, .int p3)] [.int u8]
        refine V_goto E (tgt := 69) dX8_value_60 (by decide) ?_
        have h9 := hret 69 [(0, .ref (qMo 0)), (1, .int p1), (2, .int p2), (3, .int p3)] dX8_value_69
        rw [← (Option.some.inj hf)] at h9
        exact h9
  · have hf := ip hc1 hf
    refine V_aload_n E 0 rfl dX8_value_5 ?_
    refine V_iload_n E 2 rfl dX8_value_6 ?_
    refine V_iload_n E 3 rfl dX8_value_7 ?_
    obtain ⟨u9, hu9, hf⟩ := bd hf
    refine V_frW E (Rn_V E (rest := []) mlX8_104 wd_yX8_isDot (kMo_isDot l G qMo p2 p3 mo_all mo_past mo_aside mo_states mo_refused mo_causeKind mo_causeOrder mo_corner mo_linkVotes mo_linkE mo_linkF mo_follower mo_ahead mo_least mo_seam mo_above mo_below mo_text mo_textLong mo_place mo_value mo_numbers mo_not u9 hu9) ⟨rfl, rfl, Nat.le_of_ble_eq_true rfl, Nat.le_of_ble_eq_true rfl⟩ 0 rfl rfl rfl rfl rfl (Nat.le_of_ble_eq_true rfl) dX8_value_8) ?_
    show V G p l e rmMo_value s m args below meth c 4 A Q 0 0 (gMo G qMo mo_all mo_past mo_aside mo_states mo_refused mo_causeKind mo_causeOrder mo_corner mo_linkVotes mo_linkE mo_linkF mo_follower mo_ahead mo_least mo_seam mo_above mo_below mo_text mo_textLong mo_place mo_value mo_numbers mo_not) 11 [(0, .ref (qMo 0)), (1, .int p1), (2, .int p2), (3, .int p3)] [.int u9]
    refine V_if_eq E (tgt := 30) dX8_value_11 (by decide) (fun hc10 => ?_) (fun hc10 => ?_)
    · have hf := ip hc10 hf
      refine V_aload_n E 0 rfl dX8_value_30 ?_
      refine V_bipush E (v := (-2 : Int32)) dX8_value_31 (by decide) ?_
      obtain ⟨u11, hu11, hf⟩ := bd hf
      refine V_frW E (Rn_V E (rest := []) mlX8_91 wd_yX8_refuses (kMo_refuses l G qMo (-2 : Int32) mo_all mo_past mo_aside mo_states mo_refused mo_causeKind mo_causeOrder mo_corner mo_linkVotes mo_linkE mo_linkF mo_follower mo_ahead mo_least mo_seam mo_above mo_below mo_text mo_textLong mo_place mo_value mo_numbers mo_not u11 hu11) ⟨rfl, rfl, Nat.le_of_ble_eq_true rfl, Nat.le_of_ble_eq_true rfl⟩ 0 rfl rfl rfl rfl rfl (Nat.le_of_ble_eq_true rfl) dX8_value_33) ?_
      show V G p l e rmMo_value s m args below meth c 4 A Q 0 0 (gMo G qMo mo_all mo_past mo_aside mo_states u11.2 mo_causeKind mo_causeOrder mo_corner mo_linkVotes mo_linkE mo_linkF mo_follower mo_ahead mo_least mo_seam mo_above mo_below mo_text mo_textLong mo_place mo_value mo_numbers mo_not) 36 [(0, .ref (qMo 0)), (1, .int p1), (2, .int p2), (3, .int p3)] [.int u11.1]
      have h9 := hret 36 [(0, .ref (qMo 0)), (1, .int p1), (2, .int p2), (3, .int p3)] dX8_value_36
      rw [← (Option.some.inj hf)] at h9
      exact h9
    · have hf := iq hc10 hf
      refine V_aload_n E 0 rfl dX8_value_14 ?_
      refine gfX8_7 E 0 rfl rfl dX8_value_15 ?_
      refine V_iconst E (v := (4 : Int32)) dX8_value_18 (by decide) ?_
      refine V_bipush E (v := (32 : Int32)) dX8_value_19 (by decide) ?_
      refine V_iload_n E 2 rfl dX8_value_21 ?_
      refine V_imul E dX8_value_22 ?_
      refine V_iadd E dX8_value_23 ?_
      refine V_iload_n E 3 rfl dX8_value_24 ?_
      refine V_iadd E dX8_value_25 ?_
      obtain ⟨hi12, hf⟩ := asr_ok hf
      refine V_iald E 1 rfl hi12 dX8_value_26 ?_
      refine V_goto E (tgt := 36) dX8_value_27 (by decide) ?_
      have h9 := hret 36 [(0, .ref (qMo 0)), (1, .int p1), (2, .int p2), (3, .int p3)] dX8_value_36
      rw [← (Option.some.inj hf)] at h9
      exact h9
abbrev rmMo_pair : Room := { frames := 1, cells := 0, slots := 0, locals := 23 }
theorem wd_yX8_pair : wdV yX8_pair cX8_pair 6 (some .int) 5 := ⟨wc_yX8_pair, wi_yX8_pair, wse_yX8_pair, wini_X8, by decide +kernel, by decide +kernel, by decide +kernel⟩
set_option maxHeartbeats 4000000 in
set_option maxRecDepth 100000 in
theorem kMo_pair (l : Launch) (G : wG) (qMo : Nat → Nat) (p1 : Int32) (p2 : Int32) (p3 : Int32) (p4 : Int32) (p5 : Int32) (mo_all : Nat → Int32) (mo_past : Nat → Int32) (mo_aside : Nat → Int32) (mo_states : Int32) (mo_refused : Nat → Int32) (mo_causeKind : Int32) (mo_causeOrder : Int32) (mo_corner : Nat → Int32) (mo_linkVotes : Nat → Int32) (mo_linkE : Nat → Int32) (mo_linkF : Nat → Int32) (mo_follower : Nat → Int32) (mo_ahead : Nat → Int32) (mo_least : Nat → Int32) (mo_seam : Nat → Int32) (mo_above : Int64) (mo_below : Int64) (mo_text : Nat → Int32) (mo_textLong : Int32) (mo_place : Int32) (mo_value : Int32) (mo_numbers : Nat → Int32) (mo_not : Int32) (o : Int32) (hf : fMo_pair p1 p2 p3 p4 p5 mo_all = some o) : Ct G l yX8_pair cX8_pair 6 (some .int) rmMo_pair [.ref (qMo 0), .int p1, .int p2, .int p3, .int p4, .int p5] (gMo G qMo mo_all mo_past mo_aside mo_states mo_refused mo_causeKind mo_causeOrder mo_corner mo_linkVotes mo_linkE mo_linkF mo_follower mo_ahead mo_least mo_seam mo_above mo_below mo_text mo_textLong mo_place mo_value mo_numbers mo_not) (some (.int o)) (gMo G qMo mo_all mo_past mo_aside mo_states mo_refused mo_causeKind mo_causeOrder mo_corner mo_linkVotes mo_linkE mo_linkF mo_follower mo_ahead mo_least mo_seam mo_above mo_below mo_text mo_textLong mo_place mo_value mo_numbers mo_not) := by
  refine Ct.ofI (by decide +kernel) (Nat.le_of_ble_eq_true rfl) (fun p e s m args below meth c A Q E hret => ?_)
  unfold fMo_pair at hf
  show V G p l e rmMo_pair s m args below meth c 6 A Q 0 0 (gMo G qMo mo_all mo_past mo_aside mo_states mo_refused mo_causeKind mo_causeOrder mo_corner mo_linkVotes mo_linkE mo_linkF mo_follower mo_ahead mo_least mo_seam mo_above mo_below mo_text mo_textLong mo_place mo_value mo_numbers mo_not) 0 [(0, .ref (qMo 0)), (1, .int p1), (2, .int p2), (3, .int p3), (4, .int p4), (5, .int p5)] []
  refine V_aload_n E 0 rfl dX8_pair_0 ?_
  refine V_iload_n E 1 rfl dX8_pair_1 ?_
  refine V_iload_n E 2 rfl dX8_pair_2 ?_
  refine V_iload_n E 3 rfl dX8_pair_3 ?_
  obtain ⟨u1, hu1, hf⟩ := bd hf
  refine V_frW E (Rn_V E (rest := []) mlX8_143 wd_yX8_at (kMo_at l G qMo p1 p2 p3 mo_all mo_past mo_aside mo_states mo_refused mo_causeKind mo_causeOrder mo_corner mo_linkVotes mo_linkE mo_linkF mo_follower mo_ahead mo_least mo_seam mo_above mo_below mo_text mo_textLong mo_place mo_value mo_numbers mo_not u1 hu1) ⟨rfl, rfl, Nat.le_of_ble_eq_true rfl, Nat.le_of_ble_eq_true rfl⟩ 0 rfl rfl rfl rfl rfl (Nat.le_of_ble_eq_true rfl) dX8_pair_4) ?_
  show V G p l e rmMo_pair s m args below meth c 6 A Q 0 0 (gMo G qMo mo_all mo_past mo_aside mo_states mo_refused mo_causeKind mo_causeOrder mo_corner mo_linkVotes mo_linkE mo_linkF mo_follower mo_ahead mo_least mo_seam mo_above mo_below mo_text mo_textLong mo_place mo_value mo_numbers mo_not) 7 [(0, .ref (qMo 0)), (1, .int p1), (2, .int p2), (3, .int p3), (4, .int p4), (5, .int p5)] [.int u1]
  refine V_aload_n E 0 rfl dX8_pair_7 ?_
  refine V_iload_n E 1 rfl dX8_pair_8 ?_
  refine V_iload_n E 2 rfl dX8_pair_9 ?_
  refine V_iload E 4 rfl dX8_pair_10 ?_
  refine V_iadd E dX8_pair_12 ?_
  refine V_iload_n E 3 rfl dX8_pair_13 ?_
  refine V_iload E 5 rfl dX8_pair_14 ?_
  refine V_iadd E dX8_pair_16 ?_
  obtain ⟨u2, hu2, hf⟩ := bd hf
  refine V_frW E (Rn_V E (rest := [.int u1]) mlX8_143 wd_yX8_at (kMo_at l G qMo p1 (p2 + p4) (p3 + p5) mo_all mo_past mo_aside mo_states mo_refused mo_causeKind mo_causeOrder mo_corner mo_linkVotes mo_linkE mo_linkF mo_follower mo_ahead mo_least mo_seam mo_above mo_below mo_text mo_textLong mo_place mo_value mo_numbers mo_not u2 hu2) ⟨rfl, rfl, Nat.le_of_ble_eq_true rfl, Nat.le_of_ble_eq_true rfl⟩ 0 rfl rfl rfl rfl rfl (Nat.le_of_ble_eq_true rfl) dX8_pair_17) ?_
  show V G p l e rmMo_pair s m args below meth c 6 A Q 0 0 (gMo G qMo mo_all mo_past mo_aside mo_states mo_refused mo_causeKind mo_causeOrder mo_corner mo_linkVotes mo_linkE mo_linkF mo_follower mo_ahead mo_least mo_seam mo_above mo_below mo_text mo_textLong mo_place mo_value mo_numbers mo_not) 20 [(0, .ref (qMo 0)), (1, .int p1), (2, .int p2), (3, .int p3), (4, .int p4), (5, .int p5)] [.int u2, .int u1]
  refine V_isub E dX8_pair_20 ?_
  obtain ⟨u3, hu3, hf⟩ := bd hf
  refine V_fr0 E (Rn_S E (rest := []) mlX8_146 wd_yX8_abs (kMo_abs l G (u1 - u2) u3 hu3) ⟨rfl, rfl, Nat.le_of_ble_eq_true rfl, Nat.le_of_ble_eq_true rfl⟩ rfl rfl (Nat.le_of_ble_eq_true rfl) dX8_pair_21) ?_
  show V G p l e rmMo_pair s m args below meth c 6 A Q 0 0 (gMo G qMo mo_all mo_past mo_aside mo_states mo_refused mo_causeKind mo_causeOrder mo_corner mo_linkVotes mo_linkE mo_linkF mo_follower mo_ahead mo_least mo_seam mo_above mo_below mo_text mo_textLong mo_place mo_value mo_numbers mo_not) 24 [(0, .ref (qMo 0)), (1, .int p1), (2, .int p2), (3, .int p3), (4, .int p4), (5, .int p5)] [.int u3]
  refine V_aload_n E 0 rfl dX8_pair_24 ?_
  refine V_iload_n E 1 rfl dX8_pair_25 ?_
  refine V_iload_n E 2 rfl dX8_pair_26 ?_
  refine V_iload_n E 3 rfl dX8_pair_27 ?_
  obtain ⟨u4, hu4, hf⟩ := bd hf
  refine V_frW E (Rn_V E (rest := [.int u3]) mlX8_143 wd_yX8_at (kMo_at l G qMo p1 p2 p3 mo_all mo_past mo_aside mo_states mo_refused mo_causeKind mo_causeOrder mo_corner mo_linkVotes mo_linkE mo_linkF mo_follower mo_ahead mo_least mo_seam mo_above mo_below mo_text mo_textLong mo_place mo_value mo_numbers mo_not u4 hu4) ⟨rfl, rfl, Nat.le_of_ble_eq_true rfl, Nat.le_of_ble_eq_true rfl⟩ 0 rfl rfl rfl rfl rfl (Nat.le_of_ble_eq_true rfl) dX8_pair_28) ?_
  show V G p l e rmMo_pair s m args below meth c 6 A Q 0 0 (gMo G qMo mo_all mo_past mo_aside mo_states mo_refused mo_causeKind mo_causeOrder mo_corner mo_linkVotes mo_linkE mo_linkF mo_follower mo_ahead mo_least mo_seam mo_above mo_below mo_text mo_textLong mo_place mo_value mo_numbers mo_not) 31 [(0, .ref (qMo 0)), (1, .int p1), (2, .int p2), (3, .int p3), (4, .int p4), (5, .int p5)] [.int u4, .int u3]
  refine V_aload_n E 0 rfl dX8_pair_31 ?_
  refine V_iload_n E 1 rfl dX8_pair_32 ?_
  refine V_iload_n E 2 rfl dX8_pair_33 ?_
  refine V_iload E 4 rfl dX8_pair_34 ?_
  refine V_isub E dX8_pair_36 ?_
  refine V_iload_n E 3 rfl dX8_pair_37 ?_
  refine V_iload E 5 rfl dX8_pair_38 ?_
  refine V_isub E dX8_pair_40 ?_
  obtain ⟨u5, hu5, hf⟩ := bd hf
  refine V_frW E (Rn_V E (rest := [.int u4, .int u3]) mlX8_143 wd_yX8_at (kMo_at l G qMo p1 (p2 - p4) (p3 - p5) mo_all mo_past mo_aside mo_states mo_refused mo_causeKind mo_causeOrder mo_corner mo_linkVotes mo_linkE mo_linkF mo_follower mo_ahead mo_least mo_seam mo_above mo_below mo_text mo_textLong mo_place mo_value mo_numbers mo_not u5 hu5) ⟨rfl, rfl, Nat.le_of_ble_eq_true rfl, Nat.le_of_ble_eq_true rfl⟩ 0 rfl rfl rfl rfl rfl (Nat.le_of_ble_eq_true rfl) dX8_pair_41) ?_
  show V G p l e rmMo_pair s m args below meth c 6 A Q 0 0 (gMo G qMo mo_all mo_past mo_aside mo_states mo_refused mo_causeKind mo_causeOrder mo_corner mo_linkVotes mo_linkE mo_linkF mo_follower mo_ahead mo_least mo_seam mo_above mo_below mo_text mo_textLong mo_place mo_value mo_numbers mo_not) 44 [(0, .ref (qMo 0)), (1, .int p1), (2, .int p2), (3, .int p3), (4, .int p4), (5, .int p5)] [.int u5, .int u4, .int u3]
  refine V_isub E dX8_pair_44 ?_
  obtain ⟨u6, hu6, hf⟩ := bd hf
  refine V_fr0 E (Rn_S E (rest := [.int u3]) mlX8_146 wd_yX8_abs (kMo_abs l G (u4 - u5) u6 hu6) ⟨rfl, rfl, Nat.le_of_ble_eq_true rfl, Nat.le_of_ble_eq_true rfl⟩ rfl rfl (Nat.le_of_ble_eq_true rfl) dX8_pair_45) ?_
  show V G p l e rmMo_pair s m args below meth c 6 A Q 0 0 (gMo G qMo mo_all mo_past mo_aside mo_states mo_refused mo_causeKind mo_causeOrder mo_corner mo_linkVotes mo_linkE mo_linkF mo_follower mo_ahead mo_least mo_seam mo_above mo_below mo_text mo_textLong mo_place mo_value mo_numbers mo_not) 48 [(0, .ref (qMo 0)), (1, .int p1), (2, .int p2), (3, .int p3), (4, .int p4), (5, .int p5)] [.int u6, .int u3]
  refine V_iadd E dX8_pair_48 ?_
  have h9 := hret 49 [(0, .ref (qMo 0)), (1, .int p1), (2, .int p2), (3, .int p3), (4, .int p4), (5, .int p5)] dX8_pair_49
  rw [← (Option.some.inj hf)] at h9
  exact h9
abbrev rmMo_changeNow : Room := { frames := 2, cells := 0, slots := 0, locals := 48 }
theorem wd_yX8_changeNow : wdV yX8_changeNow cX8_changeNow 6 (some .int) 3 := ⟨wc_yX8_changeNow, wi_yX8_changeNow, wse_yX8_changeNow, wini_X8, by decide +kernel, by decide +kernel, by decide +kernel⟩
set_option maxHeartbeats 4000000 in
set_option maxRecDepth 100000 in
theorem kMo_changeNow (l : Launch) (G : wG) (qMo : Nat → Nat) (p1 : Int32) (p2 : Int32) (p3 : Int32) (mo_all : Nat → Int32) (mo_past : Nat → Int32) (mo_aside : Nat → Int32) (mo_states : Int32) (mo_refused : Nat → Int32) (mo_causeKind : Int32) (mo_causeOrder : Int32) (mo_corner : Nat → Int32) (mo_linkVotes : Nat → Int32) (mo_linkE : Nat → Int32) (mo_linkF : Nat → Int32) (mo_follower : Nat → Int32) (mo_ahead : Nat → Int32) (mo_least : Nat → Int32) (mo_seam : Nat → Int32) (mo_above : Int64) (mo_below : Int64) (mo_text : Nat → Int32) (mo_textLong : Int32) (mo_place : Int32) (mo_value : Int32) (mo_numbers : Nat → Int32) (mo_not : Int32) (o : Int32) (hf : fMo_changeNow p1 p2 p3 mo_all = some o) : Ct G l yX8_changeNow cX8_changeNow 6 (some .int) rmMo_changeNow [.ref (qMo 0), .int p1, .int p2, .int p3] (gMo G qMo mo_all mo_past mo_aside mo_states mo_refused mo_causeKind mo_causeOrder mo_corner mo_linkVotes mo_linkE mo_linkF mo_follower mo_ahead mo_least mo_seam mo_above mo_below mo_text mo_textLong mo_place mo_value mo_numbers mo_not) (some (.int o)) (gMo G qMo mo_all mo_past mo_aside mo_states mo_refused mo_causeKind mo_causeOrder mo_corner mo_linkVotes mo_linkE mo_linkF mo_follower mo_ahead mo_least mo_seam mo_above mo_below mo_text mo_textLong mo_place mo_value mo_numbers mo_not) := by
  refine Ct.ofI (by decide +kernel) (Nat.le_of_ble_eq_true rfl) (fun p e s m args below meth c A Q E hret => ?_)
  unfold fMo_changeNow at hf
  show V G p l e rmMo_changeNow s m args below meth c 6 A Q 0 0 (gMo G qMo mo_all mo_past mo_aside mo_states mo_refused mo_causeKind mo_causeOrder mo_corner mo_linkVotes mo_linkE mo_linkF mo_follower mo_ahead mo_least mo_seam mo_above mo_below mo_text mo_textLong mo_place mo_value mo_numbers mo_not) 0 [(0, .ref (qMo 0)), (1, .int p1), (2, .int p2), (3, .int p3)] []
  refine V_aload_n E 0 rfl dX8_changeNow_0 ?_
  refine V_iload_n E 1 rfl dX8_changeNow_1 ?_
  refine V_iload_n E 2 rfl dX8_changeNow_2 ?_
  refine V_iload_n E 3 rfl dX8_changeNow_3 ?_
  refine V_iconst E (v := (0 : Int32)) dX8_changeNow_4 (by decide) ?_
  refine V_iconst E (v := (1 : Int32)) dX8_changeNow_5 (by decide) ?_
  obtain ⟨u1, hu1, hf⟩ := bd hf
  refine V_frW E (Rn_V E (rest := []) mlX8_149 wd_yX8_pair (kMo_pair l G qMo p1 p2 p3 (0 : Int32) (1 : Int32) mo_all mo_past mo_aside mo_states mo_refused mo_causeKind mo_causeOrder mo_corner mo_linkVotes mo_linkE mo_linkF mo_follower mo_ahead mo_least mo_seam mo_above mo_below mo_text mo_textLong mo_place mo_value mo_numbers mo_not u1 hu1) ⟨rfl, rfl, Nat.le_of_ble_eq_true rfl, Nat.le_of_ble_eq_true rfl⟩ 0 rfl rfl rfl rfl rfl (Nat.le_of_ble_eq_true rfl) dX8_changeNow_6) ?_
  show V G p l e rmMo_changeNow s m args below meth c 6 A Q 0 0 (gMo G qMo mo_all mo_past mo_aside mo_states mo_refused mo_causeKind mo_causeOrder mo_corner mo_linkVotes mo_linkE mo_linkF mo_follower mo_ahead mo_least mo_seam mo_above mo_below mo_text mo_textLong mo_place mo_value mo_numbers mo_not) 9 [(0, .ref (qMo 0)), (1, .int p1), (2, .int p2), (3, .int p3)] [.int u1]
  refine V_istore E (lv' := [(0, .ref (qMo 0)), (1, .int p1), (2, .int p2), (3, .int p3), (4, .int u1)]) dX8_changeNow_9 (by decide) rfl ?_
  refine V_aload_n E 0 rfl dX8_changeNow_11 ?_
  refine V_iload_n E 1 rfl dX8_changeNow_12 ?_
  refine V_iload_n E 2 rfl dX8_changeNow_13 ?_
  refine V_iload_n E 3 rfl dX8_changeNow_14 ?_
  refine V_iconst E (v := (1 : Int32)) dX8_changeNow_15 (by decide) ?_
  refine V_iconst E (v := (0 : Int32)) dX8_changeNow_16 (by decide) ?_
  obtain ⟨u2, hu2, hf⟩ := bd hf
  refine V_frW E (Rn_V E (rest := []) mlX8_149 wd_yX8_pair (kMo_pair l G qMo p1 p2 p3 (1 : Int32) (0 : Int32) mo_all mo_past mo_aside mo_states mo_refused mo_causeKind mo_causeOrder mo_corner mo_linkVotes mo_linkE mo_linkF mo_follower mo_ahead mo_least mo_seam mo_above mo_below mo_text mo_textLong mo_place mo_value mo_numbers mo_not u2 hu2) ⟨rfl, rfl, Nat.le_of_ble_eq_true rfl, Nat.le_of_ble_eq_true rfl⟩ 0 rfl rfl rfl rfl rfl (Nat.le_of_ble_eq_true rfl) dX8_changeNow_17) ?_
  show V G p l e rmMo_changeNow s m args below meth c 6 A Q 0 0 (gMo G qMo mo_all mo_past mo_aside mo_states mo_refused mo_causeKind mo_causeOrder mo_corner mo_linkVotes mo_linkE mo_linkF mo_follower mo_ahead mo_least mo_seam mo_above mo_below mo_text mo_textLong mo_place mo_value mo_numbers mo_not) 20 [(0, .ref (qMo 0)), (1, .int p1), (2, .int p2), (3, .int p3), (4, .int u1)] [.int u2]
  refine V_istore E (lv' := [(0, .ref (qMo 0)), (1, .int p1), (2, .int p2), (3, .int p3), (4, .int u1), (5, .int u2)]) dX8_changeNow_20 (by decide) rfl ?_
  refine V_iload E 5 rfl dX8_changeNow_22 ?_
  refine V_iload E 4 rfl dX8_changeNow_24 ?_
  obtain ⟨u4, hu4, hf⟩ := bd hf
  have J36 : V G p l e rmMo_changeNow s m args below meth c 6 A Q 0 0 (gMo G qMo mo_all mo_past mo_aside mo_states mo_refused mo_causeKind mo_causeOrder mo_corner mo_linkVotes mo_linkE mo_linkF mo_follower mo_ahead mo_least mo_seam mo_above mo_below mo_text mo_textLong mo_place mo_value mo_numbers mo_not) 36 [(0, .ref (qMo 0)), (1, .int p1), (2, .int p2), (3, .int p3)] [.int u4] := by
    refine V_istore E (lv' := [(0, .ref (qMo 0)), (1, .int p1), (2, .int p2), (3, .int p3), (4, .int u4)]) dX8_changeNow_36 (by decide) rfl ?_
    refine V_aload_n E 0 rfl dX8_changeNow_38 ?_
    refine V_iload_n E 1 rfl dX8_changeNow_39 ?_
    refine V_iload_n E 2 rfl dX8_changeNow_40 ?_
    refine V_iload_n E 3 rfl dX8_changeNow_41 ?_
    refine V_iconst E (v := (1 : Int32)) dX8_changeNow_42 (by decide) ?_
    refine V_iconst E (v := (1 : Int32)) dX8_changeNow_43 (by decide) ?_
    obtain ⟨u5, hu5, hf⟩ := bd hf
    refine V_frW E (Rn_V E (rest := []) mlX8_149 wd_yX8_pair (kMo_pair l G qMo p1 p2 p3 (1 : Int32) (1 : Int32) mo_all mo_past mo_aside mo_states mo_refused mo_causeKind mo_causeOrder mo_corner mo_linkVotes mo_linkE mo_linkF mo_follower mo_ahead mo_least mo_seam mo_above mo_below mo_text mo_textLong mo_place mo_value mo_numbers mo_not u5 hu5) ⟨rfl, rfl, Nat.le_of_ble_eq_true rfl, Nat.le_of_ble_eq_true rfl⟩ 0 rfl rfl rfl rfl rfl (Nat.le_of_ble_eq_true rfl) dX8_changeNow_44) ?_
    show V G p l e rmMo_changeNow s m args below meth c 6 A Q 0 0 (gMo G qMo mo_all mo_past mo_aside mo_states mo_refused mo_causeKind mo_causeOrder mo_corner mo_linkVotes mo_linkE mo_linkF mo_follower mo_ahead mo_least mo_seam mo_above mo_below mo_text mo_textLong mo_place mo_value mo_numbers mo_not) 47 [(0, .ref (qMo 0)), (1, .int p1), (2, .int p2), (3, .int p3), (4, .int u4)] [.int u5]
    refine V_istore E (lv' := [(0, .ref (qMo 0)), (1, .int p1), (2, .int p2), (3, .int p3), (4, .int u4), (5, .int u5)]) dX8_changeNow_47 (by decide) rfl ?_
    refine V_iload E 5 rfl dX8_changeNow_49 ?_
    refine V_iload E 4 rfl dX8_changeNow_51 ?_
    obtain ⟨u7, hu7, hf⟩ := bd hf
    have J63 : V G p l e rmMo_changeNow s m args below meth c 6 A Q 0 0 (gMo G qMo mo_all mo_past mo_aside mo_states mo_refused mo_causeKind mo_causeOrder mo_corner mo_linkVotes mo_linkE mo_linkF mo_follower mo_ahead mo_least mo_seam mo_above mo_below mo_text mo_textLong mo_place mo_value mo_numbers mo_not) 63 [(0, .ref (qMo 0)), (1, .int p1), (2, .int p2), (3, .int p3)] [.int u7] := by
      refine V_istore E (lv' := [(0, .ref (qMo 0)), (1, .int p1), (2, .int p2), (3, .int p3), (4, .int u7)]) dX8_changeNow_63 (by decide) rfl ?_
      refine V_aload_n E 0 rfl dX8_changeNow_65 ?_
      refine V_iload_n E 1 rfl dX8_changeNow_66 ?_
      refine V_iload_n E 2 rfl dX8_changeNow_67 ?_
      refine V_iload_n E 3 rfl dX8_changeNow_68 ?_
      refine V_iconst E (v := (1 : Int32)) dX8_changeNow_69 (by decide) ?_
      refine V_iconst E (v := (-1 : Int32)) dX8_changeNow_70 (by decide) ?_
      obtain ⟨u8, hu8, hf⟩ := bd hf
      refine V_frW E (Rn_V E (rest := []) mlX8_149 wd_yX8_pair (kMo_pair l G qMo p1 p2 p3 (1 : Int32) (-1 : Int32) mo_all mo_past mo_aside mo_states mo_refused mo_causeKind mo_causeOrder mo_corner mo_linkVotes mo_linkE mo_linkF mo_follower mo_ahead mo_least mo_seam mo_above mo_below mo_text mo_textLong mo_place mo_value mo_numbers mo_not u8 hu8) ⟨rfl, rfl, Nat.le_of_ble_eq_true rfl, Nat.le_of_ble_eq_true rfl⟩ 0 rfl rfl rfl rfl rfl (Nat.le_of_ble_eq_true rfl) dX8_changeNow_71) ?_
      show V G p l e rmMo_changeNow s m args below meth c 6 A Q 0 0 (gMo G qMo mo_all mo_past mo_aside mo_states mo_refused mo_causeKind mo_causeOrder mo_corner mo_linkVotes mo_linkE mo_linkF mo_follower mo_ahead mo_least mo_seam mo_above mo_below mo_text mo_textLong mo_place mo_value mo_numbers mo_not) 74 [(0, .ref (qMo 0)), (1, .int p1), (2, .int p2), (3, .int p3), (4, .int u7)] [.int u8]
      refine V_istore E (lv' := [(0, .ref (qMo 0)), (1, .int p1), (2, .int p2), (3, .int p3), (4, .int u7), (5, .int u8)]) dX8_changeNow_74 (by decide) rfl ?_
      refine V_iload E 5 rfl dX8_changeNow_76 ?_
      refine V_iload E 4 rfl dX8_changeNow_78 ?_
      refine V_icmp_ge E (tgt := 88) dX8_changeNow_80 (by decide) (fun hc9 => ?_) (fun hc9 => ?_)
      · have hf := ip hc9 hf
        refine V_iload E 4 rfl dX8_changeNow_88 ?_
        have h9 := hret 90 [(0, .ref (qMo 0)), (1, .int p1), (2, .int p2), (3, .int p3), (4, .int u7), (5, .int u8)] dX8_changeNow_90
        rw [← (Option.some.inj hf)] at h9
        exact h9
      · have hf := iq hc9 hf
        refine V_iload E 5 rfl dX8_changeNow_83 ?_
        refine V_goto E (tgt := 90) dX8_changeNow_85 (by decide) ?_
        have h9 := hret 90 [(0, .ref (qMo 0)), (1, .int p1), (2, .int p2), (3, .int p3), (4, .int u7), (5, .int u8)] dX8_changeNow_90
        rw [← (Option.some.inj hf)] at h9
        exact h9
    clear hf
    have hf := hu7
    refine V_icmp_ge E (tgt := 61) dX8_changeNow_53 (by decide) (fun hc6 => ?_) (fun hc6 => ?_)
    · have hf := ip hc6 hf
      refine V_iload E 4 rfl dX8_changeNow_61 ?_
      refine V_sub [0, 1, 2, 3] rfl ?_
      rw [← Option.some.inj hf] at J63
      exact J63
    · have hf := iq hc6 hf
      refine V_iload E 5 rfl dX8_changeNow_56 ?_
      refine V_goto E (tgt := 63) dX8_changeNow_58 (by decide) ?_
      refine V_sub [0, 1, 2, 3] rfl ?_
      rw [← Option.some.inj hf] at J63
      exact J63
  clear hf
  have hf := hu4
  refine V_icmp_ge E (tgt := 34) dX8_changeNow_26 (by decide) (fun hc3 => ?_) (fun hc3 => ?_)
  · have hf := ip hc3 hf
    refine V_iload E 4 rfl dX8_changeNow_34 ?_
    refine V_sub [0, 1, 2, 3] rfl ?_
    rw [← Option.some.inj hf] at J36
    exact J36
  · have hf := iq hc3 hf
    refine V_iload E 5 rfl dX8_changeNow_29 ?_
    refine V_goto E (tgt := 36) dX8_changeNow_31 (by decide) ?_
    refine V_sub [0, 1, 2, 3] rfl ?_
    rw [← Option.some.inj hf] at J36
    exact J36
abbrev rmMo_isInner : Room := { frames := 1, cells := 0, slots := 0, locals := 25 }
theorem wd_yX8_isInner : wdS yX8_isInner cX8_isInner 2 (some .boolean) 2 := ⟨wc_yX8_isInner, wst_yX8_isInner, wini_X8, by decide +kernel, by decide +kernel, by decide +kernel⟩
set_option maxHeartbeats 4000000 in
set_option maxRecDepth 100000 in
theorem kMo_isInner (l : Launch) (G : wG) (p0 : Int32) (p1 : Int32) (o : Int32) (hf : fMo_isInner p0 p1 = some o) : Ct G l yX8_isInner cX8_isInner 2 (some .boolean) rmMo_isInner [.int p0, .int p1] [] (some (.int o)) [] := by
  refine Ct.ofZ (by decide +kernel) (Nat.le_of_ble_eq_true rfl) (fun p e s m args below meth c A Q E hret => ?_)
  unfold fMo_isInner at hf
  show V G p l e rmMo_isInner s m args below meth c 2 A Q 0 0 [] 0 [(0, .int p0), (1, .int p1)] []
  refine V_iload_n E 0 rfl dX8_isInner_0 ?_
  refine V_i2l E dX8_isInner_1 ?_
  refine V_lconst E (v := (1 : Int64)) dX8_isInner_2 (by decide) ?_
  refine V_ldc2 E (v := (2 : Int64)) dX8_isInner_3 kX8_112 ?_
  obtain ⟨u1, hu1, hf⟩ := bd hf
  refine V_fr0 E (Rn_S E (rest := []) mlX8_63 wd_yX8_in (kMo_in l G p0.toInt64 (1 : Int64) (2 : Int64) u1 hu1) ⟨rfl, rfl, Nat.le_of_ble_eq_true rfl, Nat.le_of_ble_eq_true rfl⟩ rfl rfl (Nat.le_of_ble_eq_true rfl) dX8_isInner_6) ?_
  show V G p l e rmMo_isInner s m args below meth c 2 A Q 0 0 [] 9 [(0, .int p0), (1, .int p1)] [.int u1]
  refine V_if_eq E (tgt := 28) dX8_isInner_9 (by decide) (fun hc2 => ?_) (fun hc2 => ?_)
  · have hf := ip hc2 hf
    refine V_iconst E (v := (0 : Int32)) dX8_isInner_28 (by decide) ?_
    have h9 := hret 29 [(0, .int p0), (1, .int p1)] dX8_isInner_29
    rw [← (Option.some.inj hf)] at h9
    exact h9 (z01a (Or.inl rfl))
  · have hf := iq hc2 hf
    refine V_iload_n E 1 rfl dX8_isInner_12 ?_
    refine V_i2l E dX8_isInner_13 ?_
    refine V_lconst E (v := (1 : Int64)) dX8_isInner_14 (by decide) ?_
    refine V_ldc2 E (v := (6 : Int64)) dX8_isInner_15 kX8_153 ?_
    obtain ⟨u3, hu3, hf⟩ := bd hf
    refine V_fr0 E (Rn_S E (rest := []) mlX8_63 wd_yX8_in (kMo_in l G p1.toInt64 (1 : Int64) (6 : Int64) u3 hu3) ⟨rfl, rfl, Nat.le_of_ble_eq_true rfl, Nat.le_of_ble_eq_true rfl⟩ rfl rfl (Nat.le_of_ble_eq_true rfl) dX8_isInner_18) ?_
    show V G p l e rmMo_isInner s m args below meth c 2 A Q 0 0 [] 21 [(0, .int p0), (1, .int p1)] [.int u3]
    refine V_if_eq E (tgt := 28) dX8_isInner_21 (by decide) (fun hc4 => ?_) (fun hc4 => ?_)
    · have hf := ip hc4 hf
      refine V_iconst E (v := (0 : Int32)) dX8_isInner_28 (by decide) ?_
      have h9 := hret 29 [(0, .int p0), (1, .int p1)] dX8_isInner_29
      rw [← (Option.some.inj hf)] at h9
      exact h9 (z01a (Or.inl rfl))
    · have hf := iq hc4 hf
      refine V_iconst E (v := (1 : Int32)) dX8_isInner_24 (by decide) ?_
      refine V_goto E (tgt := 29) dX8_isInner_25 (by decide) ?_
      have h9 := hret 29 [(0, .int p0), (1, .int p1)] dX8_isInner_29
      rw [← (Option.some.inj hf)] at h9
      exact h9 (z01a (Or.inr rfl))
abbrev rmMo_change : Room := { frames := 3, cells := 0, slots := 0, locals := 73 }
theorem wd_yX8_change : wdV yX8_change cX8_change 4 (some .int) 3 := ⟨wc_yX8_change, wi_yX8_change, wse_yX8_change, wini_X8, by decide +kernel, by decide +kernel, by decide +kernel⟩
set_option maxHeartbeats 4000000 in
set_option maxRecDepth 100000 in
theorem kMo_change (l : Launch) (G : wG) (qMo : Nat → Nat) (p1 : Int32) (p2 : Int32) (p3 : Int32) (mo_all : Nat → Int32) (mo_past : Nat → Int32) (mo_aside : Nat → Int32) (mo_states : Int32) (mo_refused : Nat → Int32) (mo_causeKind : Int32) (mo_causeOrder : Int32) (mo_corner : Nat → Int32) (mo_linkVotes : Nat → Int32) (mo_linkE : Nat → Int32) (mo_linkF : Nat → Int32) (mo_follower : Nat → Int32) (mo_ahead : Nat → Int32) (mo_least : Nat → Int32) (mo_seam : Nat → Int32) (mo_above : Int64) (mo_below : Int64) (mo_text : Nat → Int32) (mo_textLong : Int32) (mo_place : Int32) (mo_value : Int32) (mo_numbers : Nat → Int32) (mo_not : Int32) (o : Int32 × (Nat → Int32)) (hf : fMo_change p1 p2 p3 mo_all mo_refused = some o) : Ct G l yX8_change cX8_change 4 (some .int) rmMo_change [.ref (qMo 0), .int p1, .int p2, .int p3] (gMo G qMo mo_all mo_past mo_aside mo_states mo_refused mo_causeKind mo_causeOrder mo_corner mo_linkVotes mo_linkE mo_linkF mo_follower mo_ahead mo_least mo_seam mo_above mo_below mo_text mo_textLong mo_place mo_value mo_numbers mo_not) (some (.int o.1)) (gMo G qMo mo_all mo_past mo_aside mo_states o.2 mo_causeKind mo_causeOrder mo_corner mo_linkVotes mo_linkE mo_linkF mo_follower mo_ahead mo_least mo_seam mo_above mo_below mo_text mo_textLong mo_place mo_value mo_numbers mo_not) := by
  refine Ct.ofI (by decide +kernel) (Nat.le_of_ble_eq_true rfl) (fun p e s m args below meth c A Q E hret => ?_)
  unfold fMo_change at hf
  show V G p l e rmMo_change s m args below meth c 4 A Q 0 0 (gMo G qMo mo_all mo_past mo_aside mo_states mo_refused mo_causeKind mo_causeOrder mo_corner mo_linkVotes mo_linkE mo_linkF mo_follower mo_ahead mo_least mo_seam mo_above mo_below mo_text mo_textLong mo_place mo_value mo_numbers mo_not) 0 [(0, .ref (qMo 0)), (1, .int p1), (2, .int p2), (3, .int p3)] []
  refine V_aload_n E 0 rfl dX8_change_0 ?_
  refine V_iload_n E 1 rfl dX8_change_1 ?_
  obtain ⟨u1, hu1, hf⟩ := bd hf
  refine V_frW E (Rn_V E (rest := []) mlX8_128 wd_yX8_isPicture (kMo_isPicture l G qMo p1 mo_all mo_past mo_aside mo_states mo_refused mo_causeKind mo_causeOrder mo_corner mo_linkVotes mo_linkE mo_linkF mo_follower mo_ahead mo_least mo_seam mo_above mo_below mo_text mo_textLong mo_place mo_value mo_numbers mo_not u1 hu1) ⟨rfl, rfl, Nat.le_of_ble_eq_true rfl, Nat.le_of_ble_eq_true rfl⟩ 0 rfl rfl rfl rfl rfl (Nat.le_of_ble_eq_true rfl) dX8_change_2) ?_
  show V G p l e rmMo_change s m args below meth c 4 A Q 0 0 (gMo G qMo mo_all mo_past mo_aside mo_states mo_refused mo_causeKind mo_causeOrder mo_corner mo_linkVotes mo_linkE mo_linkF mo_follower mo_ahead mo_least mo_seam mo_above mo_below mo_text mo_textLong mo_place mo_value mo_numbers mo_not) 5 [(0, .ref (qMo 0)), (1, .int p1), (2, .int p2), (3, .int p3)] [.int u1]
  refine V_if_eq E (tgt := 26) dX8_change_5 (by decide) (fun hc2 => ?_) (fun hc2 => ?_)
  · have hf := ip hc2 hf
    refine V_aload_n E 0 rfl dX8_change_26 ?_
    refine V_bipush E (v := (-2 : Int32)) dX8_change_27 (by decide) ?_
    obtain ⟨u3, hu3, hf⟩ := bd hf
    refine V_frW E (Rn_V E (rest := []) mlX8_91 wd_yX8_refuses (kMo_refuses l G qMo (-2 : Int32) mo_all mo_past mo_aside mo_states mo_refused mo_causeKind mo_causeOrder mo_corner mo_linkVotes mo_linkE mo_linkF mo_follower mo_ahead mo_least mo_seam mo_above mo_below mo_text mo_textLong mo_place mo_value mo_numbers mo_not u3 hu3) ⟨rfl, rfl, Nat.le_of_ble_eq_true rfl, Nat.le_of_ble_eq_true rfl⟩ 0 rfl rfl rfl rfl rfl (Nat.le_of_ble_eq_true rfl) dX8_change_29) ?_
    show V G p l e rmMo_change s m args below meth c 4 A Q 0 0 (gMo G qMo mo_all mo_past mo_aside mo_states u3.2 mo_causeKind mo_causeOrder mo_corner mo_linkVotes mo_linkE mo_linkF mo_follower mo_ahead mo_least mo_seam mo_above mo_below mo_text mo_textLong mo_place mo_value mo_numbers mo_not) 32 [(0, .ref (qMo 0)), (1, .int p1), (2, .int p2), (3, .int p3)] [.int u3.1]
    have h9 := hret 32 [(0, .ref (qMo 0)), (1, .int p1), (2, .int p2), (3, .int p3)] dX8_change_32
    rw [← (Option.some.inj hf)] at h9
    exact h9
  · have hf := iq hc2 hf
    refine V_iload_n E 2 rfl dX8_change_8 ?_
    refine V_iload_n E 3 rfl dX8_change_9 ?_
    obtain ⟨u4, hu4, hf⟩ := bd hf
    refine V_fr0 E (Rn_S E (rest := []) mlX8_155 wd_yX8_isInner (kMo_isInner l G p2 p3 u4 hu4) ⟨rfl, rfl, Nat.le_of_ble_eq_true rfl, Nat.le_of_ble_eq_true rfl⟩ rfl rfl (Nat.le_of_ble_eq_true rfl) dX8_change_10) ?_
    show V G p l e rmMo_change s m args below meth c 4 A Q 0 0 (gMo G qMo mo_all mo_past mo_aside mo_states mo_refused mo_causeKind mo_causeOrder mo_corner mo_linkVotes mo_linkE mo_linkF mo_follower mo_ahead mo_least mo_seam mo_above mo_below mo_text mo_textLong mo_place mo_value mo_numbers mo_not) 13 [(0, .ref (qMo 0)), (1, .int p1), (2, .int p2), (3, .int p3)] [.int u4]
    refine V_if_eq E (tgt := 26) dX8_change_13 (by decide) (fun hc5 => ?_) (fun hc5 => ?_)
    · have hf := ip hc5 hf
      refine V_aload_n E 0 rfl dX8_change_26 ?_
      refine V_bipush E (v := (-2 : Int32)) dX8_change_27 (by decide) ?_
      obtain ⟨u6, hu6, hf⟩ := bd hf
      refine V_frW E (Rn_V E (rest := []) mlX8_91 wd_yX8_refuses (kMo_refuses l G qMo (-2 : Int32) mo_all mo_past mo_aside mo_states mo_refused mo_causeKind mo_causeOrder mo_corner mo_linkVotes mo_linkE mo_linkF mo_follower mo_ahead mo_least mo_seam mo_above mo_below mo_text mo_textLong mo_place mo_value mo_numbers mo_not u6 hu6) ⟨rfl, rfl, Nat.le_of_ble_eq_true rfl, Nat.le_of_ble_eq_true rfl⟩ 0 rfl rfl rfl rfl rfl (Nat.le_of_ble_eq_true rfl) dX8_change_29) ?_
      show V G p l e rmMo_change s m args below meth c 4 A Q 0 0 (gMo G qMo mo_all mo_past mo_aside mo_states u6.2 mo_causeKind mo_causeOrder mo_corner mo_linkVotes mo_linkE mo_linkF mo_follower mo_ahead mo_least mo_seam mo_above mo_below mo_text mo_textLong mo_place mo_value mo_numbers mo_not) 32 [(0, .ref (qMo 0)), (1, .int p1), (2, .int p2), (3, .int p3)] [.int u6.1]
      have h9 := hret 32 [(0, .ref (qMo 0)), (1, .int p1), (2, .int p2), (3, .int p3)] dX8_change_32
      rw [← (Option.some.inj hf)] at h9
      exact h9
    · have hf := iq hc5 hf
      refine V_aload_n E 0 rfl dX8_change_16 ?_
      refine V_iload_n E 1 rfl dX8_change_17 ?_
      refine V_iload_n E 2 rfl dX8_change_18 ?_
      refine V_iload_n E 3 rfl dX8_change_19 ?_
      obtain ⟨u7, hu7, hf⟩ := bd hf
      refine V_frW E (Rn_V E (rest := []) mlX8_158 wd_yX8_changeNow (kMo_changeNow l G qMo p1 p2 p3 mo_all mo_past mo_aside mo_states mo_refused mo_causeKind mo_causeOrder mo_corner mo_linkVotes mo_linkE mo_linkF mo_follower mo_ahead mo_least mo_seam mo_above mo_below mo_text mo_textLong mo_place mo_value mo_numbers mo_not u7 hu7) ⟨rfl, rfl, Nat.le_of_ble_eq_true rfl, Nat.le_of_ble_eq_true rfl⟩ 0 rfl rfl rfl rfl rfl (Nat.le_of_ble_eq_true rfl) dX8_change_20) ?_
      show V G p l e rmMo_change s m args below meth c 4 A Q 0 0 (gMo G qMo mo_all mo_past mo_aside mo_states mo_refused mo_causeKind mo_causeOrder mo_corner mo_linkVotes mo_linkE mo_linkF mo_follower mo_ahead mo_least mo_seam mo_above mo_below mo_text mo_textLong mo_place mo_value mo_numbers mo_not) 23 [(0, .ref (qMo 0)), (1, .int p1), (2, .int p2), (3, .int p3)] [.int u7]
      refine V_goto E (tgt := 32) dX8_change_23 (by decide) ?_
      have h9 := hret 32 [(0, .ref (qMo 0)), (1, .int p1), (2, .int p2), (3, .int p3)] dX8_change_32
      rw [← (Option.some.inj hf)] at h9
      exact h9
abbrev rmMo_isCorner : Room := { frames := 3, cells := 0, slots := 0, locals := 73 }
theorem wd_yX8_isCorner : wdV yX8_isCorner cX8_isCorner 4 (some .boolean) 3 := ⟨wc_yX8_isCorner, wi_yX8_isCorner, wse_yX8_isCorner, wini_X8, by decide +kernel, by decide +kernel, by decide +kernel⟩
set_option maxHeartbeats 4000000 in
set_option maxRecDepth 100000 in
theorem kMo_isCorner (l : Launch) (G : wG) (qMo : Nat → Nat) (p1 : Int32) (p2 : Int32) (p3 : Int32) (mo_all : Nat → Int32) (mo_past : Nat → Int32) (mo_aside : Nat → Int32) (mo_states : Int32) (mo_refused : Nat → Int32) (mo_causeKind : Int32) (mo_causeOrder : Int32) (mo_corner : Nat → Int32) (mo_linkVotes : Nat → Int32) (mo_linkE : Nat → Int32) (mo_linkF : Nat → Int32) (mo_follower : Nat → Int32) (mo_ahead : Nat → Int32) (mo_least : Nat → Int32) (mo_seam : Nat → Int32) (mo_above : Int64) (mo_below : Int64) (mo_text : Nat → Int32) (mo_textLong : Int32) (mo_place : Int32) (mo_value : Int32) (mo_numbers : Nat → Int32) (mo_not : Int32) (o : Int32) (hf : fMo_isCorner p1 p2 p3 mo_all = some o) : Ct G l yX8_isCorner cX8_isCorner 4 (some .boolean) rmMo_isCorner [.ref (qMo 0), .int p1, .int p2, .int p3] (gMo G qMo mo_all mo_past mo_aside mo_states mo_refused mo_causeKind mo_causeOrder mo_corner mo_linkVotes mo_linkE mo_linkF mo_follower mo_ahead mo_least mo_seam mo_above mo_below mo_text mo_textLong mo_place mo_value mo_numbers mo_not) (some (.int o)) (gMo G qMo mo_all mo_past mo_aside mo_states mo_refused mo_causeKind mo_causeOrder mo_corner mo_linkVotes mo_linkE mo_linkF mo_follower mo_ahead mo_least mo_seam mo_above mo_below mo_text mo_textLong mo_place mo_value mo_numbers mo_not) := by
  refine Ct.ofZ (by decide +kernel) (Nat.le_of_ble_eq_true rfl) (fun p e s m args below meth c A Q E hret => ?_)
  unfold fMo_isCorner at hf
  show V G p l e rmMo_isCorner s m args below meth c 4 A Q 0 0 (gMo G qMo mo_all mo_past mo_aside mo_states mo_refused mo_causeKind mo_causeOrder mo_corner mo_linkVotes mo_linkE mo_linkF mo_follower mo_ahead mo_least mo_seam mo_above mo_below mo_text mo_textLong mo_place mo_value mo_numbers mo_not) 0 [(0, .ref (qMo 0)), (1, .int p1), (2, .int p2), (3, .int p3)] []
  refine V_iload_n E 2 rfl dX8_isCorner_0 ?_
  refine V_iload_n E 3 rfl dX8_isCorner_1 ?_
  obtain ⟨u1, hu1, hf⟩ := bd hf
  refine V_fr0 E (Rn_S E (rest := []) mlX8_155 wd_yX8_isInner (kMo_isInner l G p2 p3 u1 hu1) ⟨rfl, rfl, Nat.le_of_ble_eq_true rfl, Nat.le_of_ble_eq_true rfl⟩ rfl rfl (Nat.le_of_ble_eq_true rfl) dX8_isCorner_2) ?_
  show V G p l e rmMo_isCorner s m args below meth c 4 A Q 0 0 (gMo G qMo mo_all mo_past mo_aside mo_states mo_refused mo_causeKind mo_causeOrder mo_corner mo_linkVotes mo_linkE mo_linkF mo_follower mo_ahead mo_least mo_seam mo_above mo_below mo_text mo_textLong mo_place mo_value mo_numbers mo_not) 5 [(0, .ref (qMo 0)), (1, .int p1), (2, .int p2), (3, .int p3)] [.int u1]
  refine V_if_eq E (tgt := 28) dX8_isCorner_5 (by decide) (fun hc2 => ?_) (fun hc2 => ?_)
  · have hf := ip hc2 hf
    refine V_iconst E (v := (0 : Int32)) dX8_isCorner_28 (by decide) ?_
    have h9 := hret 29 [(0, .ref (qMo 0)), (1, .int p1), (2, .int p2), (3, .int p3)] dX8_isCorner_29
    rw [← (Option.some.inj hf)] at h9
    exact h9 (z01a (Or.inl rfl))
  · have hf := iq hc2 hf
    refine V_aload_n E 0 rfl dX8_isCorner_8 ?_
    refine V_iload_n E 1 rfl dX8_isCorner_9 ?_
    refine V_iload_n E 2 rfl dX8_isCorner_10 ?_
    refine V_iload_n E 3 rfl dX8_isCorner_11 ?_
    obtain ⟨u3, hu3, hf⟩ := bd hf
    refine V_frW E (Rn_V E (rest := []) mlX8_158 wd_yX8_changeNow (kMo_changeNow l G qMo p1 p2 p3 mo_all mo_past mo_aside mo_states mo_refused mo_causeKind mo_causeOrder mo_corner mo_linkVotes mo_linkE mo_linkF mo_follower mo_ahead mo_least mo_seam mo_above mo_below mo_text mo_textLong mo_place mo_value mo_numbers mo_not u3 hu3) ⟨rfl, rfl, Nat.le_of_ble_eq_true rfl, Nat.le_of_ble_eq_true rfl⟩ 0 rfl rfl rfl rfl rfl (Nat.le_of_ble_eq_true rfl) dX8_isCorner_12) ?_
    show V G p l e rmMo_isCorner s m args below meth c 4 A Q 0 0 (gMo G qMo mo_all mo_past mo_aside mo_states mo_refused mo_causeKind mo_causeOrder mo_corner mo_linkVotes mo_linkE mo_linkF mo_follower mo_ahead mo_least mo_seam mo_above mo_below mo_text mo_textLong mo_place mo_value mo_numbers mo_not) 15 [(0, .ref (qMo 0)), (1, .int p1), (2, .int p2), (3, .int p3)] [.int u3]
    refine V_aload_n E 0 rfl dX8_isCorner_15 ?_
    refine gfX8_7 E 0 rfl rfl dX8_isCorner_16 ?_
    refine V_iconst E (v := (1 : Int32)) dX8_isCorner_19 (by decide) ?_
    obtain ⟨hi4, hf⟩ := asr_ok hf
    refine V_iald E 1 rfl hi4 dX8_isCorner_20 ?_
    refine V_icmp_lt E (tgt := 28) dX8_isCorner_21 (by decide) (fun hc5 => ?_) (fun hc5 => ?_)
    · have hf := ip hc5 hf
      refine V_iconst E (v := (0 : Int32)) dX8_isCorner_28 (by decide) ?_
      have h9 := hret 29 [(0, .ref (qMo 0)), (1, .int p1), (2, .int p2), (3, .int p3)] dX8_isCorner_29
      rw [← (Option.some.inj hf)] at h9
      exact h9 (z01a (Or.inl rfl))
    · have hf := iq hc5 hf
      refine V_iconst E (v := (1 : Int32)) dX8_isCorner_24 (by decide) ?_
      refine V_goto E (tgt := 29) dX8_isCorner_25 (by decide) ?_
      have h9 := hret 29 [(0, .ref (qMo 0)), (1, .int p1), (2, .int p2), (3, .int p3)] dX8_isCorner_29
      rw [← (Option.some.inj hf)] at h9
      exact h9 (z01a (Or.inr rfl))
abbrev rmMo_cornersNow : Room := { frames := 4, cells := 0, slots := 0, locals := 96 }
theorem wd_yX8_cornersNow : wdV yX8_cornersNow cX8_cornersNow 5 (some .int) 1 := ⟨wc_yX8_cornersNow, wi_yX8_cornersNow, wse_yX8_cornersNow, wini_X8, by decide +kernel, by decide +kernel, by decide +kernel⟩
set_option maxHeartbeats 4000000 in
set_option maxRecDepth 100000 in
theorem kMo_cornersNow (l : Launch) (G : wG) (qMo : Nat → Nat) (p1 : Int32) (mo_all : Nat → Int32) (mo_past : Nat → Int32) (mo_aside : Nat → Int32) (mo_states : Int32) (mo_refused : Nat → Int32) (mo_causeKind : Int32) (mo_causeOrder : Int32) (mo_corner : Nat → Int32) (mo_linkVotes : Nat → Int32) (mo_linkE : Nat → Int32) (mo_linkF : Nat → Int32) (mo_follower : Nat → Int32) (mo_ahead : Nat → Int32) (mo_least : Nat → Int32) (mo_seam : Nat → Int32) (mo_above : Int64) (mo_below : Int64) (mo_text : Nat → Int32) (mo_textLong : Int32) (mo_place : Int32) (mo_value : Int32) (mo_numbers : Nat → Int32) (mo_not : Int32) (o : Int32) (hf : fMo_cornersNow p1 mo_all = some o) : Ct G l yX8_cornersNow cX8_cornersNow 5 (some .int) rmMo_cornersNow [.ref (qMo 0), .int p1] (gMo G qMo mo_all mo_past mo_aside mo_states mo_refused mo_causeKind mo_causeOrder mo_corner mo_linkVotes mo_linkE mo_linkF mo_follower mo_ahead mo_least mo_seam mo_above mo_below mo_text mo_textLong mo_place mo_value mo_numbers mo_not) (some (.int o)) (gMo G qMo mo_all mo_past mo_aside mo_states mo_refused mo_causeKind mo_causeOrder mo_corner mo_linkVotes mo_linkE mo_linkF mo_follower mo_ahead mo_least mo_seam mo_above mo_below mo_text mo_textLong mo_place mo_value mo_numbers mo_not) := by
  refine Ct.ofI (by decide +kernel) (Nat.le_of_ble_eq_true rfl) (fun p e s m args below meth c A Q E hret => ?_)
  unfold fMo_cornersNow at hf
  show V G p l e rmMo_cornersNow s m args below meth c 5 A Q 0 0 (gMo G qMo mo_all mo_past mo_aside mo_states mo_refused mo_causeKind mo_causeOrder mo_corner mo_linkVotes mo_linkE mo_linkF mo_follower mo_ahead mo_least mo_seam mo_above mo_below mo_text mo_textLong mo_place mo_value mo_numbers mo_not) 0 [(0, .ref (qMo 0)), (1, .int p1)] []
  refine V_iconst E (v := (0 : Int32)) dX8_cornersNow_0 (by decide) ?_
  refine V_istore_n E (lv' := [(0, .ref (qMo 0)), (1, .int p1), (2, .int (0 : Int32))]) dX8_cornersNow_1 (by decide) rfl ?_
  refine V_iconst E (v := (1 : Int32)) dX8_cornersNow_2 (by decide) ?_
  refine V_istore_n E (lv' := [(0, .ref (qMo 0)), (1, .int p1), (2, .int (0 : Int32)), (3, .int (1 : Int32))]) dX8_cornersNow_3 (by decide) rfl ?_
  have L4 : ∀ (n : Nat) (a4_2 : Int32) (a4_3 : Int32) (u : Int32), fMo_cornersNow_L4 p1 mo_all n a4_2 a4_3 = some u → (V G p l e rmMo_cornersNow s m args below meth c 5 A Q 0 0 (gMo G qMo mo_all mo_past mo_aside mo_states mo_refused mo_causeKind mo_causeOrder mo_corner mo_linkVotes mo_linkE mo_linkF mo_follower mo_ahead mo_least mo_seam mo_above mo_below mo_text mo_textLong mo_place mo_value mo_numbers mo_not) 62 [(2, .int u)] []) → V G p l e rmMo_cornersNow s m args below meth c 5 A Q 0 0 (gMo G qMo mo_all mo_past mo_aside mo_states mo_refused mo_causeKind mo_causeOrder mo_corner mo_linkVotes mo_linkE mo_linkF mo_follower mo_ahead mo_least mo_seam mo_above mo_below mo_text mo_textLong mo_place mo_value mo_numbers mo_not) 4 [(0, .ref (qMo 0)), (1, .int p1), (2, .int a4_2), (3, .int a4_3)] [] := by
    intro n
    induction n with
    | zero =>
      intro a4_2 a4_3 u hf hk
      rw [fMo_cornersNow_L4] at hf
      cases hf
    | succ n ih =>
      intro a4_2 a4_3 u hf hk
      rw [fMo_cornersNow_L4] at hf
      refine V_iload_n E 3 rfl dX8_cornersNow_4 ?_
      refine V_iconst E (v := (2 : Int32)) dX8_cornersNow_5 (by decide) ?_
      refine V_icmp_gt E (tgt := 62) dX8_cornersNow_6 (by decide) (fun hc2 => ?_) (fun hc2 => ?_)
      · have hf := ip hc2 hf
        refine V_sub [2] rfl ?_
        rw [← Option.some.inj hf] at hk
        exact hk
      · have hf := iq hc2 hf
        refine V_iconst E (v := (1 : Int32)) dX8_cornersNow_9 (by decide) ?_
        refine V_istore E (lv' := [(0, .ref (qMo 0)), (1, .int p1), (2, .int a4_2), (3, .int a4_3), (4, .int (1 : Int32))]) dX8_cornersNow_10 (by decide) rfl ?_
        have L12 : ∀ (n : Nat) (a12_2 : Int32) (a12_4 : Int32) (u : Int32), fMo_cornersNow_L12 p1 a4_3 mo_all n a12_2 a12_4 = some u → (V G p l e rmMo_cornersNow s m args below meth c 5 A Q 0 0 (gMo G qMo mo_all mo_past mo_aside mo_states mo_refused mo_causeKind mo_causeOrder mo_corner mo_linkVotes mo_linkE mo_linkF mo_follower mo_ahead mo_least mo_seam mo_above mo_below mo_text mo_textLong mo_place mo_value mo_numbers mo_not) 56 [(0, .ref (qMo 0)), (1, .int p1), (2, .int u), (3, .int a4_3)] []) → V G p l e rmMo_cornersNow s m args below meth c 5 A Q 0 0 (gMo G qMo mo_all mo_past mo_aside mo_states mo_refused mo_causeKind mo_causeOrder mo_corner mo_linkVotes mo_linkE mo_linkF mo_follower mo_ahead mo_least mo_seam mo_above mo_below mo_text mo_textLong mo_place mo_value mo_numbers mo_not) 12 [(0, .ref (qMo 0)), (1, .int p1), (2, .int a12_2), (3, .int a4_3), (4, .int a12_4)] [] := by
          intro n
          induction n with
          | zero =>
            intro a12_2 a12_4 u hf hk
            rw [fMo_cornersNow_L12] at hf
            cases hf
          | succ n ih =>
            intro a12_2 a12_4 u hf hk
            rw [fMo_cornersNow_L12] at hf
            refine V_iload E 4 rfl dX8_cornersNow_12 ?_
            refine V_bipush E (v := (6 : Int32)) dX8_cornersNow_14 (by decide) ?_
            refine V_icmp_gt E (tgt := 56) dX8_cornersNow_16 (by decide) (fun hc4 => ?_) (fun hc4 => ?_)
            · have hf := ip hc4 hf
              refine V_sub [0, 1, 2, 3] rfl ?_
              rw [← Option.some.inj hf] at hk
              exact hk
            · have hf := iq hc4 hf
              refine V_iload_n E 2 rfl dX8_cornersNow_19 ?_
              refine V_aload_n E 0 rfl dX8_cornersNow_20 ?_
              refine V_iload_n E 1 rfl dX8_cornersNow_21 ?_
              refine V_iload_n E 3 rfl dX8_cornersNow_22 ?_
              refine V_iload E 4 rfl dX8_cornersNow_23 ?_
              obtain ⟨u5, hu5, hf⟩ := bd hf
              refine V_frW E (Rn_V E (rest := [.int a12_2]) mlX8_161 wd_yX8_isCorner (kMo_isCorner l G qMo p1 a4_3 a12_4 mo_all mo_past mo_aside mo_states mo_refused mo_causeKind mo_causeOrder mo_corner mo_linkVotes mo_linkE mo_linkF mo_follower mo_ahead mo_least mo_seam mo_above mo_below mo_text mo_textLong mo_place mo_value mo_numbers mo_not u5 hu5) ⟨rfl, rfl, Nat.le_of_ble_eq_true rfl, Nat.le_of_ble_eq_true rfl⟩ 0 rfl rfl rfl rfl rfl (Nat.le_of_ble_eq_true rfl) dX8_cornersNow_25) ?_
              show V G p l e rmMo_cornersNow s m args below meth c 5 A Q 0 0 (gMo G qMo mo_all mo_past mo_aside mo_states mo_refused mo_causeKind mo_causeOrder mo_corner mo_linkVotes mo_linkE mo_linkF mo_follower mo_ahead mo_least mo_seam mo_above mo_below mo_text mo_textLong mo_place mo_value mo_numbers mo_not) 28 [(0, .ref (qMo 0)), (1, .int p1), (2, .int a12_2), (3, .int a4_3), (4, .int a12_4)] [.int u5, .int a12_2]
              refine V_if_eq E (tgt := 47) dX8_cornersNow_28 (by decide) (fun hc6 => ?_) (fun hc6 => ?_)
              · have hf := ip hc6 hf
                refine V_iconst E (v := (0 : Int32)) dX8_cornersNow_47 (by decide) ?_
                refine V_ior E dX8_cornersNow_48 ?_
                refine V_istore_n E (lv' := [(0, .ref (qMo 0)), (1, .int p1), (2, .int (a12_2 ||| (0 : Int32))), (3, .int a4_3), (4, .int a12_4)]) dX8_cornersNow_49 (by decide) rfl ?_
                refine V_iinc E (v := (a12_4 + (1 : Int32))) (lv' := [(0, .ref (qMo 0)), (1, .int p1), (2, .int (a12_2 ||| (0 : Int32))), (3, .int a4_3), (4, .int (a12_4 + (1 : Int32)))]) 4 rfl dX8_cornersNow_50 rfl (by decide) rfl ?_
                refine V_goto E (tgt := 12) dX8_cornersNow_53 (by decide) ?_
                exact ih (a12_2 ||| (0 : Int32)) (a12_4 + (1 : Int32)) _ hf hk
              · have hf := iq hc6 hf
                refine V_iconst E (v := (1 : Int32)) dX8_cornersNow_31 (by decide) ?_
                refine V_bipush E (v := (6 : Int32)) dX8_cornersNow_32 (by decide) ?_
                refine V_iload_n E 3 rfl dX8_cornersNow_34 ?_
                refine V_iconst E (v := (1 : Int32)) dX8_cornersNow_35 (by decide) ?_
                refine V_isub E dX8_cornersNow_36 ?_
                refine V_imul E dX8_cornersNow_37 ?_
                refine V_iload E 4 rfl dX8_cornersNow_38 ?_
                refine V_iadd E dX8_cornersNow_40 ?_
                refine V_iconst E (v := (1 : Int32)) dX8_cornersNow_41 (by decide) ?_
                refine V_isub E dX8_cornersNow_42 ?_
                refine V_ishl E dX8_cornersNow_43 ?_
                refine V_goto E (tgt := 48) dX8_cornersNow_44 (by decide) ?_
                refine V_ior E dX8_cornersNow_48 ?_
                obtain ⟨t7, ht7, hf⟩ := bd hf
                have ht7 := Option.some.inj ht7
                rw [ht7]
                refine V_istore_n E (lv' := [(0, .ref (qMo 0)), (1, .int p1), (2, .int t7), (3, .int a4_3), (4, .int a12_4)]) dX8_cornersNow_49 (by decide) rfl ?_
                refine V_iinc E (v := (a12_4 + (1 : Int32))) (lv' := [(0, .ref (qMo 0)), (1, .int p1), (2, .int t7), (3, .int a4_3), (4, .int (a12_4 + (1 : Int32)))]) 4 rfl dX8_cornersNow_50 rfl (by decide) rfl ?_
                refine V_goto E (tgt := 12) dX8_cornersNow_53 (by decide) ?_
                exact ih t7 (a12_4 + (1 : Int32)) _ hf hk
        obtain ⟨u3, hu3, hf⟩ := bd hf
        refine L12 FU a4_2 (1 : Int32) u3 hu3 ?_
        refine V_iinc E (v := (a4_3 + (1 : Int32))) (lv' := [(0, .ref (qMo 0)), (1, .int p1), (2, .int u3), (3, .int (a4_3 + (1 : Int32)))]) 3 rfl dX8_cornersNow_56 rfl (by decide) rfl ?_
        refine V_goto E (tgt := 4) dX8_cornersNow_59 (by decide) ?_
        exact ih u3 (a4_3 + (1 : Int32)) _ hf hk
  obtain ⟨u1, hu1, hf⟩ := bd hf
  refine L4 FU (0 : Int32) (1 : Int32) u1 hu1 ?_
  refine V_iload_n E 0 rfl dX8_cornersNow_62 ?_
  have h9 := hret 63 [(2, .int u1)] dX8_cornersNow_63
  rw [← (Option.some.inj hf)] at h9
  exact h9
abbrev rmMo_corners : Room := { frames := 5, cells := 0, slots := 0, locals := 120 }
theorem wd_yX8_corners : wdV yX8_corners cX8_corners 2 (some .int) 1 := ⟨wc_yX8_corners, wi_yX8_corners, wse_yX8_corners, wini_X8, by decide +kernel, by decide +kernel, by decide +kernel⟩
set_option maxHeartbeats 4000000 in
set_option maxRecDepth 100000 in
theorem kMo_corners (l : Launch) (G : wG) (qMo : Nat → Nat) (p1 : Int32) (mo_all : Nat → Int32) (mo_past : Nat → Int32) (mo_aside : Nat → Int32) (mo_states : Int32) (mo_refused : Nat → Int32) (mo_causeKind : Int32) (mo_causeOrder : Int32) (mo_corner : Nat → Int32) (mo_linkVotes : Nat → Int32) (mo_linkE : Nat → Int32) (mo_linkF : Nat → Int32) (mo_follower : Nat → Int32) (mo_ahead : Nat → Int32) (mo_least : Nat → Int32) (mo_seam : Nat → Int32) (mo_above : Int64) (mo_below : Int64) (mo_text : Nat → Int32) (mo_textLong : Int32) (mo_place : Int32) (mo_value : Int32) (mo_numbers : Nat → Int32) (mo_not : Int32) (o : Int32 × (Nat → Int32)) (hf : fMo_corners p1 mo_all mo_refused = some o) : Ct G l yX8_corners cX8_corners 2 (some .int) rmMo_corners [.ref (qMo 0), .int p1] (gMo G qMo mo_all mo_past mo_aside mo_states mo_refused mo_causeKind mo_causeOrder mo_corner mo_linkVotes mo_linkE mo_linkF mo_follower mo_ahead mo_least mo_seam mo_above mo_below mo_text mo_textLong mo_place mo_value mo_numbers mo_not) (some (.int o.1)) (gMo G qMo mo_all mo_past mo_aside mo_states o.2 mo_causeKind mo_causeOrder mo_corner mo_linkVotes mo_linkE mo_linkF mo_follower mo_ahead mo_least mo_seam mo_above mo_below mo_text mo_textLong mo_place mo_value mo_numbers mo_not) := by
  refine Ct.ofI (by decide +kernel) (Nat.le_of_ble_eq_true rfl) (fun p e s m args below meth c A Q E hret => ?_)
  unfold fMo_corners at hf
  show V G p l e rmMo_corners s m args below meth c 2 A Q 0 0 (gMo G qMo mo_all mo_past mo_aside mo_states mo_refused mo_causeKind mo_causeOrder mo_corner mo_linkVotes mo_linkE mo_linkF mo_follower mo_ahead mo_least mo_seam mo_above mo_below mo_text mo_textLong mo_place mo_value mo_numbers mo_not) 0 [(0, .ref (qMo 0)), (1, .int p1)] []
  refine V_aload_n E 0 rfl dX8_corners_0 ?_
  refine V_iload_n E 1 rfl dX8_corners_1 ?_
  obtain ⟨u1, hu1, hf⟩ := bd hf
  refine V_frW E (Rn_V E (rest := []) mlX8_128 wd_yX8_isPicture (kMo_isPicture l G qMo p1 mo_all mo_past mo_aside mo_states mo_refused mo_causeKind mo_causeOrder mo_corner mo_linkVotes mo_linkE mo_linkF mo_follower mo_ahead mo_least mo_seam mo_above mo_below mo_text mo_textLong mo_place mo_value mo_numbers mo_not u1 hu1) ⟨rfl, rfl, Nat.le_of_ble_eq_true rfl, Nat.le_of_ble_eq_true rfl⟩ 0 rfl rfl rfl rfl rfl (Nat.le_of_ble_eq_true rfl) dX8_corners_2) ?_
  show V G p l e rmMo_corners s m args below meth c 2 A Q 0 0 (gMo G qMo mo_all mo_past mo_aside mo_states mo_refused mo_causeKind mo_causeOrder mo_corner mo_linkVotes mo_linkE mo_linkF mo_follower mo_ahead mo_least mo_seam mo_above mo_below mo_text mo_textLong mo_place mo_value mo_numbers mo_not) 5 [(0, .ref (qMo 0)), (1, .int p1)] [.int u1]
  refine V_if_eq E (tgt := 16) dX8_corners_5 (by decide) (fun hc2 => ?_) (fun hc2 => ?_)
  · have hf := ip hc2 hf
    refine V_aload_n E 0 rfl dX8_corners_16 ?_
    refine V_bipush E (v := (-2 : Int32)) dX8_corners_17 (by decide) ?_
    obtain ⟨u3, hu3, hf⟩ := bd hf
    refine V_frW E (Rn_V E (rest := []) mlX8_91 wd_yX8_refuses (kMo_refuses l G qMo (-2 : Int32) mo_all mo_past mo_aside mo_states mo_refused mo_causeKind mo_causeOrder mo_corner mo_linkVotes mo_linkE mo_linkF mo_follower mo_ahead mo_least mo_seam mo_above mo_below mo_text mo_textLong mo_place mo_value mo_numbers mo_not u3 hu3) ⟨rfl, rfl, Nat.le_of_ble_eq_true rfl, Nat.le_of_ble_eq_true rfl⟩ 0 rfl rfl rfl rfl rfl (Nat.le_of_ble_eq_true rfl) dX8_corners_19) ?_
    show V G p l e rmMo_corners s m args below meth c 2 A Q 0 0 (gMo G qMo mo_all mo_past mo_aside mo_states u3.2 mo_causeKind mo_causeOrder mo_corner mo_linkVotes mo_linkE mo_linkF mo_follower mo_ahead mo_least mo_seam mo_above mo_below mo_text mo_textLong mo_place mo_value mo_numbers mo_not) 22 [(0, .ref (qMo 0)), (1, .int p1)] [.int u3.1]
    have h9 := hret 22 [(0, .ref (qMo 0)), (1, .int p1)] dX8_corners_22
    rw [← (Option.some.inj hf)] at h9
    exact h9
  · have hf := iq hc2 hf
    refine V_aload_n E 0 rfl dX8_corners_8 ?_
    refine V_iload_n E 1 rfl dX8_corners_9 ?_
    obtain ⟨u4, hu4, hf⟩ := bd hf
    refine V_frW E (Rn_V E (rest := []) mlX8_165 wd_yX8_cornersNow (kMo_cornersNow l G qMo p1 mo_all mo_past mo_aside mo_states mo_refused mo_causeKind mo_causeOrder mo_corner mo_linkVotes mo_linkE mo_linkF mo_follower mo_ahead mo_least mo_seam mo_above mo_below mo_text mo_textLong mo_place mo_value mo_numbers mo_not u4 hu4) ⟨rfl, rfl, Nat.le_of_ble_eq_true rfl, Nat.le_of_ble_eq_true rfl⟩ 0 rfl rfl rfl rfl rfl (Nat.le_of_ble_eq_true rfl) dX8_corners_10) ?_
    show V G p l e rmMo_corners s m args below meth c 2 A Q 0 0 (gMo G qMo mo_all mo_past mo_aside mo_states mo_refused mo_causeKind mo_causeOrder mo_corner mo_linkVotes mo_linkE mo_linkF mo_follower mo_ahead mo_least mo_seam mo_above mo_below mo_text mo_textLong mo_place mo_value mo_numbers mo_not) 13 [(0, .ref (qMo 0)), (1, .int p1)] [.int u4]
    refine V_goto E (tgt := 22) dX8_corners_13 (by decide) ?_
    have h9 := hret 22 [(0, .ref (qMo 0)), (1, .int p1)] dX8_corners_22
    rw [← (Option.some.inj hf)] at h9
    exact h9
abbrev rmMo_laysCorners : Room := { frames := 5, cells := 0, slots := 0, locals := 120 }
theorem wd_yX8_laysCorners : wdV yX8_laysCorners cX8_laysCorners 2 none 0 := ⟨wc_yX8_laysCorners, wi_yX8_laysCorners, wse_yX8_laysCorners, wini_X8, by decide +kernel, by decide +kernel, by decide +kernel⟩
set_option maxHeartbeats 4000000 in
set_option maxRecDepth 100000 in
theorem kMo_laysCorners (l : Launch) (G : wG) (qMo : Nat → Nat) (mo_all : Nat → Int32) (mo_past : Nat → Int32) (mo_aside : Nat → Int32) (mo_states : Int32) (mo_refused : Nat → Int32) (mo_causeKind : Int32) (mo_causeOrder : Int32) (mo_corner : Nat → Int32) (mo_linkVotes : Nat → Int32) (mo_linkE : Nat → Int32) (mo_linkF : Nat → Int32) (mo_follower : Nat → Int32) (mo_ahead : Nat → Int32) (mo_least : Nat → Int32) (mo_seam : Nat → Int32) (mo_above : Int64) (mo_below : Int64) (mo_text : Nat → Int32) (mo_textLong : Int32) (mo_place : Int32) (mo_value : Int32) (mo_numbers : Nat → Int32) (mo_not : Int32) (o : (Nat → Int32)) (hf : fMo_laysCorners mo_all mo_corner = some o) : Ct G l yX8_laysCorners cX8_laysCorners 2 none rmMo_laysCorners [.ref (qMo 0)] (gMo G qMo mo_all mo_past mo_aside mo_states mo_refused mo_causeKind mo_causeOrder mo_corner mo_linkVotes mo_linkE mo_linkF mo_follower mo_ahead mo_least mo_seam mo_above mo_below mo_text mo_textLong mo_place mo_value mo_numbers mo_not) none (gMo G qMo mo_all mo_past mo_aside mo_states mo_refused mo_causeKind mo_causeOrder o mo_linkVotes mo_linkE mo_linkF mo_follower mo_ahead mo_least mo_seam mo_above mo_below mo_text mo_textLong mo_place mo_value mo_numbers mo_not) := by
  refine Ct.ofV (by decide +kernel) (Nat.le_of_ble_eq_true rfl) (fun p e s m args below meth c A Q E hret => ?_)
  unfold fMo_laysCorners at hf
  show V G p l e rmMo_laysCorners s m args below meth c 2 A Q 0 0 (gMo G qMo mo_all mo_past mo_aside mo_states mo_refused mo_causeKind mo_causeOrder mo_corner mo_linkVotes mo_linkE mo_linkF mo_follower mo_ahead mo_least mo_seam mo_above mo_below mo_text mo_textLong mo_place mo_value mo_numbers mo_not) 0 [(0, .ref (qMo 0))] []
  refine V_iconst E (v := (0 : Int32)) dX8_laysCorners_0 (by decide) ?_
  refine V_istore_n E (lv' := [(0, .ref (qMo 0)), (1, .int (0 : Int32))]) dX8_laysCorners_1 (by decide) rfl ?_
  have L2 : ∀ (n : Nat) (a2_1 : Int32) (c2_mo_corner : Nat → Int32) (u : (Nat → Int32)), fMo_laysCorners_L2 mo_all n a2_1 c2_mo_corner = some u → (V G p l e rmMo_laysCorners s m args below meth c 2 A Q 0 0 (gMo G qMo mo_all mo_past mo_aside mo_states mo_refused mo_causeKind mo_causeOrder u mo_linkVotes mo_linkE mo_linkF mo_follower mo_ahead mo_least mo_seam mo_above mo_below mo_text mo_textLong mo_place mo_value mo_numbers mo_not) 27 [] []) → V G p l e rmMo_laysCorners s m args below meth c 2 A Q 0 0 (gMo G qMo mo_all mo_past mo_aside mo_states mo_refused mo_causeKind mo_causeOrder c2_mo_corner mo_linkVotes mo_linkE mo_linkF mo_follower mo_ahead mo_least mo_seam mo_above mo_below mo_text mo_textLong mo_place mo_value mo_numbers mo_not) 2 [(0, .ref (qMo 0)), (1, .int a2_1)] [] := by
    intro n
    induction n with
    | zero =>
      intro a2_1 c2_mo_corner u hf hk
      rw [fMo_laysCorners_L2] at hf
      cases hf
    | succ n ih =>
      intro a2_1 c2_mo_corner u hf hk
      rw [fMo_laysCorners_L2] at hf
      refine V_iload_n E 1 rfl dX8_laysCorners_2 ?_
      refine V_aload_n E 0 rfl dX8_laysCorners_3 ?_
      obtain ⟨u2, hu2, hf⟩ := bd hf
      refine V_frW E (Rn_V E (rest := [.int a2_1]) mlX8_59 wd_yX8_many (kMo_many l G qMo mo_all mo_past mo_aside mo_states mo_refused mo_causeKind mo_causeOrder c2_mo_corner mo_linkVotes mo_linkE mo_linkF mo_follower mo_ahead mo_least mo_seam mo_above mo_below mo_text mo_textLong mo_place mo_value mo_numbers mo_not u2 hu2) ⟨rfl, rfl, Nat.le_of_ble_eq_true rfl, Nat.le_of_ble_eq_true rfl⟩ 0 rfl rfl rfl rfl rfl (Nat.le_of_ble_eq_true rfl) dX8_laysCorners_4) ?_
      show V G p l e rmMo_laysCorners s m args below meth c 2 A Q 0 0 (gMo G qMo mo_all mo_past mo_aside mo_states mo_refused mo_causeKind mo_causeOrder c2_mo_corner mo_linkVotes mo_linkE mo_linkF mo_follower mo_ahead mo_least mo_seam mo_above mo_below mo_text mo_textLong mo_place mo_value mo_numbers mo_not) 7 [(0, .ref (qMo 0)), (1, .int a2_1)] [.int u2, .int a2_1]
      refine V_icmp_ge E (tgt := 27) dX8_laysCorners_7 (by decide) (fun hc3 => ?_) (fun hc3 => ?_)
      · have hf := ip hc3 hf
        refine V_sub [] rfl ?_
        rw [← Option.some.inj hf] at hk
        exact hk
      · have hf := iq hc3 hf
        refine V_aload_n E 0 rfl dX8_laysCorners_10 ?_
        refine gfX8_26 E 0 rfl rfl dX8_laysCorners_11 ?_
        refine V_iload_n E 1 rfl dX8_laysCorners_14 ?_
        refine V_aload_n E 0 rfl dX8_laysCorners_15 ?_
        refine V_iload_n E 1 rfl dX8_laysCorners_16 ?_
        obtain ⟨u4, hu4, hf⟩ := bd hf
        refine V_frW E (Rn_V E (rest := [.int a2_1, .ref (qMo 5)]) mlX8_165 wd_yX8_cornersNow (kMo_cornersNow l G qMo a2_1 mo_all mo_past mo_aside mo_states mo_refused mo_causeKind mo_causeOrder c2_mo_corner mo_linkVotes mo_linkE mo_linkF mo_follower mo_ahead mo_least mo_seam mo_above mo_below mo_text mo_textLong mo_place mo_value mo_numbers mo_not u4 hu4) ⟨rfl, rfl, Nat.le_of_ble_eq_true rfl, Nat.le_of_ble_eq_true rfl⟩ 0 rfl rfl rfl rfl rfl (Nat.le_of_ble_eq_true rfl) dX8_laysCorners_17) ?_
        show V G p l e rmMo_laysCorners s m args below meth c 2 A Q 0 0 (gMo G qMo mo_all mo_past mo_aside mo_states mo_refused mo_causeKind mo_causeOrder c2_mo_corner mo_linkVotes mo_linkE mo_linkF mo_follower mo_ahead mo_least mo_seam mo_above mo_below mo_text mo_textLong mo_place mo_value mo_numbers mo_not) 20 [(0, .ref (qMo 0)), (1, .int a2_1)] [.int u4, .int a2_1, .ref (qMo 5)]
        obtain ⟨hi5, hf⟩ := asr_ok hf
        refine V_iast E (ws' := (gMo G qMo mo_all mo_past mo_aside mo_states mo_refused mo_causeKind mo_causeOrder (upd c2_mo_corner a2_1.toNatClampNeg u4) mo_linkVotes mo_linkE mo_linkF mo_follower mo_ahead mo_least mo_seam mo_above mo_below mo_text mo_textLong mo_place mo_value mo_numbers mo_not)) 5 rfl hi5 dX8_laysCorners_20 rfl ?_
        refine V_iinc E (v := (a2_1 + (1 : Int32))) (lv' := [(0, .ref (qMo 0)), (1, .int (a2_1 + (1 : Int32)))]) 1 rfl dX8_laysCorners_21 rfl (by decide) rfl ?_
        refine V_goto E (tgt := 2) dX8_laysCorners_24 (by decide) ?_
        exact ih (a2_1 + (1 : Int32)) (upd c2_mo_corner a2_1.toNatClampNeg u4) _ hf hk
  obtain ⟨u1, hu1, hf⟩ := bd hf
  refine L2 FU (0 : Int32) mo_corner u1 hu1 ?_
  have h9 := hret 27 [] dX8_laysCorners_27
  rw [← (Option.some.inj hf)] at h9
  exact h9
abbrev rmMo_hasCorner : Room := { frames := 2, cells := 0, slots := 0, locals := 46 }
theorem wd_yX8_hasCorner : wdV yX8_hasCorner cX8_hasCorner 4 (some .boolean) 3 := ⟨wc_yX8_hasCorner, wi_yX8_hasCorner, wse_yX8_hasCorner, wini_X8, by decide +kernel, by decide +kernel, by decide +kernel⟩
set_option maxHeartbeats 4000000 in
set_option maxRecDepth 100000 in
theorem kMo_hasCorner (l : Launch) (G : wG) (qMo : Nat → Nat) (p1 : Int32) (p2 : Int32) (p3 : Int32) (mo_all : Nat → Int32) (mo_past : Nat → Int32) (mo_aside : Nat → Int32) (mo_states : Int32) (mo_refused : Nat → Int32) (mo_causeKind : Int32) (mo_causeOrder : Int32) (mo_corner : Nat → Int32) (mo_linkVotes : Nat → Int32) (mo_linkE : Nat → Int32) (mo_linkF : Nat → Int32) (mo_follower : Nat → Int32) (mo_ahead : Nat → Int32) (mo_least : Nat → Int32) (mo_seam : Nat → Int32) (mo_above : Int64) (mo_below : Int64) (mo_text : Nat → Int32) (mo_textLong : Int32) (mo_place : Int32) (mo_value : Int32) (mo_numbers : Nat → Int32) (mo_not : Int32) (o : Int32) (hf : fMo_hasCorner p1 p2 p3 mo_corner = some o) : Ct G l yX8_hasCorner cX8_hasCorner 4 (some .boolean) rmMo_hasCorner [.ref (qMo 0), .int p1, .int p2, .int p3] (gMo G qMo mo_all mo_past mo_aside mo_states mo_refused mo_causeKind mo_causeOrder mo_corner mo_linkVotes mo_linkE mo_linkF mo_follower mo_ahead mo_least mo_seam mo_above mo_below mo_text mo_textLong mo_place mo_value mo_numbers mo_not) (some (.int o)) (gMo G qMo mo_all mo_past mo_aside mo_states mo_refused mo_causeKind mo_causeOrder mo_corner mo_linkVotes mo_linkE mo_linkF mo_follower mo_ahead mo_least mo_seam mo_above mo_below mo_text mo_textLong mo_place mo_value mo_numbers mo_not) := by
  refine Ct.ofZ (by decide +kernel) (Nat.le_of_ble_eq_true rfl) (fun p e s m args below meth c A Q E hret => ?_)
  unfold fMo_hasCorner at hf
  show V G p l e rmMo_hasCorner s m args below meth c 4 A Q 0 0 (gMo G qMo mo_all mo_past mo_aside mo_states mo_refused mo_causeKind mo_causeOrder mo_corner mo_linkVotes mo_linkE mo_linkF mo_follower mo_ahead mo_least mo_seam mo_above mo_below mo_text mo_textLong mo_place mo_value mo_numbers mo_not) 0 [(0, .ref (qMo 0)), (1, .int p1), (2, .int p2), (3, .int p3)] []
  refine V_iload_n E 2 rfl dX8_hasCorner_0 ?_
  refine V_iload_n E 3 rfl dX8_hasCorner_1 ?_
  obtain ⟨u1, hu1, hf⟩ := bd hf
  refine V_fr0 E (Rn_S E (rest := []) mlX8_155 wd_yX8_isInner (kMo_isInner l G p2 p3 u1 hu1) ⟨rfl, rfl, Nat.le_of_ble_eq_true rfl, Nat.le_of_ble_eq_true rfl⟩ rfl rfl (Nat.le_of_ble_eq_true rfl) dX8_hasCorner_2) ?_
  show V G p l e rmMo_hasCorner s m args below meth c 4 A Q 0 0 (gMo G qMo mo_all mo_past mo_aside mo_states mo_refused mo_causeKind mo_causeOrder mo_corner mo_linkVotes mo_linkE mo_linkF mo_follower mo_ahead mo_least mo_seam mo_above mo_below mo_text mo_textLong mo_place mo_value mo_numbers mo_not) 5 [(0, .ref (qMo 0)), (1, .int p1), (2, .int p2), (3, .int p3)] [.int u1]
  refine V_if_eq E (tgt := 35) dX8_hasCorner_5 (by decide) (fun hc2 => ?_) (fun hc2 => ?_)
  · have hf := ip hc2 hf
    refine V_iconst E (v := (0 : Int32)) dX8_hasCorner_35 (by decide) ?_
    have h9 := hret 36 [(0, .ref (qMo 0)), (1, .int p1), (2, .int p2), (3, .int p3)] dX8_hasCorner_36
    rw [← (Option.some.inj hf)] at h9
    exact h9 (z01a (Or.inl rfl))
  · have hf := iq hc2 hf
    refine V_aload_n E 0 rfl dX8_hasCorner_8 ?_
    refine gfX8_26 E 0 rfl rfl dX8_hasCorner_9 ?_
    refine V_iload_n E 1 rfl dX8_hasCorner_12 ?_
    obtain ⟨hi3, hf⟩ := asr_ok hf
    refine V_iald E 5 rfl hi3 dX8_hasCorner_13 ?_
    refine V_bipush E (v := (6 : Int32)) dX8_hasCorner_14 (by decide) ?_
    refine V_iload_n E 2 rfl dX8_hasCorner_16 ?_
    refine V_iconst E (v := (1 : Int32)) dX8_hasCorner_17 (by decide) ?_
    refine V_isub E dX8_hasCorner_18 ?_
    refine V_imul E dX8_hasCorner_19 ?_
    refine V_iload_n E 3 rfl dX8_hasCorner_20 ?_
    refine V_iadd E dX8_hasCorner_21 ?_
    refine V_iconst E (v := (1 : Int32)) dX8_hasCorner_22 (by decide) ?_
    refine V_isub E dX8_hasCorner_23 ?_
    refine V_ishr E dX8_hasCorner_24 ?_
    refine V_iconst E (v := (1 : Int32)) dX8_hasCorner_25 (by decide) ?_
    refine V_iand E dX8_hasCorner_26 ?_
    refine V_iconst E (v := (1 : Int32)) dX8_hasCorner_27 (by decide) ?_
    refine V_icmp_ne E (tgt := 35) dX8_hasCorner_28 (by decide) (fun hc4 => ?_) (fun hc4 => ?_)
    · have hf := iq hc4 hf
      refine V_iconst E (v := (0 : Int32)) dX8_hasCorner_35 (by decide) ?_
      have h9 := hret 36 [(0, .ref (qMo 0)), (1, .int p1), (2, .int p2), (3, .int p3)] dX8_hasCorner_36
      rw [← (Option.some.inj hf)] at h9
      exact h9 (z01a (Or.inl rfl))
    · have hf := ip hc4 hf
      refine V_iconst E (v := (1 : Int32)) dX8_hasCorner_31 (by decide) ?_
      refine V_goto E (tgt := 36) dX8_hasCorner_32 (by decide) ?_
      have h9 := hret 36 [(0, .ref (qMo 0)), (1, .int p1), (2, .int p2), (3, .int p3)] dX8_hasCorner_36
      rw [← (Option.some.inj hf)] at h9
      exact h9 (z01a (Or.inr rfl))
abbrev rmMo_votesNow : Room := { frames := 3, cells := 0, slots := 0, locals := 69 }
theorem wd_yX8_votesNow : wdV yX8_votesNow cX8_votesNow 9 (some .int) 4 := ⟨wc_yX8_votesNow, wi_yX8_votesNow, wse_yX8_votesNow, wini_X8, by decide +kernel, by decide +kernel, by decide +kernel⟩
set_option maxHeartbeats 4000000 in
set_option maxRecDepth 100000 in
theorem kMo_votesNow (l : Launch) (G : wG) (qMo : Nat → Nat) (p1 : Int32) (p2 : Int32) (p3 : Int32) (p4 : Int32) (mo_all : Nat → Int32) (mo_past : Nat → Int32) (mo_aside : Nat → Int32) (mo_states : Int32) (mo_refused : Nat → Int32) (mo_causeKind : Int32) (mo_causeOrder : Int32) (mo_corner : Nat → Int32) (mo_linkVotes : Nat → Int32) (mo_linkE : Nat → Int32) (mo_linkF : Nat → Int32) (mo_follower : Nat → Int32) (mo_ahead : Nat → Int32) (mo_least : Nat → Int32) (mo_seam : Nat → Int32) (mo_above : Int64) (mo_below : Int64) (mo_text : Nat → Int32) (mo_textLong : Int32) (mo_place : Int32) (mo_value : Int32) (mo_numbers : Nat → Int32) (mo_not : Int32) (o : Int32) (hf : fMo_votesNow p1 p2 p3 p4 mo_all mo_corner = some o) : Ct G l yX8_votesNow cX8_votesNow 9 (some .int) rmMo_votesNow [.ref (qMo 0), .int p1, .int p2, .int p3, .int p4] (gMo G qMo mo_all mo_past mo_aside mo_states mo_refused mo_causeKind mo_causeOrder mo_corner mo_linkVotes mo_linkE mo_linkF mo_follower mo_ahead mo_least mo_seam mo_above mo_below mo_text mo_textLong mo_place mo_value mo_numbers mo_not) (some (.int o)) (gMo G qMo mo_all mo_past mo_aside mo_states mo_refused mo_causeKind mo_causeOrder mo_corner mo_linkVotes mo_linkE mo_linkF mo_follower mo_ahead mo_least mo_seam mo_above mo_below mo_text mo_textLong mo_place mo_value mo_numbers mo_not) := by
  refine Ct.ofI (by decide +kernel) (Nat.le_of_ble_eq_true rfl) (fun p e s m args below meth c A Q E hret => ?_)
  unfold fMo_votesNow at hf
  show V G p l e rmMo_votesNow s m args below meth c 9 A Q 0 0 (gMo G qMo mo_all mo_past mo_aside mo_states mo_refused mo_causeKind mo_causeOrder mo_corner mo_linkVotes mo_linkE mo_linkF mo_follower mo_ahead mo_least mo_seam mo_above mo_below mo_text mo_textLong mo_place mo_value mo_numbers mo_not) 0 [(0, .ref (qMo 0)), (1, .int p1), (2, .int p2), (3, .int p3), (4, .int p4)] []
  refine V_iconst E (v := (0 : Int32)) dX8_votesNow_0 (by decide) ?_
  refine V_istore E (lv' := [(0, .ref (qMo 0)), (1, .int p1), (2, .int p2), (3, .int p3), (4, .int p4), (5, .int (0 : Int32))]) dX8_votesNow_1 (by decide) rfl ?_
  refine V_iconst E (v := (1 : Int32)) dX8_votesNow_3 (by decide) ?_
  refine V_istore E (lv' := [(0, .ref (qMo 0)), (1, .int p1), (2, .int p2), (3, .int p3), (4, .int p4), (5, .int (0 : Int32)), (6, .int (1 : Int32))]) dX8_votesNow_4 (by decide) rfl ?_
  have L6 : ∀ (n : Nat) (a6_5 : Int32) (a6_6 : Int32) (u : Int32), fMo_votesNow_L6 p1 p2 p3 p4 mo_all mo_corner n a6_5 a6_6 = some u → (V G p l e rmMo_votesNow s m args below meth c 9 A Q 0 0 (gMo G qMo mo_all mo_past mo_aside mo_states mo_refused mo_causeKind mo_causeOrder mo_corner mo_linkVotes mo_linkE mo_linkF mo_follower mo_ahead mo_least mo_seam mo_above mo_below mo_text mo_textLong mo_place mo_value mo_numbers mo_not) 121 [(5, .int u)] []) → V G p l e rmMo_votesNow s m args below meth c 9 A Q 0 0 (gMo G qMo mo_all mo_past mo_aside mo_states mo_refused mo_causeKind mo_causeOrder mo_corner mo_linkVotes mo_linkE mo_linkF mo_follower mo_ahead mo_least mo_seam mo_above mo_below mo_text mo_textLong mo_place mo_value mo_numbers mo_not) 6 [(0, .ref (qMo 0)), (1, .int p1), (2, .int p2), (3, .int p3), (4, .int p4), (5, .int a6_5), (6, .int a6_6)] [] := by
    intro n
    induction n with
    | zero =>
      intro a6_5 a6_6 u hf hk
      rw [fMo_votesNow_L6] at hf
      cases hf
    | succ n ih =>
      intro a6_5 a6_6 u hf hk
      rw [fMo_votesNow_L6] at hf
      refine V_iload E 6 rfl dX8_votesNow_6 ?_
      refine V_iconst E (v := (2 : Int32)) dX8_votesNow_8 (by decide) ?_
      refine V_icmp_gt E (tgt := 121) dX8_votesNow_9 (by decide) (fun hc2 => ?_) (fun hc2 => ?_)
      · have hf := ip hc2 hf
        refine V_sub [5] rfl ?_
        rw [← Option.some.inj hf] at hk
        exact hk
      · have hf := iq hc2 hf
        refine V_iconst E (v := (1 : Int32)) dX8_votesNow_12 (by decide) ?_
        refine V_istore E (lv' := [(0, .ref (qMo 0)), (1, .int p1), (2, .int p2), (3, .int p3), (4, .int p4), (5, .int a6_5), (6, .int a6_6), (7, .int (1 : Int32))]) dX8_votesNow_13 (by decide) rfl ?_
        have L15 : ∀ (n : Nat) (a15_5 : Int32) (a15_7 : Int32) (u : Int32), fMo_votesNow_L15 p1 p2 p3 p4 a6_6 mo_all mo_corner n a15_5 a15_7 = some u → (V G p l e rmMo_votesNow s m args below meth c 9 A Q 0 0 (gMo G qMo mo_all mo_past mo_aside mo_states mo_refused mo_causeKind mo_causeOrder mo_corner mo_linkVotes mo_linkE mo_linkF mo_follower mo_ahead mo_least mo_seam mo_above mo_below mo_text mo_textLong mo_place mo_value mo_numbers mo_not) 115 [(0, .ref (qMo 0)), (1, .int p1), (2, .int p2), (3, .int p3), (4, .int p4), (5, .int u), (6, .int a6_6)] []) → V G p l e rmMo_votesNow s m args below meth c 9 A Q 0 0 (gMo G qMo mo_all mo_past mo_aside mo_states mo_refused mo_causeKind mo_causeOrder mo_corner mo_linkVotes mo_linkE mo_linkF mo_follower mo_ahead mo_least mo_seam mo_above mo_below mo_text mo_textLong mo_place mo_value mo_numbers mo_not) 15 [(0, .ref (qMo 0)), (1, .int p1), (2, .int p2), (3, .int p3), (4, .int p4), (5, .int a15_5), (6, .int a6_6), (7, .int a15_7)] [] := by
          intro n
          induction n with
          | zero =>
            intro a15_5 a15_7 u hf hk
            rw [fMo_votesNow_L15] at hf
            cases hf
          | succ n ih =>
            intro a15_5 a15_7 u hf hk
            rw [fMo_votesNow_L15] at hf
            refine V_iload E 7 rfl dX8_votesNow_15 ?_
            refine V_bipush E (v := (6 : Int32)) dX8_votesNow_17 (by decide) ?_
            refine V_icmp_gt E (tgt := 115) dX8_votesNow_19 (by decide) (fun hc4 => ?_) (fun hc4 => ?_)
            · have hf := ip hc4 hf
              refine V_sub [0, 1, 2, 3, 4, 5, 6] rfl ?_
              rw [← Option.some.inj hf] at hk
              exact hk
            · have hf := iq hc4 hf
              refine V_aload_n E 0 rfl dX8_votesNow_22 ?_
              refine V_iload_n E 1 rfl dX8_votesNow_23 ?_
              refine V_iload E 6 rfl dX8_votesNow_24 ?_
              refine V_iload E 7 rfl dX8_votesNow_26 ?_
              obtain ⟨u5, hu5, hf⟩ := bd hf
              refine V_frW E (Rn_V E (rest := []) mlX8_168 wd_yX8_hasCorner (kMo_hasCorner l G qMo p1 a6_6 a15_7 mo_all mo_past mo_aside mo_states mo_refused mo_causeKind mo_causeOrder mo_corner mo_linkVotes mo_linkE mo_linkF mo_follower mo_ahead mo_least mo_seam mo_above mo_below mo_text mo_textLong mo_place mo_value mo_numbers mo_not u5 hu5) ⟨rfl, rfl, Nat.le_of_ble_eq_true rfl, Nat.le_of_ble_eq_true rfl⟩ 0 rfl rfl rfl rfl rfl (Nat.le_of_ble_eq_true rfl) dX8_votesNow_28) ?_
              show V G p l e rmMo_votesNow s m args below meth c 9 A Q 0 0 (gMo G qMo mo_all mo_past mo_aside mo_states mo_refused mo_causeKind mo_causeOrder mo_corner mo_linkVotes mo_linkE mo_linkF mo_follower mo_ahead mo_least mo_seam mo_above mo_below mo_text mo_textLong mo_place mo_value mo_numbers mo_not) 31 [(0, .ref (qMo 0)), (1, .int p1), (2, .int p2), (3, .int p3), (4, .int p4), (5, .int a15_5), (6, .int a6_6), (7, .int a15_7)] [.int u5]
              obtain ⟨u7, hu7, hf⟩ := bd hf
              have J56 : V G p l e rmMo_votesNow s m args below meth c 9 A Q 0 0 (gMo G qMo mo_all mo_past mo_aside mo_states mo_refused mo_causeKind mo_causeOrder mo_corner mo_linkVotes mo_linkE mo_linkF mo_follower mo_ahead mo_least mo_seam mo_above mo_below mo_text mo_textLong mo_place mo_value mo_numbers mo_not) 56 [(0, .ref (qMo 0)), (1, .int p1), (2, .int p2), (3, .int p3), (4, .int p4), (5, .int a15_5), (6, .int a6_6), (7, .int a15_7)] [.int u7] := by
                refine V_istore E (lv' := [(0, .ref (qMo 0)), (1, .int p1), (2, .int p2), (3, .int p3), (4, .int p4), (5, .int a15_5), (6, .int a6_6), (7, .int a15_7), (8, .int u7)]) dX8_votesNow_56 (by decide) rfl ?_
                refine V_iload E 5 rfl dX8_votesNow_58 ?_
                refine V_iload E 8 rfl dX8_votesNow_60 ?_
                refine V_if_eq E (tgt := 105) dX8_votesNow_62 (by decide) (fun hc10 => ?_) (fun hc10 => ?_)
                · have hf := ip hc10 hf
                  refine V_iconst E (v := (0 : Int32)) dX8_votesNow_105 (by decide) ?_
                  refine V_iadd E dX8_votesNow_106 ?_
                  refine V_istore E (lv' := [(0, .ref (qMo 0)), (1, .int p1), (2, .int p2), (3, .int p3), (4, .int p4), (5, .int (a15_5 + (0 : Int32))), (6, .int a6_6), (7, .int a15_7), (8, .int u7)]) dX8_votesNow_107 (by decide) rfl ?_
                  refine V_iinc E (v := (a15_7 + (1 : Int32))) (lv' := [(0, .ref (qMo 0)), (1, .int p1), (2, .int p2), (3, .int p3), (4, .int p4), (5, .int (a15_5 + (0 : Int32))), (6, .int a6_6), (7, .int (a15_7 + (1 : Int32))), (8, .int u7)]) 7 rfl dX8_votesNow_109 rfl (by decide) rfl ?_
                  refine V_goto E (tgt := 15) dX8_votesNow_112 (by decide) ?_
                  refine V_sub [0, 1, 2, 3, 4, 5, 6, 7] rfl ?_
                  exact ih (a15_5 + (0 : Int32)) (a15_7 + (1 : Int32)) _ hf hk
                · have hf := iq hc10 hf
                  refine V_aload_n E 0 rfl dX8_votesNow_65 ?_
                  refine V_iload_n E 1 rfl dX8_votesNow_66 ?_
                  refine V_iload E 6 rfl dX8_votesNow_67 ?_
                  refine V_iload E 7 rfl dX8_votesNow_69 ?_
                  obtain ⟨u11, hu11, hf⟩ := bd hf
                  refine V_frW E (Rn_V E (rest := [.int a15_5]) mlX8_143 wd_yX8_at (kMo_at l G qMo p1 a6_6 a15_7 mo_all mo_past mo_aside mo_states mo_refused mo_causeKind mo_causeOrder mo_corner mo_linkVotes mo_linkE mo_linkF mo_follower mo_ahead mo_least mo_seam mo_above mo_below mo_text mo_textLong mo_place mo_value mo_numbers mo_not u11 hu11) ⟨rfl, rfl, Nat.le_of_ble_eq_true rfl, Nat.le_of_ble_eq_true rfl⟩ 0 rfl rfl rfl rfl rfl (Nat.le_of_ble_eq_true rfl) dX8_votesNow_71) ?_
                  show V G p l e rmMo_votesNow s m args below meth c 9 A Q 0 0 (gMo G qMo mo_all mo_past mo_aside mo_states mo_refused mo_causeKind mo_causeOrder mo_corner mo_linkVotes mo_linkE mo_linkF mo_follower mo_ahead mo_least mo_seam mo_above mo_below mo_text mo_textLong mo_place mo_value mo_numbers mo_not) 74 [(0, .ref (qMo 0)), (1, .int p1), (2, .int p2), (3, .int p3), (4, .int p4), (5, .int a15_5), (6, .int a6_6), (7, .int a15_7), (8, .int u7)] [.int u11, .int a15_5]
                  refine V_aload_n E 0 rfl dX8_votesNow_74 ?_
                  refine V_iload_n E 2 rfl dX8_votesNow_75 ?_
                  refine V_iload E 6 rfl dX8_votesNow_76 ?_
                  refine V_iload_n E 3 rfl dX8_votesNow_78 ?_
                  refine V_isub E dX8_votesNow_79 ?_
                  refine V_iload E 7 rfl dX8_votesNow_80 ?_
                  refine V_iload E 4 rfl dX8_votesNow_82 ?_
                  refine V_isub E dX8_votesNow_84 ?_
                  obtain ⟨u12, hu12, hf⟩ := bd hf
                  refine V_frW E (Rn_V E (rest := [.int u11, .int a15_5]) mlX8_143 wd_yX8_at (kMo_at l G qMo p2 (a6_6 - p3) (a15_7 - p4) mo_all mo_past mo_aside mo_states mo_refused mo_causeKind mo_causeOrder mo_corner mo_linkVotes mo_linkE mo_linkF mo_follower mo_ahead mo_least mo_seam mo_above mo_below mo_text mo_textLong mo_place mo_value mo_numbers mo_not u12 hu12) ⟨rfl, rfl, Nat.le_of_ble_eq_true rfl, Nat.le_of_ble_eq_true rfl⟩ 0 rfl rfl rfl rfl rfl (Nat.le_of_ble_eq_true rfl) dX8_votesNow_85) ?_
                  show V G p l e rmMo_votesNow s m args below meth c 9 A Q 0 0 (gMo G qMo mo_all mo_past mo_aside mo_states mo_refused mo_causeKind mo_causeOrder mo_corner mo_linkVotes mo_linkE mo_linkF mo_follower mo_ahead mo_least mo_seam mo_above mo_below mo_text mo_textLong mo_place mo_value mo_numbers mo_not) 88 [(0, .ref (qMo 0)), (1, .int p1), (2, .int p2), (3, .int p3), (4, .int p4), (5, .int a15_5), (6, .int a6_6), (7, .int a15_7), (8, .int u7)] [.int u12, .int u11, .int a15_5]
                  refine V_isub E dX8_votesNow_88 ?_
                  obtain ⟨u13, hu13, hf⟩ := bd hf
                  refine V_fr0 E (Rn_S E (rest := [.int a15_5]) mlX8_146 wd_yX8_abs (kMo_abs l G (u11 - u12) u13 hu13) ⟨rfl, rfl, Nat.le_of_ble_eq_true rfl, Nat.le_of_ble_eq_true rfl⟩ rfl rfl (Nat.le_of_ble_eq_true rfl) dX8_votesNow_89) ?_
                  show V G p l e rmMo_votesNow s m args below meth c 9 A Q 0 0 (gMo G qMo mo_all mo_past mo_aside mo_states mo_refused mo_causeKind mo_causeOrder mo_corner mo_linkVotes mo_linkE mo_linkF mo_follower mo_ahead mo_least mo_seam mo_above mo_below mo_text mo_textLong mo_place mo_value mo_numbers mo_not) 92 [(0, .ref (qMo 0)), (1, .int p1), (2, .int p2), (3, .int p3), (4, .int p4), (5, .int a15_5), (6, .int a6_6), (7, .int a15_7), (8, .int u7)] [.int u13, .int a15_5]
                  refine V_aload_n E 0 rfl dX8_votesNow_92 ?_
                  refine gfX8_7 E 0 rfl rfl dX8_votesNow_93 ?_
                  refine V_iconst E (v := (2 : Int32)) dX8_votesNow_96 (by decide) ?_
                  obtain ⟨hi14, hf⟩ := asr_ok hf
                  refine V_iald E 1 rfl hi14 dX8_votesNow_97 ?_
                  refine V_icmp_gt E (tgt := 105) dX8_votesNow_98 (by decide) (fun hc15 => ?_) (fun hc15 => ?_)
                  · have hf := ip hc15 hf
                    refine V_iconst E (v := (0 : Int32)) dX8_votesNow_105 (by decide) ?_
                    refine V_iadd E dX8_votesNow_106 ?_
                    refine V_istore E (lv' := [(0, .ref (qMo 0)), (1, .int p1), (2, .int p2), (3, .int p3), (4, .int p4), (5, .int (a15_5 + (0 : Int32))), (6, .int a6_6), (7, .int a15_7), (8, .int u7)]) dX8_votesNow_107 (by decide) rfl ?_
                    refine V_iinc E (v := (a15_7 + (1 : Int32))) (lv' := [(0, .ref (qMo 0)), (1, .int p1), (2, .int p2), (3, .int p3), (4, .int p4), (5, .int (a15_5 + (0 : Int32))), (6, .int a6_6), (7, .int (a15_7 + (1 : Int32))), (8, .int u7)]) 7 rfl dX8_votesNow_109 rfl (by decide) rfl ?_
                    refine V_goto E (tgt := 15) dX8_votesNow_112 (by decide) ?_
                    refine V_sub [0, 1, 2, 3, 4, 5, 6, 7] rfl ?_
                    exact ih (a15_5 + (0 : Int32)) (a15_7 + (1 : Int32)) _ hf hk
                  · have hf := iq hc15 hf
                    refine V_iconst E (v := (1 : Int32)) dX8_votesNow_101 (by decide) ?_
                    refine V_goto E (tgt := 106) dX8_votesNow_102 (by decide) ?_
                    refine V_iadd E dX8_votesNow_106 ?_
                    refine V_istore E (lv' := [(0, .ref (qMo 0)), (1, .int p1), (2, .int p2), (3, .int p3), (4, .int p4), (5, .int (a15_5 + (1 : Int32))), (6, .int a6_6), (7, .int a15_7), (8, .int u7)]) dX8_votesNow_107 (by decide) rfl ?_
                    refine V_iinc E (v := (a15_7 + (1 : Int32))) (lv' := [(0, .ref (qMo 0)), (1, .int p1), (2, .int p2), (3, .int p3), (4, .int p4), (5, .int (a15_5 + (1 : Int32))), (6, .int a6_6), (7, .int (a15_7 + (1 : Int32))), (8, .int u7)]) 7 rfl dX8_votesNow_109 rfl (by decide) rfl ?_
                    refine V_goto E (tgt := 15) dX8_votesNow_112 (by decide) ?_
                    refine V_sub [0, 1, 2, 3, 4, 5, 6, 7] rfl ?_
                    exact ih (a15_5 + (1 : Int32)) (a15_7 + (1 : Int32)) _ hf hk
              clear hf
              have hf := hu7
              refine V_if_eq E (tgt := 55) dX8_votesNow_31 (by decide) (fun hc6 => ?_) (fun hc6 => ?_)
              · have hf := ip hc6 hf
                refine V_iconst E (v := (0 : Int32)) dX8_votesNow_55 (by decide) ?_
                rw [← Option.some.inj hf] at J56
                exact J56
              · have hf := iq hc6 hf
                refine V_aload_n E 0 rfl dX8_votesNow_34 ?_
                refine V_iload_n E 2 rfl dX8_votesNow_35 ?_
                refine V_iload E 6 rfl dX8_votesNow_36 ?_
                refine V_iload_n E 3 rfl dX8_votesNow_38 ?_
                refine V_isub E dX8_votesNow_39 ?_
                refine V_iload E 7 rfl dX8_votesNow_40 ?_
                refine V_iload E 4 rfl dX8_votesNow_42 ?_
                refine V_isub E dX8_votesNow_44 ?_
                obtain ⟨u8, hu8, hf⟩ := bd hf
                refine V_frW E (Rn_V E (rest := []) mlX8_168 wd_yX8_hasCorner (kMo_hasCorner l G qMo p2 (a6_6 - p3) (a15_7 - p4) mo_all mo_past mo_aside mo_states mo_refused mo_causeKind mo_causeOrder mo_corner mo_linkVotes mo_linkE mo_linkF mo_follower mo_ahead mo_least mo_seam mo_above mo_below mo_text mo_textLong mo_place mo_value mo_numbers mo_not u8 hu8) ⟨rfl, rfl, Nat.le_of_ble_eq_true rfl, Nat.le_of_ble_eq_true rfl⟩ 0 rfl rfl rfl rfl rfl (Nat.le_of_ble_eq_true rfl) dX8_votesNow_45) ?_
                show V G p l e rmMo_votesNow s m args below meth c 9 A Q 0 0 (gMo G qMo mo_all mo_past mo_aside mo_states mo_refused mo_causeKind mo_causeOrder mo_corner mo_linkVotes mo_linkE mo_linkF mo_follower mo_ahead mo_least mo_seam mo_above mo_below mo_text mo_textLong mo_place mo_value mo_numbers mo_not) 48 [(0, .ref (qMo 0)), (1, .int p1), (2, .int p2), (3, .int p3), (4, .int p4), (5, .int a15_5), (6, .int a6_6), (7, .int a15_7)] [.int u8]
                refine V_if_eq E (tgt := 55) dX8_votesNow_48 (by decide) (fun hc9 => ?_) (fun hc9 => ?_)
                · have hf := ip hc9 hf
                  refine V_iconst E (v := (0 : Int32)) dX8_votesNow_55 (by decide) ?_
                  rw [← Option.some.inj hf] at J56
                  exact J56
                · have hf := iq hc9 hf
                  refine V_iconst E (v := (1 : Int32)) dX8_votesNow_51 (by decide) ?_
                  refine V_goto E (tgt := 56) dX8_votesNow_52 (by decide) ?_
                  rw [← Option.some.inj hf] at J56
                  exact J56
        obtain ⟨u3, hu3, hf⟩ := bd hf
        refine L15 FU a6_5 (1 : Int32) u3 hu3 ?_
        refine V_iinc E (v := (a6_6 + (1 : Int32))) (lv' := [(0, .ref (qMo 0)), (1, .int p1), (2, .int p2), (3, .int p3), (4, .int p4), (5, .int u3), (6, .int (a6_6 + (1 : Int32)))]) 6 rfl dX8_votesNow_115 rfl (by decide) rfl ?_
        refine V_goto E (tgt := 6) dX8_votesNow_118 (by decide) ?_
        exact ih u3 (a6_6 + (1 : Int32)) _ hf hk
  obtain ⟨u1, hu1, hf⟩ := bd hf
  refine L6 FU (0 : Int32) (1 : Int32) u1 hu1 ?_
  refine V_iload E 0 rfl dX8_votesNow_121 ?_
  have h9 := hret 123 [(5, .int u1)] dX8_votesNow_123
  rw [← (Option.some.inj hf)] at h9
  exact h9
abbrev rmMo_areTwo : Room := { frames := 2, cells := 0, slots := 0, locals := 46 }
theorem wd_yX8_areTwo : wdV yX8_areTwo cX8_areTwo 3 (some .boolean) 2 := ⟨wc_yX8_areTwo, wi_yX8_areTwo, wse_yX8_areTwo, wini_X8, by decide +kernel, by decide +kernel, by decide +kernel⟩
set_option maxHeartbeats 4000000 in
set_option maxRecDepth 100000 in
theorem kMo_areTwo (l : Launch) (G : wG) (qMo : Nat → Nat) (p1 : Int32) (p2 : Int32) (mo_all : Nat → Int32) (mo_past : Nat → Int32) (mo_aside : Nat → Int32) (mo_states : Int32) (mo_refused : Nat → Int32) (mo_causeKind : Int32) (mo_causeOrder : Int32) (mo_corner : Nat → Int32) (mo_linkVotes : Nat → Int32) (mo_linkE : Nat → Int32) (mo_linkF : Nat → Int32) (mo_follower : Nat → Int32) (mo_ahead : Nat → Int32) (mo_least : Nat → Int32) (mo_seam : Nat → Int32) (mo_above : Int64) (mo_below : Int64) (mo_text : Nat → Int32) (mo_textLong : Int32) (mo_place : Int32) (mo_value : Int32) (mo_numbers : Nat → Int32) (mo_not : Int32) (o : Int32) (hf : fMo_areTwo p1 p2 mo_all = some o) : Ct G l yX8_areTwo cX8_areTwo 3 (some .boolean) rmMo_areTwo [.ref (qMo 0), .int p1, .int p2] (gMo G qMo mo_all mo_past mo_aside mo_states mo_refused mo_causeKind mo_causeOrder mo_corner mo_linkVotes mo_linkE mo_linkF mo_follower mo_ahead mo_least mo_seam mo_above mo_below mo_text mo_textLong mo_place mo_value mo_numbers mo_not) (some (.int o)) (gMo G qMo mo_all mo_past mo_aside mo_states mo_refused mo_causeKind mo_causeOrder mo_corner mo_linkVotes mo_linkE mo_linkF mo_follower mo_ahead mo_least mo_seam mo_above mo_below mo_text mo_textLong mo_place mo_value mo_numbers mo_not) := by
  refine Ct.ofZ (by decide +kernel) (Nat.le_of_ble_eq_true rfl) (fun p e s m args below meth c A Q E hret => ?_)
  unfold fMo_areTwo at hf
  show V G p l e rmMo_areTwo s m args below meth c 3 A Q 0 0 (gMo G qMo mo_all mo_past mo_aside mo_states mo_refused mo_causeKind mo_causeOrder mo_corner mo_linkVotes mo_linkE mo_linkF mo_follower mo_ahead mo_least mo_seam mo_above mo_below mo_text mo_textLong mo_place mo_value mo_numbers mo_not) 0 [(0, .ref (qMo 0)), (1, .int p1), (2, .int p2)] []
  refine V_aload_n E 0 rfl dX8_areTwo_0 ?_
  refine V_iload_n E 1 rfl dX8_areTwo_1 ?_
  obtain ⟨u1, hu1, hf⟩ := bd hf
  refine V_frW E (Rn_V E (rest := []) mlX8_128 wd_yX8_isPicture (kMo_isPicture l G qMo p1 mo_all mo_past mo_aside mo_states mo_refused mo_causeKind mo_causeOrder mo_corner mo_linkVotes mo_linkE mo_linkF mo_follower mo_ahead mo_least mo_seam mo_above mo_below mo_text mo_textLong mo_place mo_value mo_numbers mo_not u1 hu1) ⟨rfl, rfl, Nat.le_of_ble_eq_true rfl, Nat.le_of_ble_eq_true rfl⟩ 0 rfl rfl rfl rfl rfl (Nat.le_of_ble_eq_true rfl) dX8_areTwo_2) ?_
  show V G p l e rmMo_areTwo s m args below meth c 3 A Q 0 0 (gMo G qMo mo_all mo_past mo_aside mo_states mo_refused mo_causeKind mo_causeOrder mo_corner mo_linkVotes mo_linkE mo_linkF mo_follower mo_ahead mo_least mo_seam mo_above mo_below mo_text mo_textLong mo_place mo_value mo_numbers mo_not) 5 [(0, .ref (qMo 0)), (1, .int p1), (2, .int p2)] [.int u1]
  refine V_if_eq E (tgt := 25) dX8_areTwo_5 (by decide) (fun hc2 => ?_) (fun hc2 => ?_)
  · have hf := ip hc2 hf
    refine V_iconst E (v := (0 : Int32)) dX8_areTwo_25 (by decide) ?_
    have h9 := hret 26 [(0, .ref (qMo 0)), (1, .int p1), (2, .int p2)] dX8_areTwo_26
    rw [← (Option.some.inj hf)] at h9
    exact h9 (z01a (Or.inl rfl))
  · have hf := iq hc2 hf
    refine V_aload_n E 0 rfl dX8_areTwo_8 ?_
    refine V_iload_n E 2 rfl dX8_areTwo_9 ?_
    obtain ⟨u3, hu3, hf⟩ := bd hf
    refine V_frW E (Rn_V E (rest := []) mlX8_128 wd_yX8_isPicture (kMo_isPicture l G qMo p2 mo_all mo_past mo_aside mo_states mo_refused mo_causeKind mo_causeOrder mo_corner mo_linkVotes mo_linkE mo_linkF mo_follower mo_ahead mo_least mo_seam mo_above mo_below mo_text mo_textLong mo_place mo_value mo_numbers mo_not u3 hu3) ⟨rfl, rfl, Nat.le_of_ble_eq_true rfl, Nat.le_of_ble_eq_true rfl⟩ 0 rfl rfl rfl rfl rfl (Nat.le_of_ble_eq_true rfl) dX8_areTwo_10) ?_
    show V G p l e rmMo_areTwo s m args below meth c 3 A Q 0 0 (gMo G qMo mo_all mo_past mo_aside mo_states mo_refused mo_causeKind mo_causeOrder mo_corner mo_linkVotes mo_linkE mo_linkF mo_follower mo_ahead mo_least mo_seam mo_above mo_below mo_text mo_textLong mo_place mo_value mo_numbers mo_not) 13 [(0, .ref (qMo 0)), (1, .int p1), (2, .int p2)] [.int u3]
    refine V_if_eq E (tgt := 25) dX8_areTwo_13 (by decide) (fun hc4 => ?_) (fun hc4 => ?_)
    · have hf := ip hc4 hf
      refine V_iconst E (v := (0 : Int32)) dX8_areTwo_25 (by decide) ?_
      have h9 := hret 26 [(0, .ref (qMo 0)), (1, .int p1), (2, .int p2)] dX8_areTwo_26
      rw [← (Option.some.inj hf)] at h9
      exact h9 (z01a (Or.inl rfl))
    · have hf := iq hc4 hf
      refine V_iload_n E 1 rfl dX8_areTwo_16 ?_
      refine V_iload_n E 2 rfl dX8_areTwo_17 ?_
      refine V_icmp_eq E (tgt := 25) dX8_areTwo_18 (by decide) (fun hc5 => ?_) (fun hc5 => ?_)
      · have hf := ip hc5 hf
        refine V_iconst E (v := (0 : Int32)) dX8_areTwo_25 (by decide) ?_
        have h9 := hret 26 [(0, .ref (qMo 0)), (1, .int p1), (2, .int p2)] dX8_areTwo_26
        rw [← (Option.some.inj hf)] at h9
        exact h9 (z01a (Or.inl rfl))
      · have hf := iq hc5 hf
        refine V_iconst E (v := (1 : Int32)) dX8_areTwo_21 (by decide) ?_
        refine V_goto E (tgt := 26) dX8_areTwo_22 (by decide) ?_
        have h9 := hret 26 [(0, .ref (qMo 0)), (1, .int p1), (2, .int p2)] dX8_areTwo_26
        rw [← (Option.some.inj hf)] at h9
        exact h9 (z01a (Or.inr rfl))
abbrev rmMo_votes : Room := { frames := 6, cells := 0, slots := 0, locals := 141 }
theorem wd_yX8_votes : wdV yX8_votes cX8_votes 5 (some .int) 4 := ⟨wc_yX8_votes, wi_yX8_votes, wse_yX8_votes, wini_X8, by decide +kernel, by decide +kernel, by decide +kernel⟩
set_option maxHeartbeats 4000000 in
set_option maxRecDepth 100000 in
theorem kMo_votes (l : Launch) (G : wG) (qMo : Nat → Nat) (p1 : Int32) (p2 : Int32) (p3 : Int32) (p4 : Int32) (mo_all : Nat → Int32) (mo_past : Nat → Int32) (mo_aside : Nat → Int32) (mo_states : Int32) (mo_refused : Nat → Int32) (mo_causeKind : Int32) (mo_causeOrder : Int32) (mo_corner : Nat → Int32) (mo_linkVotes : Nat → Int32) (mo_linkE : Nat → Int32) (mo_linkF : Nat → Int32) (mo_follower : Nat → Int32) (mo_ahead : Nat → Int32) (mo_least : Nat → Int32) (mo_seam : Nat → Int32) (mo_above : Int64) (mo_below : Int64) (mo_text : Nat → Int32) (mo_textLong : Int32) (mo_place : Int32) (mo_value : Int32) (mo_numbers : Nat → Int32) (mo_not : Int32) (o : Int32 × (Nat → Int32) × (Nat → Int32)) (hf : fMo_votes p1 p2 p3 p4 mo_all mo_refused mo_corner = some o) : Ct G l yX8_votes cX8_votes 5 (some .int) rmMo_votes [.ref (qMo 0), .int p1, .int p2, .int p3, .int p4] (gMo G qMo mo_all mo_past mo_aside mo_states mo_refused mo_causeKind mo_causeOrder mo_corner mo_linkVotes mo_linkE mo_linkF mo_follower mo_ahead mo_least mo_seam mo_above mo_below mo_text mo_textLong mo_place mo_value mo_numbers mo_not) (some (.int o.1)) (gMo G qMo mo_all mo_past mo_aside mo_states o.2.1 mo_causeKind mo_causeOrder o.2.2 mo_linkVotes mo_linkE mo_linkF mo_follower mo_ahead mo_least mo_seam mo_above mo_below mo_text mo_textLong mo_place mo_value mo_numbers mo_not) := by
  refine Ct.ofI (by decide +kernel) (Nat.le_of_ble_eq_true rfl) (fun p e s m args below meth c A Q E hret => ?_)
  unfold fMo_votes at hf
  show V G p l e rmMo_votes s m args below meth c 5 A Q 0 0 (gMo G qMo mo_all mo_past mo_aside mo_states mo_refused mo_causeKind mo_causeOrder mo_corner mo_linkVotes mo_linkE mo_linkF mo_follower mo_ahead mo_least mo_seam mo_above mo_below mo_text mo_textLong mo_place mo_value mo_numbers mo_not) 0 [(0, .ref (qMo 0)), (1, .int p1), (2, .int p2), (3, .int p3), (4, .int p4)] []
  refine V_aload_n E 0 rfl dX8_votes_0 ?_
  refine V_iload_n E 1 rfl dX8_votes_1 ?_
  refine V_iload_n E 2 rfl dX8_votes_2 ?_
  obtain ⟨u1, hu1, hf⟩ := bd hf
  refine V_frW E (Rn_V E (rest := []) mlX8_171 wd_yX8_areTwo (kMo_areTwo l G qMo p1 p2 mo_all mo_past mo_aside mo_states mo_refused mo_causeKind mo_causeOrder mo_corner mo_linkVotes mo_linkE mo_linkF mo_follower mo_ahead mo_least mo_seam mo_above mo_below mo_text mo_textLong mo_place mo_value mo_numbers mo_not u1 hu1) ⟨rfl, rfl, Nat.le_of_ble_eq_true rfl, Nat.le_of_ble_eq_true rfl⟩ 0 rfl rfl rfl rfl rfl (Nat.le_of_ble_eq_true rfl) dX8_votes_3) ?_
  show V G p l e rmMo_votes s m args below meth c 5 A Q 0 0 (gMo G qMo mo_all mo_past mo_aside mo_states mo_refused mo_causeKind mo_causeOrder mo_corner mo_linkVotes mo_linkE mo_linkF mo_follower mo_ahead mo_least mo_seam mo_above mo_below mo_text mo_textLong mo_place mo_value mo_numbers mo_not) 6 [(0, .ref (qMo 0)), (1, .int p1), (2, .int p2), (3, .int p3), (4, .int p4)] [.int u1]
  refine V_if_eq E (tgt := 34) dX8_votes_6 (by decide) (fun hc2 => ?_) (fun hc2 => ?_)
  · have hf := ip hc2 hf
    refine V_aload_n E 0 rfl dX8_votes_34 ?_
    refine V_bipush E (v := (-2 : Int32)) dX8_votes_35 (by decide) ?_
    obtain ⟨u3, hu3, hf⟩ := bd hf
    refine V_frW E (Rn_V E (rest := []) mlX8_91 wd_yX8_refuses (kMo_refuses l G qMo (-2 : Int32) mo_all mo_past mo_aside mo_states mo_refused mo_causeKind mo_causeOrder mo_corner mo_linkVotes mo_linkE mo_linkF mo_follower mo_ahead mo_least mo_seam mo_above mo_below mo_text mo_textLong mo_place mo_value mo_numbers mo_not u3 hu3) ⟨rfl, rfl, Nat.le_of_ble_eq_true rfl, Nat.le_of_ble_eq_true rfl⟩ 0 rfl rfl rfl rfl rfl (Nat.le_of_ble_eq_true rfl) dX8_votes_37) ?_
    show V G p l e rmMo_votes s m args below meth c 5 A Q 0 0 (gMo G qMo mo_all mo_past mo_aside mo_states u3.2 mo_causeKind mo_causeOrder mo_corner mo_linkVotes mo_linkE mo_linkF mo_follower mo_ahead mo_least mo_seam mo_above mo_below mo_text mo_textLong mo_place mo_value mo_numbers mo_not) 40 [(0, .ref (qMo 0)), (1, .int p1), (2, .int p2), (3, .int p3), (4, .int p4)] [.int u3.1]
    have h9 := hret 40 [(0, .ref (qMo 0)), (1, .int p1), (2, .int p2), (3, .int p3), (4, .int p4)] dX8_votes_40
    rw [← (Option.some.inj hf)] at h9
    exact h9
  · have hf := iq hc2 hf
    refine V_iload_n E 3 rfl dX8_votes_9 ?_
    refine V_i2l E dX8_votes_10 ?_
    refine V_ldc2 E (v := (-1 : Int64)) dX8_votes_11 kX8_174 ?_
    refine V_lconst E (v := (1 : Int64)) dX8_votes_14 (by decide) ?_
    obtain ⟨u4, hu4, hf⟩ := bd hf
    refine V_fr0 E (Rn_S E (rest := []) mlX8_63 wd_yX8_in (kMo_in l G p3.toInt64 (-1 : Int64) (1 : Int64) u4 hu4) ⟨rfl, rfl, Nat.le_of_ble_eq_true rfl, Nat.le_of_ble_eq_true rfl⟩ rfl rfl (Nat.le_of_ble_eq_true rfl) dX8_votes_15) ?_
    show V G p l e rmMo_votes s m args below meth c 5 A Q 0 0 (gMo G qMo mo_all mo_past mo_aside mo_states mo_refused mo_causeKind mo_causeOrder mo_corner mo_linkVotes mo_linkE mo_linkF mo_follower mo_ahead mo_least mo_seam mo_above mo_below mo_text mo_textLong mo_place mo_value mo_numbers mo_not) 18 [(0, .ref (qMo 0)), (1, .int p1), (2, .int p2), (3, .int p3), (4, .int p4)] [.int u4]
    refine V_if_eq E (tgt := 34) dX8_votes_18 (by decide) (fun hc5 => ?_) (fun hc5 => ?_)
    · have hf := ip hc5 hf
      refine V_aload_n E 0 rfl dX8_votes_34 ?_
      refine V_bipush E (v := (-2 : Int32)) dX8_votes_35 (by decide) ?_
      obtain ⟨u6, hu6, hf⟩ := bd hf
      refine V_frW E (Rn_V E (rest := []) mlX8_91 wd_yX8_refuses (kMo_refuses l G qMo (-2 : Int32) mo_all mo_past mo_aside mo_states mo_refused mo_causeKind mo_causeOrder mo_corner mo_linkVotes mo_linkE mo_linkF mo_follower mo_ahead mo_least mo_seam mo_above mo_below mo_text mo_textLong mo_place mo_value mo_numbers mo_not u6 hu6) ⟨rfl, rfl, Nat.le_of_ble_eq_true rfl, Nat.le_of_ble_eq_true rfl⟩ 0 rfl rfl rfl rfl rfl (Nat.le_of_ble_eq_true rfl) dX8_votes_37) ?_
      show V G p l e rmMo_votes s m args below meth c 5 A Q 0 0 (gMo G qMo mo_all mo_past mo_aside mo_states u6.2 mo_causeKind mo_causeOrder mo_corner mo_linkVotes mo_linkE mo_linkF mo_follower mo_ahead mo_least mo_seam mo_above mo_below mo_text mo_textLong mo_place mo_value mo_numbers mo_not) 40 [(0, .ref (qMo 0)), (1, .int p1), (2, .int p2), (3, .int p3), (4, .int p4)] [.int u6.1]
      have h9 := hret 40 [(0, .ref (qMo 0)), (1, .int p1), (2, .int p2), (3, .int p3), (4, .int p4)] dX8_votes_40
      rw [← (Option.some.inj hf)] at h9
      exact h9
    · have hf := iq hc5 hf
      refine V_iload E 4 rfl dX8_votes_21 ?_
      refine V_i2l E dX8_votes_23 ?_
      refine V_lconst E (v := (1 : Int64)) dX8_votes_24 (by decide) ?_
      refine V_ldc2 E (v := (5 : Int64)) dX8_votes_25 kX8_102 ?_
      obtain ⟨u7, hu7, hf⟩ := bd hf
      refine V_fr0 E (Rn_S E (rest := []) mlX8_63 wd_yX8_in (kMo_in l G p4.toInt64 (1 : Int64) (5 : Int64) u7 hu7) ⟨rfl, rfl, Nat.le_of_ble_eq_true rfl, Nat.le_of_ble_eq_true rfl⟩ rfl rfl (Nat.le_of_ble_eq_true rfl) dX8_votes_28) ?_
      show V G p l e rmMo_votes s m args below meth c 5 A Q 0 0 (gMo G qMo mo_all mo_past mo_aside mo_states mo_refused mo_causeKind mo_causeOrder mo_corner mo_linkVotes mo_linkE mo_linkF mo_follower mo_ahead mo_least mo_seam mo_above mo_below mo_text mo_textLong mo_place mo_value mo_numbers mo_not) 31 [(0, .ref (qMo 0)), (1, .int p1), (2, .int p2), (3, .int p3), (4, .int p4)] [.int u7]
      refine V_if_ne E (tgt := 41) dX8_votes_31 (by decide) (fun hc8 => ?_) (fun hc8 => ?_)
      · have hf := iq hc8 hf
        refine V_aload_n E 0 rfl dX8_votes_41 ?_
        obtain ⟨u9, hu9, hf⟩ := bd hf
        refine V_frW E (Rn_V E (rest := []) mlX8_176 wd_yX8_laysCorners (kMo_laysCorners l G qMo mo_all mo_past mo_aside mo_states mo_refused mo_causeKind mo_causeOrder mo_corner mo_linkVotes mo_linkE mo_linkF mo_follower mo_ahead mo_least mo_seam mo_above mo_below mo_text mo_textLong mo_place mo_value mo_numbers mo_not u9 hu9) ⟨rfl, rfl, Nat.le_of_ble_eq_true rfl, Nat.le_of_ble_eq_true rfl⟩ 0 rfl rfl rfl rfl rfl (Nat.le_of_ble_eq_true rfl) dX8_votes_42) ?_
        show V G p l e rmMo_votes s m args below meth c 5 A Q 0 0 (gMo G qMo mo_all mo_past mo_aside mo_states mo_refused mo_causeKind mo_causeOrder u9 mo_linkVotes mo_linkE mo_linkF mo_follower mo_ahead mo_least mo_seam mo_above mo_below mo_text mo_textLong mo_place mo_value mo_numbers mo_not) 45 [(0, .ref (qMo 0)), (1, .int p1), (2, .int p2), (3, .int p3), (4, .int p4)] []
        refine V_aload_n E 0 rfl dX8_votes_45 ?_
        refine V_iload_n E 1 rfl dX8_votes_46 ?_
        refine V_iload_n E 2 rfl dX8_votes_47 ?_
        refine V_iload_n E 3 rfl dX8_votes_48 ?_
        refine V_iload E 4 rfl dX8_votes_49 ?_
        obtain ⟨u10, hu10, hf⟩ := bd hf
        refine V_frW E (Rn_V E (rest := []) mlX8_179 wd_yX8_votesNow (kMo_votesNow l G qMo p1 p2 p3 p4 mo_all mo_past mo_aside mo_states mo_refused mo_causeKind mo_causeOrder u9 mo_linkVotes mo_linkE mo_linkF mo_follower mo_ahead mo_least mo_seam mo_above mo_below mo_text mo_textLong mo_place mo_value mo_numbers mo_not u10 hu10) ⟨rfl, rfl, Nat.le_of_ble_eq_true rfl, Nat.le_of_ble_eq_true rfl⟩ 0 rfl rfl rfl rfl rfl (Nat.le_of_ble_eq_true rfl) dX8_votes_51) ?_
        show V G p l e rmMo_votes s m args below meth c 5 A Q 0 0 (gMo G qMo mo_all mo_past mo_aside mo_states mo_refused mo_causeKind mo_causeOrder u9 mo_linkVotes mo_linkE mo_linkF mo_follower mo_ahead mo_least mo_seam mo_above mo_below mo_text mo_textLong mo_place mo_value mo_numbers mo_not) 54 [(0, .ref (qMo 0)), (1, .int p1), (2, .int p2), (3, .int p3), (4, .int p4)] [.int u10]
        have h9 := hret 54 [(0, .ref (qMo 0)), (1, .int p1), (2, .int p2), (3, .int p3), (4, .int p4)] dX8_votes_54
        rw [← (Option.some.inj hf)] at h9
        exact h9
      · have hf := ip hc8 hf
        refine V_aload_n E 0 rfl dX8_votes_34 ?_
        refine V_bipush E (v := (-2 : Int32)) dX8_votes_35 (by decide) ?_
        obtain ⟨u11, hu11, hf⟩ := bd hf
        refine V_frW E (Rn_V E (rest := []) mlX8_91 wd_yX8_refuses (kMo_refuses l G qMo (-2 : Int32) mo_all mo_past mo_aside mo_states mo_refused mo_causeKind mo_causeOrder mo_corner mo_linkVotes mo_linkE mo_linkF mo_follower mo_ahead mo_least mo_seam mo_above mo_below mo_text mo_textLong mo_place mo_value mo_numbers mo_not u11 hu11) ⟨rfl, rfl, Nat.le_of_ble_eq_true rfl, Nat.le_of_ble_eq_true rfl⟩ 0 rfl rfl rfl rfl rfl (Nat.le_of_ble_eq_true rfl) dX8_votes_37) ?_
        show V G p l e rmMo_votes s m args below meth c 5 A Q 0 0 (gMo G qMo mo_all mo_past mo_aside mo_states u11.2 mo_causeKind mo_causeOrder mo_corner mo_linkVotes mo_linkE mo_linkF mo_follower mo_ahead mo_least mo_seam mo_above mo_below mo_text mo_textLong mo_place mo_value mo_numbers mo_not) 40 [(0, .ref (qMo 0)), (1, .int p1), (2, .int p2), (3, .int p3), (4, .int p4)] [.int u11.1]
        have h9 := hret 40 [(0, .ref (qMo 0)), (1, .int p1), (2, .int p2), (3, .int p3), (4, .int p4)] dX8_votes_40
        rw [← (Option.some.inj hf)] at h9
        exact h9
abbrev rmMo_laysLink : Room := { frames := 4, cells := 0, slots := 0, locals := 97 }
theorem wd_yX8_laysLink : wdV yX8_laysLink cX8_laysLink 8 none 2 := ⟨wc_yX8_laysLink, wi_yX8_laysLink, wse_yX8_laysLink, wini_X8, by decide +kernel, by decide +kernel, by decide +kernel⟩
set_option maxHeartbeats 4000000 in
set_option maxRecDepth 100000 in
theorem kMo_laysLink (l : Launch) (G : wG) (qMo : Nat → Nat) (p1 : Int32) (p2 : Int32) (mo_all : Nat → Int32) (mo_past : Nat → Int32) (mo_aside : Nat → Int32) (mo_states : Int32) (mo_refused : Nat → Int32) (mo_causeKind : Int32) (mo_causeOrder : Int32) (mo_corner : Nat → Int32) (mo_linkVotes : Nat → Int32) (mo_linkE : Nat → Int32) (mo_linkF : Nat → Int32) (mo_follower : Nat → Int32) (mo_ahead : Nat → Int32) (mo_least : Nat → Int32) (mo_seam : Nat → Int32) (mo_above : Int64) (mo_below : Int64) (mo_text : Nat → Int32) (mo_textLong : Int32) (mo_place : Int32) (mo_value : Int32) (mo_numbers : Nat → Int32) (mo_not : Int32) (o : (Nat → Int32) × (Nat → Int32) × (Nat → Int32)) (hf : fMo_laysLink p1 p2 mo_all mo_corner mo_linkVotes mo_linkE mo_linkF = some o) : Ct G l yX8_laysLink cX8_laysLink 8 none rmMo_laysLink [.ref (qMo 0), .int p1, .int p2] (gMo G qMo mo_all mo_past mo_aside mo_states mo_refused mo_causeKind mo_causeOrder mo_corner mo_linkVotes mo_linkE mo_linkF mo_follower mo_ahead mo_least mo_seam mo_above mo_below mo_text mo_textLong mo_place mo_value mo_numbers mo_not) none (gMo G qMo mo_all mo_past mo_aside mo_states mo_refused mo_causeKind mo_causeOrder mo_corner o.1 o.2.1 o.2.2 mo_follower mo_ahead mo_least mo_seam mo_above mo_below mo_text mo_textLong mo_place mo_value mo_numbers mo_not) := by
  refine Ct.ofV (by decide +kernel) (Nat.le_of_ble_eq_true rfl) (fun p e s m args below meth c A Q E hret => ?_)
  unfold fMo_laysLink at hf
  show V G p l e rmMo_laysLink s m args below meth c 8 A Q 0 0 (gMo G qMo mo_all mo_past mo_aside mo_states mo_refused mo_causeKind mo_causeOrder mo_corner mo_linkVotes mo_linkE mo_linkF mo_follower mo_ahead mo_least mo_seam mo_above mo_below mo_text mo_textLong mo_place mo_value mo_numbers mo_not) 0 [(0, .ref (qMo 0)), (1, .int p1), (2, .int p2)] []
  refine V_bipush E (v := (6 : Int32)) dX8_laysLink_0 (by decide) ?_
  refine V_iload_n E 1 rfl dX8_laysLink_2 ?_
  refine V_imul E dX8_laysLink_3 ?_
  refine V_iload_n E 2 rfl dX8_laysLink_4 ?_
  refine V_iadd E dX8_laysLink_5 ?_
  refine V_istore_n E (lv' := [(0, .ref (qMo 0)), (1, .int p1), (2, .int p2), (3, .int (((6 : Int32) * p1) + p2))]) dX8_laysLink_6 (by decide) rfl ?_
  refine V_aload_n E 0 rfl dX8_laysLink_7 ?_
  refine gfX8_29 E 0 rfl rfl dX8_laysLink_8 ?_
  refine V_iload_n E 3 rfl dX8_laysLink_11 ?_
  refine V_iconst E (v := (0 : Int32)) dX8_laysLink_12 (by decide) ?_
  obtain ⟨hi1, hf⟩ := asr_ok hf
  refine V_iast E (ws' := (gMo G qMo mo_all mo_past mo_aside mo_states mo_refused mo_causeKind mo_causeOrder mo_corner (upd mo_linkVotes (((6 : Int32) * p1) + p2).toNatClampNeg (0 : Int32)) mo_linkE mo_linkF mo_follower mo_ahead mo_least mo_seam mo_above mo_below mo_text mo_textLong mo_place mo_value mo_numbers mo_not)) 6 rfl hi1 dX8_laysLink_13 rfl ?_
  refine V_aload_n E 0 rfl dX8_laysLink_14 ?_
  refine gfX8_32 E 0 rfl rfl dX8_laysLink_15 ?_
  refine V_iload_n E 3 rfl dX8_laysLink_18 ?_
  refine V_iconst E (v := (0 : Int32)) dX8_laysLink_19 (by decide) ?_
  obtain ⟨hi2, hf⟩ := asr_ok hf
  refine V_iast E (ws' := (gMo G qMo mo_all mo_past mo_aside mo_states mo_refused mo_causeKind mo_causeOrder mo_corner (upd mo_linkVotes (((6 : Int32) * p1) + p2).toNatClampNeg (0 : Int32)) (upd mo_linkE (((6 : Int32) * p1) + p2).toNatClampNeg (0 : Int32)) mo_linkF mo_follower mo_ahead mo_least mo_seam mo_above mo_below mo_text mo_textLong mo_place mo_value mo_numbers mo_not)) 7 rfl hi2 dX8_laysLink_20 rfl ?_
  refine V_aload_n E 0 rfl dX8_laysLink_21 ?_
  refine gfX8_35 E 0 rfl rfl dX8_laysLink_22 ?_
  refine V_iload_n E 3 rfl dX8_laysLink_25 ?_
  refine V_iconst E (v := (0 : Int32)) dX8_laysLink_26 (by decide) ?_
  obtain ⟨hi3, hf⟩ := asr_ok hf
  refine V_iast E (ws' := (gMo G qMo mo_all mo_past mo_aside mo_states mo_refused mo_causeKind mo_causeOrder mo_corner (upd mo_linkVotes (((6 : Int32) * p1) + p2).toNatClampNeg (0 : Int32)) (upd mo_linkE (((6 : Int32) * p1) + p2).toNatClampNeg (0 : Int32)) (upd mo_linkF (((6 : Int32) * p1) + p2).toNatClampNeg (0 : Int32)) mo_follower mo_ahead mo_least mo_seam mo_above mo_below mo_text mo_textLong mo_place mo_value mo_numbers mo_not)) 8 rfl hi3 dX8_laysLink_27 rfl ?_
  refine V_iconst E (v := (0 : Int32)) dX8_laysLink_28 (by decide) ?_
  refine V_istore E (lv' := [(0, .ref (qMo 0)), (1, .int p1), (2, .int p2), (3, .int (((6 : Int32) * p1) + p2)), (4, .int (0 : Int32))]) dX8_laysLink_29 (by decide) rfl ?_
  have L31 : ∀ (n : Nat) (a31_4 : Int32) (c31_mo_linkVotes : Nat → Int32) (c31_mo_linkE : Nat → Int32) (c31_mo_linkF : Nat → Int32) (u : (Nat → Int32) × (Nat → Int32) × (Nat → Int32)), fMo_laysLink_L31 p1 p2 (((6 : Int32) * p1) + p2) mo_all mo_corner n a31_4 c31_mo_linkVotes c31_mo_linkE c31_mo_linkF = some u → (V G p l e rmMo_laysLink s m args below meth c 8 A Q 0 0 (gMo G qMo mo_all mo_past mo_aside mo_states mo_refused mo_causeKind mo_causeOrder mo_corner u.1 u.2.1 u.2.2 mo_follower mo_ahead mo_least mo_seam mo_above mo_below mo_text mo_textLong mo_place mo_value mo_numbers mo_not) 137 [] []) → V G p l e rmMo_laysLink s m args below meth c 8 A Q 0 0 (gMo G qMo mo_all mo_past mo_aside mo_states mo_refused mo_causeKind mo_causeOrder mo_corner c31_mo_linkVotes c31_mo_linkE c31_mo_linkF mo_follower mo_ahead mo_least mo_seam mo_above mo_below mo_text mo_textLong mo_place mo_value mo_numbers mo_not) 31 [(0, .ref (qMo 0)), (1, .int p1), (2, .int p2), (3, .int (((6 : Int32) * p1) + p2)), (4, .int a31_4)] [] := by
    intro n
    induction n with
    | zero =>
      intro a31_4 c31_mo_linkVotes c31_mo_linkE c31_mo_linkF u hf hk
      rw [fMo_laysLink_L31] at hf
      cases hf
    | succ n ih =>
      intro a31_4 c31_mo_linkVotes c31_mo_linkE c31_mo_linkF u hf hk
      rw [fMo_laysLink_L31] at hf
      refine V_iload E 4 rfl dX8_laysLink_31 ?_
      refine V_iconst E (v := (1 : Int32)) dX8_laysLink_33 (by decide) ?_
      refine V_icmp_gt E (tgt := 137) dX8_laysLink_34 (by decide) (fun hc5 => ?_) (fun hc5 => ?_)
      · have hf := ip hc5 hf
        refine V_sub [] rfl ?_
        rw [← Option.some.inj hf] at hk
        exact hk
      · have hf := iq hc5 hf
        refine V_iconst E (v := (1 : Int32)) dX8_laysLink_37 (by decide) ?_
        refine V_istore E (lv' := [(0, .ref (qMo 0)), (1, .int p1), (2, .int p2), (3, .int (((6 : Int32) * p1) + p2)), (4, .int a31_4), (5, .int (1 : Int32))]) dX8_laysLink_38 (by decide) rfl ?_
        have L40 : ∀ (n : Nat) (a40_5 : Int32) (c40_mo_linkVotes : Nat → Int32) (c40_mo_linkE : Nat → Int32) (c40_mo_linkF : Nat → Int32) (u : (Nat → Int32) × (Nat → Int32) × (Nat → Int32)), fMo_laysLink_L40 p1 p2 (((6 : Int32) * p1) + p2) a31_4 mo_all mo_corner n a40_5 c40_mo_linkVotes c40_mo_linkE c40_mo_linkF = some u → (V G p l e rmMo_laysLink s m args below meth c 8 A Q 0 0 (gMo G qMo mo_all mo_past mo_aside mo_states mo_refused mo_causeKind mo_causeOrder mo_corner u.1 u.2.1 u.2.2 mo_follower mo_ahead mo_least mo_seam mo_above mo_below mo_text mo_textLong mo_place mo_value mo_numbers mo_not) 131 [(0, .ref (qMo 0)), (1, .int p1), (2, .int p2), (3, .int (((6 : Int32) * p1) + p2)), (4, .int a31_4)] []) → V G p l e rmMo_laysLink s m args below meth c 8 A Q 0 0 (gMo G qMo mo_all mo_past mo_aside mo_states mo_refused mo_causeKind mo_causeOrder mo_corner c40_mo_linkVotes c40_mo_linkE c40_mo_linkF mo_follower mo_ahead mo_least mo_seam mo_above mo_below mo_text mo_textLong mo_place mo_value mo_numbers mo_not) 40 [(0, .ref (qMo 0)), (1, .int p1), (2, .int p2), (3, .int (((6 : Int32) * p1) + p2)), (4, .int a31_4), (5, .int a40_5)] [] := by
          intro n
          induction n with
          | zero =>
            intro a40_5 c40_mo_linkVotes c40_mo_linkE c40_mo_linkF u hf hk
            rw [fMo_laysLink_L40] at hf
            cases hf
          | succ n ih =>
            intro a40_5 c40_mo_linkVotes c40_mo_linkE c40_mo_linkF u hf hk
            rw [fMo_laysLink_L40] at hf
            refine V_iload E 5 rfl dX8_laysLink_40 ?_
            refine V_iconst E (v := (5 : Int32)) dX8_laysLink_42 (by decide) ?_
            refine V_icmp_gt E (tgt := 131) dX8_laysLink_43 (by decide) (fun hc7 => ?_) (fun hc7 => ?_)
            · have hf := ip hc7 hf
              refine V_sub [0, 1, 2, 3, 4] rfl ?_
              rw [← Option.some.inj hf] at hk
              exact hk
            · have hf := iq hc7 hf
              refine V_iload E 4 rfl dX8_laysLink_46 ?_
              refine V_ineg E dX8_laysLink_48 ?_
              refine V_istore E (lv' := [(0, .ref (qMo 0)), (1, .int p1), (2, .int p2), (3, .int (((6 : Int32) * p1) + p2)), (4, .int a31_4), (5, .int a40_5), (6, .int (-a31_4))]) dX8_laysLink_49 (by decide) rfl ?_
              have L51 : ∀ (n : Nat) (a51_6 : Int32) (c51_mo_linkVotes : Nat → Int32) (c51_mo_linkE : Nat → Int32) (c51_mo_linkF : Nat → Int32) (u : (Nat → Int32) × (Nat → Int32) × (Nat → Int32)), fMo_laysLink_L51 p1 p2 (((6 : Int32) * p1) + p2) a31_4 a40_5 mo_all mo_corner n a51_6 c51_mo_linkVotes c51_mo_linkE c51_mo_linkF = some u → (V G p l e rmMo_laysLink s m args below meth c 8 A Q 0 0 (gMo G qMo mo_all mo_past mo_aside mo_states mo_refused mo_causeKind mo_causeOrder mo_corner u.1 u.2.1 u.2.2 mo_follower mo_ahead mo_least mo_seam mo_above mo_below mo_text mo_textLong mo_place mo_value mo_numbers mo_not) 125 [(0, .ref (qMo 0)), (1, .int p1), (2, .int p2), (3, .int (((6 : Int32) * p1) + p2)), (4, .int a31_4), (5, .int a40_5)] []) → V G p l e rmMo_laysLink s m args below meth c 8 A Q 0 0 (gMo G qMo mo_all mo_past mo_aside mo_states mo_refused mo_causeKind mo_causeOrder mo_corner c51_mo_linkVotes c51_mo_linkE c51_mo_linkF mo_follower mo_ahead mo_least mo_seam mo_above mo_below mo_text mo_textLong mo_place mo_value mo_numbers mo_not) 51 [(0, .ref (qMo 0)), (1, .int p1), (2, .int p2), (3, .int (((6 : Int32) * p1) + p2)), (4, .int a31_4), (5, .int a40_5), (6, .int a51_6)] [] := by
                intro n
                induction n with
                | zero =>
                  intro a51_6 c51_mo_linkVotes c51_mo_linkE c51_mo_linkF u hf hk
                  rw [fMo_laysLink_L51] at hf
                  cases hf
                | succ n ih =>
                  intro a51_6 c51_mo_linkVotes c51_mo_linkE c51_mo_linkF u hf hk
                  rw [fMo_laysLink_L51] at hf
                  refine V_iload E 6 rfl dX8_laysLink_51 ?_
                  refine V_iload E 4 rfl dX8_laysLink_53 ?_
                  refine V_icmp_gt E (tgt := 125) dX8_laysLink_55 (by decide) (fun hc9 => ?_) (fun hc9 => ?_)
                  · have hf := ip hc9 hf
                    refine V_sub [0, 1, 2, 3, 4, 5] rfl ?_
                    rw [← Option.some.inj hf] at hk
                    exact hk
                  · have hf := iq hc9 hf
                    refine V_iload E 6 rfl dX8_laysLink_58 ?_
                    obtain ⟨u10, hu10, hf⟩ := bd hf
                    refine V_fr0 E (Rn_S E (rest := []) mlX8_146 wd_yX8_abs (kMo_abs l G a51_6 u10 hu10) ⟨rfl, rfl, Nat.le_of_ble_eq_true rfl, Nat.le_of_ble_eq_true rfl⟩ rfl rfl (Nat.le_of_ble_eq_true rfl) dX8_laysLink_60) ?_
                    show V G p l e rmMo_laysLink s m args below meth c 8 A Q 0 0 (gMo G qMo mo_all mo_past mo_aside mo_states mo_refused mo_causeKind mo_causeOrder mo_corner c51_mo_linkVotes c51_mo_linkE c51_mo_linkF mo_follower mo_ahead mo_least mo_seam mo_above mo_below mo_text mo_textLong mo_place mo_value mo_numbers mo_not) 63 [(0, .ref (qMo 0)), (1, .int p1), (2, .int p2), (3, .int (((6 : Int32) * p1) + p2)), (4, .int a31_4), (5, .int a40_5), (6, .int a51_6)] [.int u10]
                    refine V_iload E 4 rfl dX8_laysLink_63 ?_
                    obtain ⟨u12, hu12, hf⟩ := bd hf
                    have J82 : V G p l e rmMo_laysLink s m args below meth c 8 A Q 0 0 (gMo G qMo mo_all mo_past mo_aside mo_states mo_refused mo_causeKind mo_causeOrder mo_corner c51_mo_linkVotes c51_mo_linkE c51_mo_linkF mo_follower mo_ahead mo_least mo_seam mo_above mo_below mo_text mo_textLong mo_place mo_value mo_numbers mo_not) 82 [(0, .ref (qMo 0)), (1, .int p1), (2, .int p2), (3, .int (((6 : Int32) * p1) + p2)), (4, .int a31_4), (5, .int a40_5), (6, .int a51_6)] [.int u12] := by
                      refine V_istore E (lv' := [(0, .ref (qMo 0)), (1, .int p1), (2, .int p2), (3, .int (((6 : Int32) * p1) + p2)), (4, .int a31_4), (5, .int a40_5), (6, .int a51_6), (7, .int u12)]) dX8_laysLink_82 (by decide) rfl ?_
                      refine V_iload E 7 rfl dX8_laysLink_84 ?_
                      refine V_aload_n E 0 rfl dX8_laysLink_86 ?_
                      refine gfX8_29 E 0 rfl rfl dX8_laysLink_87 ?_
                      refine V_iload_n E 3 rfl dX8_laysLink_90 ?_
                      obtain ⟨hi14, hf⟩ := asr_ok hf
                      refine V_iald E 6 rfl hi14 dX8_laysLink_91 ?_
                      refine V_icmp_le E (tgt := 119) dX8_laysLink_92 (by decide) (fun hc15 => ?_) (fun hc15 => ?_)
                      · have hf := ip hc15 hf
                        refine V_iinc E (v := (a51_6 + (1 : Int32))) (lv' := [(0, .ref (qMo 0)), (1, .int p1), (2, .int p2), (3, .int (((6 : Int32) * p1) + p2)), (4, .int a31_4), (5, .int a40_5), (6, .int (a51_6 + (1 : Int32))), (7, .int u12)]) 6 rfl dX8_laysLink_119 rfl (by decide) rfl ?_
                        refine V_goto E (tgt := 51) dX8_laysLink_122 (by decide) ?_
                        refine V_sub [0, 1, 2, 3, 4, 5, 6] rfl ?_
                        exact ih (a51_6 + (1 : Int32)) c51_mo_linkVotes c51_mo_linkE c51_mo_linkF _ hf hk
                      · have hf := iq hc15 hf
                        refine V_aload_n E 0 rfl dX8_laysLink_95 ?_
                        refine gfX8_29 E 0 rfl rfl dX8_laysLink_96 ?_
                        refine V_iload_n E 3 rfl dX8_laysLink_99 ?_
                        refine V_iload E 7 rfl dX8_laysLink_100 ?_
                        obtain ⟨hi16, hf⟩ := asr_ok hf
                        refine V_iast E (ws' := (gMo G qMo mo_all mo_past mo_aside mo_states mo_refused mo_causeKind mo_causeOrder mo_corner (upd c51_mo_linkVotes (((6 : Int32) * p1) + p2).toNatClampNeg u12) c51_mo_linkE c51_mo_linkF mo_follower mo_ahead mo_least mo_seam mo_above mo_below mo_text mo_textLong mo_place mo_value mo_numbers mo_not)) 6 rfl hi16 dX8_laysLink_102 rfl ?_
                        refine V_aload_n E 0 rfl dX8_laysLink_103 ?_
                        refine gfX8_32 E 0 rfl rfl dX8_laysLink_104 ?_
                        refine V_iload_n E 3 rfl dX8_laysLink_107 ?_
                        refine V_iload E 6 rfl dX8_laysLink_108 ?_
                        obtain ⟨hi17, hf⟩ := asr_ok hf
                        refine V_iast E (ws' := (gMo G qMo mo_all mo_past mo_aside mo_states mo_refused mo_causeKind mo_causeOrder mo_corner (upd c51_mo_linkVotes (((6 : Int32) * p1) + p2).toNatClampNeg u12) (upd c51_mo_linkE (((6 : Int32) * p1) + p2).toNatClampNeg a51_6) c51_mo_linkF mo_follower mo_ahead mo_least mo_seam mo_above mo_below mo_text mo_textLong mo_place mo_value mo_numbers mo_not)) 7 rfl hi17 dX8_laysLink_110 rfl ?_
                        refine V_aload_n E 0 rfl dX8_laysLink_111 ?_
                        refine gfX8_35 E 0 rfl rfl dX8_laysLink_112 ?_
                        refine V_iload_n E 3 rfl dX8_laysLink_115 ?_
                        refine V_iload E 5 rfl dX8_laysLink_116 ?_
                        obtain ⟨hi18, hf⟩ := asr_ok hf
                        refine V_iast E (ws' := (gMo G qMo mo_all mo_past mo_aside mo_states mo_refused mo_causeKind mo_causeOrder mo_corner (upd c51_mo_linkVotes (((6 : Int32) * p1) + p2).toNatClampNeg u12) (upd c51_mo_linkE (((6 : Int32) * p1) + p2).toNatClampNeg a51_6) (upd c51_mo_linkF (((6 : Int32) * p1) + p2).toNatClampNeg a40_5) mo_follower mo_ahead mo_least mo_seam mo_above mo_below mo_text mo_textLong mo_place mo_value mo_numbers mo_not)) 8 rfl hi18 dX8_laysLink_118 rfl ?_
                        refine V_iinc E (v := (a51_6 + (1 : Int32))) (lv' := [(0, .ref (qMo 0)), (1, .int p1), (2, .int p2), (3, .int (((6 : Int32) * p1) + p2)), (4, .int a31_4), (5, .int a40_5), (6, .int (a51_6 + (1 : Int32))), (7, .int u12)]) 6 rfl dX8_laysLink_119 rfl (by decide) rfl ?_
                        refine V_goto E (tgt := 51) dX8_laysLink_122 (by decide) ?_
                        refine V_sub [0, 1, 2, 3, 4, 5, 6] rfl ?_
                        exact ih (a51_6 + (1 : Int32)) (upd c51_mo_linkVotes (((6 : Int32) * p1) + p2).toNatClampNeg u12) (upd c51_mo_linkE (((6 : Int32) * p1) + p2).toNatClampNeg a51_6) (upd c51_mo_linkF (((6 : Int32) * p1) + p2).toNatClampNeg a40_5) _ hf hk
                    clear hf
                    have hf := hu12
                    refine V_icmp_ne E (tgt := 81) dX8_laysLink_65 (by decide) (fun hc11 => ?_) (fun hc11 => ?_)
                    · have hf := iq hc11 hf
                      refine V_iconst E (v := (0 : Int32)) dX8_laysLink_81 (by decide) ?_
                      rw [← Option.some.inj hf] at J82
                      exact J82
                    · have hf := ip hc11 hf
                      refine V_aload_n E 0 rfl dX8_laysLink_68 ?_
                      refine V_iload_n E 1 rfl dX8_laysLink_69 ?_
                      refine V_iload_n E 2 rfl dX8_laysLink_70 ?_
                      refine V_iload E 6 rfl dX8_laysLink_71 ?_
                      refine V_iload E 5 rfl dX8_laysLink_73 ?_
                      obtain ⟨u13, hu13, hf⟩ := bd hf
                      refine V_frW E (Rn_V E (rest := []) mlX8_179 wd_yX8_votesNow (kMo_votesNow l G qMo p1 p2 a51_6 a40_5 mo_all mo_past mo_aside mo_states mo_refused mo_causeKind mo_causeOrder mo_corner c51_mo_linkVotes c51_mo_linkE c51_mo_linkF mo_follower mo_ahead mo_least mo_seam mo_above mo_below mo_text mo_textLong mo_place mo_value mo_numbers mo_not u13 hu13) ⟨rfl, rfl, Nat.le_of_ble_eq_true rfl, Nat.le_of_ble_eq_true rfl⟩ 0 rfl rfl rfl rfl rfl (Nat.le_of_ble_eq_true rfl) dX8_laysLink_75) ?_
                      show V G p l e rmMo_laysLink s m args below meth c 8 A Q 0 0 (gMo G qMo mo_all mo_past mo_aside mo_states mo_refused mo_causeKind mo_causeOrder mo_corner c51_mo_linkVotes c51_mo_linkE c51_mo_linkF mo_follower mo_ahead mo_least mo_seam mo_above mo_below mo_text mo_textLong mo_place mo_value mo_numbers mo_not) 78 [(0, .ref (qMo 0)), (1, .int p1), (2, .int p2), (3, .int (((6 : Int32) * p1) + p2)), (4, .int a31_4), (5, .int a40_5), (6, .int a51_6)] [.int u13]
                      refine V_goto E (tgt := 82) dX8_laysLink_78 (by decide) ?_
                      rw [← Option.some.inj hf] at J82
                      exact J82
              obtain ⟨u8, hu8, hf⟩ := bd hf
              refine L51 FU (-a31_4) c40_mo_linkVotes c40_mo_linkE c40_mo_linkF u8 hu8 ?_
              refine V_iinc E (v := (a40_5 + (1 : Int32))) (lv' := [(0, .ref (qMo 0)), (1, .int p1), (2, .int p2), (3, .int (((6 : Int32) * p1) + p2)), (4, .int a31_4), (5, .int (a40_5 + (1 : Int32)))]) 5 rfl dX8_laysLink_125 rfl (by decide) rfl ?_
              refine V_goto E (tgt := 40) dX8_laysLink_128 (by decide) ?_
              exact ih (a40_5 + (1 : Int32)) u8.1 u8.2.1 u8.2.2 _ hf hk
        obtain ⟨u6, hu6, hf⟩ := bd hf
        refine L40 FU (1 : Int32) c31_mo_linkVotes c31_mo_linkE c31_mo_linkF u6 hu6 ?_
        refine V_iinc E (v := (a31_4 + (1 : Int32))) (lv' := [(0, .ref (qMo 0)), (1, .int p1), (2, .int p2), (3, .int (((6 : Int32) * p1) + p2)), (4, .int (a31_4 + (1 : Int32)))]) 4 rfl dX8_laysLink_131 rfl (by decide) rfl ?_
        refine V_goto E (tgt := 31) dX8_laysLink_134 (by decide) ?_
        exact ih (a31_4 + (1 : Int32)) u6.1 u6.2.1 u6.2.2 _ hf hk
  obtain ⟨u4, hu4, hf⟩ := bd hf
  refine L31 FU (0 : Int32) (upd mo_linkVotes (((6 : Int32) * p1) + p2).toNatClampNeg (0 : Int32)) (upd mo_linkE (((6 : Int32) * p1) + p2).toNatClampNeg (0 : Int32)) (upd mo_linkF (((6 : Int32) * p1) + p2).toNatClampNeg (0 : Int32)) u4 hu4 ?_
  have h9 := hret 137 [] dX8_laysLink_137
  rw [← (Option.some.inj hf)] at h9
  exact h9
abbrev rmMo_laysLinks : Room := { frames := 6, cells := 0, slots := 0, locals := 141 }
theorem wd_yX8_laysLinks : wdV yX8_laysLinks cX8_laysLinks 3 none 0 := ⟨wc_yX8_laysLinks, wi_yX8_laysLinks, wse_yX8_laysLinks, wini_X8, by decide +kernel, by decide +kernel, by decide +kernel⟩
set_option maxHeartbeats 4000000 in
set_option maxRecDepth 100000 in
theorem kMo_laysLinks (l : Launch) (G : wG) (qMo : Nat → Nat) (mo_all : Nat → Int32) (mo_past : Nat → Int32) (mo_aside : Nat → Int32) (mo_states : Int32) (mo_refused : Nat → Int32) (mo_causeKind : Int32) (mo_causeOrder : Int32) (mo_corner : Nat → Int32) (mo_linkVotes : Nat → Int32) (mo_linkE : Nat → Int32) (mo_linkF : Nat → Int32) (mo_follower : Nat → Int32) (mo_ahead : Nat → Int32) (mo_least : Nat → Int32) (mo_seam : Nat → Int32) (mo_above : Int64) (mo_below : Int64) (mo_text : Nat → Int32) (mo_textLong : Int32) (mo_place : Int32) (mo_value : Int32) (mo_numbers : Nat → Int32) (mo_not : Int32) (o : (Nat → Int32) × (Nat → Int32) × (Nat → Int32) × (Nat → Int32)) (hf : fMo_laysLinks mo_all mo_corner mo_linkVotes mo_linkE mo_linkF = some o) : Ct G l yX8_laysLinks cX8_laysLinks 3 none rmMo_laysLinks [.ref (qMo 0)] (gMo G qMo mo_all mo_past mo_aside mo_states mo_refused mo_causeKind mo_causeOrder mo_corner mo_linkVotes mo_linkE mo_linkF mo_follower mo_ahead mo_least mo_seam mo_above mo_below mo_text mo_textLong mo_place mo_value mo_numbers mo_not) none (gMo G qMo mo_all mo_past mo_aside mo_states mo_refused mo_causeKind mo_causeOrder o.1 o.2.1 o.2.2.1 o.2.2.2 mo_follower mo_ahead mo_least mo_seam mo_above mo_below mo_text mo_textLong mo_place mo_value mo_numbers mo_not) := by
  refine Ct.ofV (by decide +kernel) (Nat.le_of_ble_eq_true rfl) (fun p e s m args below meth c A Q E hret => ?_)
  unfold fMo_laysLinks at hf
  show V G p l e rmMo_laysLinks s m args below meth c 3 A Q 0 0 (gMo G qMo mo_all mo_past mo_aside mo_states mo_refused mo_causeKind mo_causeOrder mo_corner mo_linkVotes mo_linkE mo_linkF mo_follower mo_ahead mo_least mo_seam mo_above mo_below mo_text mo_textLong mo_place mo_value mo_numbers mo_not) 0 [(0, .ref (qMo 0))] []
  refine V_aload_n E 0 rfl dX8_laysLinks_0 ?_
  obtain ⟨u1, hu1, hf⟩ := bd hf
  refine V_frW E (Rn_V E (rest := []) mlX8_176 wd_yX8_laysCorners (kMo_laysCorners l G qMo mo_all mo_past mo_aside mo_states mo_refused mo_causeKind mo_causeOrder mo_corner mo_linkVotes mo_linkE mo_linkF mo_follower mo_ahead mo_least mo_seam mo_above mo_below mo_text mo_textLong mo_place mo_value mo_numbers mo_not u1 hu1) ⟨rfl, rfl, Nat.le_of_ble_eq_true rfl, Nat.le_of_ble_eq_true rfl⟩ 0 rfl rfl rfl rfl rfl (Nat.le_of_ble_eq_true rfl) dX8_laysLinks_1) ?_
  show V G p l e rmMo_laysLinks s m args below meth c 3 A Q 0 0 (gMo G qMo mo_all mo_past mo_aside mo_states mo_refused mo_causeKind mo_causeOrder u1 mo_linkVotes mo_linkE mo_linkF mo_follower mo_ahead mo_least mo_seam mo_above mo_below mo_text mo_textLong mo_place mo_value mo_numbers mo_not) 4 [(0, .ref (qMo 0))] []
  refine V_iconst E (v := (0 : Int32)) dX8_laysLinks_4 (by decide) ?_
  refine V_istore_n E (lv' := [(0, .ref (qMo 0)), (1, .int (0 : Int32))]) dX8_laysLinks_5 (by decide) rfl ?_
  have L6 : ∀ (n : Nat) (a6_1 : Int32) (c6_mo_linkVotes : Nat → Int32) (c6_mo_linkE : Nat → Int32) (c6_mo_linkF : Nat → Int32) (u : (Nat → Int32) × (Nat → Int32) × (Nat → Int32)), fMo_laysLinks_L6 mo_all u1 n a6_1 c6_mo_linkVotes c6_mo_linkE c6_mo_linkF = some u → (V G p l e rmMo_laysLinks s m args below meth c 3 A Q 0 0 (gMo G qMo mo_all mo_past mo_aside mo_states mo_refused mo_causeKind mo_causeOrder u1 u.1 u.2.1 u.2.2 mo_follower mo_ahead mo_least mo_seam mo_above mo_below mo_text mo_textLong mo_place mo_value mo_numbers mo_not) 47 [] []) → V G p l e rmMo_laysLinks s m args below meth c 3 A Q 0 0 (gMo G qMo mo_all mo_past mo_aside mo_states mo_refused mo_causeKind mo_causeOrder u1 c6_mo_linkVotes c6_mo_linkE c6_mo_linkF mo_follower mo_ahead mo_least mo_seam mo_above mo_below mo_text mo_textLong mo_place mo_value mo_numbers mo_not) 6 [(0, .ref (qMo 0)), (1, .int a6_1)] [] := by
    intro n
    induction n with
    | zero =>
      intro a6_1 c6_mo_linkVotes c6_mo_linkE c6_mo_linkF u hf hk
      rw [fMo_laysLinks_L6] at hf
      cases hf
    | succ n ih =>
      intro a6_1 c6_mo_linkVotes c6_mo_linkE c6_mo_linkF u hf hk
      rw [fMo_laysLinks_L6] at hf
      refine V_iload_n E 1 rfl dX8_laysLinks_6 ?_
      refine V_aload_n E 0 rfl dX8_laysLinks_7 ?_
      obtain ⟨u3, hu3, hf⟩ := bd hf
      refine V_frW E (Rn_V E (rest := [.int a6_1]) mlX8_59 wd_yX8_many (kMo_many l G qMo mo_all mo_past mo_aside mo_states mo_refused mo_causeKind mo_causeOrder u1 c6_mo_linkVotes c6_mo_linkE c6_mo_linkF mo_follower mo_ahead mo_least mo_seam mo_above mo_below mo_text mo_textLong mo_place mo_value mo_numbers mo_not u3 hu3) ⟨rfl, rfl, Nat.le_of_ble_eq_true rfl, Nat.le_of_ble_eq_true rfl⟩ 0 rfl rfl rfl rfl rfl (Nat.le_of_ble_eq_true rfl) dX8_laysLinks_8) ?_
      show V G p l e rmMo_laysLinks s m args below meth c 3 A Q 0 0 (gMo G qMo mo_all mo_past mo_aside mo_states mo_refused mo_causeKind mo_causeOrder u1 c6_mo_linkVotes c6_mo_linkE c6_mo_linkF mo_follower mo_ahead mo_least mo_seam mo_above mo_below mo_text mo_textLong mo_place mo_value mo_numbers mo_not) 11 [(0, .ref (qMo 0)), (1, .int a6_1)] [.int u3, .int a6_1]
      refine V_icmp_ge E (tgt := 47) dX8_laysLinks_11 (by decide) (fun hc4 => ?_) (fun hc4 => ?_)
      · have hf := ip hc4 hf
        refine V_sub [] rfl ?_
        rw [← Option.some.inj hf] at hk
        exact hk
      · have hf := iq hc4 hf
        refine V_iconst E (v := (0 : Int32)) dX8_laysLinks_14 (by decide) ?_
        refine V_istore_n E (lv' := [(0, .ref (qMo 0)), (1, .int a6_1), (2, .int (0 : Int32))]) dX8_laysLinks_15 (by decide) rfl ?_
        have L16 : ∀ (n : Nat) (a16_2 : Int32) (c16_mo_linkVotes : Nat → Int32) (c16_mo_linkE : Nat → Int32) (c16_mo_linkF : Nat → Int32) (u : (Nat → Int32) × (Nat → Int32) × (Nat → Int32)), fMo_laysLinks_L16 a6_1 mo_all u1 n a16_2 c16_mo_linkVotes c16_mo_linkE c16_mo_linkF = some u → (V G p l e rmMo_laysLinks s m args below meth c 3 A Q 0 0 (gMo G qMo mo_all mo_past mo_aside mo_states mo_refused mo_causeKind mo_causeOrder u1 u.1 u.2.1 u.2.2 mo_follower mo_ahead mo_least mo_seam mo_above mo_below mo_text mo_textLong mo_place mo_value mo_numbers mo_not) 41 [(0, .ref (qMo 0)), (1, .int a6_1)] []) → V G p l e rmMo_laysLinks s m args below meth c 3 A Q 0 0 (gMo G qMo mo_all mo_past mo_aside mo_states mo_refused mo_causeKind mo_causeOrder u1 c16_mo_linkVotes c16_mo_linkE c16_mo_linkF mo_follower mo_ahead mo_least mo_seam mo_above mo_below mo_text mo_textLong mo_place mo_value mo_numbers mo_not) 16 [(0, .ref (qMo 0)), (1, .int a6_1), (2, .int a16_2)] [] := by
          intro n
          induction n with
          | zero =>
            intro a16_2 c16_mo_linkVotes c16_mo_linkE c16_mo_linkF u hf hk
            rw [fMo_laysLinks_L16] at hf
            cases hf
          | succ n ih =>
            intro a16_2 c16_mo_linkVotes c16_mo_linkE c16_mo_linkF u hf hk
            rw [fMo_laysLinks_L16] at hf
            refine V_iload_n E 2 rfl dX8_laysLinks_16 ?_
            refine V_aload_n E 0 rfl dX8_laysLinks_17 ?_
            obtain ⟨u6, hu6, hf⟩ := bd hf
            refine V_frW E (Rn_V E (rest := [.int a16_2]) mlX8_59 wd_yX8_many (kMo_many l G qMo mo_all mo_past mo_aside mo_states mo_refused mo_causeKind mo_causeOrder u1 c16_mo_linkVotes c16_mo_linkE c16_mo_linkF mo_follower mo_ahead mo_least mo_seam mo_above mo_below mo_text mo_textLong mo_place mo_value mo_numbers mo_not u6 hu6) ⟨rfl, rfl, Nat.le_of_ble_eq_true rfl, Nat.le_of_ble_eq_true rfl⟩ 0 rfl rfl rfl rfl rfl (Nat.le_of_ble_eq_true rfl) dX8_laysLinks_18) ?_
            show V G p l e rmMo_laysLinks s m args below meth c 3 A Q 0 0 (gMo G qMo mo_all mo_past mo_aside mo_states mo_refused mo_causeKind mo_causeOrder u1 c16_mo_linkVotes c16_mo_linkE c16_mo_linkF mo_follower mo_ahead mo_least mo_seam mo_above mo_below mo_text mo_textLong mo_place mo_value mo_numbers mo_not) 21 [(0, .ref (qMo 0)), (1, .int a6_1), (2, .int a16_2)] [.int u6, .int a16_2]
            refine V_icmp_ge E (tgt := 41) dX8_laysLinks_21 (by decide) (fun hc7 => ?_) (fun hc7 => ?_)
            · have hf := ip hc7 hf
              refine V_sub [0, 1] rfl ?_
              rw [← Option.some.inj hf] at hk
              exact hk
            · have hf := iq hc7 hf
              refine V_iload_n E 1 rfl dX8_laysLinks_24 ?_
              refine V_iload_n E 2 rfl dX8_laysLinks_25 ?_
              refine V_icmp_eq E (tgt := 35) dX8_laysLinks_26 (by decide) (fun hc8 => ?_) (fun hc8 => ?_)
              · have hf := ip hc8 hf
                refine V_iinc E (v := (a16_2 + (1 : Int32))) (lv' := [(0, .ref (qMo 0)), (1, .int a6_1), (2, .int (a16_2 + (1 : Int32)))]) 2 rfl dX8_laysLinks_35 rfl (by decide) rfl ?_
                refine V_goto E (tgt := 16) dX8_laysLinks_38 (by decide) ?_
                exact ih (a16_2 + (1 : Int32)) c16_mo_linkVotes c16_mo_linkE c16_mo_linkF _ hf hk
              · have hf := iq hc8 hf
                refine V_aload_n E 0 rfl dX8_laysLinks_29 ?_
                refine V_iload_n E 1 rfl dX8_laysLinks_30 ?_
                refine V_iload_n E 2 rfl dX8_laysLinks_31 ?_
                obtain ⟨u9, hu9, hf⟩ := bd hf
                refine V_frW E (Rn_V E (rest := []) mlX8_183 wd_yX8_laysLink (kMo_laysLink l G qMo a6_1 a16_2 mo_all mo_past mo_aside mo_states mo_refused mo_causeKind mo_causeOrder u1 c16_mo_linkVotes c16_mo_linkE c16_mo_linkF mo_follower mo_ahead mo_least mo_seam mo_above mo_below mo_text mo_textLong mo_place mo_value mo_numbers mo_not u9 hu9) ⟨rfl, rfl, Nat.le_of_ble_eq_true rfl, Nat.le_of_ble_eq_true rfl⟩ 0 rfl rfl rfl rfl rfl (Nat.le_of_ble_eq_true rfl) dX8_laysLinks_32) ?_
                show V G p l e rmMo_laysLinks s m args below meth c 3 A Q 0 0 (gMo G qMo mo_all mo_past mo_aside mo_states mo_refused mo_causeKind mo_causeOrder u1 u9.1 u9.2.1 u9.2.2 mo_follower mo_ahead mo_least mo_seam mo_above mo_below mo_text mo_textLong mo_place mo_value mo_numbers mo_not) 35 [(0, .ref (qMo 0)), (1, .int a6_1), (2, .int a16_2)] []
                refine V_iinc E (v := (a16_2 + (1 : Int32))) (lv' := [(0, .ref (qMo 0)), (1, .int a6_1), (2, .int (a16_2 + (1 : Int32)))]) 2 rfl dX8_laysLinks_35 rfl (by decide) rfl ?_
                refine V_goto E (tgt := 16) dX8_laysLinks_38 (by decide) ?_
                exact ih (a16_2 + (1 : Int32)) u9.1 u9.2.1 u9.2.2 _ hf hk
        obtain ⟨u5, hu5, hf⟩ := bd hf
        refine L16 FU (0 : Int32) c6_mo_linkVotes c6_mo_linkE c6_mo_linkF u5 hu5 ?_
        refine V_iinc E (v := (a6_1 + (1 : Int32))) (lv' := [(0, .ref (qMo 0)), (1, .int (a6_1 + (1 : Int32)))]) 1 rfl dX8_laysLinks_41 rfl (by decide) rfl ?_
        refine V_goto E (tgt := 6) dX8_laysLinks_44 (by decide) ?_
        exact ih (a6_1 + (1 : Int32)) u5.1 u5.2.1 u5.2.2 _ hf hk
  obtain ⟨u2, hu2, hf⟩ := bd hf
  refine L6 FU (0 : Int32) mo_linkVotes mo_linkE mo_linkF u2 hu2 ?_
  have h9 := hret 47 [] dX8_laysLinks_47
  rw [← (Option.some.inj hf)] at h9
  exact h9
abbrev rmMo_link : Room := { frames := 6, cells := 0, slots := 0, locals := 141 }
theorem wd_yX8_link : wdV yX8_link cX8_link 5 (some .int) 3 := ⟨wc_yX8_link, wi_yX8_link, wse_yX8_link, wini_X8, by decide +kernel, by decide +kernel, by decide +kernel⟩
set_option maxHeartbeats 4000000 in
set_option maxRecDepth 100000 in
theorem kMo_link (l : Launch) (G : wG) (qMo : Nat → Nat) (p1 : Int32) (p2 : Int32) (p3 : Int32) (mo_all : Nat → Int32) (mo_past : Nat → Int32) (mo_aside : Nat → Int32) (mo_states : Int32) (mo_refused : Nat → Int32) (mo_causeKind : Int32) (mo_causeOrder : Int32) (mo_corner : Nat → Int32) (mo_linkVotes : Nat → Int32) (mo_linkE : Nat → Int32) (mo_linkF : Nat → Int32) (mo_follower : Nat → Int32) (mo_ahead : Nat → Int32) (mo_least : Nat → Int32) (mo_seam : Nat → Int32) (mo_above : Int64) (mo_below : Int64) (mo_text : Nat → Int32) (mo_textLong : Int32) (mo_place : Int32) (mo_value : Int32) (mo_numbers : Nat → Int32) (mo_not : Int32) (o : Int32 × (Nat → Int32) × (Nat → Int32) × (Nat → Int32) × (Nat → Int32) × (Nat → Int32)) (hf : fMo_link p1 p2 p3 mo_all mo_refused mo_corner mo_linkVotes mo_linkE mo_linkF = some o) : Ct G l yX8_link cX8_link 5 (some .int) rmMo_link [.ref (qMo 0), .int p1, .int p2, .int p3] (gMo G qMo mo_all mo_past mo_aside mo_states mo_refused mo_causeKind mo_causeOrder mo_corner mo_linkVotes mo_linkE mo_linkF mo_follower mo_ahead mo_least mo_seam mo_above mo_below mo_text mo_textLong mo_place mo_value mo_numbers mo_not) (some (.int o.1)) (gMo G qMo mo_all mo_past mo_aside mo_states o.2.1 mo_causeKind mo_causeOrder o.2.2.1 o.2.2.2.1 o.2.2.2.2.1 o.2.2.2.2.2 mo_follower mo_ahead mo_least mo_seam mo_above mo_below mo_text mo_textLong mo_place mo_value mo_numbers mo_not) := by
  refine Ct.ofI (by decide +kernel) (Nat.le_of_ble_eq_true rfl) (fun p e s m args below meth c A Q E hret => ?_)
  unfold fMo_link at hf
  show V G p l e rmMo_link s m args below meth c 5 A Q 0 0 (gMo G qMo mo_all mo_past mo_aside mo_states mo_refused mo_causeKind mo_causeOrder mo_corner mo_linkVotes mo_linkE mo_linkF mo_follower mo_ahead mo_least mo_seam mo_above mo_below mo_text mo_textLong mo_place mo_value mo_numbers mo_not) 0 [(0, .ref (qMo 0)), (1, .int p1), (2, .int p2), (3, .int p3)] []
  refine V_aload_n E 0 rfl dX8_link_0 ?_
  refine V_iload_n E 1 rfl dX8_link_1 ?_
  refine V_iload_n E 2 rfl dX8_link_2 ?_
  obtain ⟨u1, hu1, hf⟩ := bd hf
  refine V_frW E (Rn_V E (rest := []) mlX8_171 wd_yX8_areTwo (kMo_areTwo l G qMo p1 p2 mo_all mo_past mo_aside mo_states mo_refused mo_causeKind mo_causeOrder mo_corner mo_linkVotes mo_linkE mo_linkF mo_follower mo_ahead mo_least mo_seam mo_above mo_below mo_text mo_textLong mo_place mo_value mo_numbers mo_not u1 hu1) ⟨rfl, rfl, Nat.le_of_ble_eq_true rfl, Nat.le_of_ble_eq_true rfl⟩ 0 rfl rfl rfl rfl rfl (Nat.le_of_ble_eq_true rfl) dX8_link_3) ?_
  show V G p l e rmMo_link s m args below meth c 5 A Q 0 0 (gMo G qMo mo_all mo_past mo_aside mo_states mo_refused mo_causeKind mo_causeOrder mo_corner mo_linkVotes mo_linkE mo_linkF mo_follower mo_ahead mo_least mo_seam mo_above mo_below mo_text mo_textLong mo_place mo_value mo_numbers mo_not) 6 [(0, .ref (qMo 0)), (1, .int p1), (2, .int p2), (3, .int p3)] [.int u1]
  refine V_if_eq E (tgt := 21) dX8_link_6 (by decide) (fun hc2 => ?_) (fun hc2 => ?_)
  · have hf := ip hc2 hf
    refine V_aload_n E 0 rfl dX8_link_21 ?_
    refine V_bipush E (v := (-2 : Int32)) dX8_link_22 (by decide) ?_
    obtain ⟨u3, hu3, hf⟩ := bd hf
    refine V_frW E (Rn_V E (rest := []) mlX8_91 wd_yX8_refuses (kMo_refuses l G qMo (-2 : Int32) mo_all mo_past mo_aside mo_states mo_refused mo_causeKind mo_causeOrder mo_corner mo_linkVotes mo_linkE mo_linkF mo_follower mo_ahead mo_least mo_seam mo_above mo_below mo_text mo_textLong mo_place mo_value mo_numbers mo_not u3 hu3) ⟨rfl, rfl, Nat.le_of_ble_eq_true rfl, Nat.le_of_ble_eq_true rfl⟩ 0 rfl rfl rfl rfl rfl (Nat.le_of_ble_eq_true rfl) dX8_link_24) ?_
    show V G p l e rmMo_link s m args below meth c 5 A Q 0 0 (gMo G qMo mo_all mo_past mo_aside mo_states u3.2 mo_causeKind mo_causeOrder mo_corner mo_linkVotes mo_linkE mo_linkF mo_follower mo_ahead mo_least mo_seam mo_above mo_below mo_text mo_textLong mo_place mo_value mo_numbers mo_not) 27 [(0, .ref (qMo 0)), (1, .int p1), (2, .int p2), (3, .int p3)] [.int u3.1]
    have h9 := hret 27 [(0, .ref (qMo 0)), (1, .int p1), (2, .int p2), (3, .int p3)] dX8_link_27
    rw [← (Option.some.inj hf)] at h9
    exact h9
  · have hf := iq hc2 hf
    refine V_iload_n E 3 rfl dX8_link_9 ?_
    refine V_i2l E dX8_link_10 ?_
    refine V_lconst E (v := (0 : Int64)) dX8_link_11 (by decide) ?_
    refine V_ldc2 E (v := (2 : Int64)) dX8_link_12 kX8_112 ?_
    obtain ⟨u4, hu4, hf⟩ := bd hf
    refine V_fr0 E (Rn_S E (rest := []) mlX8_63 wd_yX8_in (kMo_in l G p3.toInt64 (0 : Int64) (2 : Int64) u4 hu4) ⟨rfl, rfl, Nat.le_of_ble_eq_true rfl, Nat.le_of_ble_eq_true rfl⟩ rfl rfl (Nat.le_of_ble_eq_true rfl) dX8_link_15) ?_
    show V G p l e rmMo_link s m args below meth c 5 A Q 0 0 (gMo G qMo mo_all mo_past mo_aside mo_states mo_refused mo_causeKind mo_causeOrder mo_corner mo_linkVotes mo_linkE mo_linkF mo_follower mo_ahead mo_least mo_seam mo_above mo_below mo_text mo_textLong mo_place mo_value mo_numbers mo_not) 18 [(0, .ref (qMo 0)), (1, .int p1), (2, .int p2), (3, .int p3)] [.int u4]
    refine V_if_ne E (tgt := 28) dX8_link_18 (by decide) (fun hc5 => ?_) (fun hc5 => ?_)
    · have hf := iq hc5 hf
      refine V_aload_n E 0 rfl dX8_link_28 ?_
      obtain ⟨u6, hu6, hf⟩ := bd hf
      refine V_frW E (Rn_V E (rest := []) mlX8_176 wd_yX8_laysCorners (kMo_laysCorners l G qMo mo_all mo_past mo_aside mo_states mo_refused mo_causeKind mo_causeOrder mo_corner mo_linkVotes mo_linkE mo_linkF mo_follower mo_ahead mo_least mo_seam mo_above mo_below mo_text mo_textLong mo_place mo_value mo_numbers mo_not u6 hu6) ⟨rfl, rfl, Nat.le_of_ble_eq_true rfl, Nat.le_of_ble_eq_true rfl⟩ 0 rfl rfl rfl rfl rfl (Nat.le_of_ble_eq_true rfl) dX8_link_29) ?_
      show V G p l e rmMo_link s m args below meth c 5 A Q 0 0 (gMo G qMo mo_all mo_past mo_aside mo_states mo_refused mo_causeKind mo_causeOrder u6 mo_linkVotes mo_linkE mo_linkF mo_follower mo_ahead mo_least mo_seam mo_above mo_below mo_text mo_textLong mo_place mo_value mo_numbers mo_not) 32 [(0, .ref (qMo 0)), (1, .int p1), (2, .int p2), (3, .int p3)] []
      refine V_aload_n E 0 rfl dX8_link_32 ?_
      refine V_iload_n E 1 rfl dX8_link_33 ?_
      refine V_iload_n E 2 rfl dX8_link_34 ?_
      obtain ⟨u7, hu7, hf⟩ := bd hf
      refine V_frW E (Rn_V E (rest := []) mlX8_183 wd_yX8_laysLink (kMo_laysLink l G qMo p1 p2 mo_all mo_past mo_aside mo_states mo_refused mo_causeKind mo_causeOrder u6 mo_linkVotes mo_linkE mo_linkF mo_follower mo_ahead mo_least mo_seam mo_above mo_below mo_text mo_textLong mo_place mo_value mo_numbers mo_not u7 hu7) ⟨rfl, rfl, Nat.le_of_ble_eq_true rfl, Nat.le_of_ble_eq_true rfl⟩ 0 rfl rfl rfl rfl rfl (Nat.le_of_ble_eq_true rfl) dX8_link_35) ?_
      show V G p l e rmMo_link s m args below meth c 5 A Q 0 0 (gMo G qMo mo_all mo_past mo_aside mo_states mo_refused mo_causeKind mo_causeOrder u6 u7.1 u7.2.1 u7.2.2 mo_follower mo_ahead mo_least mo_seam mo_above mo_below mo_text mo_textLong mo_place mo_value mo_numbers mo_not) 38 [(0, .ref (qMo 0)), (1, .int p1), (2, .int p2), (3, .int p3)] []
      refine V_bipush E (v := (6 : Int32)) dX8_link_38 (by decide) ?_
      refine V_iload_n E 1 rfl dX8_link_40 ?_
      refine V_imul E dX8_link_41 ?_
      refine V_iload_n E 2 rfl dX8_link_42 ?_
      refine V_iadd E dX8_link_43 ?_
      refine V_istore E (lv' := [(0, .ref (qMo 0)), (1, .int p1), (2, .int p2), (3, .int p3), (4, .int (((6 : Int32) * p1) + p2))]) dX8_link_44 (by decide) rfl ?_
      refine V_iload_n E 3 rfl dX8_link_46 ?_
      refine V_if_ne E (tgt := 60) dX8_link_47 (by decide) (fun hc8 => ?_) (fun hc8 => ?_)
      · have hf := iq hc8 hf
        refine V_aload_n E 0 rfl dX8_link_60 ?_
        refine gfX8_29 E 0 rfl rfl dX8_link_61 ?_
        refine V_iload E 4 rfl dX8_link_64 ?_
        obtain ⟨hi9, hf⟩ := asr_ok hf
        refine V_iald E 6 rfl hi9 dX8_link_66 ?_
        refine V_if_ne E (tgt := 74) dX8_link_67 (by decide) (fun hc10 => ?_) (fun hc10 => ?_)
        · have hf := iq hc10 hf
          refine V_iload_n E 3 rfl dX8_link_74 ?_
          refine V_iconst E (v := (1 : Int32)) dX8_link_75 (by decide) ?_
          refine V_icmp_ne E (tgt := 91) dX8_link_76 (by decide) (fun hc11 => ?_) (fun hc11 => ?_)
          · have hf := iq hc11 hf
            refine V_aload_n E 0 rfl dX8_link_91 ?_
            refine gfX8_35 E 0 rfl rfl dX8_link_92 ?_
            refine V_iload E 4 rfl dX8_link_95 ?_
            obtain ⟨hi12, hf⟩ := asr_ok hf
            refine V_iald E 8 rfl hi12 dX8_link_97 ?_
            have h9 := hret 98 [(0, .ref (qMo 0)), (1, .int p1), (2, .int p2), (3, .int p3), (4, .int (((6 : Int32) * p1) + p2))] dX8_link_98
            rw [← (Option.some.inj hf)] at h9
            exact h9
          · have hf := ip hc11 hf
            refine V_aload_n E 0 rfl dX8_link_79 ?_
            refine gfX8_32 E 0 rfl rfl dX8_link_80 ?_
            refine V_iload E 4 rfl dX8_link_83 ?_
            obtain ⟨hi13, hf⟩ := asr_ok hf
            refine V_iald E 7 rfl hi13 dX8_link_85 ?_
            refine V_iconst E (v := (1 : Int32)) dX8_link_86 (by decide) ?_
            refine V_iadd E dX8_link_87 ?_
            refine V_goto E (tgt := 98) dX8_link_88 (by decide) ?_
            have h9 := hret 98 [(0, .ref (qMo 0)), (1, .int p1), (2, .int p2), (3, .int p3), (4, .int (((6 : Int32) * p1) + p2))] dX8_link_98
            rw [← (Option.some.inj hf)] at h9
            exact h9
        · have hf := ip hc10 hf
          refine V_iconst E (v := (-1 : Int32)) dX8_link_70 (by decide) ?_
          refine V_goto E (tgt := 98) dX8_link_71 (by decide) ?_
          have h9 := hret 98 [(0, .ref (qMo 0)), (1, .int p1), (2, .int p2), (3, .int p3), (4, .int (((6 : Int32) * p1) + p2))] dX8_link_98
          rw [← (Option.some.inj hf)] at h9
          exact h9
      · have hf := ip hc8 hf
        refine V_aload_n E 0 rfl dX8_link_50 ?_
        refine gfX8_29 E 0 rfl rfl dX8_link_51 ?_
        refine V_iload E 4 rfl dX8_link_54 ?_
        obtain ⟨hi14, hf⟩ := asr_ok hf
        refine V_iald E 6 rfl hi14 dX8_link_56 ?_
        refine V_goto E (tgt := 98) dX8_link_57 (by decide) ?_
        have h9 := hret 98 [(0, .ref (qMo 0)), (1, .int p1), (2, .int p2), (3, .int p3), (4, .int (((6 : Int32) * p1) + p2))] dX8_link_98
        rw [← (Option.some.inj hf)] at h9
        exact h9
    · have hf := ip hc5 hf
      refine V_aload_n E 0 rfl dX8_link_21 ?_
      refine V_bipush E (v := (-2 : Int32)) dX8_link_22 (by decide) ?_
      obtain ⟨u15, hu15, hf⟩ := bd hf
      refine V_frW E (Rn_V E (rest := []) mlX8_91 wd_yX8_refuses (kMo_refuses l G qMo (-2 : Int32) mo_all mo_past mo_aside mo_states mo_refused mo_causeKind mo_causeOrder mo_corner mo_linkVotes mo_linkE mo_linkF mo_follower mo_ahead mo_least mo_seam mo_above mo_below mo_text mo_textLong mo_place mo_value mo_numbers mo_not u15 hu15) ⟨rfl, rfl, Nat.le_of_ble_eq_true rfl, Nat.le_of_ble_eq_true rfl⟩ 0 rfl rfl rfl rfl rfl (Nat.le_of_ble_eq_true rfl) dX8_link_24) ?_
      show V G p l e rmMo_link s m args below meth c 5 A Q 0 0 (gMo G qMo mo_all mo_past mo_aside mo_states u15.2 mo_causeKind mo_causeOrder mo_corner mo_linkVotes mo_linkE mo_linkF mo_follower mo_ahead mo_least mo_seam mo_above mo_below mo_text mo_textLong mo_place mo_value mo_numbers mo_not) 27 [(0, .ref (qMo 0)), (1, .int p1), (2, .int p2), (3, .int p3)] [.int u15.1]
      have h9 := hret 27 [(0, .ref (qMo 0)), (1, .int p1), (2, .int p2), (3, .int p3)] dX8_link_27
      rw [← (Option.some.inj hf)] at h9
      exact h9
abbrev rmMo_wayFrom : Room := { frames := 0, cells := 0, slots := 0, locals := 0 }
theorem wd_yX8_wayFrom : wdV yX8_wayFrom cX8_wayFrom 5 (some .int) 2 := ⟨wc_yX8_wayFrom, wi_yX8_wayFrom, wse_yX8_wayFrom, wini_X8, by decide +kernel, by decide +kernel, by decide +kernel⟩
set_option maxHeartbeats 4000000 in
set_option maxRecDepth 100000 in
theorem kMo_wayFrom (l : Launch) (G : wG) (qMo : Nat → Nat) (p1 : Int32) (p2 : Int32) (mo_all : Nat → Int32) (mo_past : Nat → Int32) (mo_aside : Nat → Int32) (mo_states : Int32) (mo_refused : Nat → Int32) (mo_causeKind : Int32) (mo_causeOrder : Int32) (mo_corner : Nat → Int32) (mo_linkVotes : Nat → Int32) (mo_linkE : Nat → Int32) (mo_linkF : Nat → Int32) (mo_follower : Nat → Int32) (mo_ahead : Nat → Int32) (mo_least : Nat → Int32) (mo_seam : Nat → Int32) (mo_above : Int64) (mo_below : Int64) (mo_text : Nat → Int32) (mo_textLong : Int32) (mo_place : Int32) (mo_value : Int32) (mo_numbers : Nat → Int32) (mo_not : Int32) (o : Int32) (hf : fMo_wayFrom p1 p2 mo_follower = some o) : Ct G l yX8_wayFrom cX8_wayFrom 5 (some .int) rmMo_wayFrom [.ref (qMo 0), .int p1, .int p2] (gMo G qMo mo_all mo_past mo_aside mo_states mo_refused mo_causeKind mo_causeOrder mo_corner mo_linkVotes mo_linkE mo_linkF mo_follower mo_ahead mo_least mo_seam mo_above mo_below mo_text mo_textLong mo_place mo_value mo_numbers mo_not) (some (.int o)) (gMo G qMo mo_all mo_past mo_aside mo_states mo_refused mo_causeKind mo_causeOrder mo_corner mo_linkVotes mo_linkE mo_linkF mo_follower mo_ahead mo_least mo_seam mo_above mo_below mo_text mo_textLong mo_place mo_value mo_numbers mo_not) := by
  refine Ct.ofI (by decide +kernel) (Nat.le_of_ble_eq_true rfl) (fun p e s m args below meth c A Q E hret => ?_)
  unfold fMo_wayFrom at hf
  show V G p l e rmMo_wayFrom s m args below meth c 5 A Q 0 0 (gMo G qMo mo_all mo_past mo_aside mo_states mo_refused mo_causeKind mo_causeOrder mo_corner mo_linkVotes mo_linkE mo_linkF mo_follower mo_ahead mo_least mo_seam mo_above mo_below mo_text mo_textLong mo_place mo_value mo_numbers mo_not) 0 [(0, .ref (qMo 0)), (1, .int p1), (2, .int p2)] []
  refine V_iconst E (v := (1 : Int32)) dX8_wayFrom_0 (by decide) ?_
  refine V_istore_n E (lv' := [(0, .ref (qMo 0)), (1, .int p1), (2, .int p2), (3, .int (1 : Int32))]) dX8_wayFrom_1 (by decide) rfl ?_
  refine V_iload_n E 1 rfl dX8_wayFrom_2 ?_
  refine V_istore E (lv' := [(0, .ref (qMo 0)), (1, .int p1), (2, .int p2), (3, .int (1 : Int32)), (4, .int p1)]) dX8_wayFrom_3 (by decide) rfl ?_
  have L5 : ∀ (n : Nat) (a5_3 : Int32) (a5_4 : Int32) (u : Int32 × Int32), fMo_wayFrom_L5 p2 mo_follower n a5_3 a5_4 = some u → (V G p l e rmMo_wayFrom s m args below meth c 5 A Q 0 0 (gMo G qMo mo_all mo_past mo_aside mo_states mo_refused mo_causeKind mo_causeOrder mo_corner mo_linkVotes mo_linkE mo_linkF mo_follower mo_ahead mo_least mo_seam mo_above mo_below mo_text mo_textLong mo_place mo_value mo_numbers mo_not) 37 [(2, .int p2), (3, .int u.1), (4, .int u.2)] []) → V G p l e rmMo_wayFrom s m args below meth c 5 A Q 0 0 (gMo G qMo mo_all mo_past mo_aside mo_states mo_refused mo_causeKind mo_causeOrder mo_corner mo_linkVotes mo_linkE mo_linkF mo_follower mo_ahead mo_least mo_seam mo_above mo_below mo_text mo_textLong mo_place mo_value mo_numbers mo_not) 5 [(0, .ref (qMo 0)), (2, .int p2), (3, .int a5_3), (4, .int a5_4)] [] := by
    intro n
    induction n with
    | zero =>
      intro a5_3 a5_4 u hf hk
      rw [fMo_wayFrom_L5] at hf
      cases hf
    | succ n ih =>
      intro a5_3 a5_4 u hf hk
      rw [fMo_wayFrom_L5] at hf
      refine V_iload E 3 rfl dX8_wayFrom_5 ?_
      refine V_iload_n E 1 rfl dX8_wayFrom_7 ?_
      refine V_icmp_eq E (tgt := 37) dX8_wayFrom_8 (by decide) (fun hc2 => ?_) (fun hc2 => ?_)
      · have hf := ip hc2 hf
        refine V_sub [1, 2, 3] rfl ?_
        rw [← Option.some.inj hf] at hk
        exact hk
      · have hf := iq hc2 hf
        refine V_aload_n E 0 rfl dX8_wayFrom_11 ?_
        refine gfX8_38 E 0 rfl rfl dX8_wayFrom_12 ?_
        refine V_iload E 3 rfl dX8_wayFrom_15 ?_
        obtain ⟨hi3, hf⟩ := asr_ok hf
        refine V_iald E 9 rfl hi3 dX8_wayFrom_17 ?_
        refine V_iconst E (v := (-1 : Int32)) dX8_wayFrom_18 (by decide) ?_
        refine V_icmp_eq E (tgt := 37) dX8_wayFrom_19 (by decide) (fun hc4 => ?_) (fun hc4 => ?_)
        · have hf := ip hc4 hf
          refine V_sub [1, 2, 3] rfl ?_
          rw [← Option.some.inj hf] at hk
          exact hk
        · have hf := iq hc4 hf
          refine V_aload_n E 0 rfl dX8_wayFrom_22 ?_
          refine gfX8_38 E 0 rfl rfl dX8_wayFrom_23 ?_
          refine V_iload E 3 rfl dX8_wayFrom_26 ?_
          obtain ⟨hi5, hf⟩ := asr_ok hf
          refine V_iald E 9 rfl hi5 dX8_wayFrom_28 ?_
          obtain ⟨t6, ht6, hf⟩ := bd hf
          have ht6 := Option.some.inj ht6
          rw [ht6]
          refine V_istore E (lv' := [(0, .ref (qMo 0)), (2, .int p2), (3, .int a5_3), (4, .int t6)]) dX8_wayFrom_29 (by decide) rfl ?_
          refine V_iinc E (v := (a5_3 + (1 : Int32))) (lv' := [(0, .ref (qMo 0)), (2, .int p2), (3, .int (a5_3 + (1 : Int32))), (4, .int t6)]) 2 rfl dX8_wayFrom_31 rfl (by decide) rfl ?_
          refine V_goto E (tgt := 5) dX8_wayFrom_34 (by decide) ?_
          exact ih (a5_3 + (1 : Int32)) t6 _ hf hk
  refine V_sub [0, 2, 3, 4] rfl ?_
  obtain ⟨u1, hu1, hf⟩ := bd hf
  refine L5 FU (1 : Int32) p1 u1 hu1 ?_
  refine V_iload E 2 rfl dX8_wayFrom_37 ?_
  refine V_iload_n E 0 rfl dX8_wayFrom_39 ?_
  refine V_icmp_ne E (tgt := 47) dX8_wayFrom_40 (by decide) (fun hc7 => ?_) (fun hc7 => ?_)
  · have hf := iq hc7 hf
    refine V_iconst E (v := (0 : Int32)) dX8_wayFrom_47 (by decide) ?_
    have h9 := hret 48 [(2, .int p2), (3, .int u1.1), (4, .int u1.2)] dX8_wayFrom_48
    rw [← (Option.some.inj hf)] at h9
    exact h9
  · have hf := ip hc7 hf
    refine V_iload_n E 1 rfl dX8_wayFrom_43 ?_
    refine V_goto E (tgt := 48) dX8_wayFrom_44 (by decide) ?_
    have h9 := hret 48 [(2, .int p2), (3, .int u1.1), (4, .int u1.2)] dX8_wayFrom_48
    rw [← (Option.some.inj hf)] at h9
    exact h9
abbrev rmMo_mayTake : Room := { frames := 1, cells := 0, slots := 0, locals := 24 }
theorem wd_yX8_mayTake : wdV yX8_mayTake cX8_mayTake 4 (some .boolean) 2 := ⟨wc_yX8_mayTake, wi_yX8_mayTake, wse_yX8_mayTake, wini_X8, by decide +kernel, by decide +kernel, by decide +kernel⟩
set_option maxHeartbeats 4000000 in
set_option maxRecDepth 100000 in
theorem kMo_mayTake (l : Launch) (G : wG) (qMo : Nat → Nat) (p1 : Int32) (p2 : Int32) (mo_all : Nat → Int32) (mo_past : Nat → Int32) (mo_aside : Nat → Int32) (mo_states : Int32) (mo_refused : Nat → Int32) (mo_causeKind : Int32) (mo_causeOrder : Int32) (mo_corner : Nat → Int32) (mo_linkVotes : Nat → Int32) (mo_linkE : Nat → Int32) (mo_linkF : Nat → Int32) (mo_follower : Nat → Int32) (mo_ahead : Nat → Int32) (mo_least : Nat → Int32) (mo_seam : Nat → Int32) (mo_above : Int64) (mo_below : Int64) (mo_text : Nat → Int32) (mo_textLong : Int32) (mo_place : Int32) (mo_value : Int32) (mo_numbers : Nat → Int32) (mo_not : Int32) (o : Int32) (hf : fMo_mayTake p1 p2 mo_all mo_follower mo_ahead = some o) : Ct G l yX8_mayTake cX8_mayTake 4 (some .boolean) rmMo_mayTake [.ref (qMo 0), .int p1, .int p2] (gMo G qMo mo_all mo_past mo_aside mo_states mo_refused mo_causeKind mo_causeOrder mo_corner mo_linkVotes mo_linkE mo_linkF mo_follower mo_ahead mo_least mo_seam mo_above mo_below mo_text mo_textLong mo_place mo_value mo_numbers mo_not) (some (.int o)) (gMo G qMo mo_all mo_past mo_aside mo_states mo_refused mo_causeKind mo_causeOrder mo_corner mo_linkVotes mo_linkE mo_linkF mo_follower mo_ahead mo_least mo_seam mo_above mo_below mo_text mo_textLong mo_place mo_value mo_numbers mo_not) := by
  refine Ct.ofZ (by decide +kernel) (Nat.le_of_ble_eq_true rfl) (fun p e s m args below meth c A Q E hret => ?_)
  unfold fMo_mayTake at hf
  show V G p l e rmMo_mayTake s m args below meth c 4 A Q 0 0 (gMo G qMo mo_all mo_past mo_aside mo_states mo_refused mo_causeKind mo_causeOrder mo_corner mo_linkVotes mo_linkE mo_linkF mo_follower mo_ahead mo_least mo_seam mo_above mo_below mo_text mo_textLong mo_place mo_value mo_numbers mo_not) 0 [(0, .ref (qMo 0)), (1, .int p1), (2, .int p2)] []
  refine V_aload_n E 0 rfl dX8_mayTake_0 ?_
  refine gfX8_38 E 0 rfl rfl dX8_mayTake_1 ?_
  refine V_iload_n E 1 rfl dX8_mayTake_4 ?_
  obtain ⟨hi1, hf⟩ := asr_ok hf
  refine V_iald E 9 rfl hi1 dX8_mayTake_5 ?_
  refine V_iconst E (v := (-1 : Int32)) dX8_mayTake_6 (by decide) ?_
  refine V_icmp_ne E (tgt := 20) dX8_mayTake_7 (by decide) (fun hc2 => ?_) (fun hc2 => ?_)
  · have hf := iq hc2 hf
    refine V_iconst E (v := (0 : Int32)) dX8_mayTake_20 (by decide) ?_
    have h9 := hret 21 [(0, .ref (qMo 0)), (1, .int p1), (2, .int p2)] dX8_mayTake_21
    rw [← (Option.some.inj hf)] at h9
    exact h9 (z01a (Or.inl rfl))
  · have hf := ip hc2 hf
    refine V_aload_n E 0 rfl dX8_mayTake_10 ?_
    refine gfX8_41 E 0 rfl rfl dX8_mayTake_11 ?_
    refine V_iload_n E 2 rfl dX8_mayTake_14 ?_
    obtain ⟨hi3, hf⟩ := asr_ok hf
    refine V_iald E 10 rfl hi3 dX8_mayTake_15 ?_
    refine V_iconst E (v := (-1 : Int32)) dX8_mayTake_16 (by decide) ?_
    refine V_icmp_eq E (tgt := 22) dX8_mayTake_17 (by decide) (fun hc4 => ?_) (fun hc4 => ?_)
    · have hf := ip hc4 hf
      refine V_aload_n E 0 rfl dX8_mayTake_22 ?_
      refine V_iload_n E 2 rfl dX8_mayTake_23 ?_
      refine V_iload_n E 1 rfl dX8_mayTake_24 ?_
      obtain ⟨u5, hu5, hf⟩ := bd hf
      refine V_frW E (Rn_V E (rest := []) mlX8_187 wd_yX8_wayFrom (kMo_wayFrom l G qMo p2 p1 mo_all mo_past mo_aside mo_states mo_refused mo_causeKind mo_causeOrder mo_corner mo_linkVotes mo_linkE mo_linkF mo_follower mo_ahead mo_least mo_seam mo_above mo_below mo_text mo_textLong mo_place mo_value mo_numbers mo_not u5 hu5) ⟨rfl, rfl, Nat.le_of_ble_eq_true rfl, Nat.le_of_ble_eq_true rfl⟩ 0 rfl rfl rfl rfl rfl (Nat.le_of_ble_eq_true rfl) dX8_mayTake_25) ?_
      show V G p l e rmMo_mayTake s m args below meth c 4 A Q 0 0 (gMo G qMo mo_all mo_past mo_aside mo_states mo_refused mo_causeKind mo_causeOrder mo_corner mo_linkVotes mo_linkE mo_linkF mo_follower mo_ahead mo_least mo_seam mo_above mo_below mo_text mo_textLong mo_place mo_value mo_numbers mo_not) 28 [(0, .ref (qMo 0)), (1, .int p1), (2, .int p2)] [.int u5]
      refine V_istore_n E (lv' := [(0, .ref (qMo 0)), (1, .int p1), (2, .int p2), (3, .int u5)]) dX8_mayTake_28 (by decide) rfl ?_
      refine V_iload_n E 3 rfl dX8_mayTake_29 ?_
      refine V_if_eq E (tgt := 41) dX8_mayTake_30 (by decide) (fun hc6 => ?_) (fun hc6 => ?_)
      · have hf := ip hc6 hf
        refine V_iconst E (v := (1 : Int32)) dX8_mayTake_41 (by decide) ?_
        refine V_goto E (tgt := 46) dX8_mayTake_42 (by decide) ?_
        have h9 := hret 46 [(0, .ref (qMo 0)), (1, .int p1), (2, .int p2), (3, .int u5)] dX8_mayTake_46
        rw [← (Option.some.inj hf)] at h9
        exact h9 (z01a (Or.inr rfl))
      · have hf := iq hc6 hf
        refine V_iload_n E 3 rfl dX8_mayTake_33 ?_
        refine V_aload_n E 0 rfl dX8_mayTake_34 ?_
        obtain ⟨u7, hu7, hf⟩ := bd hf
        refine V_frW E (Rn_V E (rest := [.int u5]) mlX8_59 wd_yX8_many (kMo_many l G qMo mo_all mo_past mo_aside mo_states mo_refused mo_causeKind mo_causeOrder mo_corner mo_linkVotes mo_linkE mo_linkF mo_follower mo_ahead mo_least mo_seam mo_above mo_below mo_text mo_textLong mo_place mo_value mo_numbers mo_not u7 hu7) ⟨rfl, rfl, Nat.le_of_ble_eq_true rfl, Nat.le_of_ble_eq_true rfl⟩ 0 rfl rfl rfl rfl rfl (Nat.le_of_ble_eq_true rfl) dX8_mayTake_35) ?_
        show V G p l e rmMo_mayTake s m args below meth c 4 A Q 0 0 (gMo G qMo mo_all mo_past mo_aside mo_states mo_refused mo_causeKind mo_causeOrder mo_corner mo_linkVotes mo_linkE mo_linkF mo_follower mo_ahead mo_least mo_seam mo_above mo_below mo_text mo_textLong mo_place mo_value mo_numbers mo_not) 38 [(0, .ref (qMo 0)), (1, .int p1), (2, .int p2), (3, .int u5)] [.int u7, .int u5]
        refine V_icmp_ne E (tgt := 45) dX8_mayTake_38 (by decide) (fun hc8 => ?_) (fun hc8 => ?_)
        · have hf := iq hc8 hf
          refine V_iconst E (v := (0 : Int32)) dX8_mayTake_45 (by decide) ?_
          have h9 := hret 46 [(0, .ref (qMo 0)), (1, .int p1), (2, .int p2), (3, .int u5)] dX8_mayTake_46
          rw [← (Option.some.inj hf)] at h9
          exact h9 (z01a (Or.inl rfl))
        · have hf := ip hc8 hf
          refine V_iconst E (v := (1 : Int32)) dX8_mayTake_41 (by decide) ?_
          refine V_goto E (tgt := 46) dX8_mayTake_42 (by decide) ?_
          have h9 := hret 46 [(0, .ref (qMo 0)), (1, .int p1), (2, .int p2), (3, .int u5)] dX8_mayTake_46
          rw [← (Option.some.inj hf)] at h9
          exact h9 (z01a (Or.inr rfl))
    · have hf := iq hc4 hf
      refine V_iconst E (v := (0 : Int32)) dX8_mayTake_20 (by decide) ?_
      have h9 := hret 21 [(0, .ref (qMo 0)), (1, .int p1), (2, .int p2)] dX8_mayTake_21
      rw [← (Option.some.inj hf)] at h9
      exact h9 (z01a (Or.inl rfl))
abbrev rmMo_laysChain : Room := { frames := 7, cells := 0, slots := 0, locals := 163 }
theorem wd_yX8_laysChain : wdV yX8_laysChain cX8_laysChain 4 none 0 := ⟨wc_yX8_laysChain, wi_yX8_laysChain, wse_yX8_laysChain, wini_X8, by decide +kernel, by decide +kernel, by decide +kernel⟩
set_option maxHeartbeats 4000000 in
set_option maxRecDepth 100000 in
theorem kMo_laysChain (l : Launch) (G : wG) (qMo : Nat → Nat) (mo_all : Nat → Int32) (mo_past : Nat → Int32) (mo_aside : Nat → Int32) (mo_states : Int32) (mo_refused : Nat → Int32) (mo_causeKind : Int32) (mo_causeOrder : Int32) (mo_corner : Nat → Int32) (mo_linkVotes : Nat → Int32) (mo_linkE : Nat → Int32) (mo_linkF : Nat → Int32) (mo_follower : Nat → Int32) (mo_ahead : Nat → Int32) (mo_least : Nat → Int32) (mo_seam : Nat → Int32) (mo_above : Int64) (mo_below : Int64) (mo_text : Nat → Int32) (mo_textLong : Int32) (mo_place : Int32) (mo_value : Int32) (mo_numbers : Nat → Int32) (mo_not : Int32) (o : (Nat → Int32) × (Nat → Int32) × (Nat → Int32) × (Nat → Int32) × (Nat → Int32) × (Nat → Int32)) (hf : fMo_laysChain mo_all mo_corner mo_linkVotes mo_linkE mo_linkF mo_follower mo_ahead = some o) : Ct G l yX8_laysChain cX8_laysChain 4 none rmMo_laysChain [.ref (qMo 0)] (gMo G qMo mo_all mo_past mo_aside mo_states mo_refused mo_causeKind mo_causeOrder mo_corner mo_linkVotes mo_linkE mo_linkF mo_follower mo_ahead mo_least mo_seam mo_above mo_below mo_text mo_textLong mo_place mo_value mo_numbers mo_not) none (gMo G qMo mo_all mo_past mo_aside mo_states mo_refused mo_causeKind mo_causeOrder o.1 o.2.1 o.2.2.1 o.2.2.2.1 o.2.2.2.2.1 o.2.2.2.2.2 mo_least mo_seam mo_above mo_below mo_text mo_textLong mo_place mo_value mo_numbers mo_not) := by
  refine Ct.ofV (by decide +kernel) (Nat.le_of_ble_eq_true rfl) (fun p e s m args below meth c A Q E hret => ?_)
  unfold fMo_laysChain at hf
  show V G p l e rmMo_laysChain s m args below meth c 4 A Q 0 0 (gMo G qMo mo_all mo_past mo_aside mo_states mo_refused mo_causeKind mo_causeOrder mo_corner mo_linkVotes mo_linkE mo_linkF mo_follower mo_ahead mo_least mo_seam mo_above mo_below mo_text mo_textLong mo_place mo_value mo_numbers mo_not) 0 [(0, .ref (qMo 0))] []
  refine V_aload_n E 0 rfl dX8_laysChain_0 ?_
  obtain ⟨u1, hu1, hf⟩ := bd hf
  refine V_frW E (Rn_V E (rest := []) mlX8_190 wd_yX8_laysLinks (kMo_laysLinks l G qMo mo_all mo_past mo_aside mo_states mo_refused mo_causeKind mo_causeOrder mo_corner mo_linkVotes mo_linkE mo_linkF mo_follower mo_ahead mo_least mo_seam mo_above mo_below mo_text mo_textLong mo_place mo_value mo_numbers mo_not u1 hu1) ⟨rfl, rfl, Nat.le_of_ble_eq_true rfl, Nat.le_of_ble_eq_true rfl⟩ 0 rfl rfl rfl rfl rfl (Nat.le_of_ble_eq_true rfl) dX8_laysChain_1) ?_
  show V G p l e rmMo_laysChain s m args below meth c 4 A Q 0 0 (gMo G qMo mo_all mo_past mo_aside mo_states mo_refused mo_causeKind mo_causeOrder u1.1 u1.2.1 u1.2.2.1 u1.2.2.2 mo_follower mo_ahead mo_least mo_seam mo_above mo_below mo_text mo_textLong mo_place mo_value mo_numbers mo_not) 4 [(0, .ref (qMo 0))] []
  refine V_iconst E (v := (0 : Int32)) dX8_laysChain_4 (by decide) ?_
  refine V_istore_n E (lv' := [(0, .ref (qMo 0)), (1, .int (0 : Int32))]) dX8_laysChain_5 (by decide) rfl ?_
  have L6 : ∀ (n : Nat) (a6_1 : Int32) (c6_mo_follower : Nat → Int32) (c6_mo_ahead : Nat → Int32) (u : (Nat → Int32) × (Nat → Int32)), fMo_laysChain_L6 n a6_1 c6_mo_follower c6_mo_ahead = some u → (V G p l e rmMo_laysChain s m args below meth c 4 A Q 0 0 (gMo G qMo mo_all mo_past mo_aside mo_states mo_refused mo_causeKind mo_causeOrder u1.1 u1.2.1 u1.2.2.1 u1.2.2.2 u.1 u.2 mo_least mo_seam mo_above mo_below mo_text mo_textLong mo_place mo_value mo_numbers mo_not) 32 [(0, .ref (qMo 0))] []) → V G p l e rmMo_laysChain s m args below meth c 4 A Q 0 0 (gMo G qMo mo_all mo_past mo_aside mo_states mo_refused mo_causeKind mo_causeOrder u1.1 u1.2.1 u1.2.2.1 u1.2.2.2 c6_mo_follower c6_mo_ahead mo_least mo_seam mo_above mo_below mo_text mo_textLong mo_place mo_value mo_numbers mo_not) 6 [(0, .ref (qMo 0)), (1, .int a6_1)] [] := by
    intro n
    induction n with
    | zero =>
      intro a6_1 c6_mo_follower c6_mo_ahead u hf hk
      rw [fMo_laysChain_L6] at hf
      cases hf
    | succ n ih =>
      intro a6_1 c6_mo_follower c6_mo_ahead u hf hk
      rw [fMo_laysChain_L6] at hf
      refine V_iload_n E 1 rfl dX8_laysChain_6 ?_
      refine V_bipush E (v := (6 : Int32)) dX8_laysChain_7 (by decide) ?_
      refine V_icmp_ge E (tgt := 32) dX8_laysChain_9 (by decide) (fun hc3 => ?_) (fun hc3 => ?_)
      · have hf := ip hc3 hf
        refine V_sub [0] rfl ?_
        rw [← Option.some.inj hf] at hk
        exact hk
      · have hf := iq hc3 hf
        refine V_aload_n E 0 rfl dX8_laysChain_12 ?_
        refine gfX8_38 E 0 rfl rfl dX8_laysChain_13 ?_
        refine V_iload_n E 1 rfl dX8_laysChain_16 ?_
        refine V_iconst E (v := (-1 : Int32)) dX8_laysChain_17 (by decide) ?_
        obtain ⟨hi4, hf⟩ := asr_ok hf
        refine V_iast E (ws' := (gMo G qMo mo_all mo_past mo_aside mo_states mo_refused mo_causeKind mo_causeOrder u1.1 u1.2.1 u1.2.2.1 u1.2.2.2 (upd c6_mo_follower a6_1.toNatClampNeg (-1 : Int32)) c6_mo_ahead mo_least mo_seam mo_above mo_below mo_text mo_textLong mo_place mo_value mo_numbers mo_not)) 9 rfl hi4 dX8_laysChain_18 rfl ?_
        refine V_aload_n E 0 rfl dX8_laysChain_19 ?_
        refine gfX8_41 E 0 rfl rfl dX8_laysChain_20 ?_
        refine V_iload_n E 1 rfl dX8_laysChain_23 ?_
        refine V_iconst E (v := (-1 : Int32)) dX8_laysChain_24 (by decide) ?_
        obtain ⟨hi5, hf⟩ := asr_ok hf
        refine V_iast E (ws' := (gMo G qMo mo_all mo_past mo_aside mo_states mo_refused mo_causeKind mo_causeOrder u1.1 u1.2.1 u1.2.2.1 u1.2.2.2 (upd c6_mo_follower a6_1.toNatClampNeg (-1 : Int32)) (upd c6_mo_ahead a6_1.toNatClampNeg (-1 : Int32)) mo_least mo_seam mo_above mo_below mo_text mo_textLong mo_place mo_value mo_numbers mo_not)) 10 rfl hi5 dX8_laysChain_25 rfl ?_
        refine V_iinc E (v := (a6_1 + (1 : Int32))) (lv' := [(0, .ref (qMo 0)), (1, .int (a6_1 + (1 : Int32)))]) 1 rfl dX8_laysChain_26 rfl (by decide) rfl ?_
        refine V_goto E (tgt := 6) dX8_laysChain_29 (by decide) ?_
        exact ih (a6_1 + (1 : Int32)) (upd c6_mo_follower a6_1.toNatClampNeg (-1 : Int32)) (upd c6_mo_ahead a6_1.toNatClampNeg (-1 : Int32)) _ hf hk
  obtain ⟨u2, hu2, hf⟩ := bd hf
  refine L6 FU (0 : Int32) mo_follower mo_ahead u2 hu2 ?_
  refine V_bipush E (v := (12 : Int32)) dX8_laysChain_32 (by decide) ?_
  refine V_istore_n E (lv' := [(0, .ref (qMo 0)), (1, .int (12 : Int32))]) dX8_laysChain_34 (by decide) rfl ?_
  have L35 : ∀ (n : Nat) (a35_1 : Int32) (c35_mo_follower : Nat → Int32) (c35_mo_ahead : Nat → Int32) (u : (Nat → Int32) × (Nat → Int32)), fMo_laysChain_L35 mo_all u1.2.1 n a35_1 c35_mo_follower c35_mo_ahead = some u → (V G p l e rmMo_laysChain s m args below meth c 4 A Q 0 0 (gMo G qMo mo_all mo_past mo_aside mo_states mo_refused mo_causeKind mo_causeOrder u1.1 u1.2.1 u1.2.2.1 u1.2.2.2 u.1 u.2 mo_least mo_seam mo_above mo_below mo_text mo_textLong mo_place mo_value mo_numbers mo_not) 120 [] []) → V G p l e rmMo_laysChain s m args below meth c 4 A Q 0 0 (gMo G qMo mo_all mo_past mo_aside mo_states mo_refused mo_causeKind mo_causeOrder u1.1 u1.2.1 u1.2.2.1 u1.2.2.2 c35_mo_follower c35_mo_ahead mo_least mo_seam mo_above mo_below mo_text mo_textLong mo_place mo_value mo_numbers mo_not) 35 [(0, .ref (qMo 0)), (1, .int a35_1)] [] := by
    intro n
    induction n with
    | zero =>
      intro a35_1 c35_mo_follower c35_mo_ahead u hf hk
      rw [fMo_laysChain_L35] at hf
      cases hf
    | succ n ih =>
      intro a35_1 c35_mo_follower c35_mo_ahead u hf hk
      rw [fMo_laysChain_L35] at hf
      refine V_iload_n E 1 rfl dX8_laysChain_35 ?_
      refine V_if_le E (tgt := 120) dX8_laysChain_36 (by decide) (fun hc7 => ?_) (fun hc7 => ?_)
      · have hf := ip hc7 hf
        refine V_sub [] rfl ?_
        rw [← Option.some.inj hf] at hk
        exact hk
      · have hf := iq hc7 hf
        refine V_iconst E (v := (0 : Int32)) dX8_laysChain_39 (by decide) ?_
        refine V_istore_n E (lv' := [(0, .ref (qMo 0)), (1, .int a35_1), (2, .int (0 : Int32))]) dX8_laysChain_40 (by decide) rfl ?_
        have L41 : ∀ (n : Nat) (a41_2 : Int32) (c41_mo_follower : Nat → Int32) (c41_mo_ahead : Nat → Int32) (u : (Nat → Int32) × (Nat → Int32)), fMo_laysChain_L41 a35_1 mo_all u1.2.1 n a41_2 c41_mo_follower c41_mo_ahead = some u → (V G p l e rmMo_laysChain s m args below meth c 4 A Q 0 0 (gMo G qMo mo_all mo_past mo_aside mo_states mo_refused mo_causeKind mo_causeOrder u1.1 u1.2.1 u1.2.2.1 u1.2.2.2 u.1 u.2 mo_least mo_seam mo_above mo_below mo_text mo_textLong mo_place mo_value mo_numbers mo_not) 114 [(0, .ref (qMo 0)), (1, .int a35_1)] []) → V G p l e rmMo_laysChain s m args below meth c 4 A Q 0 0 (gMo G qMo mo_all mo_past mo_aside mo_states mo_refused mo_causeKind mo_causeOrder u1.1 u1.2.1 u1.2.2.1 u1.2.2.2 c41_mo_follower c41_mo_ahead mo_least mo_seam mo_above mo_below mo_text mo_textLong mo_place mo_value mo_numbers mo_not) 41 [(0, .ref (qMo 0)), (1, .int a35_1), (2, .int a41_2)] [] := by
          intro n
          induction n with
          | zero =>
            intro a41_2 c41_mo_follower c41_mo_ahead u hf hk
            rw [fMo_laysChain_L41] at hf
            cases hf
          | succ n ih =>
            intro a41_2 c41_mo_follower c41_mo_ahead u hf hk
            rw [fMo_laysChain_L41] at hf
            refine V_iload_n E 2 rfl dX8_laysChain_41 ?_
            refine V_aload_n E 0 rfl dX8_laysChain_42 ?_
            obtain ⟨u9, hu9, hf⟩ := bd hf
            refine V_frW E (Rn_V E (rest := [.int a41_2]) mlX8_59 wd_yX8_many (kMo_many l G qMo mo_all mo_past mo_aside mo_states mo_refused mo_causeKind mo_causeOrder u1.1 u1.2.1 u1.2.2.1 u1.2.2.2 c41_mo_follower c41_mo_ahead mo_least mo_seam mo_above mo_below mo_text mo_textLong mo_place mo_value mo_numbers mo_not u9 hu9) ⟨rfl, rfl, Nat.le_of_ble_eq_true rfl, Nat.le_of_ble_eq_true rfl⟩ 0 rfl rfl rfl rfl rfl (Nat.le_of_ble_eq_true rfl) dX8_laysChain_43) ?_
            show V G p l e rmMo_laysChain s m args below meth c 4 A Q 0 0 (gMo G qMo mo_all mo_past mo_aside mo_states mo_refused mo_causeKind mo_causeOrder u1.1 u1.2.1 u1.2.2.1 u1.2.2.2 c41_mo_follower c41_mo_ahead mo_least mo_seam mo_above mo_below mo_text mo_textLong mo_place mo_value mo_numbers mo_not) 46 [(0, .ref (qMo 0)), (1, .int a35_1), (2, .int a41_2)] [.int u9, .int a41_2]
            refine V_icmp_ge E (tgt := 114) dX8_laysChain_46 (by decide) (fun hc10 => ?_) (fun hc10 => ?_)
            · have hf := ip hc10 hf
              refine V_sub [0, 1] rfl ?_
              rw [← Option.some.inj hf] at hk
              exact hk
            · have hf := iq hc10 hf
              refine V_iconst E (v := (0 : Int32)) dX8_laysChain_49 (by decide) ?_
              refine V_istore_n E (lv' := [(0, .ref (qMo 0)), (1, .int a35_1), (2, .int a41_2), (3, .int (0 : Int32))]) dX8_laysChain_50 (by decide) rfl ?_
              have L51 : ∀ (n : Nat) (a51_3 : Int32) (c51_mo_follower : Nat → Int32) (c51_mo_ahead : Nat → Int32) (u : (Nat → Int32) × (Nat → Int32)), fMo_laysChain_L51 a35_1 a41_2 mo_all u1.2.1 n a51_3 c51_mo_follower c51_mo_ahead = some u → (V G p l e rmMo_laysChain s m args below meth c 4 A Q 0 0 (gMo G qMo mo_all mo_past mo_aside mo_states mo_refused mo_causeKind mo_causeOrder u1.1 u1.2.1 u1.2.2.1 u1.2.2.2 u.1 u.2 mo_least mo_seam mo_above mo_below mo_text mo_textLong mo_place mo_value mo_numbers mo_not) 108 [(0, .ref (qMo 0)), (1, .int a35_1), (2, .int a41_2)] []) → V G p l e rmMo_laysChain s m args below meth c 4 A Q 0 0 (gMo G qMo mo_all mo_past mo_aside mo_states mo_refused mo_causeKind mo_causeOrder u1.1 u1.2.1 u1.2.2.1 u1.2.2.2 c51_mo_follower c51_mo_ahead mo_least mo_seam mo_above mo_below mo_text mo_textLong mo_place mo_value mo_numbers mo_not) 51 [(0, .ref (qMo 0)), (1, .int a35_1), (2, .int a41_2), (3, .int a51_3)] [] := by
                intro n
                induction n with
                | zero =>
                  intro a51_3 c51_mo_follower c51_mo_ahead u hf hk
                  rw [fMo_laysChain_L51] at hf
                  cases hf
                | succ n ih =>
                  intro a51_3 c51_mo_follower c51_mo_ahead u hf hk
                  rw [fMo_laysChain_L51] at hf
                  refine V_iload_n E 3 rfl dX8_laysChain_51 ?_
                  refine V_aload_n E 0 rfl dX8_laysChain_52 ?_
                  obtain ⟨u12, hu12, hf⟩ := bd hf
                  refine V_frW E (Rn_V E (rest := [.int a51_3]) mlX8_59 wd_yX8_many (kMo_many l G qMo mo_all mo_past mo_aside mo_states mo_refused mo_causeKind mo_causeOrder u1.1 u1.2.1 u1.2.2.1 u1.2.2.2 c51_mo_follower c51_mo_ahead mo_least mo_seam mo_above mo_below mo_text mo_textLong mo_place mo_value mo_numbers mo_not u12 hu12) ⟨rfl, rfl, Nat.le_of_ble_eq_true rfl, Nat.le_of_ble_eq_true rfl⟩ 0 rfl rfl rfl rfl rfl (Nat.le_of_ble_eq_true rfl) dX8_laysChain_53) ?_
                  show V G p l e rmMo_laysChain s m args below meth c 4 A Q 0 0 (gMo G qMo mo_all mo_past mo_aside mo_states mo_refused mo_causeKind mo_causeOrder u1.1 u1.2.1 u1.2.2.1 u1.2.2.2 c51_mo_follower c51_mo_ahead mo_least mo_seam mo_above mo_below mo_text mo_textLong mo_place mo_value mo_numbers mo_not) 56 [(0, .ref (qMo 0)), (1, .int a35_1), (2, .int a41_2), (3, .int a51_3)] [.int u12, .int a51_3]
                  refine V_icmp_ge E (tgt := 108) dX8_laysChain_56 (by decide) (fun hc13 => ?_) (fun hc13 => ?_)
                  · have hf := ip hc13 hf
                    refine V_sub [0, 1, 2] rfl ?_
                    rw [← Option.some.inj hf] at hk
                    exact hk
                  · have hf := iq hc13 hf
                    refine V_iload_n E 2 rfl dX8_laysChain_59 ?_
                    refine V_iload_n E 3 rfl dX8_laysChain_60 ?_
                    refine V_icmp_eq E (tgt := 102) dX8_laysChain_61 (by decide) (fun hc14 => ?_) (fun hc14 => ?_)
                    · have hf := ip hc14 hf
                      refine V_iinc E (v := (a51_3 + (1 : Int32))) (lv' := [(0, .ref (qMo 0)), (1, .int a35_1), (2, .int a41_2), (3, .int (a51_3 + (1 : Int32)))]) 3 rfl dX8_laysChain_102 rfl (by decide) rfl ?_
                      refine V_goto E (tgt := 51) dX8_laysChain_105 (by decide) ?_
                      exact ih (a51_3 + (1 : Int32)) c51_mo_follower c51_mo_ahead _ hf hk
                    · have hf := iq hc14 hf
                      refine V_aload_n E 0 rfl dX8_laysChain_64 ?_
                      refine gfX8_29 E 0 rfl rfl dX8_laysChain_65 ?_
                      refine V_bipush E (v := (6 : Int32)) dX8_laysChain_68 (by decide) ?_
                      refine V_iload_n E 2 rfl dX8_laysChain_70 ?_
                      refine V_imul E dX8_laysChain_71 ?_
                      refine V_iload_n E 3 rfl dX8_laysChain_72 ?_
                      refine V_iadd E dX8_laysChain_73 ?_
                      obtain ⟨hi15, hf⟩ := asr_ok hf
                      refine V_iald E 6 rfl hi15 dX8_laysChain_74 ?_
                      refine V_iload_n E 1 rfl dX8_laysChain_75 ?_
                      refine V_icmp_ne E (tgt := 102) dX8_laysChain_76 (by decide) (fun hc16 => ?_) (fun hc16 => ?_)
                      · have hf := iq hc16 hf
                        refine V_iinc E (v := (a51_3 + (1 : Int32))) (lv' := [(0, .ref (qMo 0)), (1, .int a35_1), (2, .int a41_2), (3, .int (a51_3 + (1 : Int32)))]) 3 rfl dX8_laysChain_102 rfl (by decide) rfl ?_
                        refine V_goto E (tgt := 51) dX8_laysChain_105 (by decide) ?_
                        exact ih (a51_3 + (1 : Int32)) c51_mo_follower c51_mo_ahead _ hf hk
                      · have hf := ip hc16 hf
                        refine V_aload_n E 0 rfl dX8_laysChain_79 ?_
                        refine V_iload_n E 2 rfl dX8_laysChain_80 ?_
                        refine V_iload_n E 3 rfl dX8_laysChain_81 ?_
                        obtain ⟨u17, hu17, hf⟩ := bd hf
                        refine V_frW E (Rn_V E (rest := []) mlX8_193 wd_yX8_mayTake (kMo_mayTake l G qMo a41_2 a51_3 mo_all mo_past mo_aside mo_states mo_refused mo_causeKind mo_causeOrder u1.1 u1.2.1 u1.2.2.1 u1.2.2.2 c51_mo_follower c51_mo_ahead mo_least mo_seam mo_above mo_below mo_text mo_textLong mo_place mo_value mo_numbers mo_not u17 hu17) ⟨rfl, rfl, Nat.le_of_ble_eq_true rfl, Nat.le_of_ble_eq_true rfl⟩ 0 rfl rfl rfl rfl rfl (Nat.le_of_ble_eq_true rfl) dX8_laysChain_82) ?_
                        show V G p l e rmMo_laysChain s m args below meth c 4 A Q 0 0 (gMo G qMo mo_all mo_past mo_aside mo_states mo_refused mo_causeKind mo_causeOrder u1.1 u1.2.1 u1.2.2.1 u1.2.2.2 c51_mo_follower c51_mo_ahead mo_least mo_seam mo_above mo_below mo_text mo_textLong mo_place mo_value mo_numbers mo_not) 85 [(0, .ref (qMo 0)), (1, .int a35_1), (2, .int a41_2), (3, .int a51_3)] [.int u17]
                        refine V_if_eq E (tgt := 102) dX8_laysChain_85 (by decide) (fun hc18 => ?_) (fun hc18 => ?_)
                        · have hf := ip hc18 hf
                          refine V_iinc E (v := (a51_3 + (1 : Int32))) (lv' := [(0, .ref (qMo 0)), (1, .int a35_1), (2, .int a41_2), (3, .int (a51_3 + (1 : Int32)))]) 3 rfl dX8_laysChain_102 rfl (by decide) rfl ?_
                          refine V_goto E (tgt := 51) dX8_laysChain_105 (by decide) ?_
                          exact ih (a51_3 + (1 : Int32)) c51_mo_follower c51_mo_ahead _ hf hk
                        · have hf := iq hc18 hf
                          refine V_aload_n E 0 rfl dX8_laysChain_88 ?_
                          refine gfX8_38 E 0 rfl rfl dX8_laysChain_89 ?_
                          refine V_iload_n E 2 rfl dX8_laysChain_92 ?_
                          refine V_iload_n E 3 rfl dX8_laysChain_93 ?_
                          obtain ⟨hi19, hf⟩ := asr_ok hf
                          refine V_iast E (ws' := (gMo G qMo mo_all mo_past mo_aside mo_states mo_refused mo_causeKind mo_causeOrder u1.1 u1.2.1 u1.2.2.1 u1.2.2.2 (upd c51_mo_follower a41_2.toNatClampNeg a51_3) c51_mo_ahead mo_least mo_seam mo_above mo_below mo_text mo_textLong mo_place mo_value mo_numbers mo_not)) 9 rfl hi19 dX8_laysChain_94 rfl ?_
                          refine V_aload_n E 0 rfl dX8_laysChain_95 ?_
                          refine gfX8_41 E 0 rfl rfl dX8_laysChain_96 ?_
                          refine V_iload_n E 3 rfl dX8_laysChain_99 ?_
                          refine V_iload_n E 2 rfl dX8_laysChain_100 ?_
                          obtain ⟨hi20, hf⟩ := asr_ok hf
                          refine V_iast E (ws' := (gMo G qMo mo_all mo_past mo_aside mo_states mo_refused mo_causeKind mo_causeOrder u1.1 u1.2.1 u1.2.2.1 u1.2.2.2 (upd c51_mo_follower a41_2.toNatClampNeg a51_3) (upd c51_mo_ahead a51_3.toNatClampNeg a41_2) mo_least mo_seam mo_above mo_below mo_text mo_textLong mo_place mo_value mo_numbers mo_not)) 10 rfl hi20 dX8_laysChain_101 rfl ?_
                          refine V_iinc E (v := (a51_3 + (1 : Int32))) (lv' := [(0, .ref (qMo 0)), (1, .int a35_1), (2, .int a41_2), (3, .int (a51_3 + (1 : Int32)))]) 3 rfl dX8_laysChain_102 rfl (by decide) rfl ?_
                          refine V_goto E (tgt := 51) dX8_laysChain_105 (by decide) ?_
                          exact ih (a51_3 + (1 : Int32)) (upd c51_mo_follower a41_2.toNatClampNeg a51_3) (upd c51_mo_ahead a51_3.toNatClampNeg a41_2) _ hf hk
              obtain ⟨u11, hu11, hf⟩ := bd hf
              refine L51 FU (0 : Int32) c41_mo_follower c41_mo_ahead u11 hu11 ?_
              refine V_iinc E (v := (a41_2 + (1 : Int32))) (lv' := [(0, .ref (qMo 0)), (1, .int a35_1), (2, .int (a41_2 + (1 : Int32)))]) 2 rfl dX8_laysChain_108 rfl (by decide) rfl ?_
              refine V_goto E (tgt := 41) dX8_laysChain_111 (by decide) ?_
              exact ih (a41_2 + (1 : Int32)) u11.1 u11.2 _ hf hk
        obtain ⟨u8, hu8, hf⟩ := bd hf
        refine L41 FU (0 : Int32) c35_mo_follower c35_mo_ahead u8 hu8 ?_
        refine V_iinc E (v := (a35_1 + (-1 : Int32))) (lv' := [(0, .ref (qMo 0)), (1, .int (a35_1 + (-1 : Int32)))]) 1 rfl dX8_laysChain_114 rfl (by decide) rfl ?_
        refine V_goto E (tgt := 35) dX8_laysChain_117 (by decide) ?_
        exact ih (a35_1 + (-1 : Int32)) u8.1 u8.2 _ hf hk
  obtain ⟨u6, hu6, hf⟩ := bd hf
  refine L35 FU (12 : Int32) u2.1 u2.2 u6 hu6 ?_
  have h9 := hret 120 [] dX8_laysChain_120
  rw [← (Option.some.inj hf)] at h9
  exact h9
abbrev rmMo_eOf : Room := { frames := 0, cells := 0, slots := 0, locals := 0 }
theorem wd_yX8_eOf : wdV yX8_eOf cX8_eOf 2 (some .int) 1 := ⟨wc_yX8_eOf, wi_yX8_eOf, wse_yX8_eOf, wini_X8, by decide +kernel, by decide +kernel, by decide +kernel⟩
set_option maxHeartbeats 4000000 in
set_option maxRecDepth 100000 in
theorem kMo_eOf (l : Launch) (G : wG) (qMo : Nat → Nat) (p1 : Int32) (mo_all : Nat → Int32) (mo_past : Nat → Int32) (mo_aside : Nat → Int32) (mo_states : Int32) (mo_refused : Nat → Int32) (mo_causeKind : Int32) (mo_causeOrder : Int32) (mo_corner : Nat → Int32) (mo_linkVotes : Nat → Int32) (mo_linkE : Nat → Int32) (mo_linkF : Nat → Int32) (mo_follower : Nat → Int32) (mo_ahead : Nat → Int32) (mo_least : Nat → Int32) (mo_seam : Nat → Int32) (mo_above : Int64) (mo_below : Int64) (mo_text : Nat → Int32) (mo_textLong : Int32) (mo_place : Int32) (mo_value : Int32) (mo_numbers : Nat → Int32) (mo_not : Int32) (o : Int32) (hf : fMo_eOf p1 mo_linkE mo_follower = some o) : Ct G l yX8_eOf cX8_eOf 2 (some .int) rmMo_eOf [.ref (qMo 0), .int p1] (gMo G qMo mo_all mo_past mo_aside mo_states mo_refused mo_causeKind mo_causeOrder mo_corner mo_linkVotes mo_linkE mo_linkF mo_follower mo_ahead mo_least mo_seam mo_above mo_below mo_text mo_textLong mo_place mo_value mo_numbers mo_not) (some (.int o)) (gMo G qMo mo_all mo_past mo_aside mo_states mo_refused mo_causeKind mo_causeOrder mo_corner mo_linkVotes mo_linkE mo_linkF mo_follower mo_ahead mo_least mo_seam mo_above mo_below mo_text mo_textLong mo_place mo_value mo_numbers mo_not) := by
  refine Ct.ofI (by decide +kernel) (Nat.le_of_ble_eq_true rfl) (fun p e s m args below meth c A Q E hret => ?_)
  unfold fMo_eOf at hf
  show V G p l e rmMo_eOf s m args below meth c 2 A Q 0 0 (gMo G qMo mo_all mo_past mo_aside mo_states mo_refused mo_causeKind mo_causeOrder mo_corner mo_linkVotes mo_linkE mo_linkF mo_follower mo_ahead mo_least mo_seam mo_above mo_below mo_text mo_textLong mo_place mo_value mo_numbers mo_not) 0 [(0, .ref (qMo 0)), (1, .int p1)] []
  refine V_aload_n E 0 rfl dX8_eOf_0 ?_
  refine gfX8_32 E 0 rfl rfl dX8_eOf_1 ?_
  refine V_bipush E (v := (6 : Int32)) dX8_eOf_4 (by decide) ?_
  refine V_iload_n E 1 rfl dX8_eOf_6 ?_
  refine V_imul E dX8_eOf_7 ?_
  refine V_aload_n E 0 rfl dX8_eOf_8 ?_
  refine gfX8_38 E 0 rfl rfl dX8_eOf_9 ?_
  refine V_iload_n E 1 rfl dX8_eOf_12 ?_
  obtain ⟨hi1, hf⟩ := asr_ok hf
  refine V_iald E 9 rfl hi1 dX8_eOf_13 ?_
  refine V_iadd E dX8_eOf_14 ?_
  obtain ⟨hi2, hf⟩ := asr_ok hf
  refine V_iald E 7 rfl hi2 dX8_eOf_15 ?_
  have h9 := hret 16 [(0, .ref (qMo 0)), (1, .int p1)] dX8_eOf_16
  rw [← (Option.some.inj hf)] at h9
  exact h9
abbrev rmMo_fOf : Room := { frames := 0, cells := 0, slots := 0, locals := 0 }
theorem wd_yX8_fOf : wdV yX8_fOf cX8_fOf 2 (some .int) 1 := ⟨wc_yX8_fOf, wi_yX8_fOf, wse_yX8_fOf, wini_X8, by decide +kernel, by decide +kernel, by decide +kernel⟩
set_option maxHeartbeats 4000000 in
set_option maxRecDepth 100000 in
theorem kMo_fOf (l : Launch) (G : wG) (qMo : Nat → Nat) (p1 : Int32) (mo_all : Nat → Int32) (mo_past : Nat → Int32) (mo_aside : Nat → Int32) (mo_states : Int32) (mo_refused : Nat → Int32) (mo_causeKind : Int32) (mo_causeOrder : Int32) (mo_corner : Nat → Int32) (mo_linkVotes : Nat → Int32) (mo_linkE : Nat → Int32) (mo_linkF : Nat → Int32) (mo_follower : Nat → Int32) (mo_ahead : Nat → Int32) (mo_least : Nat → Int32) (mo_seam : Nat → Int32) (mo_above : Int64) (mo_below : Int64) (mo_text : Nat → Int32) (mo_textLong : Int32) (mo_place : Int32) (mo_value : Int32) (mo_numbers : Nat → Int32) (mo_not : Int32) (o : Int32) (hf : fMo_fOf p1 mo_linkF mo_follower = some o) : Ct G l yX8_fOf cX8_fOf 2 (some .int) rmMo_fOf [.ref (qMo 0), .int p1] (gMo G qMo mo_all mo_past mo_aside mo_states mo_refused mo_causeKind mo_causeOrder mo_corner mo_linkVotes mo_linkE mo_linkF mo_follower mo_ahead mo_least mo_seam mo_above mo_below mo_text mo_textLong mo_place mo_value mo_numbers mo_not) (some (.int o)) (gMo G qMo mo_all mo_past mo_aside mo_states mo_refused mo_causeKind mo_causeOrder mo_corner mo_linkVotes mo_linkE mo_linkF mo_follower mo_ahead mo_least mo_seam mo_above mo_below mo_text mo_textLong mo_place mo_value mo_numbers mo_not) := by
  refine Ct.ofI (by decide +kernel) (Nat.le_of_ble_eq_true rfl) (fun p e s m args below meth c A Q E hret => ?_)
  unfold fMo_fOf at hf
  show V G p l e rmMo_fOf s m args below meth c 2 A Q 0 0 (gMo G qMo mo_all mo_past mo_aside mo_states mo_refused mo_causeKind mo_causeOrder mo_corner mo_linkVotes mo_linkE mo_linkF mo_follower mo_ahead mo_least mo_seam mo_above mo_below mo_text mo_textLong mo_place mo_value mo_numbers mo_not) 0 [(0, .ref (qMo 0)), (1, .int p1)] []
  refine V_aload_n E 0 rfl dX8_fOf_0 ?_
  refine gfX8_35 E 0 rfl rfl dX8_fOf_1 ?_
  refine V_bipush E (v := (6 : Int32)) dX8_fOf_4 (by decide) ?_
  refine V_iload_n E 1 rfl dX8_fOf_6 ?_
  refine V_imul E dX8_fOf_7 ?_
  refine V_aload_n E 0 rfl dX8_fOf_8 ?_
  refine gfX8_38 E 0 rfl rfl dX8_fOf_9 ?_
  refine V_iload_n E 1 rfl dX8_fOf_12 ?_
  obtain ⟨hi1, hf⟩ := asr_ok hf
  refine V_iald E 9 rfl hi1 dX8_fOf_13 ?_
  refine V_iadd E dX8_fOf_14 ?_
  obtain ⟨hi2, hf⟩ := asr_ok hf
  refine V_iald E 8 rfl hi2 dX8_fOf_15 ?_
  have h9 := hret 16 [(0, .ref (qMo 0)), (1, .int p1)] dX8_fOf_16
  rw [← (Option.some.inj hf)] at h9
  exact h9
abbrev rmMo_chain : Room := { frames := 8, cells := 0, slots := 0, locals := 186 }
theorem wd_yX8_chain : wdV yX8_chain cX8_chain 3 (some .int) 2 := ⟨wc_yX8_chain, wi_yX8_chain, wse_yX8_chain, wini_X8, by decide +kernel, by decide +kernel, by decide +kernel⟩
set_option maxHeartbeats 4000000 in
set_option maxRecDepth 100000 in
theorem kMo_chain (l : Launch) (G : wG) (qMo : Nat → Nat) (p1 : Int32) (p2 : Int32) (mo_all : Nat → Int32) (mo_past : Nat → Int32) (mo_aside : Nat → Int32) (mo_states : Int32) (mo_refused : Nat → Int32) (mo_causeKind : Int32) (mo_causeOrder : Int32) (mo_corner : Nat → Int32) (mo_linkVotes : Nat → Int32) (mo_linkE : Nat → Int32) (mo_linkF : Nat → Int32) (mo_follower : Nat → Int32) (mo_ahead : Nat → Int32) (mo_least : Nat → Int32) (mo_seam : Nat → Int32) (mo_above : Int64) (mo_below : Int64) (mo_text : Nat → Int32) (mo_textLong : Int32) (mo_place : Int32) (mo_value : Int32) (mo_numbers : Nat → Int32) (mo_not : Int32) (o : Int32 × (Nat → Int32) × (Nat → Int32) × (Nat → Int32) × (Nat → Int32) × (Nat → Int32) × (Nat → Int32) × (Nat → Int32)) (hf : fMo_chain p1 p2 mo_all mo_refused mo_corner mo_linkVotes mo_linkE mo_linkF mo_follower mo_ahead = some o) : Ct G l yX8_chain cX8_chain 3 (some .int) rmMo_chain [.ref (qMo 0), .int p1, .int p2] (gMo G qMo mo_all mo_past mo_aside mo_states mo_refused mo_causeKind mo_causeOrder mo_corner mo_linkVotes mo_linkE mo_linkF mo_follower mo_ahead mo_least mo_seam mo_above mo_below mo_text mo_textLong mo_place mo_value mo_numbers mo_not) (some (.int o.1)) (gMo G qMo mo_all mo_past mo_aside mo_states o.2.1 mo_causeKind mo_causeOrder o.2.2.1 o.2.2.2.1 o.2.2.2.2.1 o.2.2.2.2.2.1 o.2.2.2.2.2.2.1 o.2.2.2.2.2.2.2 mo_least mo_seam mo_above mo_below mo_text mo_textLong mo_place mo_value mo_numbers mo_not) := by
  refine Ct.ofI (by decide +kernel) (Nat.le_of_ble_eq_true rfl) (fun p e s m args below meth c A Q E hret => ?_)
  unfold fMo_chain at hf
  show V G p l e rmMo_chain s m args below meth c 3 A Q 0 0 (gMo G qMo mo_all mo_past mo_aside mo_states mo_refused mo_causeKind mo_causeOrder mo_corner mo_linkVotes mo_linkE mo_linkF mo_follower mo_ahead mo_least mo_seam mo_above mo_below mo_text mo_textLong mo_place mo_value mo_numbers mo_not) 0 [(0, .ref (qMo 0)), (1, .int p1), (2, .int p2)] []
  refine V_aload_n E 0 rfl dX8_chain_0 ?_
  refine V_iload_n E 1 rfl dX8_chain_1 ?_
  obtain ⟨u1, hu1, hf⟩ := bd hf
  refine V_frW E (Rn_V E (rest := []) mlX8_128 wd_yX8_isPicture (kMo_isPicture l G qMo p1 mo_all mo_past mo_aside mo_states mo_refused mo_causeKind mo_causeOrder mo_corner mo_linkVotes mo_linkE mo_linkF mo_follower mo_ahead mo_least mo_seam mo_above mo_below mo_text mo_textLong mo_place mo_value mo_numbers mo_not u1 hu1) ⟨rfl, rfl, Nat.le_of_ble_eq_true rfl, Nat.le_of_ble_eq_true rfl⟩ 0 rfl rfl rfl rfl rfl (Nat.le_of_ble_eq_true rfl) dX8_chain_2) ?_
  show V G p l e rmMo_chain s m args below meth c 3 A Q 0 0 (gMo G qMo mo_all mo_past mo_aside mo_states mo_refused mo_causeKind mo_causeOrder mo_corner mo_linkVotes mo_linkE mo_linkF mo_follower mo_ahead mo_least mo_seam mo_above mo_below mo_text mo_textLong mo_place mo_value mo_numbers mo_not) 5 [(0, .ref (qMo 0)), (1, .int p1), (2, .int p2)] [.int u1]
  refine V_if_eq E (tgt := 18) dX8_chain_5 (by decide) (fun hc2 => ?_) (fun hc2 => ?_)
  · have hf := ip hc2 hf
    refine V_aload_n E 0 rfl dX8_chain_18 ?_
    refine V_bipush E (v := (-2 : Int32)) dX8_chain_19 (by decide) ?_
    obtain ⟨u3, hu3, hf⟩ := bd hf
    refine V_frW E (Rn_V E (rest := []) mlX8_91 wd_yX8_refuses (kMo_refuses l G qMo (-2 : Int32) mo_all mo_past mo_aside mo_states mo_refused mo_causeKind mo_causeOrder mo_corner mo_linkVotes mo_linkE mo_linkF mo_follower mo_ahead mo_least mo_seam mo_above mo_below mo_text mo_textLong mo_place mo_value mo_numbers mo_not u3 hu3) ⟨rfl, rfl, Nat.le_of_ble_eq_true rfl, Nat.le_of_ble_eq_true rfl⟩ 0 rfl rfl rfl rfl rfl (Nat.le_of_ble_eq_true rfl) dX8_chain_21) ?_
    show V G p l e rmMo_chain s m args below meth c 3 A Q 0 0 (gMo G qMo mo_all mo_past mo_aside mo_states u3.2 mo_causeKind mo_causeOrder mo_corner mo_linkVotes mo_linkE mo_linkF mo_follower mo_ahead mo_least mo_seam mo_above mo_below mo_text mo_textLong mo_place mo_value mo_numbers mo_not) 24 [(0, .ref (qMo 0)), (1, .int p1), (2, .int p2)] [.int u3.1]
    have h9 := hret 24 [(0, .ref (qMo 0)), (1, .int p1), (2, .int p2)] dX8_chain_24
    rw [← (Option.some.inj hf)] at h9
    exact h9
  · have hf := iq hc2 hf
    refine V_iload_n E 2 rfl dX8_chain_8 ?_
    refine V_i2l E dX8_chain_9 ?_
    refine V_lconst E (v := (0 : Int64)) dX8_chain_10 (by decide) ?_
    refine V_lconst E (v := (1 : Int64)) dX8_chain_11 (by decide) ?_
    obtain ⟨u4, hu4, hf⟩ := bd hf
    refine V_fr0 E (Rn_S E (rest := []) mlX8_63 wd_yX8_in (kMo_in l G p2.toInt64 (0 : Int64) (1 : Int64) u4 hu4) ⟨rfl, rfl, Nat.le_of_ble_eq_true rfl, Nat.le_of_ble_eq_true rfl⟩ rfl rfl (Nat.le_of_ble_eq_true rfl) dX8_chain_12) ?_
    show V G p l e rmMo_chain s m args below meth c 3 A Q 0 0 (gMo G qMo mo_all mo_past mo_aside mo_states mo_refused mo_causeKind mo_causeOrder mo_corner mo_linkVotes mo_linkE mo_linkF mo_follower mo_ahead mo_least mo_seam mo_above mo_below mo_text mo_textLong mo_place mo_value mo_numbers mo_not) 15 [(0, .ref (qMo 0)), (1, .int p1), (2, .int p2)] [.int u4]
    refine V_if_ne E (tgt := 25) dX8_chain_15 (by decide) (fun hc5 => ?_) (fun hc5 => ?_)
    · have hf := iq hc5 hf
      refine V_aload_n E 0 rfl dX8_chain_25 ?_
      obtain ⟨u6, hu6, hf⟩ := bd hf
      refine V_frW E (Rn_V E (rest := []) mlX8_196 wd_yX8_laysChain (kMo_laysChain l G qMo mo_all mo_past mo_aside mo_states mo_refused mo_causeKind mo_causeOrder mo_corner mo_linkVotes mo_linkE mo_linkF mo_follower mo_ahead mo_least mo_seam mo_above mo_below mo_text mo_textLong mo_place mo_value mo_numbers mo_not u6 hu6) ⟨rfl, rfl, Nat.le_of_ble_eq_true rfl, Nat.le_of_ble_eq_true rfl⟩ 0 rfl rfl rfl rfl rfl (Nat.le_of_ble_eq_true rfl) dX8_chain_26) ?_
      show V G p l e rmMo_chain s m args below meth c 3 A Q 0 0 (gMo G qMo mo_all mo_past mo_aside mo_states mo_refused mo_causeKind mo_causeOrder u6.1 u6.2.1 u6.2.2.1 u6.2.2.2.1 u6.2.2.2.2.1 u6.2.2.2.2.2 mo_least mo_seam mo_above mo_below mo_text mo_textLong mo_place mo_value mo_numbers mo_not) 29 [(0, .ref (qMo 0)), (1, .int p1), (2, .int p2)] []
      refine V_iload_n E 2 rfl dX8_chain_29 ?_
      refine V_if_ne E (tgt := 42) dX8_chain_30 (by decide) (fun hc7 => ?_) (fun hc7 => ?_)
      · have hf := iq hc7 hf
        refine V_aload_n E 0 rfl dX8_chain_42 ?_
        refine gfX8_41 E 0 rfl rfl dX8_chain_43 ?_
        refine V_iload_n E 1 rfl dX8_chain_46 ?_
        obtain ⟨hi8, hf⟩ := asr_ok hf
        refine V_iald E 10 rfl hi8 dX8_chain_47 ?_
        have h9 := hret 48 [(0, .ref (qMo 0)), (1, .int p1), (2, .int p2)] dX8_chain_48
        rw [← (Option.some.inj hf)] at h9
        exact h9
      · have hf := ip hc7 hf
        refine V_aload_n E 0 rfl dX8_chain_33 ?_
        refine gfX8_38 E 0 rfl rfl dX8_chain_34 ?_
        refine V_iload_n E 1 rfl dX8_chain_37 ?_
        obtain ⟨hi9, hf⟩ := asr_ok hf
        refine V_iald E 9 rfl hi9 dX8_chain_38 ?_
        refine V_goto E (tgt := 48) dX8_chain_39 (by decide) ?_
        have h9 := hret 48 [(0, .ref (qMo 0)), (1, .int p1), (2, .int p2)] dX8_chain_48
        rw [← (Option.some.inj hf)] at h9
        exact h9
    · have hf := ip hc5 hf
      refine V_aload_n E 0 rfl dX8_chain_18 ?_
      refine V_bipush E (v := (-2 : Int32)) dX8_chain_19 (by decide) ?_
      obtain ⟨u10, hu10, hf⟩ := bd hf
      refine V_frW E (Rn_V E (rest := []) mlX8_91 wd_yX8_refuses (kMo_refuses l G qMo (-2 : Int32) mo_all mo_past mo_aside mo_states mo_refused mo_causeKind mo_causeOrder mo_corner mo_linkVotes mo_linkE mo_linkF mo_follower mo_ahead mo_least mo_seam mo_above mo_below mo_text mo_textLong mo_place mo_value mo_numbers mo_not u10 hu10) ⟨rfl, rfl, Nat.le_of_ble_eq_true rfl, Nat.le_of_ble_eq_true rfl⟩ 0 rfl rfl rfl rfl rfl (Nat.le_of_ble_eq_true rfl) dX8_chain_21) ?_
      show V G p l e rmMo_chain s m args below meth c 3 A Q 0 0 (gMo G qMo mo_all mo_past mo_aside mo_states u10.2 mo_causeKind mo_causeOrder mo_corner mo_linkVotes mo_linkE mo_linkF mo_follower mo_ahead mo_least mo_seam mo_above mo_below mo_text mo_textLong mo_place mo_value mo_numbers mo_not) 24 [(0, .ref (qMo 0)), (1, .int p1), (2, .int p2)] [.int u10.1]
      have h9 := hret 24 [(0, .ref (qMo 0)), (1, .int p1), (2, .int p2)] dX8_chain_24
      rw [← (Option.some.inj hf)] at h9
      exact h9
abbrev rmMo_taken : Room := { frames := 1, cells := 0, slots := 0, locals := 20 }
theorem wd_yX8_taken : wdV yX8_taken cX8_taken 3 (some .int) 0 := ⟨wc_yX8_taken, wi_yX8_taken, wse_yX8_taken, wini_X8, by decide +kernel, by decide +kernel, by decide +kernel⟩
set_option maxHeartbeats 4000000 in
set_option maxRecDepth 100000 in
theorem kMo_taken (l : Launch) (G : wG) (qMo : Nat → Nat) (mo_all : Nat → Int32) (mo_past : Nat → Int32) (mo_aside : Nat → Int32) (mo_states : Int32) (mo_refused : Nat → Int32) (mo_causeKind : Int32) (mo_causeOrder : Int32) (mo_corner : Nat → Int32) (mo_linkVotes : Nat → Int32) (mo_linkE : Nat → Int32) (mo_linkF : Nat → Int32) (mo_follower : Nat → Int32) (mo_ahead : Nat → Int32) (mo_least : Nat → Int32) (mo_seam : Nat → Int32) (mo_above : Int64) (mo_below : Int64) (mo_text : Nat → Int32) (mo_textLong : Int32) (mo_place : Int32) (mo_value : Int32) (mo_numbers : Nat → Int32) (mo_not : Int32) (o : Int32) (hf : fMo_taken mo_all mo_follower = some o) : Ct G l yX8_taken cX8_taken 3 (some .int) rmMo_taken [.ref (qMo 0)] (gMo G qMo mo_all mo_past mo_aside mo_states mo_refused mo_causeKind mo_causeOrder mo_corner mo_linkVotes mo_linkE mo_linkF mo_follower mo_ahead mo_least mo_seam mo_above mo_below mo_text mo_textLong mo_place mo_value mo_numbers mo_not) (some (.int o)) (gMo G qMo mo_all mo_past mo_aside mo_states mo_refused mo_causeKind mo_causeOrder mo_corner mo_linkVotes mo_linkE mo_linkF mo_follower mo_ahead mo_least mo_seam mo_above mo_below mo_text mo_textLong mo_place mo_value mo_numbers mo_not) := by
  refine Ct.ofI (by decide +kernel) (Nat.le_of_ble_eq_true rfl) (fun p e s m args below meth c A Q E hret => ?_)
  unfold fMo_taken at hf
  show V G p l e rmMo_taken s m args below meth c 3 A Q 0 0 (gMo G qMo mo_all mo_past mo_aside mo_states mo_refused mo_causeKind mo_causeOrder mo_corner mo_linkVotes mo_linkE mo_linkF mo_follower mo_ahead mo_least mo_seam mo_above mo_below mo_text mo_textLong mo_place mo_value mo_numbers mo_not) 0 [(0, .ref (qMo 0))] []
  refine V_iconst E (v := (0 : Int32)) dX8_taken_0 (by decide) ?_
  refine V_istore_n E (lv' := [(0, .ref (qMo 0)), (1, .int (0 : Int32))]) dX8_taken_1 (by decide) rfl ?_
  refine V_iconst E (v := (0 : Int32)) dX8_taken_2 (by decide) ?_
  refine V_istore_n E (lv' := [(0, .ref (qMo 0)), (1, .int (0 : Int32)), (2, .int (0 : Int32))]) dX8_taken_3 (by decide) rfl ?_
  have L4 : ∀ (n : Nat) (a4_1 : Int32) (a4_2 : Int32) (u : Int32), fMo_taken_L4 mo_all mo_follower n a4_1 a4_2 = some u → (V G p l e rmMo_taken s m args below meth c 3 A Q 0 0 (gMo G qMo mo_all mo_past mo_aside mo_states mo_refused mo_causeKind mo_causeOrder mo_corner mo_linkVotes mo_linkE mo_linkF mo_follower mo_ahead mo_least mo_seam mo_above mo_below mo_text mo_textLong mo_place mo_value mo_numbers mo_not) 36 [(1, .int u)] []) → V G p l e rmMo_taken s m args below meth c 3 A Q 0 0 (gMo G qMo mo_all mo_past mo_aside mo_states mo_refused mo_causeKind mo_causeOrder mo_corner mo_linkVotes mo_linkE mo_linkF mo_follower mo_ahead mo_least mo_seam mo_above mo_below mo_text mo_textLong mo_place mo_value mo_numbers mo_not) 4 [(0, .ref (qMo 0)), (1, .int a4_1), (2, .int a4_2)] [] := by
    intro n
    induction n with
    | zero =>
      intro a4_1 a4_2 u hf hk
      rw [fMo_taken_L4] at hf
      cases hf
    | succ n ih =>
      intro a4_1 a4_2 u hf hk
      rw [fMo_taken_L4] at hf
      refine V_iload_n E 2 rfl dX8_taken_4 ?_
      refine V_aload_n E 0 rfl dX8_taken_5 ?_
      obtain ⟨u2, hu2, hf⟩ := bd hf
      refine V_frW E (Rn_V E (rest := [.int a4_2]) mlX8_59 wd_yX8_many (kMo_many l G qMo mo_all mo_past mo_aside mo_states mo_refused mo_causeKind mo_causeOrder mo_corner mo_linkVotes mo_linkE mo_linkF mo_follower mo_ahead mo_least mo_seam mo_above mo_below mo_text mo_textLong mo_place mo_value mo_numbers mo_not u2 hu2) ⟨rfl, rfl, Nat.le_of_ble_eq_true rfl, Nat.le_of_ble_eq_true rfl⟩ 0 rfl rfl rfl rfl rfl (Nat.le_of_ble_eq_true rfl) dX8_taken_6) ?_
      show V G p l e rmMo_taken s m args below meth c 3 A Q 0 0 (gMo G qMo mo_all mo_past mo_aside mo_states mo_refused mo_causeKind mo_causeOrder mo_corner mo_linkVotes mo_linkE mo_linkF mo_follower mo_ahead mo_least mo_seam mo_above mo_below mo_text mo_textLong mo_place mo_value mo_numbers mo_not) 9 [(0, .ref (qMo 0)), (1, .int a4_1), (2, .int a4_2)] [.int u2, .int a4_2]
      refine V_icmp_ge E (tgt := 36) dX8_taken_9 (by decide) (fun hc3 => ?_) (fun hc3 => ?_)
      · have hf := ip hc3 hf
        refine V_sub [1] rfl ?_
        rw [← Option.some.inj hf] at hk
        exact hk
      · have hf := iq hc3 hf
        refine V_iload_n E 1 rfl dX8_taken_12 ?_
        refine V_aload_n E 0 rfl dX8_taken_13 ?_
        refine gfX8_38 E 0 rfl rfl dX8_taken_14 ?_
        refine V_iload_n E 2 rfl dX8_taken_17 ?_
        obtain ⟨hi4, hf⟩ := asr_ok hf
        refine V_iald E 9 rfl hi4 dX8_taken_18 ?_
        refine V_iconst E (v := (-1 : Int32)) dX8_taken_19 (by decide) ?_
        refine V_icmp_eq E (tgt := 27) dX8_taken_20 (by decide) (fun hc5 => ?_) (fun hc5 => ?_)
        · have hf := ip hc5 hf
          refine V_iconst E (v := (0 : Int32)) dX8_taken_27 (by decide) ?_
          refine V_iadd E dX8_taken_28 ?_
          refine V_istore_n E (lv' := [(0, .ref (qMo 0)), (1, .int (a4_1 + (0 : Int32))), (2, .int a4_2)]) dX8_taken_29 (by decide) rfl ?_
          refine V_iinc E (v := (a4_2 + (1 : Int32))) (lv' := [(0, .ref (qMo 0)), (1, .int (a4_1 + (0 : Int32))), (2, .int (a4_2 + (1 : Int32)))]) 2 rfl dX8_taken_30 rfl (by decide) rfl ?_
          refine V_goto E (tgt := 4) dX8_taken_33 (by decide) ?_
          exact ih (a4_1 + (0 : Int32)) (a4_2 + (1 : Int32)) _ hf hk
        · have hf := iq hc5 hf
          refine V_iconst E (v := (1 : Int32)) dX8_taken_23 (by decide) ?_
          refine V_goto E (tgt := 28) dX8_taken_24 (by decide) ?_
          refine V_iadd E dX8_taken_28 ?_
          refine V_istore_n E (lv' := [(0, .ref (qMo 0)), (1, .int (a4_1 + (1 : Int32))), (2, .int a4_2)]) dX8_taken_29 (by decide) rfl ?_
          refine V_iinc E (v := (a4_2 + (1 : Int32))) (lv' := [(0, .ref (qMo 0)), (1, .int (a4_1 + (1 : Int32))), (2, .int (a4_2 + (1 : Int32)))]) 2 rfl dX8_taken_30 rfl (by decide) rfl ?_
          refine V_goto E (tgt := 4) dX8_taken_33 (by decide) ?_
          exact ih (a4_1 + (1 : Int32)) (a4_2 + (1 : Int32)) _ hf hk
  obtain ⟨u1, hu1, hf⟩ := bd hf
  refine L4 FU (0 : Int32) (0 : Int32) u1 hu1 ?_
  refine V_iload_n E 0 rfl dX8_taken_36 ?_
  have h9 := hret 37 [(1, .int u1)] dX8_taken_37
  rw [← (Option.some.inj hf)] at h9
  exact h9
abbrev rmMo_isClosed : Room := { frames := 2, cells := 0, slots := 0, locals := 42 }
theorem wd_yX8_isClosed : wdV yX8_isClosed cX8_isClosed 1 (some .boolean) 0 := ⟨wc_yX8_isClosed, wi_yX8_isClosed, wse_yX8_isClosed, wini_X8, by decide +kernel, by decide +kernel, by decide +kernel⟩
set_option maxHeartbeats 4000000 in
set_option maxRecDepth 100000 in
theorem kMo_isClosed (l : Launch) (G : wG) (qMo : Nat → Nat) (mo_all : Nat → Int32) (mo_past : Nat → Int32) (mo_aside : Nat → Int32) (mo_states : Int32) (mo_refused : Nat → Int32) (mo_causeKind : Int32) (mo_causeOrder : Int32) (mo_corner : Nat → Int32) (mo_linkVotes : Nat → Int32) (mo_linkE : Nat → Int32) (mo_linkF : Nat → Int32) (mo_follower : Nat → Int32) (mo_ahead : Nat → Int32) (mo_least : Nat → Int32) (mo_seam : Nat → Int32) (mo_above : Int64) (mo_below : Int64) (mo_text : Nat → Int32) (mo_textLong : Int32) (mo_place : Int32) (mo_value : Int32) (mo_numbers : Nat → Int32) (mo_not : Int32) (o : Int32) (hf : fMo_isClosed mo_all mo_follower = some o) : Ct G l yX8_isClosed cX8_isClosed 1 (some .boolean) rmMo_isClosed [.ref (qMo 0)] (gMo G qMo mo_all mo_past mo_aside mo_states mo_refused mo_causeKind mo_causeOrder mo_corner mo_linkVotes mo_linkE mo_linkF mo_follower mo_ahead mo_least mo_seam mo_above mo_below mo_text mo_textLong mo_place mo_value mo_numbers mo_not) (some (.int o)) (gMo G qMo mo_all mo_past mo_aside mo_states mo_refused mo_causeKind mo_causeOrder mo_corner mo_linkVotes mo_linkE mo_linkF mo_follower mo_ahead mo_least mo_seam mo_above mo_below mo_text mo_textLong mo_place mo_value mo_numbers mo_not) := by
  refine Ct.ofZ (by decide +kernel) (Nat.le_of_ble_eq_true rfl) (fun p e s m args below meth c A Q E hret => ?_)
  unfold fMo_isClosed at hf
  show V G p l e rmMo_isClosed s m args below meth c 1 A Q 0 0 (gMo G qMo mo_all mo_past mo_aside mo_states mo_refused mo_causeKind mo_causeOrder mo_corner mo_linkVotes mo_linkE mo_linkF mo_follower mo_ahead mo_least mo_seam mo_above mo_below mo_text mo_textLong mo_place mo_value mo_numbers mo_not) 0 [(0, .ref (qMo 0))] []
  refine V_aload_n E 0 rfl dX8_isClosed_0 ?_
  obtain ⟨u1, hu1, hf⟩ := bd hf
  refine V_frW E (Rn_V E (rest := []) mlX8_59 wd_yX8_many (kMo_many l G qMo mo_all mo_past mo_aside mo_states mo_refused mo_causeKind mo_causeOrder mo_corner mo_linkVotes mo_linkE mo_linkF mo_follower mo_ahead mo_least mo_seam mo_above mo_below mo_text mo_textLong mo_place mo_value mo_numbers mo_not u1 hu1) ⟨rfl, rfl, Nat.le_of_ble_eq_true rfl, Nat.le_of_ble_eq_true rfl⟩ 0 rfl rfl rfl rfl rfl (Nat.le_of_ble_eq_true rfl) dX8_isClosed_1) ?_
  show V G p l e rmMo_isClosed s m args below meth c 1 A Q 0 0 (gMo G qMo mo_all mo_past mo_aside mo_states mo_refused mo_causeKind mo_causeOrder mo_corner mo_linkVotes mo_linkE mo_linkF mo_follower mo_ahead mo_least mo_seam mo_above mo_below mo_text mo_textLong mo_place mo_value mo_numbers mo_not) 4 [(0, .ref (qMo 0))] [.int u1]
  refine V_iconst E (v := (2 : Int32)) dX8_isClosed_4 (by decide) ?_
  refine V_icmp_lt E (tgt := 23) dX8_isClosed_5 (by decide) (fun hc2 => ?_) (fun hc2 => ?_)
  · have hf := ip hc2 hf
    refine V_iconst E (v := (0 : Int32)) dX8_isClosed_23 (by decide) ?_
    have h9 := hret 24 [(0, .ref (qMo 0))] dX8_isClosed_24
    rw [← (Option.some.inj hf)] at h9
    exact h9 (z01a (Or.inl rfl))
  · have hf := iq hc2 hf
    refine V_aload_n E 0 rfl dX8_isClosed_8 ?_
    obtain ⟨u3, hu3, hf⟩ := bd hf
    refine V_frW E (Rn_V E (rest := []) mlX8_199 wd_yX8_taken (kMo_taken l G qMo mo_all mo_past mo_aside mo_states mo_refused mo_causeKind mo_causeOrder mo_corner mo_linkVotes mo_linkE mo_linkF mo_follower mo_ahead mo_least mo_seam mo_above mo_below mo_text mo_textLong mo_place mo_value mo_numbers mo_not u3 hu3) ⟨rfl, rfl, Nat.le_of_ble_eq_true rfl, Nat.le_of_ble_eq_true rfl⟩ 0 rfl rfl rfl rfl rfl (Nat.le_of_ble_eq_true rfl) dX8_isClosed_9) ?_
    show V G p l e rmMo_isClosed s m args below meth c 1 A Q 0 0 (gMo G qMo mo_all mo_past mo_aside mo_states mo_refused mo_causeKind mo_causeOrder mo_corner mo_linkVotes mo_linkE mo_linkF mo_follower mo_ahead mo_least mo_seam mo_above mo_below mo_text mo_textLong mo_place mo_value mo_numbers mo_not) 12 [(0, .ref (qMo 0))] [.int u3]
    refine V_aload_n E 0 rfl dX8_isClosed_12 ?_
    obtain ⟨u4, hu4, hf⟩ := bd hf
    refine V_frW E (Rn_V E (rest := [.int u3]) mlX8_59 wd_yX8_many (kMo_many l G qMo mo_all mo_past mo_aside mo_states mo_refused mo_causeKind mo_causeOrder mo_corner mo_linkVotes mo_linkE mo_linkF mo_follower mo_ahead mo_least mo_seam mo_above mo_below mo_text mo_textLong mo_place mo_value mo_numbers mo_not u4 hu4) ⟨rfl, rfl, Nat.le_of_ble_eq_true rfl, Nat.le_of_ble_eq_true rfl⟩ 0 rfl rfl rfl rfl rfl (Nat.le_of_ble_eq_true rfl) dX8_isClosed_13) ?_
    show V G p l e rmMo_isClosed s m args below meth c 1 A Q 0 0 (gMo G qMo mo_all mo_past mo_aside mo_states mo_refused mo_causeKind mo_causeOrder mo_corner mo_linkVotes mo_linkE mo_linkF mo_follower mo_ahead mo_least mo_seam mo_above mo_below mo_text mo_textLong mo_place mo_value mo_numbers mo_not) 16 [(0, .ref (qMo 0))] [.int u4, .int u3]
    refine V_icmp_ne E (tgt := 23) dX8_isClosed_16 (by decide) (fun hc5 => ?_) (fun hc5 => ?_)
    · have hf := iq hc5 hf
      refine V_iconst E (v := (0 : Int32)) dX8_isClosed_23 (by decide) ?_
      have h9 := hret 24 [(0, .ref (qMo 0))] dX8_isClosed_24
      rw [← (Option.some.inj hf)] at h9
      exact h9 (z01a (Or.inl rfl))
    · have hf := ip hc5 hf
      refine V_iconst E (v := (1 : Int32)) dX8_isClosed_19 (by decide) ?_
      refine V_goto E (tgt := 24) dX8_isClosed_20 (by decide) ?_
      have h9 := hret 24 [(0, .ref (qMo 0))] dX8_isClosed_24
      rw [← (Option.some.inj hf)] at h9
      exact h9 (z01a (Or.inr rfl))
abbrev rmMo_sumOf : Room := { frames := 1, cells := 0, slots := 0, locals := 21 }
theorem wd_yX8_sumOf : wdV yX8_sumOf cX8_sumOf 4 (some .int) 1 := ⟨wc_yX8_sumOf, wi_yX8_sumOf, wse_yX8_sumOf, wini_X8, by decide +kernel, by decide +kernel, by decide +kernel⟩
set_option maxHeartbeats 4000000 in
set_option maxRecDepth 100000 in
theorem kMo_sumOf (l : Launch) (G : wG) (qMo : Nat → Nat) (p1 : Int32) (mo_all : Nat → Int32) (mo_past : Nat → Int32) (mo_aside : Nat → Int32) (mo_states : Int32) (mo_refused : Nat → Int32) (mo_causeKind : Int32) (mo_causeOrder : Int32) (mo_corner : Nat → Int32) (mo_linkVotes : Nat → Int32) (mo_linkE : Nat → Int32) (mo_linkF : Nat → Int32) (mo_follower : Nat → Int32) (mo_ahead : Nat → Int32) (mo_least : Nat → Int32) (mo_seam : Nat → Int32) (mo_above : Int64) (mo_below : Int64) (mo_text : Nat → Int32) (mo_textLong : Int32) (mo_place : Int32) (mo_value : Int32) (mo_numbers : Nat → Int32) (mo_not : Int32) (o : Int32) (hf : fMo_sumOf p1 mo_all mo_linkE mo_linkF mo_follower = some o) : Ct G l yX8_sumOf cX8_sumOf 4 (some .int) rmMo_sumOf [.ref (qMo 0), .int p1] (gMo G qMo mo_all mo_past mo_aside mo_states mo_refused mo_causeKind mo_causeOrder mo_corner mo_linkVotes mo_linkE mo_linkF mo_follower mo_ahead mo_least mo_seam mo_above mo_below mo_text mo_textLong mo_place mo_value mo_numbers mo_not) (some (.int o)) (gMo G qMo mo_all mo_past mo_aside mo_states mo_refused mo_causeKind mo_causeOrder mo_corner mo_linkVotes mo_linkE mo_linkF mo_follower mo_ahead mo_least mo_seam mo_above mo_below mo_text mo_textLong mo_place mo_value mo_numbers mo_not) := by
  refine Ct.ofI (by decide +kernel) (Nat.le_of_ble_eq_true rfl) (fun p e s m args below meth c A Q E hret => ?_)
  unfold fMo_sumOf at hf
  show V G p l e rmMo_sumOf s m args below meth c 4 A Q 0 0 (gMo G qMo mo_all mo_past mo_aside mo_states mo_refused mo_causeKind mo_causeOrder mo_corner mo_linkVotes mo_linkE mo_linkF mo_follower mo_ahead mo_least mo_seam mo_above mo_below mo_text mo_textLong mo_place mo_value mo_numbers mo_not) 0 [(0, .ref (qMo 0)), (1, .int p1)] []
  refine V_iconst E (v := (0 : Int32)) dX8_sumOf_0 (by decide) ?_
  refine V_istore_n E (lv' := [(0, .ref (qMo 0)), (1, .int p1), (2, .int (0 : Int32))]) dX8_sumOf_1 (by decide) rfl ?_
  refine V_iconst E (v := (0 : Int32)) dX8_sumOf_2 (by decide) ?_
  refine V_istore_n E (lv' := [(0, .ref (qMo 0)), (1, .int p1), (2, .int (0 : Int32)), (3, .int (0 : Int32))]) dX8_sumOf_3 (by decide) rfl ?_
  have L4 : ∀ (n : Nat) (a4_2 : Int32) (a4_3 : Int32) (u : Int32), fMo_sumOf_L4 p1 mo_all mo_linkE mo_linkF mo_follower n a4_2 a4_3 = some u → (V G p l e rmMo_sumOf s m args below meth c 4 A Q 0 0 (gMo G qMo mo_all mo_past mo_aside mo_states mo_refused mo_causeKind mo_causeOrder mo_corner mo_linkVotes mo_linkE mo_linkF mo_follower mo_ahead mo_least mo_seam mo_above mo_below mo_text mo_textLong mo_place mo_value mo_numbers mo_not) 52 [(2, .int u)] []) → V G p l e rmMo_sumOf s m args below meth c 4 A Q 0 0 (gMo G qMo mo_all mo_past mo_aside mo_states mo_refused mo_causeKind mo_causeOrder mo_corner mo_linkVotes mo_linkE mo_linkF mo_follower mo_ahead mo_least mo_seam mo_above mo_below mo_text mo_textLong mo_place mo_value mo_numbers mo_not) 4 [(0, .ref (qMo 0)), (1, .int p1), (2, .int a4_2), (3, .int a4_3)] [] := by
    intro n
    induction n with
    | zero =>
      intro a4_2 a4_3 u hf hk
      rw [fMo_sumOf_L4] at hf
      cases hf
    | succ n ih =>
      intro a4_2 a4_3 u hf hk
      rw [fMo_sumOf_L4] at hf
      refine V_iload_n E 3 rfl dX8_sumOf_4 ?_
      refine V_aload_n E 0 rfl dX8_sumOf_5 ?_
      obtain ⟨u2, hu2, hf⟩ := bd hf
      refine V_frW E (Rn_V E (rest := [.int a4_3]) mlX8_59 wd_yX8_many (kMo_many l G qMo mo_all mo_past mo_aside mo_states mo_refused mo_causeKind mo_causeOrder mo_corner mo_linkVotes mo_linkE mo_linkF mo_follower mo_ahead mo_least mo_seam mo_above mo_below mo_text mo_textLong mo_place mo_value mo_numbers mo_not u2 hu2) ⟨rfl, rfl, Nat.le_of_ble_eq_true rfl, Nat.le_of_ble_eq_true rfl⟩ 0 rfl rfl rfl rfl rfl (Nat.le_of_ble_eq_true rfl) dX8_sumOf_6) ?_
      show V G p l e rmMo_sumOf s m args below meth c 4 A Q 0 0 (gMo G qMo mo_all mo_past mo_aside mo_states mo_refused mo_causeKind mo_causeOrder mo_corner mo_linkVotes mo_linkE mo_linkF mo_follower mo_ahead mo_least mo_seam mo_above mo_below mo_text mo_textLong mo_place mo_value mo_numbers mo_not) 9 [(0, .ref (qMo 0)), (1, .int p1), (2, .int a4_2), (3, .int a4_3)] [.int u2, .int a4_3]
      refine V_icmp_ge E (tgt := 52) dX8_sumOf_9 (by decide) (fun hc3 => ?_) (fun hc3 => ?_)
      · have hf := ip hc3 hf
        refine V_sub [2] rfl ?_
        rw [← Option.some.inj hf] at hk
        exact hk
      · have hf := iq hc3 hf
        refine V_iload_n E 2 rfl dX8_sumOf_12 ?_
        refine V_aload_n E 0 rfl dX8_sumOf_13 ?_
        refine gfX8_38 E 0 rfl rfl dX8_sumOf_14 ?_
        refine V_iload_n E 3 rfl dX8_sumOf_17 ?_
        obtain ⟨hi4, hf⟩ := asr_ok hf
        refine V_iald E 9 rfl hi4 dX8_sumOf_18 ?_
        refine V_iconst E (v := (-1 : Int32)) dX8_sumOf_19 (by decide) ?_
        refine V_icmp_ne E (tgt := 27) dX8_sumOf_20 (by decide) (fun hc5 => ?_) (fun hc5 => ?_)
        · have hf := iq hc5 hf
          refine V_iload_n E 1 rfl dX8_sumOf_27 ?_
          refine V_if_eq E (tgt := 39) dX8_sumOf_28 (by decide) (fun hc6 => ?_) (fun hc6 => ?_)
          · have hf := ip hc6 hf
            refine V_aload_n E 0 rfl dX8_sumOf_39 ?_
            refine V_iload_n E 3 rfl dX8_sumOf_40 ?_
            obtain ⟨u7, hu7, hf⟩ := bd hf
            refine V_frW E (Rn_V E (rest := [.int a4_2]) mlX8_205 wd_yX8_fOf (kMo_fOf l G qMo a4_3 mo_all mo_past mo_aside mo_states mo_refused mo_causeKind mo_causeOrder mo_corner mo_linkVotes mo_linkE mo_linkF mo_follower mo_ahead mo_least mo_seam mo_above mo_below mo_text mo_textLong mo_place mo_value mo_numbers mo_not u7 hu7) ⟨rfl, rfl, Nat.le_of_ble_eq_true rfl, Nat.le_of_ble_eq_true rfl⟩ 0 rfl rfl rfl rfl rfl (Nat.le_of_ble_eq_true rfl) dX8_sumOf_41) ?_
            show V G p l e rmMo_sumOf s m args below meth c 4 A Q 0 0 (gMo G qMo mo_all mo_past mo_aside mo_states mo_refused mo_causeKind mo_causeOrder mo_corner mo_linkVotes mo_linkE mo_linkF mo_follower mo_ahead mo_least mo_seam mo_above mo_below mo_text mo_textLong mo_place mo_value mo_numbers mo_not) 44 [(0, .ref (qMo 0)), (1, .int p1), (2, .int a4_2), (3, .int a4_3)] [.int u7, .int a4_2]
            refine V_iadd E dX8_sumOf_44 ?_
            refine V_istore_n E (lv' := [(0, .ref (qMo 0)), (1, .int p1), (2, .int (a4_2 + u7)), (3, .int a4_3)]) dX8_sumOf_45 (by decide) rfl ?_
            refine V_iinc E (v := (a4_3 + (1 : Int32))) (lv' := [(0, .ref (qMo 0)), (1, .int p1), (2, .int (a4_2 + u7)), (3, .int (a4_3 + (1 : Int32)))]) 3 rfl dX8_sumOf_46 rfl (by decide) rfl ?_
            refine V_goto E (tgt := 4) dX8_sumOf_49 (by decide) ?_
            exact ih (a4_2 + u7) (a4_3 + (1 : Int32)) _ hf hk
          · have hf := iq hc6 hf
            refine V_aload_n E 0 rfl dX8_sumOf_31 ?_
            refine V_iload_n E 3 rfl dX8_sumOf_32 ?_
            obtain ⟨u8, hu8, hf⟩ := bd hf
            refine V_frW E (Rn_V E (rest := [.int a4_2]) mlX8_202 wd_yX8_eOf (kMo_eOf l G qMo a4_3 mo_all mo_past mo_aside mo_states mo_refused mo_causeKind mo_causeOrder mo_corner mo_linkVotes mo_linkE mo_linkF mo_follower mo_ahead mo_least mo_seam mo_above mo_below mo_text mo_textLong mo_place mo_value mo_numbers mo_not u8 hu8) ⟨rfl, rfl, Nat.le_of_ble_eq_true rfl, Nat.le_of_ble_eq_true rfl⟩ 0 rfl rfl rfl rfl rfl (Nat.le_of_ble_eq_true rfl) dX8_sumOf_33) ?_
            show V G p l e rmMo_sumOf s m args below meth c 4 A Q 0 0 (gMo G qMo mo_all mo_past mo_aside mo_states mo_refused mo_causeKind mo_causeOrder mo_corner mo_linkVotes mo_linkE mo_linkF mo_follower mo_ahead mo_least mo_seam mo_above mo_below mo_text mo_textLong mo_place mo_value mo_numbers mo_not) 36 [(0, .ref (qMo 0)), (1, .int p1), (2, .int a4_2), (3, .int a4_3)] [.int u8, .int a4_2]
            refine V_goto E (tgt := 44) dX8_sumOf_36 (by decide) ?_
            refine V_iadd E dX8_sumOf_44 ?_
            refine V_istore_n E (lv' := [(0, .ref (qMo 0)), (1, .int p1), (2, .int (a4_2 + u8)), (3, .int a4_3)]) dX8_sumOf_45 (by decide) rfl ?_
            refine V_iinc E (v := (a4_3 + (1 : Int32))) (lv' := [(0, .ref (qMo 0)), (1, .int p1), (2, .int (a4_2 + u8)), (3, .int (a4_3 + (1 : Int32)))]) 3 rfl dX8_sumOf_46 rfl (by decide) rfl ?_
            refine V_goto E (tgt := 4) dX8_sumOf_49 (by decide) ?_
            exact ih (a4_2 + u8) (a4_3 + (1 : Int32)) _ hf hk
        · have hf := ip hc5 hf
          refine V_iconst E (v := (0 : Int32)) dX8_sumOf_23 (by decide) ?_
          refine V_goto E (tgt := 44) dX8_sumOf_24 (by decide) ?_
          refine V_iadd E dX8_sumOf_44 ?_
          refine V_istore_n E (lv' := [(0, .ref (qMo 0)), (1, .int p1), (2, .int (a4_2 + (0 : Int32))), (3, .int a4_3)]) dX8_sumOf_45 (by decide) rfl ?_
          refine V_iinc E (v := (a4_3 + (1 : Int32))) (lv' := [(0, .ref (qMo 0)), (1, .int p1), (2, .int (a4_2 + (0 : Int32))), (3, .int (a4_3 + (1 : Int32)))]) 3 rfl dX8_sumOf_46 rfl (by decide) rfl ?_
          refine V_goto E (tgt := 4) dX8_sumOf_49 (by decide) ?_
          exact ih (a4_2 + (0 : Int32)) (a4_3 + (1 : Int32)) _ hf hk
  obtain ⟨u1, hu1, hf⟩ := bd hf
  refine L4 FU (0 : Int32) (0 : Int32) u1 hu1 ?_
  refine V_iload_n E 0 rfl dX8_sumOf_52 ?_
  have h9 := hret 53 [(2, .int u1)] dX8_sumOf_53
  rw [← (Option.some.inj hf)] at h9
  exact h9
abbrev rmMo_isRight : Room := { frames := 1, cells := 0, slots := 0, locals := 22 }
theorem wd_yX8_isRight : wdV yX8_isRight cX8_isRight 4 (some .boolean) 1 := ⟨wc_yX8_isRight, wi_yX8_isRight, wse_yX8_isRight, wini_X8, by decide +kernel, by decide +kernel, by decide +kernel⟩
set_option maxHeartbeats 4000000 in
set_option maxRecDepth 100000 in
theorem kMo_isRight (l : Launch) (G : wG) (qMo : Nat → Nat) (p1 : Int32) (mo_all : Nat → Int32) (mo_past : Nat → Int32) (mo_aside : Nat → Int32) (mo_states : Int32) (mo_refused : Nat → Int32) (mo_causeKind : Int32) (mo_causeOrder : Int32) (mo_corner : Nat → Int32) (mo_linkVotes : Nat → Int32) (mo_linkE : Nat → Int32) (mo_linkF : Nat → Int32) (mo_follower : Nat → Int32) (mo_ahead : Nat → Int32) (mo_least : Nat → Int32) (mo_seam : Nat → Int32) (mo_above : Int64) (mo_below : Int64) (mo_text : Nat → Int32) (mo_textLong : Int32) (mo_place : Int32) (mo_value : Int32) (mo_numbers : Nat → Int32) (mo_not : Int32) (o : Int32) (hf : fMo_isRight p1 mo_all mo_linkE mo_linkF mo_follower = some o) : Ct G l yX8_isRight cX8_isRight 4 (some .boolean) rmMo_isRight [.ref (qMo 0), .int p1] (gMo G qMo mo_all mo_past mo_aside mo_states mo_refused mo_causeKind mo_causeOrder mo_corner mo_linkVotes mo_linkE mo_linkF mo_follower mo_ahead mo_least mo_seam mo_above mo_below mo_text mo_textLong mo_place mo_value mo_numbers mo_not) (some (.int o)) (gMo G qMo mo_all mo_past mo_aside mo_states mo_refused mo_causeKind mo_causeOrder mo_corner mo_linkVotes mo_linkE mo_linkF mo_follower mo_ahead mo_least mo_seam mo_above mo_below mo_text mo_textLong mo_place mo_value mo_numbers mo_not) := by
  refine Ct.ofZ (by decide +kernel) (Nat.le_of_ble_eq_true rfl) (fun p e s m args below meth c A Q E hret => ?_)
  unfold fMo_isRight at hf
  show V G p l e rmMo_isRight s m args below meth c 4 A Q 0 0 (gMo G qMo mo_all mo_past mo_aside mo_states mo_refused mo_causeKind mo_causeOrder mo_corner mo_linkVotes mo_linkE mo_linkF mo_follower mo_ahead mo_least mo_seam mo_above mo_below mo_text mo_textLong mo_place mo_value mo_numbers mo_not) 0 [(0, .ref (qMo 0)), (1, .int p1)] []
  refine V_aload_n E 0 rfl dX8_isRight_0 ?_
  refine gfX8_38 E 0 rfl rfl dX8_isRight_1 ?_
  refine V_iload_n E 1 rfl dX8_isRight_4 ?_
  obtain ⟨hi1, hf⟩ := asr_ok hf
  refine V_iald E 9 rfl hi1 dX8_isRight_5 ?_
  refine V_istore_n E (lv' := [(0, .ref (qMo 0)), (1, .int p1), (2, .int (mo_follower p1.toNatClampNeg))]) dX8_isRight_6 (by decide) rfl ?_
  refine V_aload_n E 0 rfl dX8_isRight_7 ?_
  refine V_iload_n E 1 rfl dX8_isRight_8 ?_
  refine V_iconst E (v := (2 : Int32)) dX8_isRight_9 (by decide) ?_
  obtain ⟨u2, hu2, hf⟩ := bd hf
  refine V_frW E (Rn_V E (rest := []) mlX8_208 wd_yX8_shotOf (kMo_shotOf l G qMo p1 (2 : Int32) mo_all mo_past mo_aside mo_states mo_refused mo_causeKind mo_causeOrder mo_corner mo_linkVotes mo_linkE mo_linkF mo_follower mo_ahead mo_least mo_seam mo_above mo_below mo_text mo_textLong mo_place mo_value mo_numbers mo_not u2 hu2) ⟨rfl, rfl, Nat.le_of_ble_eq_true rfl, Nat.le_of_ble_eq_true rfl⟩ 0 rfl rfl rfl rfl rfl (Nat.le_of_ble_eq_true rfl) dX8_isRight_10) ?_
  show V G p l e rmMo_isRight s m args below meth c 4 A Q 0 0 (gMo G qMo mo_all mo_past mo_aside mo_states mo_refused mo_causeKind mo_causeOrder mo_corner mo_linkVotes mo_linkE mo_linkF mo_follower mo_ahead mo_least mo_seam mo_above mo_below mo_text mo_textLong mo_place mo_value mo_numbers mo_not) 13 [(0, .ref (qMo 0)), (1, .int p1), (2, .int (mo_follower p1.toNatClampNeg))] [.int u2]
  refine V_istore_n E (lv' := [(0, .ref (qMo 0)), (1, .int p1), (2, .int (mo_follower p1.toNatClampNeg)), (3, .int u2)]) dX8_isRight_13 (by decide) rfl ?_
  refine V_iload_n E 3 rfl dX8_isRight_14 ?_
  refine V_aload_n E 0 rfl dX8_isRight_15 ?_
  refine V_iload_n E 2 rfl dX8_isRight_16 ?_
  refine V_iconst E (v := (2 : Int32)) dX8_isRight_17 (by decide) ?_
  obtain ⟨u3, hu3, hf⟩ := bd hf
  refine V_frW E (Rn_V E (rest := [.int u2]) mlX8_208 wd_yX8_shotOf (kMo_shotOf l G qMo (mo_follower p1.toNatClampNeg) (2 : Int32) mo_all mo_past mo_aside mo_states mo_refused mo_causeKind mo_causeOrder mo_corner mo_linkVotes mo_linkE mo_linkF mo_follower mo_ahead mo_least mo_seam mo_above mo_below mo_text mo_textLong mo_place mo_value mo_numbers mo_not u3 hu3) ⟨rfl, rfl, Nat.le_of_ble_eq_true rfl, Nat.le_of_ble_eq_true rfl⟩ 0 rfl rfl rfl rfl rfl (Nat.le_of_ble_eq_true rfl) dX8_isRight_18) ?_
  show V G p l e rmMo_isRight s m args below meth c 4 A Q 0 0 (gMo G qMo mo_all mo_past mo_aside mo_states mo_refused mo_causeKind mo_causeOrder mo_corner mo_linkVotes mo_linkE mo_linkF mo_follower mo_ahead mo_least mo_seam mo_above mo_below mo_text mo_textLong mo_place mo_value mo_numbers mo_not) 21 [(0, .ref (qMo 0)), (1, .int p1), (2, .int (mo_follower p1.toNatClampNeg)), (3, .int u2)] [.int u3, .int u2]
  refine V_icmp_ne E (tgt := 72) dX8_isRight_21 (by decide) (fun hc4 => ?_) (fun hc4 => ?_)
  · have hf := iq hc4 hf
    refine V_iconst E (v := (0 : Int32)) dX8_isRight_72 (by decide) ?_
    have h9 := hret 73 [(0, .ref (qMo 0)), (1, .int p1), (2, .int (mo_follower p1.toNatClampNeg)), (3, .int u2)] dX8_isRight_73
    rw [← (Option.some.inj hf)] at h9
    exact h9 (z01a (Or.inl rfl))
  · have hf := ip hc4 hf
    refine V_aload_n E 0 rfl dX8_isRight_24 ?_
    refine V_iload_n E 1 rfl dX8_isRight_25 ?_
    refine V_iconst E (v := (0 : Int32)) dX8_isRight_26 (by decide) ?_
    obtain ⟨u5, hu5, hf⟩ := bd hf
    refine V_frW E (Rn_V E (rest := []) mlX8_208 wd_yX8_shotOf (kMo_shotOf l G qMo p1 (0 : Int32) mo_all mo_past mo_aside mo_states mo_refused mo_causeKind mo_causeOrder mo_corner mo_linkVotes mo_linkE mo_linkF mo_follower mo_ahead mo_least mo_seam mo_above mo_below mo_text mo_textLong mo_place mo_value mo_numbers mo_not u5 hu5) ⟨rfl, rfl, Nat.le_of_ble_eq_true rfl, Nat.le_of_ble_eq_true rfl⟩ 0 rfl rfl rfl rfl rfl (Nat.le_of_ble_eq_true rfl) dX8_isRight_27) ?_
    show V G p l e rmMo_isRight s m args below meth c 4 A Q 0 0 (gMo G qMo mo_all mo_past mo_aside mo_states mo_refused mo_causeKind mo_causeOrder mo_corner mo_linkVotes mo_linkE mo_linkF mo_follower mo_ahead mo_least mo_seam mo_above mo_below mo_text mo_textLong mo_place mo_value mo_numbers mo_not) 30 [(0, .ref (qMo 0)), (1, .int p1), (2, .int (mo_follower p1.toNatClampNeg)), (3, .int u2)] [.int u5]
    refine V_aload_n E 0 rfl dX8_isRight_30 ?_
    refine V_iload_n E 1 rfl dX8_isRight_31 ?_
    obtain ⟨u6, hu6, hf⟩ := bd hf
    refine V_frW E (Rn_V E (rest := [.int u5]) mlX8_205 wd_yX8_fOf (kMo_fOf l G qMo p1 mo_all mo_past mo_aside mo_states mo_refused mo_causeKind mo_causeOrder mo_corner mo_linkVotes mo_linkE mo_linkF mo_follower mo_ahead mo_least mo_seam mo_above mo_below mo_text mo_textLong mo_place mo_value mo_numbers mo_not u6 hu6) ⟨rfl, rfl, Nat.le_of_ble_eq_true rfl, Nat.le_of_ble_eq_true rfl⟩ 0 rfl rfl rfl rfl rfl (Nat.le_of_ble_eq_true rfl) dX8_isRight_32) ?_
    show V G p l e rmMo_isRight s m args below meth c 4 A Q 0 0 (gMo G qMo mo_all mo_past mo_aside mo_states mo_refused mo_causeKind mo_causeOrder mo_corner mo_linkVotes mo_linkE mo_linkF mo_follower mo_ahead mo_least mo_seam mo_above mo_below mo_text mo_textLong mo_place mo_value mo_numbers mo_not) 35 [(0, .ref (qMo 0)), (1, .int p1), (2, .int (mo_follower p1.toNatClampNeg)), (3, .int u2)] [.int u6, .int u5]
    refine V_iadd E dX8_isRight_35 ?_
    refine V_iload_n E 3 rfl dX8_isRight_36 ?_
    obtain ⟨hz7, hf⟩ := asr_ok hf
    refine V_irem E dX8_isRight_37 hz7 ?_
    refine V_aload_n E 0 rfl dX8_isRight_38 ?_
    refine V_iload_n E 2 rfl dX8_isRight_39 ?_
    refine V_iconst E (v := (0 : Int32)) dX8_isRight_40 (by decide) ?_
    obtain ⟨u8, hu8, hf⟩ := bd hf
    refine V_frW E (Rn_V E (rest := [.int ((u5 + u6) - (u5 + u6) / u2 * u2)]) mlX8_208 wd_yX8_shotOf (kMo_shotOf l G qMo (mo_follower p1.toNatClampNeg) (0 : Int32) mo_all mo_past mo_aside mo_states mo_refused mo_causeKind mo_causeOrder mo_corner mo_linkVotes mo_linkE mo_linkF mo_follower mo_ahead mo_least mo_seam mo_above mo_below mo_text mo_textLong mo_place mo_value mo_numbers mo_not u8 hu8) ⟨rfl, rfl, Nat.le_of_ble_eq_true rfl, Nat.le_of_ble_eq_true rfl⟩ 0 rfl rfl rfl rfl rfl (Nat.le_of_ble_eq_true rfl) dX8_isRight_41) ?_
    show V G p l e rmMo_isRight s m args below meth c 4 A Q 0 0 (gMo G qMo mo_all mo_past mo_aside mo_states mo_refused mo_causeKind mo_causeOrder mo_corner mo_linkVotes mo_linkE mo_linkF mo_follower mo_ahead mo_least mo_seam mo_above mo_below mo_text mo_textLong mo_place mo_value mo_numbers mo_not) 44 [(0, .ref (qMo 0)), (1, .int p1), (2, .int (mo_follower p1.toNatClampNeg)), (3, .int u2)] [.int u8, .int ((u5 + u6) - (u5 + u6) / u2 * u2)]
    refine V_icmp_ne E (tgt := 72) dX8_isRight_44 (by decide) (fun hc9 => ?_) (fun hc9 => ?_)
    · have hf := iq hc9 hf
      refine V_iconst E (v := (0 : Int32)) dX8_isRight_72 (by decide) ?_
      have h9 := hret 73 [(0, .ref (qMo 0)), (1, .int p1), (2, .int (mo_follower p1.toNatClampNeg)), (3, .int u2)] dX8_isRight_73
      rw [← (Option.some.inj hf)] at h9
      exact h9 (z01a (Or.inl rfl))
    · have hf := ip hc9 hf
      refine V_aload_n E 0 rfl dX8_isRight_47 ?_
      refine V_iload_n E 1 rfl dX8_isRight_48 ?_
      refine V_iconst E (v := (1 : Int32)) dX8_isRight_49 (by decide) ?_
      obtain ⟨u10, hu10, hf⟩ := bd hf
      refine V_frW E (Rn_V E (rest := []) mlX8_208 wd_yX8_shotOf (kMo_shotOf l G qMo p1 (1 : Int32) mo_all mo_past mo_aside mo_states mo_refused mo_causeKind mo_causeOrder mo_corner mo_linkVotes mo_linkE mo_linkF mo_follower mo_ahead mo_least mo_seam mo_above mo_below mo_text mo_textLong mo_place mo_value mo_numbers mo_not u10 hu10) ⟨rfl, rfl, Nat.le_of_ble_eq_true rfl, Nat.le_of_ble_eq_true rfl⟩ 0 rfl rfl rfl rfl rfl (Nat.le_of_ble_eq_true rfl) dX8_isRight_50) ?_
      show V G p l e rmMo_isRight s m args below meth c 4 A Q 0 0 (gMo G qMo mo_all mo_past mo_aside mo_states mo_refused mo_causeKind mo_causeOrder mo_corner mo_linkVotes mo_linkE mo_linkF mo_follower mo_ahead mo_least mo_seam mo_above mo_below mo_text mo_textLong mo_place mo_value mo_numbers mo_not) 53 [(0, .ref (qMo 0)), (1, .int p1), (2, .int (mo_follower p1.toNatClampNeg)), (3, .int u2)] [.int u10]
      refine V_aload_n E 0 rfl dX8_isRight_53 ?_
      refine V_iload_n E 1 rfl dX8_isRight_54 ?_
      obtain ⟨u11, hu11, hf⟩ := bd hf
      refine V_frW E (Rn_V E (rest := [.int u10]) mlX8_202 wd_yX8_eOf (kMo_eOf l G qMo p1 mo_all mo_past mo_aside mo_states mo_refused mo_causeKind mo_causeOrder mo_corner mo_linkVotes mo_linkE mo_linkF mo_follower mo_ahead mo_least mo_seam mo_above mo_below mo_text mo_textLong mo_place mo_value mo_numbers mo_not u11 hu11) ⟨rfl, rfl, Nat.le_of_ble_eq_true rfl, Nat.le_of_ble_eq_true rfl⟩ 0 rfl rfl rfl rfl rfl (Nat.le_of_ble_eq_true rfl) dX8_isRight_55) ?_
      show V G p l e rmMo_isRight s m args below meth c 4 A Q 0 0 (gMo G qMo mo_all mo_past mo_aside mo_states mo_refused mo_causeKind mo_causeOrder mo_corner mo_linkVotes mo_linkE mo_linkF mo_follower mo_ahead mo_least mo_seam mo_above mo_below mo_text mo_textLong mo_place mo_value mo_numbers mo_not) 58 [(0, .ref (qMo 0)), (1, .int p1), (2, .int (mo_follower p1.toNatClampNeg)), (3, .int u2)] [.int u11, .int u10]
      refine V_iadd E dX8_isRight_58 ?_
      refine V_aload_n E 0 rfl dX8_isRight_59 ?_
      refine V_iload_n E 2 rfl dX8_isRight_60 ?_
      refine V_iconst E (v := (1 : Int32)) dX8_isRight_61 (by decide) ?_
      obtain ⟨u12, hu12, hf⟩ := bd hf
      refine V_frW E (Rn_V E (rest := [.int (u10 + u11)]) mlX8_208 wd_yX8_shotOf (kMo_shotOf l G qMo (mo_follower p1.toNatClampNeg) (1 : Int32) mo_all mo_past mo_aside mo_states mo_refused mo_causeKind mo_causeOrder mo_corner mo_linkVotes mo_linkE mo_linkF mo_follower mo_ahead mo_least mo_seam mo_above mo_below mo_text mo_textLong mo_place mo_value mo_numbers mo_not u12 hu12) ⟨rfl, rfl, Nat.le_of_ble_eq_true rfl, Nat.le_of_ble_eq_true rfl⟩ 0 rfl rfl rfl rfl rfl (Nat.le_of_ble_eq_true rfl) dX8_isRight_62) ?_
      show V G p l e rmMo_isRight s m args below meth c 4 A Q 0 0 (gMo G qMo mo_all mo_past mo_aside mo_states mo_refused mo_causeKind mo_causeOrder mo_corner mo_linkVotes mo_linkE mo_linkF mo_follower mo_ahead mo_least mo_seam mo_above mo_below mo_text mo_textLong mo_place mo_value mo_numbers mo_not) 65 [(0, .ref (qMo 0)), (1, .int p1), (2, .int (mo_follower p1.toNatClampNeg)), (3, .int u2)] [.int u12, .int (u10 + u11)]
      refine V_icmp_ne E (tgt := 72) dX8_isRight_65 (by decide) (fun hc13 => ?_) (fun hc13 => ?_)
      · have hf := iq hc13 hf
        refine V_iconst E (v := (0 : Int32)) dX8_isRight_72 (by decide) ?_
        have h9 := hret 73 [(0, .ref (qMo 0)), (1, .int p1), (2, .int (mo_follower p1.toNatClampNeg)), (3, .int u2)] dX8_isRight_73
        rw [← (Option.some.inj hf)] at h9
        exact h9 (z01a (Or.inl rfl))
      · have hf := ip hc13 hf
        refine V_iconst E (v := (1 : Int32)) dX8_isRight_68 (by decide) ?_
        refine V_goto E (tgt := 73) dX8_isRight_69 (by decide) ?_
        have h9 := hret 73 [(0, .ref (qMo 0)), (1, .int p1), (2, .int (mo_follower p1.toNatClampNeg)), (3, .int u2)] dX8_isRight_73
        rw [← (Option.some.inj hf)] at h9
        exact h9 (z01a (Or.inr rfl))
abbrev rmMo_allNow : Room := { frames := 3, cells := 0, slots := 0, locals := 62 }
theorem wd_yX8_allNow : wdV yX8_allNow cX8_allNow 5 (some .int) 1 := ⟨wc_yX8_allNow, wi_yX8_allNow, wse_yX8_allNow, wini_X8, by decide +kernel, by decide +kernel, by decide +kernel⟩
set_option maxHeartbeats 4000000 in
set_option maxRecDepth 100000 in
theorem kMo_allNow (l : Launch) (G : wG) (qMo : Nat → Nat) (p1 : Int32) (mo_all : Nat → Int32) (mo_past : Nat → Int32) (mo_aside : Nat → Int32) (mo_states : Int32) (mo_refused : Nat → Int32) (mo_causeKind : Int32) (mo_causeOrder : Int32) (mo_corner : Nat → Int32) (mo_linkVotes : Nat → Int32) (mo_linkE : Nat → Int32) (mo_linkF : Nat → Int32) (mo_follower : Nat → Int32) (mo_ahead : Nat → Int32) (mo_least : Nat → Int32) (mo_seam : Nat → Int32) (mo_above : Int64) (mo_below : Int64) (mo_text : Nat → Int32) (mo_textLong : Int32) (mo_place : Int32) (mo_value : Int32) (mo_numbers : Nat → Int32) (mo_not : Int32) (o : Int32) (hf : fMo_allNow p1 mo_all mo_linkE mo_linkF mo_follower mo_ahead = some o) : Ct G l yX8_allNow cX8_allNow 5 (some .int) rmMo_allNow [.ref (qMo 0), .int p1] (gMo G qMo mo_all mo_past mo_aside mo_states mo_refused mo_causeKind mo_causeOrder mo_corner mo_linkVotes mo_linkE mo_linkF mo_follower mo_ahead mo_least mo_seam mo_above mo_below mo_text mo_textLong mo_place mo_value mo_numbers mo_not) (some (.int o)) (gMo G qMo mo_all mo_past mo_aside mo_states mo_refused mo_causeKind mo_causeOrder mo_corner mo_linkVotes mo_linkE mo_linkF mo_follower mo_ahead mo_least mo_seam mo_above mo_below mo_text mo_textLong mo_place mo_value mo_numbers mo_not) := by
  refine Ct.ofI (by decide +kernel) (Nat.le_of_ble_eq_true rfl) (fun p e s m args below meth c A Q E hret => ?_)
  unfold fMo_allNow at hf
  show V G p l e rmMo_allNow s m args below meth c 5 A Q 0 0 (gMo G qMo mo_all mo_past mo_aside mo_states mo_refused mo_causeKind mo_causeOrder mo_corner mo_linkVotes mo_linkE mo_linkF mo_follower mo_ahead mo_least mo_seam mo_above mo_below mo_text mo_textLong mo_place mo_value mo_numbers mo_not) 0 [(0, .ref (qMo 0)), (1, .int p1)] []
  refine V_iconst E (v := (0 : Int32)) dX8_allNow_0 (by decide) ?_
  refine V_istore_n E (lv' := [(0, .ref (qMo 0)), (1, .int p1), (2, .int (0 : Int32))]) dX8_allNow_1 (by decide) rfl ?_
  refine V_iconst E (v := (0 : Int32)) dX8_allNow_2 (by decide) ?_
  refine V_istore_n E (lv' := [(0, .ref (qMo 0)), (1, .int p1), (2, .int (0 : Int32)), (3, .int (0 : Int32))]) dX8_allNow_3 (by decide) rfl ?_
  refine V_iconst E (v := (0 : Int32)) dX8_allNow_4 (by decide) ?_
  refine V_istore E (lv' := [(0, .ref (qMo 0)), (1, .int p1), (2, .int (0 : Int32)), (3, .int (0 : Int32)), (4, .int (0 : Int32))]) dX8_allNow_5 (by decide) rfl ?_
  have L7 : ∀ (n : Nat) (a7_2 : Int32) (a7_3 : Int32) (a7_4 : Int32) (u : Int32 × Int32), fMo_allNow_L7 mo_all mo_linkE mo_linkF mo_follower mo_ahead n a7_2 a7_3 a7_4 = some u → (V G p l e rmMo_allNow s m args below meth c 5 A Q 0 0 (gMo G qMo mo_all mo_past mo_aside mo_states mo_refused mo_causeKind mo_causeOrder mo_corner mo_linkVotes mo_linkE mo_linkF mo_follower mo_ahead mo_least mo_seam mo_above mo_below mo_text mo_textLong mo_place mo_value mo_numbers mo_not) 69 [(0, .ref (qMo 0)), (1, .int p1), (2, .int u.1), (3, .int u.2)] []) → V G p l e rmMo_allNow s m args below meth c 5 A Q 0 0 (gMo G qMo mo_all mo_past mo_aside mo_states mo_refused mo_causeKind mo_causeOrder mo_corner mo_linkVotes mo_linkE mo_linkF mo_follower mo_ahead mo_least mo_seam mo_above mo_below mo_text mo_textLong mo_place mo_value mo_numbers mo_not) 7 [(0, .ref (qMo 0)), (1, .int p1), (2, .int a7_2), (3, .int a7_3), (4, .int a7_4)] [] := by
    intro n
    induction n with
    | zero =>
      intro a7_2 a7_3 a7_4 u hf hk
      rw [fMo_allNow_L7] at hf
      cases hf
    | succ n ih =>
      intro a7_2 a7_3 a7_4 u hf hk
      rw [fMo_allNow_L7] at hf
      refine V_iload E 4 rfl dX8_allNow_7 ?_
      refine V_aload_n E 0 rfl dX8_allNow_9 ?_
      obtain ⟨u2, hu2, hf⟩ := bd hf
      refine V_frW E (Rn_V E (rest := [.int a7_4]) mlX8_59 wd_yX8_many (kMo_many l G qMo mo_all mo_past mo_aside mo_states mo_refused mo_causeKind mo_causeOrder mo_corner mo_linkVotes mo_linkE mo_linkF mo_follower mo_ahead mo_least mo_seam mo_above mo_below mo_text mo_textLong mo_place mo_value mo_numbers mo_not u2 hu2) ⟨rfl, rfl, Nat.le_of_ble_eq_true rfl, Nat.le_of_ble_eq_true rfl⟩ 0 rfl rfl rfl rfl rfl (Nat.le_of_ble_eq_true rfl) dX8_allNow_10) ?_
      show V G p l e rmMo_allNow s m args below meth c 5 A Q 0 0 (gMo G qMo mo_all mo_past mo_aside mo_states mo_refused mo_causeKind mo_causeOrder mo_corner mo_linkVotes mo_linkE mo_linkF mo_follower mo_ahead mo_least mo_seam mo_above mo_below mo_text mo_textLong mo_place mo_value mo_numbers mo_not) 13 [(0, .ref (qMo 0)), (1, .int p1), (2, .int a7_2), (3, .int a7_3), (4, .int a7_4)] [.int u2, .int a7_4]
      refine V_icmp_ge E (tgt := 69) dX8_allNow_13 (by decide) (fun hc3 => ?_) (fun hc3 => ?_)
      · have hf := ip hc3 hf
        refine V_sub [0, 1, 2, 3] rfl ?_
        rw [← Option.some.inj hf] at hk
        exact hk
      · have hf := iq hc3 hf
        refine V_iload_n E 2 rfl dX8_allNow_16 ?_
        refine V_aload_n E 0 rfl dX8_allNow_17 ?_
        refine gfX8_38 E 0 rfl rfl dX8_allNow_18 ?_
        refine V_iload E 4 rfl dX8_allNow_21 ?_
        obtain ⟨hi4, hf⟩ := asr_ok hf
        refine V_iald E 9 rfl hi4 dX8_allNow_23 ?_
        refine V_iconst E (v := (-1 : Int32)) dX8_allNow_24 (by decide) ?_
        obtain ⟨u6, hu6, hf⟩ := bd hf
        have J42 : V G p l e rmMo_allNow s m args below meth c 5 A Q 0 0 (gMo G qMo mo_all mo_past mo_aside mo_states mo_refused mo_causeKind mo_causeOrder mo_corner mo_linkVotes mo_linkE mo_linkF mo_follower mo_ahead mo_least mo_seam mo_above mo_below mo_text mo_textLong mo_place mo_value mo_numbers mo_not) 42 [(0, .ref (qMo 0)), (1, .int p1), (3, .int a7_3), (4, .int a7_4)] [.int u6, .int a7_2] := by
          refine V_iadd E dX8_allNow_42 ?_
          refine V_istore_n E (lv' := [(0, .ref (qMo 0)), (1, .int p1), (2, .int (a7_2 + u6)), (3, .int a7_3), (4, .int a7_4)]) dX8_allNow_43 (by decide) rfl ?_
          refine V_iload_n E 3 rfl dX8_allNow_44 ?_
          refine V_aload_n E 0 rfl dX8_allNow_45 ?_
          refine gfX8_41 E 0 rfl rfl dX8_allNow_46 ?_
          refine V_iload E 4 rfl dX8_allNow_49 ?_
          obtain ⟨hi9, hf⟩ := asr_ok hf
          refine V_iald E 10 rfl hi9 dX8_allNow_51 ?_
          refine V_iconst E (v := (-1 : Int32)) dX8_allNow_52 (by decide) ?_
          refine V_icmp_ne E (tgt := 60) dX8_allNow_53 (by decide) (fun hc10 => ?_) (fun hc10 => ?_)
          · have hf := iq hc10 hf
            refine V_iconst E (v := (0 : Int32)) dX8_allNow_60 (by decide) ?_
            refine V_iadd E dX8_allNow_61 ?_
            refine V_istore_n E (lv' := [(0, .ref (qMo 0)), (1, .int p1), (2, .int (a7_2 + u6)), (3, .int (a7_3 + (0 : Int32))), (4, .int a7_4)]) dX8_allNow_62 (by decide) rfl ?_
            refine V_iinc E (v := (a7_4 + (1 : Int32))) (lv' := [(0, .ref (qMo 0)), (1, .int p1), (2, .int (a7_2 + u6)), (3, .int (a7_3 + (0 : Int32))), (4, .int (a7_4 + (1 : Int32)))]) 4 rfl dX8_allNow_63 rfl (by decide) rfl ?_
            refine V_goto E (tgt := 7) dX8_allNow_66 (by decide) ?_
            exact ih (a7_2 + u6) (a7_3 + (0 : Int32)) (a7_4 + (1 : Int32)) _ hf hk
          · have hf := ip hc10 hf
            refine V_iconst E (v := (1 : Int32)) dX8_allNow_56 (by decide) ?_
            refine V_goto E (tgt := 61) dX8_allNow_57 (by decide) ?_
            refine V_iadd E dX8_allNow_61 ?_
            refine V_istore_n E (lv' := [(0, .ref (qMo 0)), (1, .int p1), (2, .int (a7_2 + u6)), (3, .int (a7_3 + (1 : Int32))), (4, .int a7_4)]) dX8_allNow_62 (by decide) rfl ?_
            refine V_iinc E (v := (a7_4 + (1 : Int32))) (lv' := [(0, .ref (qMo 0)), (1, .int p1), (2, .int (a7_2 + u6)), (3, .int (a7_3 + (1 : Int32))), (4, .int (a7_4 + (1 : Int32)))]) 4 rfl dX8_allNow_63 rfl (by decide) rfl ?_
            refine V_goto E (tgt := 7) dX8_allNow_66 (by decide) ?_
            exact ih (a7_2 + u6) (a7_3 + (1 : Int32)) (a7_4 + (1 : Int32)) _ hf hk
        clear hf
        have hf := hu6
        refine V_icmp_eq E (tgt := 41) dX8_allNow_25 (by decide) (fun hc5 => ?_) (fun hc5 => ?_)
        · have hf := ip hc5 hf
          refine V_iconst E (v := (0 : Int32)) dX8_allNow_41 (by decide) ?_
          refine V_sub [0, 1, 3, 4] rfl ?_
          rw [← Option.some.inj hf] at J42
          exact J42
        · have hf := iq hc5 hf
          refine V_aload_n E 0 rfl dX8_allNow_28 ?_
          refine V_iload E 4 rfl dX8_allNow_29 ?_
          obtain ⟨u7, hu7, hf⟩ := bd hf
          refine V_frW E (Rn_V E (rest := [.int a7_2]) mlX8_211 wd_yX8_isRight (kMo_isRight l G qMo a7_4 mo_all mo_past mo_aside mo_states mo_refused mo_causeKind mo_causeOrder mo_corner mo_linkVotes mo_linkE mo_linkF mo_follower mo_ahead mo_least mo_seam mo_above mo_below mo_text mo_textLong mo_place mo_value mo_numbers mo_not u7 hu7) ⟨rfl, rfl, Nat.le_of_ble_eq_true rfl, Nat.le_of_ble_eq_true rfl⟩ 0 rfl rfl rfl rfl rfl (Nat.le_of_ble_eq_true rfl) dX8_allNow_31) ?_
          show V G p l e rmMo_allNow s m args below meth c 5 A Q 0 0 (gMo G qMo mo_all mo_past mo_aside mo_states mo_refused mo_causeKind mo_causeOrder mo_corner mo_linkVotes mo_linkE mo_linkF mo_follower mo_ahead mo_least mo_seam mo_above mo_below mo_text mo_textLong mo_place mo_value mo_numbers mo_not) 34 [(0, .ref (qMo 0)), (1, .int p1), (2, .int a7_2), (3, .int a7_3), (4, .int a7_4)] [.int u7, .int a7_2]
          refine V_if_eq E (tgt := 41) dX8_allNow_34 (by decide) (fun hc8 => ?_) (fun hc8 => ?_)
          · have hf := ip hc8 hf
            refine V_iconst E (v := (0 : Int32)) dX8_allNow_41 (by decide) ?_
            refine V_sub [0, 1, 3, 4] rfl ?_
            rw [← Option.some.inj hf] at J42
            exact J42
          · have hf := iq hc8 hf
            refine V_iconst E (v := (1 : Int32)) dX8_allNow_37 (by decide) ?_
            refine V_goto E (tgt := 42) dX8_allNow_38 (by decide) ?_
            refine V_sub [0, 1, 3, 4] rfl ?_
            rw [← Option.some.inj hf] at J42
            exact J42
  obtain ⟨u1, hu1, hf⟩ := bd hf
  refine L7 FU (0 : Int32) (0 : Int32) (0 : Int32) u1 hu1 ?_
  refine V_iload_n E 1 rfl dX8_allNow_69 ?_
  by_cases hc11 : p1 = (0 : Int32)
  · have hf := ip hc11 hf
    refine V_tsIn E (tgt := 104) (off := 34) dX8_allNow_70 (by rw [hc11]; decide) (by decide) ?_
    refine V_aload_n E 0 rfl dX8_allNow_104 ?_
    obtain ⟨u12, hu12, hf⟩ := bd hf
    refine V_frW E (Rn_V E (rest := []) mlX8_199 wd_yX8_taken (kMo_taken l G qMo mo_all mo_past mo_aside mo_states mo_refused mo_causeKind mo_causeOrder mo_corner mo_linkVotes mo_linkE mo_linkF mo_follower mo_ahead mo_least mo_seam mo_above mo_below mo_text mo_textLong mo_place mo_value mo_numbers mo_not u12 hu12) ⟨rfl, rfl, Nat.le_of_ble_eq_true rfl, Nat.le_of_ble_eq_true rfl⟩ 0 rfl rfl rfl rfl rfl (Nat.le_of_ble_eq_true rfl) dX8_allNow_105) ?_
    show V G p l e rmMo_allNow s m args below meth c 5 A Q 0 0 (gMo G qMo mo_all mo_past mo_aside mo_states mo_refused mo_causeKind mo_causeOrder mo_corner mo_linkVotes mo_linkE mo_linkF mo_follower mo_ahead mo_least mo_seam mo_above mo_below mo_text mo_textLong mo_place mo_value mo_numbers mo_not) 108 [(0, .ref (qMo 0)), (1, .int p1), (2, .int u1.1), (3, .int u1.2)] [.int u12]
    have h9 := hret 108 [(0, .ref (qMo 0)), (1, .int p1), (2, .int u1.1), (3, .int u1.2)] dX8_allNow_108
    rw [← (Option.some.inj hf)] at h9
    exact h9
  · have hf := iq hc11 hf
    by_cases hc13 : p1 = (1 : Int32)
    · have hf := ip hc13 hf
      refine V_tsIn E (tgt := 109) (off := 39) dX8_allNow_70 (by rw [hc13]; decide) (by decide) ?_
      refine V_aload_n E 0 rfl dX8_allNow_109 ?_
      obtain ⟨u14, hu14, hf⟩ := bd hf
      refine V_frW E (Rn_V E (rest := []) mlX8_214 wd_yX8_isClosed (kMo_isClosed l G qMo mo_all mo_past mo_aside mo_states mo_refused mo_causeKind mo_causeOrder mo_corner mo_linkVotes mo_linkE mo_linkF mo_follower mo_ahead mo_least mo_seam mo_above mo_below mo_text mo_textLong mo_place mo_value mo_numbers mo_not u14 hu14) ⟨rfl, rfl, Nat.le_of_ble_eq_true rfl, Nat.le_of_ble_eq_true rfl⟩ 0 rfl rfl rfl rfl rfl (Nat.le_of_ble_eq_true rfl) dX8_allNow_110) ?_
      show V G p l e rmMo_allNow s m args below meth c 5 A Q 0 0 (gMo G qMo mo_all mo_past mo_aside mo_states mo_refused mo_causeKind mo_causeOrder mo_corner mo_linkVotes mo_linkE mo_linkF mo_follower mo_ahead mo_least mo_seam mo_above mo_below mo_text mo_textLong mo_place mo_value mo_numbers mo_not) 113 [(0, .ref (qMo 0)), (1, .int p1), (2, .int u1.1), (3, .int u1.2)] [.int u14]
      refine V_if_eq E (tgt := 120) dX8_allNow_113 (by decide) (fun hc15 => ?_) (fun hc15 => ?_)
      · have hf := ip hc15 hf
        refine V_iconst E (v := (0 : Int32)) dX8_allNow_120 (by decide) ?_
        have h9 := hret 121 [(0, .ref (qMo 0)), (1, .int p1), (2, .int u1.1), (3, .int u1.2)] dX8_allNow_121
        rw [← (Option.some.inj hf)] at h9
        exact h9
      · have hf := iq hc15 hf
        refine V_iconst E (v := (1 : Int32)) dX8_allNow_116 (by decide) ?_
        refine V_goto E (tgt := 121) dX8_allNow_117 (by decide) ?_
        have h9 := hret 121 [(0, .ref (qMo 0)), (1, .int p1), (2, .int u1.1), (3, .int u1.2)] dX8_allNow_121
        rw [← (Option.some.inj hf)] at h9
        exact h9
    · have hf := iq hc13 hf
      by_cases hc16 : p1 = (2 : Int32)
      · have hf := ip hc16 hf
        refine V_tsIn E (tgt := 122) (off := 52) dX8_allNow_70 (by rw [hc16]; decide) (by decide) ?_
        refine V_aload_n E 0 rfl dX8_allNow_122 ?_
        refine V_iconst E (v := (0 : Int32)) dX8_allNow_123 (by decide) ?_
        obtain ⟨u17, hu17, hf⟩ := bd hf
        refine V_frW E (Rn_V E (rest := []) mlX8_218 wd_yX8_sumOf (kMo_sumOf l G qMo (0 : Int32) mo_all mo_past mo_aside mo_states mo_refused mo_causeKind mo_causeOrder mo_corner mo_linkVotes mo_linkE mo_linkF mo_follower mo_ahead mo_least mo_seam mo_above mo_below mo_text mo_textLong mo_place mo_value mo_numbers mo_not u17 hu17) ⟨rfl, rfl, Nat.le_of_ble_eq_true rfl, Nat.le_of_ble_eq_true rfl⟩ 0 rfl rfl rfl rfl rfl (Nat.le_of_ble_eq_true rfl) dX8_allNow_124) ?_
        show V G p l e rmMo_allNow s m args below meth c 5 A Q 0 0 (gMo G qMo mo_all mo_past mo_aside mo_states mo_refused mo_causeKind mo_causeOrder mo_corner mo_linkVotes mo_linkE mo_linkF mo_follower mo_ahead mo_least mo_seam mo_above mo_below mo_text mo_textLong mo_place mo_value mo_numbers mo_not) 127 [(0, .ref (qMo 0)), (1, .int p1), (2, .int u1.1), (3, .int u1.2)] [.int u17]
        have h9 := hret 127 [(0, .ref (qMo 0)), (1, .int p1), (2, .int u1.1), (3, .int u1.2)] dX8_allNow_127
        rw [← (Option.some.inj hf)] at h9
        exact h9
      · have hf := iq hc16 hf
        by_cases hc18 : p1 = (3 : Int32)
        · have hf := ip hc18 hf
          refine V_tsIn E (tgt := 128) (off := 58) dX8_allNow_70 (by rw [hc18]; decide) (by decide) ?_
          refine V_aload_n E 0 rfl dX8_allNow_128 ?_
          refine V_iconst E (v := (1 : Int32)) dX8_allNow_129 (by decide) ?_
          obtain ⟨u19, hu19, hf⟩ := bd hf
          refine V_frW E (Rn_V E (rest := []) mlX8_218 wd_yX8_sumOf (kMo_sumOf l G qMo (1 : Int32) mo_all mo_past mo_aside mo_states mo_refused mo_causeKind mo_causeOrder mo_corner mo_linkVotes mo_linkE mo_linkF mo_follower mo_ahead mo_least mo_seam mo_above mo_below mo_text mo_textLong mo_place mo_value mo_numbers mo_not u19 hu19) ⟨rfl, rfl, Nat.le_of_ble_eq_true rfl, Nat.le_of_ble_eq_true rfl⟩ 0 rfl rfl rfl rfl rfl (Nat.le_of_ble_eq_true rfl) dX8_allNow_130) ?_
          show V G p l e rmMo_allNow s m args below meth c 5 A Q 0 0 (gMo G qMo mo_all mo_past mo_aside mo_states mo_refused mo_causeKind mo_causeOrder mo_corner mo_linkVotes mo_linkE mo_linkF mo_follower mo_ahead mo_least mo_seam mo_above mo_below mo_text mo_textLong mo_place mo_value mo_numbers mo_not) 133 [(0, .ref (qMo 0)), (1, .int p1), (2, .int u1.1), (3, .int u1.2)] [.int u19]
          refine V_bipush E (v := (6 : Int32)) dX8_allNow_133 (by decide) ?_
          refine V_iadd E dX8_allNow_135 ?_
          have h9 := hret 136 [(0, .ref (qMo 0)), (1, .int p1), (2, .int u1.1), (3, .int u1.2)] dX8_allNow_136
          rw [← (Option.some.inj hf)] at h9
          exact h9
        · have hf := iq hc18 hf
          by_cases hc20 : p1 = (4 : Int32)
          · have hf := ip hc20 hf
            refine V_tsIn E (tgt := 137) (off := 67) dX8_allNow_70 (by rw [hc20]; decide) (by decide) ?_
            refine V_iload_n E 2 rfl dX8_allNow_137 ?_
            have h9 := hret 138 [(0, .ref (qMo 0)), (1, .int p1), (2, .int u1.1), (3, .int u1.2)] dX8_allNow_138
            rw [← (Option.some.inj hf)] at h9
            exact h9
          · have hf := iq hc20 hf
            refine V_tsD E (tgt := 139) [0, 1, 2, 3, 4] dX8_allNow_70 (List.forall_mem_cons.mpr ⟨tsne hc11 (by decide), List.forall_mem_cons.mpr ⟨tsne hc13 (by decide), List.forall_mem_cons.mpr ⟨tsne hc16 (by decide), List.forall_mem_cons.mpr ⟨tsne hc18 (by decide), List.forall_mem_cons.mpr ⟨tsne hc20 (by decide), fun _ h => absurd h List.not_mem_nil⟩⟩⟩⟩⟩) (by decide) (by decide) (by decide) ?_
            refine V_iload_n E 3 rfl dX8_allNow_139 ?_
            have h9 := hret 140 [(0, .ref (qMo 0)), (1, .int p1), (2, .int u1.1), (3, .int u1.2)] dX8_allNow_140
            rw [← (Option.some.inj hf)] at h9
            exact h9
abbrev rmMo_all : Room := { frames := 8, cells := 0, slots := 0, locals := 186 }
theorem wd_yX8_all : wdV yX8_all cX8_all 2 (some .int) 1 := ⟨wc_yX8_all, wi_yX8_all, wse_yX8_all, wini_X8, by decide +kernel, by decide +kernel, by decide +kernel⟩
set_option maxHeartbeats 4000000 in
set_option maxRecDepth 100000 in
theorem kMo_all (l : Launch) (G : wG) (qMo : Nat → Nat) (p1 : Int32) (mo_all : Nat → Int32) (mo_past : Nat → Int32) (mo_aside : Nat → Int32) (mo_states : Int32) (mo_refused : Nat → Int32) (mo_causeKind : Int32) (mo_causeOrder : Int32) (mo_corner : Nat → Int32) (mo_linkVotes : Nat → Int32) (mo_linkE : Nat → Int32) (mo_linkF : Nat → Int32) (mo_follower : Nat → Int32) (mo_ahead : Nat → Int32) (mo_least : Nat → Int32) (mo_seam : Nat → Int32) (mo_above : Int64) (mo_below : Int64) (mo_text : Nat → Int32) (mo_textLong : Int32) (mo_place : Int32) (mo_value : Int32) (mo_numbers : Nat → Int32) (mo_not : Int32) (o : Int32 × (Nat → Int32) × (Nat → Int32) × (Nat → Int32) × (Nat → Int32) × (Nat → Int32) × (Nat → Int32) × (Nat → Int32)) (hf : fMo_all p1 mo_all mo_refused mo_corner mo_linkVotes mo_linkE mo_linkF mo_follower mo_ahead = some o) : Ct G l yX8_all cX8_all 2 (some .int) rmMo_all [.ref (qMo 0), .int p1] (gMo G qMo mo_all mo_past mo_aside mo_states mo_refused mo_causeKind mo_causeOrder mo_corner mo_linkVotes mo_linkE mo_linkF mo_follower mo_ahead mo_least mo_seam mo_above mo_below mo_text mo_textLong mo_place mo_value mo_numbers mo_not) (some (.int o.1)) (gMo G qMo mo_all mo_past mo_aside mo_states o.2.1 mo_causeKind mo_causeOrder o.2.2.1 o.2.2.2.1 o.2.2.2.2.1 o.2.2.2.2.2.1 o.2.2.2.2.2.2.1 o.2.2.2.2.2.2.2 mo_least mo_seam mo_above mo_below mo_text mo_textLong mo_place mo_value mo_numbers mo_not) := by
  refine Ct.ofI (by decide +kernel) (Nat.le_of_ble_eq_true rfl) (fun p e s m args below meth c A Q E hret => ?_)
  unfold fMo_all at hf
  show V G p l e rmMo_all s m args below meth c 2 A Q 0 0 (gMo G qMo mo_all mo_past mo_aside mo_states mo_refused mo_causeKind mo_causeOrder mo_corner mo_linkVotes mo_linkE mo_linkF mo_follower mo_ahead mo_least mo_seam mo_above mo_below mo_text mo_textLong mo_place mo_value mo_numbers mo_not) 0 [(0, .ref (qMo 0)), (1, .int p1)] []
  refine V_iload_n E 1 rfl dX8_all_0 ?_
  refine V_i2l E dX8_all_1 ?_
  refine V_lconst E (v := (0 : Int64)) dX8_all_2 (by decide) ?_
  refine V_ldc2 E (v := (5 : Int64)) dX8_all_3 kX8_102 ?_
  obtain ⟨u1, hu1, hf⟩ := bd hf
  refine V_fr0 E (Rn_S E (rest := []) mlX8_63 wd_yX8_in (kMo_in l G p1.toInt64 (0 : Int64) (5 : Int64) u1 hu1) ⟨rfl, rfl, Nat.le_of_ble_eq_true rfl, Nat.le_of_ble_eq_true rfl⟩ rfl rfl (Nat.le_of_ble_eq_true rfl) dX8_all_6) ?_
  show V G p l e rmMo_all s m args below meth c 2 A Q 0 0 (gMo G qMo mo_all mo_past mo_aside mo_states mo_refused mo_causeKind mo_causeOrder mo_corner mo_linkVotes mo_linkE mo_linkF mo_follower mo_ahead mo_least mo_seam mo_above mo_below mo_text mo_textLong mo_place mo_value mo_numbers mo_not) 9 [(0, .ref (qMo 0)), (1, .int p1)] [.int u1]
  refine V_if_ne E (tgt := 19) dX8_all_9 (by decide) (fun hc2 => ?_) (fun hc2 => ?_)
  · have hf := iq hc2 hf
    refine V_aload_n E 0 rfl dX8_all_19 ?_
    obtain ⟨u3, hu3, hf⟩ := bd hf
    refine V_frW E (Rn_V E (rest := []) mlX8_196 wd_yX8_laysChain (kMo_laysChain l G qMo mo_all mo_past mo_aside mo_states mo_refused mo_causeKind mo_causeOrder mo_corner mo_linkVotes mo_linkE mo_linkF mo_follower mo_ahead mo_least mo_seam mo_above mo_below mo_text mo_textLong mo_place mo_value mo_numbers mo_not u3 hu3) ⟨rfl, rfl, Nat.le_of_ble_eq_true rfl, Nat.le_of_ble_eq_true rfl⟩ 0 rfl rfl rfl rfl rfl (Nat.le_of_ble_eq_true rfl) dX8_all_20) ?_
    show V G p l e rmMo_all s m args below meth c 2 A Q 0 0 (gMo G qMo mo_all mo_past mo_aside mo_states mo_refused mo_causeKind mo_causeOrder u3.1 u3.2.1 u3.2.2.1 u3.2.2.2.1 u3.2.2.2.2.1 u3.2.2.2.2.2 mo_least mo_seam mo_above mo_below mo_text mo_textLong mo_place mo_value mo_numbers mo_not) 23 [(0, .ref (qMo 0)), (1, .int p1)] []
    refine V_aload_n E 0 rfl dX8_all_23 ?_
    refine V_iload_n E 1 rfl dX8_all_24 ?_
    obtain ⟨u4, hu4, hf⟩ := bd hf
    refine V_frW E (Rn_V E (rest := []) mlX8_222 wd_yX8_allNow (kMo_allNow l G qMo p1 mo_all mo_past mo_aside mo_states mo_refused mo_causeKind mo_causeOrder u3.1 u3.2.1 u3.2.2.1 u3.2.2.2.1 u3.2.2.2.2.1 u3.2.2.2.2.2 mo_least mo_seam mo_above mo_below mo_text mo_textLong mo_place mo_value mo_numbers mo_not u4 hu4) ⟨rfl, rfl, Nat.le_of_ble_eq_true rfl, Nat.le_of_ble_eq_true rfl⟩ 0 rfl rfl rfl rfl rfl (Nat.le_of_ble_eq_true rfl) dX8_all_25) ?_
    show V G p l e rmMo_all s m args below meth c 2 A Q 0 0 (gMo G qMo mo_all mo_past mo_aside mo_states mo_refused mo_causeKind mo_causeOrder u3.1 u3.2.1 u3.2.2.1 u3.2.2.2.1 u3.2.2.2.2.1 u3.2.2.2.2.2 mo_least mo_seam mo_above mo_below mo_text mo_textLong mo_place mo_value mo_numbers mo_not) 28 [(0, .ref (qMo 0)), (1, .int p1)] [.int u4]
    have h9 := hret 28 [(0, .ref (qMo 0)), (1, .int p1)] dX8_all_28
    rw [← (Option.some.inj hf)] at h9
    exact h9
  · have hf := ip hc2 hf
    refine V_aload_n E 0 rfl dX8_all_12 ?_
    refine V_bipush E (v := (-2 : Int32)) dX8_all_13 (by decide) ?_
    obtain ⟨u5, hu5, hf⟩ := bd hf
    refine V_frW E (Rn_V E (rest := []) mlX8_91 wd_yX8_refuses (kMo_refuses l G qMo (-2 : Int32) mo_all mo_past mo_aside mo_states mo_refused mo_causeKind mo_causeOrder mo_corner mo_linkVotes mo_linkE mo_linkF mo_follower mo_ahead mo_least mo_seam mo_above mo_below mo_text mo_textLong mo_place mo_value mo_numbers mo_not u5 hu5) ⟨rfl, rfl, Nat.le_of_ble_eq_true rfl, Nat.le_of_ble_eq_true rfl⟩ 0 rfl rfl rfl rfl rfl (Nat.le_of_ble_eq_true rfl) dX8_all_15) ?_
    show V G p l e rmMo_all s m args below meth c 2 A Q 0 0 (gMo G qMo mo_all mo_past mo_aside mo_states u5.2 mo_causeKind mo_causeOrder mo_corner mo_linkVotes mo_linkE mo_linkF mo_follower mo_ahead mo_least mo_seam mo_above mo_below mo_text mo_textLong mo_place mo_value mo_numbers mo_not) 18 [(0, .ref (qMo 0)), (1, .int p1)] [.int u5.1]
    have h9 := hret 18 [(0, .ref (qMo 0)), (1, .int p1)] dX8_all_18
    rw [← (Option.some.inj hf)] at h9
    exact h9
abbrev rmMo_floorBy : Room := { frames := 0, cells := 0, slots := 0, locals := 0 }
theorem wd_yX8_floorBy : wdS yX8_floorBy cX8_floorBy 3 (some .int) 2 := ⟨wc_yX8_floorBy, wst_yX8_floorBy, wini_X8, by decide +kernel, by decide +kernel, by decide +kernel⟩
set_option maxHeartbeats 4000000 in
set_option maxRecDepth 100000 in
theorem kMo_floorBy (l : Launch) (G : wG) (p0 : Int32) (p1 : Int32) (o : Int32) (hf : fMo_floorBy p0 p1 = some o) : Ct G l yX8_floorBy cX8_floorBy 3 (some .int) rmMo_floorBy [.int p0, .int p1] [] (some (.int o)) [] := by
  refine Ct.ofI (by decide +kernel) (Nat.le_of_ble_eq_true rfl) (fun p e s m args below meth c A Q E hret => ?_)
  unfold fMo_floorBy at hf
  show V G p l e rmMo_floorBy s m args below meth c 3 A Q 0 0 [] 0 [(0, .int p0), (1, .int p1)] []
  refine V_iload_n E 0 rfl dX8_floorBy_0 ?_
  refine V_iload_n E 1 rfl dX8_floorBy_1 ?_
  obtain ⟨hz1, hf⟩ := asr_ok hf
  refine V_idiv E dX8_floorBy_2 hz1 ?_
  refine V_istore_n E (lv' := [(0, .int p0), (1, .int p1), (2, .int (p0 / p1))]) dX8_floorBy_3 (by decide) rfl ?_
  refine V_iload_n E 0 rfl dX8_floorBy_4 ?_
  refine V_iload_n E 1 rfl dX8_floorBy_5 ?_
  obtain ⟨hz2, hf⟩ := asr_ok hf
  refine V_irem E dX8_floorBy_6 hz2 ?_
  refine V_if_ge E (tgt := 16) dX8_floorBy_7 (by decide) (fun hc3 => ?_) (fun hc3 => ?_)
  · have hf := ip hc3 hf
    refine V_iload_n E 2 rfl dX8_floorBy_16 ?_
    have h9 := hret 17 [(0, .int p0), (1, .int p1), (2, .int (p0 / p1))] dX8_floorBy_17
    rw [← (Option.some.inj hf)] at h9
    exact h9
  · have hf := iq hc3 hf
    refine V_iload_n E 2 rfl dX8_floorBy_10 ?_
    refine V_iconst E (v := (1 : Int32)) dX8_floorBy_11 (by decide) ?_
    refine V_isub E dX8_floorBy_12 ?_
    refine V_goto E (tgt := 17) dX8_floorBy_13 (by decide) ?_
    have h9 := hret 17 [(0, .int p0), (1, .int p1), (2, .int (p0 / p1))] dX8_floorBy_17
    rw [← (Option.some.inj hf)] at h9
    exact h9
abbrev rmMo_place : Room := { frames := 8, cells := 0, slots := 0, locals := 186 }
theorem wd_yX8_place : wdV yX8_place cX8_place 7 (some .int) 2 := ⟨wc_yX8_place, wi_yX8_place, wse_yX8_place, wini_X8, by decide +kernel, by decide +kernel, by decide +kernel⟩
set_option maxHeartbeats 4000000 in
set_option maxRecDepth 100000 in
theorem kMo_place (l : Launch) (G : wG) (qMo : Nat → Nat) (p1 : Int32) (p2 : Int32) (mo_all : Nat → Int32) (mo_past : Nat → Int32) (mo_aside : Nat → Int32) (mo_states : Int32) (mo_refused : Nat → Int32) (mo_causeKind : Int32) (mo_causeOrder : Int32) (mo_corner : Nat → Int32) (mo_linkVotes : Nat → Int32) (mo_linkE : Nat → Int32) (mo_linkF : Nat → Int32) (mo_follower : Nat → Int32) (mo_ahead : Nat → Int32) (mo_least : Nat → Int32) (mo_seam : Nat → Int32) (mo_above : Int64) (mo_below : Int64) (mo_text : Nat → Int32) (mo_textLong : Int32) (mo_place : Int32) (mo_value : Int32) (mo_numbers : Nat → Int32) (mo_not : Int32) (o : Int32 × (Nat → Int32) × (Nat → Int32) × (Nat → Int32) × (Nat → Int32) × (Nat → Int32) × (Nat → Int32) × (Nat → Int32)) (hf : fMo_place p1 p2 mo_all mo_refused mo_corner mo_linkVotes mo_linkE mo_linkF mo_follower mo_ahead = some o) : Ct G l yX8_place cX8_place 7 (some .int) rmMo_place [.ref (qMo 0), .int p1, .int p2] (gMo G qMo mo_all mo_past mo_aside mo_states mo_refused mo_causeKind mo_causeOrder mo_corner mo_linkVotes mo_linkE mo_linkF mo_follower mo_ahead mo_least mo_seam mo_above mo_below mo_text mo_textLong mo_place mo_value mo_numbers mo_not) (some (.int o.1)) (gMo G qMo mo_all mo_past mo_aside mo_states o.2.1 mo_causeKind mo_causeOrder o.2.2.1 o.2.2.2.1 o.2.2.2.2.1 o.2.2.2.2.2.1 o.2.2.2.2.2.2.1 o.2.2.2.2.2.2.2 mo_least mo_seam mo_above mo_below mo_text mo_textLong mo_place mo_value mo_numbers mo_not) := by
  refine Ct.ofI (by decide +kernel) (Nat.le_of_ble_eq_true rfl) (fun p e s m args below meth c A Q E hret => ?_)
  unfold fMo_place at hf
  show V G p l e rmMo_place s m args below meth c 7 A Q 0 0 (gMo G qMo mo_all mo_past mo_aside mo_states mo_refused mo_causeKind mo_causeOrder mo_corner mo_linkVotes mo_linkE mo_linkF mo_follower mo_ahead mo_least mo_seam mo_above mo_below mo_text mo_textLong mo_place mo_value mo_numbers mo_not) 0 [(0, .ref (qMo 0)), (1, .int p1), (2, .int p2)] []
  refine V_aload_n E 0 rfl dX8_place_0 ?_
  refine V_iload_n E 1 rfl dX8_place_1 ?_
  obtain ⟨u1, hu1, hf⟩ := bd hf
  refine V_frW E (Rn_V E (rest := []) mlX8_128 wd_yX8_isPicture (kMo_isPicture l G qMo p1 mo_all mo_past mo_aside mo_states mo_refused mo_causeKind mo_causeOrder mo_corner mo_linkVotes mo_linkE mo_linkF mo_follower mo_ahead mo_least mo_seam mo_above mo_below mo_text mo_textLong mo_place mo_value mo_numbers mo_not u1 hu1) ⟨rfl, rfl, Nat.le_of_ble_eq_true rfl, Nat.le_of_ble_eq_true rfl⟩ 0 rfl rfl rfl rfl rfl (Nat.le_of_ble_eq_true rfl) dX8_place_2) ?_
  show V G p l e rmMo_place s m args below meth c 7 A Q 0 0 (gMo G qMo mo_all mo_past mo_aside mo_states mo_refused mo_causeKind mo_causeOrder mo_corner mo_linkVotes mo_linkE mo_linkF mo_follower mo_ahead mo_least mo_seam mo_above mo_below mo_text mo_textLong mo_place mo_value mo_numbers mo_not) 5 [(0, .ref (qMo 0)), (1, .int p1), (2, .int p2)] [.int u1]
  refine V_if_eq E (tgt := 18) dX8_place_5 (by decide) (fun hc2 => ?_) (fun hc2 => ?_)
  · have hf := ip hc2 hf
    refine V_aload_n E 0 rfl dX8_place_18 ?_
    refine V_bipush E (v := (-2 : Int32)) dX8_place_19 (by decide) ?_
    obtain ⟨u3, hu3, hf⟩ := bd hf
    refine V_frW E (Rn_V E (rest := []) mlX8_91 wd_yX8_refuses (kMo_refuses l G qMo (-2 : Int32) mo_all mo_past mo_aside mo_states mo_refused mo_causeKind mo_causeOrder mo_corner mo_linkVotes mo_linkE mo_linkF mo_follower mo_ahead mo_least mo_seam mo_above mo_below mo_text mo_textLong mo_place mo_value mo_numbers mo_not u3 hu3) ⟨rfl, rfl, Nat.le_of_ble_eq_true rfl, Nat.le_of_ble_eq_true rfl⟩ 0 rfl rfl rfl rfl rfl (Nat.le_of_ble_eq_true rfl) dX8_place_21) ?_
    show V G p l e rmMo_place s m args below meth c 7 A Q 0 0 (gMo G qMo mo_all mo_past mo_aside mo_states u3.2 mo_causeKind mo_causeOrder mo_corner mo_linkVotes mo_linkE mo_linkF mo_follower mo_ahead mo_least mo_seam mo_above mo_below mo_text mo_textLong mo_place mo_value mo_numbers mo_not) 24 [(0, .ref (qMo 0)), (1, .int p1), (2, .int p2)] [.int u3.1]
    have h9 := hret 24 [(0, .ref (qMo 0)), (1, .int p1), (2, .int p2)] dX8_place_24
    rw [← (Option.some.inj hf)] at h9
    exact h9
  · have hf := iq hc2 hf
    refine V_iload_n E 2 rfl dX8_place_8 ?_
    refine V_i2l E dX8_place_9 ?_
    refine V_lconst E (v := (0 : Int64)) dX8_place_10 (by decide) ?_
    refine V_lconst E (v := (1 : Int64)) dX8_place_11 (by decide) ?_
    obtain ⟨u4, hu4, hf⟩ := bd hf
    refine V_fr0 E (Rn_S E (rest := []) mlX8_63 wd_yX8_in (kMo_in l G p2.toInt64 (0 : Int64) (1 : Int64) u4 hu4) ⟨rfl, rfl, Nat.le_of_ble_eq_true rfl, Nat.le_of_ble_eq_true rfl⟩ rfl rfl (Nat.le_of_ble_eq_true rfl) dX8_place_12) ?_
    show V G p l e rmMo_place s m args below meth c 7 A Q 0 0 (gMo G qMo mo_all mo_past mo_aside mo_states mo_refused mo_causeKind mo_causeOrder mo_corner mo_linkVotes mo_linkE mo_linkF mo_follower mo_ahead mo_least mo_seam mo_above mo_below mo_text mo_textLong mo_place mo_value mo_numbers mo_not) 15 [(0, .ref (qMo 0)), (1, .int p1), (2, .int p2)] [.int u4]
    refine V_if_ne E (tgt := 25) dX8_place_15 (by decide) (fun hc5 => ?_) (fun hc5 => ?_)
    · have hf := iq hc5 hf
      refine V_aload_n E 0 rfl dX8_place_25 ?_
      obtain ⟨u6, hu6, hf⟩ := bd hf
      refine V_frW E (Rn_V E (rest := []) mlX8_196 wd_yX8_laysChain (kMo_laysChain l G qMo mo_all mo_past mo_aside mo_states mo_refused mo_causeKind mo_causeOrder mo_corner mo_linkVotes mo_linkE mo_linkF mo_follower mo_ahead mo_least mo_seam mo_above mo_below mo_text mo_textLong mo_place mo_value mo_numbers mo_not u6 hu6) ⟨rfl, rfl, Nat.le_of_ble_eq_true rfl, Nat.le_of_ble_eq_true rfl⟩ 0 rfl rfl rfl rfl rfl (Nat.le_of_ble_eq_true rfl) dX8_place_26) ?_
      show V G p l e rmMo_place s m args below meth c 7 A Q 0 0 (gMo G qMo mo_all mo_past mo_aside mo_states mo_refused mo_causeKind mo_causeOrder u6.1 u6.2.1 u6.2.2.1 u6.2.2.2.1 u6.2.2.2.2.1 u6.2.2.2.2.2 mo_least mo_seam mo_above mo_below mo_text mo_textLong mo_place mo_value mo_numbers mo_not) 29 [(0, .ref (qMo 0)), (1, .int p1), (2, .int p2)] []
      refine V_aload_n E 0 rfl dX8_place_29 ?_
      obtain ⟨u7, hu7, hf⟩ := bd hf
      refine V_frW E (Rn_V E (rest := []) mlX8_214 wd_yX8_isClosed (kMo_isClosed l G qMo mo_all mo_past mo_aside mo_states mo_refused mo_causeKind mo_causeOrder u6.1 u6.2.1 u6.2.2.1 u6.2.2.2.1 u6.2.2.2.2.1 u6.2.2.2.2.2 mo_least mo_seam mo_above mo_below mo_text mo_textLong mo_place mo_value mo_numbers mo_not u7 hu7) ⟨rfl, rfl, Nat.le_of_ble_eq_true rfl, Nat.le_of_ble_eq_true rfl⟩ 0 rfl rfl rfl rfl rfl (Nat.le_of_ble_eq_true rfl) dX8_place_30) ?_
      show V G p l e rmMo_place s m args below meth c 7 A Q 0 0 (gMo G qMo mo_all mo_past mo_aside mo_states mo_refused mo_causeKind mo_causeOrder u6.1 u6.2.1 u6.2.2.1 u6.2.2.2.1 u6.2.2.2.2.1 u6.2.2.2.2.2 mo_least mo_seam mo_above mo_below mo_text mo_textLong mo_place mo_value mo_numbers mo_not) 33 [(0, .ref (qMo 0)), (1, .int p1), (2, .int p2)] [.int u7]
      refine V_if_ne E (tgt := 43) dX8_place_33 (by decide) (fun hc8 => ?_) (fun hc8 => ?_)
      · have hf := iq hc8 hf
        refine V_iconst E (v := (0 : Int32)) dX8_place_43 (by decide) ?_
        refine V_istore_n E (lv' := [(0, .ref (qMo 0)), (1, .int p1), (2, .int p2), (3, .int (0 : Int32))]) dX8_place_44 (by decide) rfl ?_
        refine V_iconst E (v := (0 : Int32)) dX8_place_45 (by decide) ?_
        refine V_istore E (lv' := [(0, .ref (qMo 0)), (1, .int p1), (2, .int p2), (3, .int (0 : Int32)), (4, .int (0 : Int32))]) dX8_place_46 (by decide) rfl ?_
        refine V_iconst E (v := (0 : Int32)) dX8_place_48 (by decide) ?_
        refine V_istore E (lv' := [(0, .ref (qMo 0)), (1, .int p1), (2, .int p2), (3, .int (0 : Int32)), (4, .int (0 : Int32)), (5, .int (0 : Int32))]) dX8_place_49 (by decide) rfl ?_
        refine V_iconst E (v := (0 : Int32)) dX8_place_51 (by decide) ?_
        refine V_istore E (lv' := [(0, .ref (qMo 0)), (1, .int p1), (2, .int p2), (3, .int (0 : Int32)), (4, .int (0 : Int32)), (5, .int (0 : Int32)), (6, .int (0 : Int32))]) dX8_place_52 (by decide) rfl ?_
        have L54 : ∀ (n : Nat) (a54_3 : Int32) (a54_4 : Int32) (a54_5 : Int32) (a54_6 : Int32) (u : Int32 × Int32 × Int32), fMo_place_L54 p1 u6.2.2.1 u6.2.2.2.1 u6.2.2.2.2.1 n a54_3 a54_4 a54_5 a54_6 = some u → (V G p l e rmMo_place s m args below meth c 7 A Q 0 0 (gMo G qMo mo_all mo_past mo_aside mo_states mo_refused mo_causeKind mo_causeOrder u6.1 u6.2.1 u6.2.2.1 u6.2.2.2.1 u6.2.2.2.2.1 u6.2.2.2.2.2 mo_least mo_seam mo_above mo_below mo_text mo_textLong mo_place mo_value mo_numbers mo_not) 95 [(0, .ref (qMo 0)), (2, .int p2), (3, .int u.1), (4, .int u.2.1), (5, .int u.2.2)] []) → V G p l e rmMo_place s m args below meth c 7 A Q 0 0 (gMo G qMo mo_all mo_past mo_aside mo_states mo_refused mo_causeKind mo_causeOrder u6.1 u6.2.1 u6.2.2.1 u6.2.2.2.1 u6.2.2.2.2.1 u6.2.2.2.2.2 mo_least mo_seam mo_above mo_below mo_text mo_textLong mo_place mo_value mo_numbers mo_not) 54 [(0, .ref (qMo 0)), (1, .int p1), (2, .int p2), (3, .int a54_3), (4, .int a54_4), (5, .int a54_5), (6, .int a54_6)] [] := by
          intro n
          induction n with
          | zero =>
            intro a54_3 a54_4 a54_5 a54_6 u hf hk
            rw [fMo_place_L54] at hf
            cases hf
          | succ n ih =>
            intro a54_3 a54_4 a54_5 a54_6 u hf hk
            rw [fMo_place_L54] at hf
            refine V_iload E 6 rfl dX8_place_54 ?_
            refine V_iload_n E 1 rfl dX8_place_56 ?_
            refine V_icmp_eq E (tgt := 95) dX8_place_57 (by decide) (fun hc10 => ?_) (fun hc10 => ?_)
            · have hf := ip hc10 hf
              refine V_sub [0, 2, 3, 4, 5] rfl ?_
              rw [← Option.some.inj hf] at hk
              exact hk
            · have hf := iq hc10 hf
              refine V_iload_n E 3 rfl dX8_place_60 ?_
              refine V_aload_n E 0 rfl dX8_place_61 ?_
              refine V_iload E 6 rfl dX8_place_62 ?_
              obtain ⟨u11, hu11, hf⟩ := bd hf
              refine V_frW E (Rn_V E (rest := [.int a54_3]) mlX8_205 wd_yX8_fOf (kMo_fOf l G qMo a54_6 mo_all mo_past mo_aside mo_states mo_refused mo_causeKind mo_causeOrder u6.1 u6.2.1 u6.2.2.1 u6.2.2.2.1 u6.2.2.2.2.1 u6.2.2.2.2.2 mo_least mo_seam mo_above mo_below mo_text mo_textLong mo_place mo_value mo_numbers mo_not u11 hu11) ⟨rfl, rfl, Nat.le_of_ble_eq_true rfl, Nat.le_of_ble_eq_true rfl⟩ 0 rfl rfl rfl rfl rfl (Nat.le_of_ble_eq_true rfl) dX8_place_64) ?_
              show V G p l e rmMo_place s m args below meth c 7 A Q 0 0 (gMo G qMo mo_all mo_past mo_aside mo_states mo_refused mo_causeKind mo_causeOrder u6.1 u6.2.1 u6.2.2.1 u6.2.2.2.1 u6.2.2.2.2.1 u6.2.2.2.2.2 mo_least mo_seam mo_above mo_below mo_text mo_textLong mo_place mo_value mo_numbers mo_not) 67 [(0, .ref (qMo 0)), (1, .int p1), (2, .int p2), (3, .int a54_3), (4, .int a54_4), (5, .int a54_5), (6, .int a54_6)] [.int u11, .int a54_3]
              refine V_iadd E dX8_place_67 ?_
              refine V_istore_n E (lv' := [(0, .ref (qMo 0)), (1, .int p1), (2, .int p2), (3, .int (a54_3 + u11)), (4, .int a54_4), (5, .int a54_5), (6, .int a54_6)]) dX8_place_68 (by decide) rfl ?_
              refine V_iload E 4 rfl dX8_place_69 ?_
              refine V_aload_n E 0 rfl dX8_place_71 ?_
              refine V_iload E 6 rfl dX8_place_72 ?_
              obtain ⟨u12, hu12, hf⟩ := bd hf
              refine V_frW E (Rn_V E (rest := [.int a54_4]) mlX8_202 wd_yX8_eOf (kMo_eOf l G qMo a54_6 mo_all mo_past mo_aside mo_states mo_refused mo_causeKind mo_causeOrder u6.1 u6.2.1 u6.2.2.1 u6.2.2.2.1 u6.2.2.2.2.1 u6.2.2.2.2.2 mo_least mo_seam mo_above mo_below mo_text mo_textLong mo_place mo_value mo_numbers mo_not u12 hu12) ⟨rfl, rfl, Nat.le_of_ble_eq_true rfl, Nat.le_of_ble_eq_true rfl⟩ 0 rfl rfl rfl rfl rfl (Nat.le_of_ble_eq_true rfl) dX8_place_74) ?_
              show V G p l e rmMo_place s m args below meth c 7 A Q 0 0 (gMo G qMo mo_all mo_past mo_aside mo_states mo_refused mo_causeKind mo_causeOrder u6.1 u6.2.1 u6.2.2.1 u6.2.2.2.1 u6.2.2.2.2.1 u6.2.2.2.2.2 mo_least mo_seam mo_above mo_below mo_text mo_textLong mo_place mo_value mo_numbers mo_not) 77 [(0, .ref (qMo 0)), (1, .int p1), (2, .int p2), (3, .int (a54_3 + u11)), (4, .int a54_4), (5, .int a54_5), (6, .int a54_6)] [.int u12, .int a54_4]
              refine V_iadd E dX8_place_77 ?_
              refine V_istore E (lv' := [(0, .ref (qMo 0)), (1, .int p1), (2, .int p2), (3, .int (a54_3 + u11)), (4, .int (a54_4 + u12)), (5, .int a54_5), (6, .int a54_6)]) dX8_place_78 (by decide) rfl ?_
              refine V_iinc E (v := (a54_5 + (1 : Int32))) (lv' := [(0, .ref (qMo 0)), (1, .int p1), (2, .int p2), (3, .int (a54_3 + u11)), (4, .int (a54_4 + u12)), (5, .int (a54_5 + (1 : Int32))), (6, .int a54_6)]) 5 rfl dX8_place_80 rfl (by decide) rfl ?_
              refine V_aload_n E 0 rfl dX8_place_83 ?_
              refine gfX8_38 E 0 rfl rfl dX8_place_84 ?_
              refine V_iload E 6 rfl dX8_place_87 ?_
              obtain ⟨hi13, hf⟩ := asr_ok hf
              refine V_iald E 9 rfl hi13 dX8_place_89 ?_
              obtain ⟨t14, ht14, hf⟩ := bd hf
              have ht14 := Option.some.inj ht14
              rw [ht14]
              refine V_istore E (lv' := [(0, .ref (qMo 0)), (1, .int p1), (2, .int p2), (3, .int (a54_3 + u11)), (4, .int (a54_4 + u12)), (5, .int (a54_5 + (1 : Int32))), (6, .int t14)]) dX8_place_90 (by decide) rfl ?_
              refine V_goto E (tgt := 54) dX8_place_92 (by decide) ?_
              exact ih (a54_3 + u11) (a54_4 + u12) (a54_5 + (1 : Int32)) t14 _ hf hk
        obtain ⟨u9, hu9, hf⟩ := bd hf
        refine L54 FU (0 : Int32) (0 : Int32) (0 : Int32) (0 : Int32) u9 hu9 ?_
        refine V_iconst E (v := (2 : Int32)) dX8_place_95 (by decide) ?_
        refine V_aload_n E 0 rfl dX8_place_96 ?_
        refine V_iconst E (v := (1 : Int32)) dX8_place_97 (by decide) ?_
        obtain ⟨u15, hu15, hf⟩ := bd hf
        refine V_frW E (Rn_V E (rest := [.int (2 : Int32)]) mlX8_218 wd_yX8_sumOf (kMo_sumOf l G qMo (1 : Int32) mo_all mo_past mo_aside mo_states mo_refused mo_causeKind mo_causeOrder u6.1 u6.2.1 u6.2.2.1 u6.2.2.2.1 u6.2.2.2.2.1 u6.2.2.2.2.2 mo_least mo_seam mo_above mo_below mo_text mo_textLong mo_place mo_value mo_numbers mo_not u15 hu15) ⟨rfl, rfl, Nat.le_of_ble_eq_true rfl, Nat.le_of_ble_eq_true rfl⟩ 0 rfl rfl rfl rfl rfl (Nat.le_of_ble_eq_true rfl) dX8_place_98) ?_
        show V G p l e rmMo_place s m args below meth c 7 A Q 0 0 (gMo G qMo mo_all mo_past mo_aside mo_states mo_refused mo_causeKind mo_causeOrder u6.1 u6.2.1 u6.2.2.1 u6.2.2.2.1 u6.2.2.2.2.1 u6.2.2.2.2.2 mo_least mo_seam mo_above mo_below mo_text mo_textLong mo_place mo_value mo_numbers mo_not) 101 [(0, .ref (qMo 0)), (2, .int p2), (3, .int u9.1), (4, .int u9.2.1), (5, .int u9.2.2)] [.int u15, .int (2 : Int32)]
        refine V_imul E dX8_place_101 ?_
        refine V_iload E 4 rfl dX8_place_102 ?_
        refine V_imul E dX8_place_104 ?_
        refine V_aload_n E 0 rfl dX8_place_105 ?_
        obtain ⟨u16, hu16, hf⟩ := bd hf
        refine V_frW E (Rn_V E (rest := [.int (((2 : Int32) * u15) * u9.2.2)]) mlX8_59 wd_yX8_many (kMo_many l G qMo mo_all mo_past mo_aside mo_states mo_refused mo_causeKind mo_causeOrder u6.1 u6.2.1 u6.2.2.1 u6.2.2.2.1 u6.2.2.2.2.1 u6.2.2.2.2.2 mo_least mo_seam mo_above mo_below mo_text mo_textLong mo_place mo_value mo_numbers mo_not u16 hu16) ⟨rfl, rfl, Nat.le_of_ble_eq_true rfl, Nat.le_of_ble_eq_true rfl⟩ 0 rfl rfl rfl rfl rfl (Nat.le_of_ble_eq_true rfl) dX8_place_106) ?_
        show V G p l e rmMo_place s m args below meth c 7 A Q 0 0 (gMo G qMo mo_all mo_past mo_aside mo_states mo_refused mo_causeKind mo_causeOrder u6.1 u6.2.1 u6.2.2.1 u6.2.2.2.1 u6.2.2.2.2.1 u6.2.2.2.2.2 mo_least mo_seam mo_above mo_below mo_text mo_textLong mo_place mo_value mo_numbers mo_not) 109 [(0, .ref (qMo 0)), (2, .int p2), (3, .int u9.1), (4, .int u9.2.1), (5, .int u9.2.2)] [.int u16, .int (((2 : Int32) * u15) * u9.2.2)]
        refine V_iadd E dX8_place_109 ?_
        refine V_iconst E (v := (2 : Int32)) dX8_place_110 (by decide) ?_
        refine V_aload_n E 0 rfl dX8_place_111 ?_
        obtain ⟨u17, hu17, hf⟩ := bd hf
        refine V_frW E (Rn_V E (rest := [.int (2 : Int32), .int ((((2 : Int32) * u15) * u9.2.2) + u16)]) mlX8_59 wd_yX8_many (kMo_many l G qMo mo_all mo_past mo_aside mo_states mo_refused mo_causeKind mo_causeOrder u6.1 u6.2.1 u6.2.2.1 u6.2.2.2.1 u6.2.2.2.2.1 u6.2.2.2.2.2 mo_least mo_seam mo_above mo_below mo_text mo_textLong mo_place mo_value mo_numbers mo_not u17 hu17) ⟨rfl, rfl, Nat.le_of_ble_eq_true rfl, Nat.le_of_ble_eq_true rfl⟩ 0 rfl rfl rfl rfl rfl (Nat.le_of_ble_eq_true rfl) dX8_place_112) ?_
        show V G p l e rmMo_place s m args below meth c 7 A Q 0 0 (gMo G qMo mo_all mo_past mo_aside mo_states mo_refused mo_causeKind mo_causeOrder u6.1 u6.2.1 u6.2.2.1 u6.2.2.2.1 u6.2.2.2.2.1 u6.2.2.2.2.2 mo_least mo_seam mo_above mo_below mo_text mo_textLong mo_place mo_value mo_numbers mo_not) 115 [(0, .ref (qMo 0)), (2, .int p2), (3, .int u9.1), (4, .int u9.2.1), (5, .int u9.2.2)] [.int u17, .int (2 : Int32), .int ((((2 : Int32) * u15) * u9.2.2) + u16)]
        refine V_imul E dX8_place_115 ?_
        obtain ⟨u18, hu18, hf⟩ := bd hf
        refine V_fr0 E (Rn_S E (rest := []) mlX8_225 wd_yX8_floorBy (kMo_floorBy l G ((((2 : Int32) * u15) * u9.2.2) + u16) ((2 : Int32) * u17) u18 hu18) ⟨rfl, rfl, Nat.le_of_ble_eq_true rfl, Nat.le_of_ble_eq_true rfl⟩ rfl rfl (Nat.le_of_ble_eq_true rfl) dX8_place_116) ?_
        show V G p l e rmMo_place s m args below meth c 7 A Q 0 0 (gMo G qMo mo_all mo_past mo_aside mo_states mo_refused mo_causeKind mo_causeOrder u6.1 u6.2.1 u6.2.2.1 u6.2.2.2.1 u6.2.2.2.2.1 u6.2.2.2.2.2 mo_least mo_seam mo_above mo_below mo_text mo_textLong mo_place mo_value mo_numbers mo_not) 119 [(0, .ref (qMo 0)), (2, .int p2), (3, .int u9.1), (4, .int u9.2.1), (5, .int u9.2.2)] [.int u18]
        refine V_istore E (lv' := [(0, .ref (qMo 0)), (2, .int p2), (3, .int u9.1), (4, .int u9.2.1), (5, .int u9.2.2), (6, .int u18)]) dX8_place_119 (by decide) rfl ?_
        refine V_iload_n E 1 rfl dX8_place_121 ?_
        refine V_if_ne E (tgt := 129) dX8_place_122 (by decide) (fun hc19 => ?_) (fun hc19 => ?_)
        · have hf := iq hc19 hf
          refine V_iload E 3 rfl dX8_place_129 ?_
          refine V_iload E 5 rfl dX8_place_131 ?_
          refine V_isub E dX8_place_133 ?_
          refine V_bipush E (v := (20 : Int32)) dX8_place_134 (by decide) ?_
          refine V_iadd E dX8_place_136 ?_
          have h9 := hret 137 [(0, .ref (qMo 0)), (2, .int p2), (3, .int u9.1), (4, .int u9.2.1), (5, .int u9.2.2), (6, .int u18)] dX8_place_137
          rw [← (Option.some.inj hf)] at h9
          exact h9
        · have hf := ip hc19 hf
          refine V_iload_n E 2 rfl dX8_place_125 ?_
          refine V_goto E (tgt := 137) dX8_place_126 (by decide) ?_
          have h9 := hret 137 [(0, .ref (qMo 0)), (2, .int p2), (3, .int u9.1), (4, .int u9.2.1), (5, .int u9.2.2), (6, .int u18)] dX8_place_137
          rw [← (Option.some.inj hf)] at h9
          exact h9
      · have hf := ip hc8 hf
        refine V_aload_n E 0 rfl dX8_place_36 ?_
        refine V_bipush E (v := (-3 : Int32)) dX8_place_37 (by decide) ?_
        obtain ⟨u20, hu20, hf⟩ := bd hf
        refine V_frW E (Rn_V E (rest := []) mlX8_91 wd_yX8_refuses (kMo_refuses l G qMo (-3 : Int32) mo_all mo_past mo_aside mo_states mo_refused mo_causeKind mo_causeOrder u6.1 u6.2.1 u6.2.2.1 u6.2.2.2.1 u6.2.2.2.2.1 u6.2.2.2.2.2 mo_least mo_seam mo_above mo_below mo_text mo_textLong mo_place mo_value mo_numbers mo_not u20 hu20) ⟨rfl, rfl, Nat.le_of_ble_eq_true rfl, Nat.le_of_ble_eq_true rfl⟩ 0 rfl rfl rfl rfl rfl (Nat.le_of_ble_eq_true rfl) dX8_place_39) ?_
        show V G p l e rmMo_place s m args below meth c 7 A Q 0 0 (gMo G qMo mo_all mo_past mo_aside mo_states u20.2 mo_causeKind mo_causeOrder u6.1 u6.2.1 u6.2.2.1 u6.2.2.2.1 u6.2.2.2.2.1 u6.2.2.2.2.2 mo_least mo_seam mo_above mo_below mo_text mo_textLong mo_place mo_value mo_numbers mo_not) 42 [(0, .ref (qMo 0)), (1, .int p1), (2, .int p2)] [.int u20.1]
        have h9 := hret 42 [(0, .ref (qMo 0)), (1, .int p1), (2, .int p2)] dX8_place_42
        rw [← (Option.some.inj hf)] at h9
        exact h9
    · have hf := ip hc5 hf
      refine V_aload_n E 0 rfl dX8_place_18 ?_
      refine V_bipush E (v := (-2 : Int32)) dX8_place_19 (by decide) ?_
      obtain ⟨u21, hu21, hf⟩ := bd hf
      refine V_frW E (Rn_V E (rest := []) mlX8_91 wd_yX8_refuses (kMo_refuses l G qMo (-2 : Int32) mo_all mo_past mo_aside mo_states mo_refused mo_causeKind mo_causeOrder mo_corner mo_linkVotes mo_linkE mo_linkF mo_follower mo_ahead mo_least mo_seam mo_above mo_below mo_text mo_textLong mo_place mo_value mo_numbers mo_not u21 hu21) ⟨rfl, rfl, Nat.le_of_ble_eq_true rfl, Nat.le_of_ble_eq_true rfl⟩ 0 rfl rfl rfl rfl rfl (Nat.le_of_ble_eq_true rfl) dX8_place_21) ?_
      show V G p l e rmMo_place s m args below meth c 7 A Q 0 0 (gMo G qMo mo_all mo_past mo_aside mo_states u21.2 mo_causeKind mo_causeOrder mo_corner mo_linkVotes mo_linkE mo_linkF mo_follower mo_ahead mo_least mo_seam mo_above mo_below mo_text mo_textLong mo_place mo_value mo_numbers mo_not) 24 [(0, .ref (qMo 0)), (1, .int p1), (2, .int p2)] [.int u21.1]
      have h9 := hret 24 [(0, .ref (qMo 0)), (1, .int p1), (2, .int p2)] dX8_place_24
      rw [← (Option.some.inj hf)] at h9
      exact h9
abbrev rmMo_differs : Room := { frames := 1, cells := 0, slots := 0, locals := 23 }
theorem wd_yX8_differs : wdV yX8_differs cX8_differs 4 (some .int) 3 := ⟨wc_yX8_differs, wi_yX8_differs, wse_yX8_differs, wini_X8, by decide +kernel, by decide +kernel, by decide +kernel⟩
set_option maxHeartbeats 4000000 in
set_option maxRecDepth 100000 in
theorem kMo_differs (l : Launch) (G : wG) (qMo : Nat → Nat) (p1 : Int32) (p2 : Int32) (p3 : Int32) (mo_all : Nat → Int32) (mo_past : Nat → Int32) (mo_aside : Nat → Int32) (mo_states : Int32) (mo_refused : Nat → Int32) (mo_causeKind : Int32) (mo_causeOrder : Int32) (mo_corner : Nat → Int32) (mo_linkVotes : Nat → Int32) (mo_linkE : Nat → Int32) (mo_linkF : Nat → Int32) (mo_follower : Nat → Int32) (mo_ahead : Nat → Int32) (mo_least : Nat → Int32) (mo_seam : Nat → Int32) (mo_above : Int64) (mo_below : Int64) (mo_text : Nat → Int32) (mo_textLong : Int32) (mo_place : Int32) (mo_value : Int32) (mo_numbers : Nat → Int32) (mo_not : Int32) (o : Int32) (hf : fMo_differs p1 p2 p3 mo_all mo_linkE mo_linkF mo_follower = some o) : Ct G l yX8_differs cX8_differs 4 (some .int) rmMo_differs [.ref (qMo 0), .int p1, .int p2, .int p3] (gMo G qMo mo_all mo_past mo_aside mo_states mo_refused mo_causeKind mo_causeOrder mo_corner mo_linkVotes mo_linkE mo_linkF mo_follower mo_ahead mo_least mo_seam mo_above mo_below mo_text mo_textLong mo_place mo_value mo_numbers mo_not) (some (.int o)) (gMo G qMo mo_all mo_past mo_aside mo_states mo_refused mo_causeKind mo_causeOrder mo_corner mo_linkVotes mo_linkE mo_linkF mo_follower mo_ahead mo_least mo_seam mo_above mo_below mo_text mo_textLong mo_place mo_value mo_numbers mo_not) := by
  refine Ct.ofI (by decide +kernel) (Nat.le_of_ble_eq_true rfl) (fun p e s m args below meth c A Q E hret => ?_)
  unfold fMo_differs at hf
  show V G p l e rmMo_differs s m args below meth c 4 A Q 0 0 (gMo G qMo mo_all mo_past mo_aside mo_states mo_refused mo_causeKind mo_causeOrder mo_corner mo_linkVotes mo_linkE mo_linkF mo_follower mo_ahead mo_least mo_seam mo_above mo_below mo_text mo_textLong mo_place mo_value mo_numbers mo_not) 0 [(0, .ref (qMo 0)), (1, .int p1), (2, .int p2), (3, .int p3)] []
  refine V_aload_n E 0 rfl dX8_differs_0 ?_
  refine V_iload_n E 1 rfl dX8_differs_1 ?_
  refine V_iload_n E 2 rfl dX8_differs_2 ?_
  refine V_iload_n E 3 rfl dX8_differs_3 ?_
  obtain ⟨u1, hu1, hf⟩ := bd hf
  refine V_frW E (Rn_V E (rest := []) mlX8_143 wd_yX8_at (kMo_at l G qMo p1 p2 p3 mo_all mo_past mo_aside mo_states mo_refused mo_causeKind mo_causeOrder mo_corner mo_linkVotes mo_linkE mo_linkF mo_follower mo_ahead mo_least mo_seam mo_above mo_below mo_text mo_textLong mo_place mo_value mo_numbers mo_not u1 hu1) ⟨rfl, rfl, Nat.le_of_ble_eq_true rfl, Nat.le_of_ble_eq_true rfl⟩ 0 rfl rfl rfl rfl rfl (Nat.le_of_ble_eq_true rfl) dX8_differs_4) ?_
  show V G p l e rmMo_differs s m args below meth c 4 A Q 0 0 (gMo G qMo mo_all mo_past mo_aside mo_states mo_refused mo_causeKind mo_causeOrder mo_corner mo_linkVotes mo_linkE mo_linkF mo_follower mo_ahead mo_least mo_seam mo_above mo_below mo_text mo_textLong mo_place mo_value mo_numbers mo_not) 7 [(0, .ref (qMo 0)), (1, .int p1), (2, .int p2), (3, .int p3)] [.int u1]
  refine V_aload_n E 0 rfl dX8_differs_7 ?_
  refine V_aload_n E 0 rfl dX8_differs_8 ?_
  refine gfX8_38 E 0 rfl rfl dX8_differs_9 ?_
  refine V_iload_n E 1 rfl dX8_differs_12 ?_
  obtain ⟨hi2, hf⟩ := asr_ok hf
  refine V_iald E 9 rfl hi2 dX8_differs_13 ?_
  refine V_iload_n E 2 rfl dX8_differs_14 ?_
  refine V_aload_n E 0 rfl dX8_differs_15 ?_
  refine V_iload_n E 1 rfl dX8_differs_16 ?_
  obtain ⟨u3, hu3, hf⟩ := bd hf
  refine V_frW E (Rn_V E (rest := [.int p2, .int (mo_follower p1.toNatClampNeg), .ref (qMo 0), .int u1]) mlX8_202 wd_yX8_eOf (kMo_eOf l G qMo p1 mo_all mo_past mo_aside mo_states mo_refused mo_causeKind mo_causeOrder mo_corner mo_linkVotes mo_linkE mo_linkF mo_follower mo_ahead mo_least mo_seam mo_above mo_below mo_text mo_textLong mo_place mo_value mo_numbers mo_not u3 hu3) ⟨rfl, rfl, Nat.le_of_ble_eq_true rfl, Nat.le_of_ble_eq_true rfl⟩ 0 rfl rfl rfl rfl rfl (Nat.le_of_ble_eq_true rfl) dX8_differs_17) ?_
  show V G p l e rmMo_differs s m args below meth c 4 A Q 0 0 (gMo G qMo mo_all mo_past mo_aside mo_states mo_refused mo_causeKind mo_causeOrder mo_corner mo_linkVotes mo_linkE mo_linkF mo_follower mo_ahead mo_least mo_seam mo_above mo_below mo_text mo_textLong mo_place mo_value mo_numbers mo_not) 20 [(0, .ref (qMo 0)), (1, .int p1), (2, .int p2), (3, .int p3)] [.int u3, .int p2, .int (mo_follower p1.toNatClampNeg), .ref (qMo 0), .int u1]
  refine V_isub E dX8_differs_20 ?_
  refine V_iload_n E 3 rfl dX8_differs_21 ?_
  refine V_aload_n E 0 rfl dX8_differs_22 ?_
  refine V_iload_n E 1 rfl dX8_differs_23 ?_
  obtain ⟨u4, hu4, hf⟩ := bd hf
  refine V_frW E (Rn_V E (rest := [.int p3, .int (p2 - u3), .int (mo_follower p1.toNatClampNeg), .ref (qMo 0), .int u1]) mlX8_205 wd_yX8_fOf (kMo_fOf l G qMo p1 mo_all mo_past mo_aside mo_states mo_refused mo_causeKind mo_causeOrder mo_corner mo_linkVotes mo_linkE mo_linkF mo_follower mo_ahead mo_least mo_seam mo_above mo_below mo_text mo_textLong mo_place mo_value mo_numbers mo_not u4 hu4) ⟨rfl, rfl, Nat.le_of_ble_eq_true rfl, Nat.le_of_ble_eq_true rfl⟩ 0 rfl rfl rfl rfl rfl (Nat.le_of_ble_eq_true rfl) dX8_differs_24) ?_
  show V G p l e rmMo_differs s m args below meth c 4 A Q 0 0 (gMo G qMo mo_all mo_past mo_aside mo_states mo_refused mo_causeKind mo_causeOrder mo_corner mo_linkVotes mo_linkE mo_linkF mo_follower mo_ahead mo_least mo_seam mo_above mo_below mo_text mo_textLong mo_place mo_value mo_numbers mo_not) 27 [(0, .ref (qMo 0)), (1, .int p1), (2, .int p2), (3, .int p3)] [.int u4, .int p3, .int (p2 - u3), .int (mo_follower p1.toNatClampNeg), .ref (qMo 0), .int u1]
  refine V_isub E dX8_differs_27 ?_
  obtain ⟨u5, hu5, hf⟩ := bd hf
  refine V_frW E (Rn_V E (rest := [.int u1]) mlX8_143 wd_yX8_at (kMo_at l G qMo (mo_follower p1.toNatClampNeg) (p2 - u3) (p3 - u4) mo_all mo_past mo_aside mo_states mo_refused mo_causeKind mo_causeOrder mo_corner mo_linkVotes mo_linkE mo_linkF mo_follower mo_ahead mo_least mo_seam mo_above mo_below mo_text mo_textLong mo_place mo_value mo_numbers mo_not u5 hu5) ⟨rfl, rfl, Nat.le_of_ble_eq_true rfl, Nat.le_of_ble_eq_true rfl⟩ 0 rfl rfl rfl rfl rfl (Nat.le_of_ble_eq_true rfl) dX8_differs_28) ?_
  show V G p l e rmMo_differs s m args below meth c 4 A Q 0 0 (gMo G qMo mo_all mo_past mo_aside mo_states mo_refused mo_causeKind mo_causeOrder mo_corner mo_linkVotes mo_linkE mo_linkF mo_follower mo_ahead mo_least mo_seam mo_above mo_below mo_text mo_textLong mo_place mo_value mo_numbers mo_not) 31 [(0, .ref (qMo 0)), (1, .int p1), (2, .int p2), (3, .int p3)] [.int u5, .int u1]
  refine V_isub E dX8_differs_31 ?_
  have h9 := hret 32 [(0, .ref (qMo 0)), (1, .int p1), (2, .int p2), (3, .int p3)] dX8_differs_32
  rw [← (Option.some.inj hf)] at h9
  exact h9
abbrev rmMo_hasRow : Room := { frames := 1, cells := 0, slots := 0, locals := 25 }
theorem wd_yX8_hasRow : wdV yX8_hasRow cX8_hasRow 3 (some .boolean) 2 := ⟨wc_yX8_hasRow, wi_yX8_hasRow, wse_yX8_hasRow, wini_X8, by decide +kernel, by decide +kernel, by decide +kernel⟩
set_option maxHeartbeats 4000000 in
set_option maxRecDepth 100000 in
theorem kMo_hasRow (l : Launch) (G : wG) (qMo : Nat → Nat) (p1 : Int32) (p2 : Int32) (mo_all : Nat → Int32) (mo_past : Nat → Int32) (mo_aside : Nat → Int32) (mo_states : Int32) (mo_refused : Nat → Int32) (mo_causeKind : Int32) (mo_causeOrder : Int32) (mo_corner : Nat → Int32) (mo_linkVotes : Nat → Int32) (mo_linkE : Nat → Int32) (mo_linkF : Nat → Int32) (mo_follower : Nat → Int32) (mo_ahead : Nat → Int32) (mo_least : Nat → Int32) (mo_seam : Nat → Int32) (mo_above : Int64) (mo_below : Int64) (mo_text : Nat → Int32) (mo_textLong : Int32) (mo_place : Int32) (mo_value : Int32) (mo_numbers : Nat → Int32) (mo_not : Int32) (o : Int32) (hf : fMo_hasRow p1 p2 mo_linkE mo_follower = some o) : Ct G l yX8_hasRow cX8_hasRow 3 (some .boolean) rmMo_hasRow [.ref (qMo 0), .int p1, .int p2] (gMo G qMo mo_all mo_past mo_aside mo_states mo_refused mo_causeKind mo_causeOrder mo_corner mo_linkVotes mo_linkE mo_linkF mo_follower mo_ahead mo_least mo_seam mo_above mo_below mo_text mo_textLong mo_place mo_value mo_numbers mo_not) (some (.int o)) (gMo G qMo mo_all mo_past mo_aside mo_states mo_refused mo_causeKind mo_causeOrder mo_corner mo_linkVotes mo_linkE mo_linkF mo_follower mo_ahead mo_least mo_seam mo_above mo_below mo_text mo_textLong mo_place mo_value mo_numbers mo_not) := by
  refine Ct.ofZ (by decide +kernel) (Nat.le_of_ble_eq_true rfl) (fun p e s m args below meth c A Q E hret => ?_)
  unfold fMo_hasRow at hf
  show V G p l e rmMo_hasRow s m args below meth c 3 A Q 0 0 (gMo G qMo mo_all mo_past mo_aside mo_states mo_refused mo_causeKind mo_causeOrder mo_corner mo_linkVotes mo_linkE mo_linkF mo_follower mo_ahead mo_least mo_seam mo_above mo_below mo_text mo_textLong mo_place mo_value mo_numbers mo_not) 0 [(0, .ref (qMo 0)), (1, .int p1), (2, .int p2)] []
  refine V_iload_n E 2 rfl dX8_hasRow_0 ?_
  refine V_i2l E dX8_hasRow_1 ?_
  refine V_lconst E (v := (0 : Int64)) dX8_hasRow_2 (by decide) ?_
  refine V_ldc2 E (v := (3 : Int64)) dX8_hasRow_3 kX8_67 ?_
  obtain ⟨u1, hu1, hf⟩ := bd hf
  refine V_fr0 E (Rn_S E (rest := []) mlX8_63 wd_yX8_in (kMo_in l G p2.toInt64 (0 : Int64) (3 : Int64) u1 hu1) ⟨rfl, rfl, Nat.le_of_ble_eq_true rfl, Nat.le_of_ble_eq_true rfl⟩ rfl rfl (Nat.le_of_ble_eq_true rfl) dX8_hasRow_6) ?_
  show V G p l e rmMo_hasRow s m args below meth c 3 A Q 0 0 (gMo G qMo mo_all mo_past mo_aside mo_states mo_refused mo_causeKind mo_causeOrder mo_corner mo_linkVotes mo_linkE mo_linkF mo_follower mo_ahead mo_least mo_seam mo_above mo_below mo_text mo_textLong mo_place mo_value mo_numbers mo_not) 9 [(0, .ref (qMo 0)), (1, .int p1), (2, .int p2)] [.int u1]
  refine V_if_eq E (tgt := 34) dX8_hasRow_9 (by decide) (fun hc2 => ?_) (fun hc2 => ?_)
  · have hf := ip hc2 hf
    refine V_iconst E (v := (0 : Int32)) dX8_hasRow_34 (by decide) ?_
    have h9 := hret 35 [(0, .ref (qMo 0)), (1, .int p1), (2, .int p2)] dX8_hasRow_35
    rw [← (Option.some.inj hf)] at h9
    exact h9 (z01a (Or.inl rfl))
  · have hf := iq hc2 hf
    refine V_iload_n E 2 rfl dX8_hasRow_12 ?_
    refine V_aload_n E 0 rfl dX8_hasRow_13 ?_
    refine V_iload_n E 1 rfl dX8_hasRow_14 ?_
    obtain ⟨u3, hu3, hf⟩ := bd hf
    refine V_frW E (Rn_V E (rest := [.int p2]) mlX8_202 wd_yX8_eOf (kMo_eOf l G qMo p1 mo_all mo_past mo_aside mo_states mo_refused mo_causeKind mo_causeOrder mo_corner mo_linkVotes mo_linkE mo_linkF mo_follower mo_ahead mo_least mo_seam mo_above mo_below mo_text mo_textLong mo_place mo_value mo_numbers mo_not u3 hu3) ⟨rfl, rfl, Nat.le_of_ble_eq_true rfl, Nat.le_of_ble_eq_true rfl⟩ 0 rfl rfl rfl rfl rfl (Nat.le_of_ble_eq_true rfl) dX8_hasRow_15) ?_
    show V G p l e rmMo_hasRow s m args below meth c 3 A Q 0 0 (gMo G qMo mo_all mo_past mo_aside mo_states mo_refused mo_causeKind mo_causeOrder mo_corner mo_linkVotes mo_linkE mo_linkF mo_follower mo_ahead mo_least mo_seam mo_above mo_below mo_text mo_textLong mo_place mo_value mo_numbers mo_not) 18 [(0, .ref (qMo 0)), (1, .int p1), (2, .int p2)] [.int u3, .int p2]
    refine V_isub E dX8_hasRow_18 ?_
    refine V_i2l E dX8_hasRow_19 ?_
    refine V_lconst E (v := (0 : Int64)) dX8_hasRow_20 (by decide) ?_
    refine V_ldc2 E (v := (3 : Int64)) dX8_hasRow_21 kX8_67 ?_
    obtain ⟨u4, hu4, hf⟩ := bd hf
    refine V_fr0 E (Rn_S E (rest := []) mlX8_63 wd_yX8_in (kMo_in l G ((p2 - u3).toInt64) (0 : Int64) (3 : Int64) u4 hu4) ⟨rfl, rfl, Nat.le_of_ble_eq_true rfl, Nat.le_of_ble_eq_true rfl⟩ rfl rfl (Nat.le_of_ble_eq_true rfl) dX8_hasRow_24) ?_
    show V G p l e rmMo_hasRow s m args below meth c 3 A Q 0 0 (gMo G qMo mo_all mo_past mo_aside mo_states mo_refused mo_causeKind mo_causeOrder mo_corner mo_linkVotes mo_linkE mo_linkF mo_follower mo_ahead mo_least mo_seam mo_above mo_below mo_text mo_textLong mo_place mo_value mo_numbers mo_not) 27 [(0, .ref (qMo 0)), (1, .int p1), (2, .int p2)] [.int u4]
    refine V_if_eq E (tgt := 34) dX8_hasRow_27 (by decide) (fun hc5 => ?_) (fun hc5 => ?_)
    · have hf := ip hc5 hf
      refine V_iconst E (v := (0 : Int32)) dX8_hasRow_34 (by decide) ?_
      have h9 := hret 35 [(0, .ref (qMo 0)), (1, .int p1), (2, .int p2)] dX8_hasRow_35
      rw [← (Option.some.inj hf)] at h9
      exact h9 (z01a (Or.inl rfl))
    · have hf := iq hc5 hf
      refine V_iconst E (v := (1 : Int32)) dX8_hasRow_30 (by decide) ?_
      refine V_goto E (tgt := 35) dX8_hasRow_31 (by decide) ?_
      have h9 := hret 35 [(0, .ref (qMo 0)), (1, .int p1), (2, .int p2)] dX8_hasRow_35
      rw [← (Option.some.inj hf)] at h9
      exact h9 (z01a (Or.inr rfl))
abbrev rmMo_isNear : Room := { frames := 0, cells := 0, slots := 0, locals := 0 }
theorem wd_yX8_isNear : wdS yX8_isNear cX8_isNear 2 (some .boolean) 2 := ⟨wc_yX8_isNear, wst_yX8_isNear, wini_X8, by decide +kernel, by decide +kernel, by decide +kernel⟩
set_option maxHeartbeats 4000000 in
set_option maxRecDepth 100000 in
theorem kMo_isNear (l : Launch) (G : wG) (p0 : Int32) (p1 : Int32) (o : Int32) (hf : fMo_isNear p0 p1 = some o) : Ct G l yX8_isNear cX8_isNear 2 (some .boolean) rmMo_isNear [.int p0, .int p1] [] (some (.int o)) [] := by
  refine Ct.ofZ (by decide +kernel) (Nat.le_of_ble_eq_true rfl) (fun p e s m args below meth c A Q E hret => ?_)
  unfold fMo_isNear at hf
  show V G p l e rmMo_isNear s m args below meth c 2 A Q 0 0 [] 0 [(0, .int p0), (1, .int p1)] []
  refine V_iload_n E 0 rfl dX8_isNear_0 ?_
  refine V_iload_n E 1 rfl dX8_isNear_1 ?_
  refine V_isub E dX8_isNear_2 ?_
  refine V_iconst E (v := (1 : Int32)) dX8_isNear_3 (by decide) ?_
  refine V_icmp_gt E (tgt := 18) dX8_isNear_4 (by decide) (fun hc1 => ?_) (fun hc1 => ?_)
  · have hf := ip hc1 hf
    refine V_iconst E (v := (0 : Int32)) dX8_isNear_18 (by decide) ?_
    have h9 := hret 19 [(0, .int p0), (1, .int p1)] dX8_isNear_19
    rw [← (Option.some.inj hf)] at h9
    exact h9 (z01a (Or.inl rfl))
  · have hf := iq hc1 hf
    refine V_iload_n E 1 rfl dX8_isNear_7 ?_
    refine V_iload_n E 0 rfl dX8_isNear_8 ?_
    refine V_isub E dX8_isNear_9 ?_
    refine V_iconst E (v := (1 : Int32)) dX8_isNear_10 (by decide) ?_
    refine V_icmp_gt E (tgt := 18) dX8_isNear_11 (by decide) (fun hc2 => ?_) (fun hc2 => ?_)
    · have hf := ip hc2 hf
      refine V_iconst E (v := (0 : Int32)) dX8_isNear_18 (by decide) ?_
      have h9 := hret 19 [(0, .int p0), (1, .int p1)] dX8_isNear_19
      rw [← (Option.some.inj hf)] at h9
      exact h9 (z01a (Or.inl rfl))
    · have hf := iq hc2 hf
      refine V_iconst E (v := (1 : Int32)) dX8_isNear_14 (by decide) ?_
      refine V_goto E (tgt := 19) dX8_isNear_15 (by decide) ?_
      have h9 := hret 19 [(0, .int p0), (1, .int p1)] dX8_isNear_19
      rw [← (Option.some.inj hf)] at h9
      exact h9 (z01a (Or.inr rfl))
abbrev rmMo_laysSeam : Room := { frames := 2, cells := 0, slots := 0, locals := 47 }
theorem wd_yX8_laysSeam : wdV yX8_laysSeam cX8_laysSeam 8 none 1 := ⟨wc_yX8_laysSeam, wi_yX8_laysSeam, wse_yX8_laysSeam, wini_X8, by decide +kernel, by decide +kernel, by decide +kernel⟩
set_option maxHeartbeats 4000000 in
set_option maxRecDepth 100000 in
theorem kMo_laysSeam (l : Launch) (G : wG) (qMo : Nat → Nat) (p1 : Int32) (mo_all : Nat → Int32) (mo_past : Nat → Int32) (mo_aside : Nat → Int32) (mo_states : Int32) (mo_refused : Nat → Int32) (mo_causeKind : Int32) (mo_causeOrder : Int32) (mo_corner : Nat → Int32) (mo_linkVotes : Nat → Int32) (mo_linkE : Nat → Int32) (mo_linkF : Nat → Int32) (mo_follower : Nat → Int32) (mo_ahead : Nat → Int32) (mo_least : Nat → Int32) (mo_seam : Nat → Int32) (mo_above : Int64) (mo_below : Int64) (mo_text : Nat → Int32) (mo_textLong : Int32) (mo_place : Int32) (mo_value : Int32) (mo_numbers : Nat → Int32) (mo_not : Int32) (o : (Nat → Int32) × (Nat → Int32)) (hf : fMo_laysSeam p1 mo_all mo_linkE mo_linkF mo_follower mo_least mo_seam = some o) : Ct G l yX8_laysSeam cX8_laysSeam 8 none rmMo_laysSeam [.ref (qMo 0), .int p1] (gMo G qMo mo_all mo_past mo_aside mo_states mo_refused mo_causeKind mo_causeOrder mo_corner mo_linkVotes mo_linkE mo_linkF mo_follower mo_ahead mo_least mo_seam mo_above mo_below mo_text mo_textLong mo_place mo_value mo_numbers mo_not) none (gMo G qMo mo_all mo_past mo_aside mo_states mo_refused mo_causeKind mo_causeOrder mo_corner mo_linkVotes mo_linkE mo_linkF mo_follower mo_ahead o.1 o.2 mo_above mo_below mo_text mo_textLong mo_place mo_value mo_numbers mo_not) := by
  refine Ct.ofV (by decide +kernel) (Nat.le_of_ble_eq_true rfl) (fun p e s m args below meth c A Q E hret => ?_)
  unfold fMo_laysSeam at hf
  show V G p l e rmMo_laysSeam s m args below meth c 8 A Q 0 0 (gMo G qMo mo_all mo_past mo_aside mo_states mo_refused mo_causeKind mo_causeOrder mo_corner mo_linkVotes mo_linkE mo_linkF mo_follower mo_ahead mo_least mo_seam mo_above mo_below mo_text mo_textLong mo_place mo_value mo_numbers mo_not) 0 [(0, .ref (qMo 0)), (1, .int p1)] []
  refine V_aload_n E 0 rfl dX8_laysSeam_0 ?_
  refine V_iload_n E 1 rfl dX8_laysSeam_1 ?_
  obtain ⟨u1, hu1, hf⟩ := bd hf
  refine V_frW E (Rn_V E (rest := []) mlX8_205 wd_yX8_fOf (kMo_fOf l G qMo p1 mo_all mo_past mo_aside mo_states mo_refused mo_causeKind mo_causeOrder mo_corner mo_linkVotes mo_linkE mo_linkF mo_follower mo_ahead mo_least mo_seam mo_above mo_below mo_text mo_textLong mo_place mo_value mo_numbers mo_not u1 hu1) ⟨rfl, rfl, Nat.le_of_ble_eq_true rfl, Nat.le_of_ble_eq_true rfl⟩ 0 rfl rfl rfl rfl rfl (Nat.le_of_ble_eq_true rfl) dX8_laysSeam_2) ?_
  show V G p l e rmMo_laysSeam s m args below meth c 8 A Q 0 0 (gMo G qMo mo_all mo_past mo_aside mo_states mo_refused mo_causeKind mo_causeOrder mo_corner mo_linkVotes mo_linkE mo_linkF mo_follower mo_ahead mo_least mo_seam mo_above mo_below mo_text mo_textLong mo_place mo_value mo_numbers mo_not) 5 [(0, .ref (qMo 0)), (1, .int p1)] [.int u1]
  refine V_istore_n E (lv' := [(0, .ref (qMo 0)), (1, .int p1), (2, .int u1)]) dX8_laysSeam_5 (by decide) rfl ?_
  refine V_iconst E (v := (3 : Int32)) dX8_laysSeam_6 (by decide) ?_
  refine V_istore_n E (lv' := [(0, .ref (qMo 0)), (1, .int p1), (2, .int u1), (3, .int (3 : Int32))]) dX8_laysSeam_7 (by decide) rfl ?_
  have L8 : ∀ (n : Nat) (a8_3 : Int32) (c8_mo_least : Nat → Int32) (c8_mo_seam : Nat → Int32) (u : (Nat → Int32) × (Nat → Int32)), fMo_laysSeam_L8 p1 u1 mo_all mo_linkE mo_linkF mo_follower n a8_3 c8_mo_least c8_mo_seam = some u → (V G p l e rmMo_laysSeam s m args below meth c 8 A Q 0 0 (gMo G qMo mo_all mo_past mo_aside mo_states mo_refused mo_causeKind mo_causeOrder mo_corner mo_linkVotes mo_linkE mo_linkF mo_follower mo_ahead u.1 u.2 mo_above mo_below mo_text mo_textLong mo_place mo_value mo_numbers mo_not) 162 [(0, .ref (qMo 0)), (1, .int p1), (2, .int u1)] []) → V G p l e rmMo_laysSeam s m args below meth c 8 A Q 0 0 (gMo G qMo mo_all mo_past mo_aside mo_states mo_refused mo_causeKind mo_causeOrder mo_corner mo_linkVotes mo_linkE mo_linkF mo_follower mo_ahead c8_mo_least c8_mo_seam mo_above mo_below mo_text mo_textLong mo_place mo_value mo_numbers mo_not) 8 [(0, .ref (qMo 0)), (1, .int p1), (2, .int u1), (3, .int a8_3)] [] := by
    intro n
    induction n with
    | zero =>
      intro a8_3 c8_mo_least c8_mo_seam u hf hk
      rw [fMo_laysSeam_L8] at hf
      cases hf
    | succ n ih =>
      intro a8_3 c8_mo_least c8_mo_seam u hf hk
      rw [fMo_laysSeam_L8] at hf
      refine V_iload_n E 3 rfl dX8_laysSeam_8 ?_
      refine V_if_lt E (tgt := 162) dX8_laysSeam_9 (by decide) (fun hc3 => ?_) (fun hc3 => ?_)
      · have hf := ip hc3 hf
        refine V_sub [0, 1, 2] rfl ?_
        rw [← Option.some.inj hf] at hk
        exact hk
      · have hf := iq hc3 hf
        refine V_aload_n E 0 rfl dX8_laysSeam_12 ?_
        refine gfX8_47 E 0 rfl rfl dX8_laysSeam_13 ?_
        refine V_iload_n E 3 rfl dX8_laysSeam_16 ?_
        refine V_iconst E (v := (-1 : Int32)) dX8_laysSeam_17 (by decide) ?_
        obtain ⟨hi4, hf⟩ := asr_ok hf
        refine V_iast E (ws' := (gMo G qMo mo_all mo_past mo_aside mo_states mo_refused mo_causeKind mo_causeOrder mo_corner mo_linkVotes mo_linkE mo_linkF mo_follower mo_ahead c8_mo_least (upd c8_mo_seam a8_3.toNatClampNeg (-1 : Int32)) mo_above mo_below mo_text mo_textLong mo_place mo_value mo_numbers mo_not)) 12 rfl hi4 dX8_laysSeam_18 rfl ?_
        refine V_iload_n E 2 rfl dX8_laysSeam_19 ?_
        refine V_istore E (lv' := [(0, .ref (qMo 0)), (1, .int p1), (2, .int u1), (3, .int a8_3), (4, .int u1)]) dX8_laysSeam_20 (by decide) rfl ?_
        have L22 : ∀ (n : Nat) (a22_4 : Int32) (c22_mo_least : Nat → Int32) (u : (Nat → Int32)), fMo_laysSeam_L22 p1 u1 a8_3 mo_all mo_linkE mo_linkF mo_follower n a22_4 c22_mo_least = some u → (V G p l e rmMo_laysSeam s m args below meth c 8 A Q 0 0 (gMo G qMo mo_all mo_past mo_aside mo_states mo_refused mo_causeKind mo_causeOrder mo_corner mo_linkVotes mo_linkE mo_linkF mo_follower mo_ahead u (upd c8_mo_seam a8_3.toNatClampNeg (-1 : Int32)) mo_above mo_below mo_text mo_textLong mo_place mo_value mo_numbers mo_not) 156 [(0, .ref (qMo 0)), (1, .int p1), (2, .int u1), (3, .int a8_3)] []) → V G p l e rmMo_laysSeam s m args below meth c 8 A Q 0 0 (gMo G qMo mo_all mo_past mo_aside mo_states mo_refused mo_causeKind mo_causeOrder mo_corner mo_linkVotes mo_linkE mo_linkF mo_follower mo_ahead c22_mo_least (upd c8_mo_seam a8_3.toNatClampNeg (-1 : Int32)) mo_above mo_below mo_text mo_textLong mo_place mo_value mo_numbers mo_not) 22 [(0, .ref (qMo 0)), (1, .int p1), (2, .int u1), (3, .int a8_3), (4, .int a22_4)] [] := by
          intro n
          induction n with
          | zero =>
            intro a22_4 c22_mo_least u hf hk
            rw [fMo_laysSeam_L22] at hf
            cases hf
          | succ n ih =>
            intro a22_4 c22_mo_least u hf hk
            rw [fMo_laysSeam_L22] at hf
            refine V_iload E 4 rfl dX8_laysSeam_22 ?_
            refine V_bipush E (v := (8 : Int32)) dX8_laysSeam_24 (by decide) ?_
            refine V_icmp_ge E (tgt := 156) dX8_laysSeam_26 (by decide) (fun hc6 => ?_) (fun hc6 => ?_)
            · have hf := ip hc6 hf
              refine V_sub [0, 1, 2, 3] rfl ?_
              rw [← Option.some.inj hf] at hk
              exact hk
            · have hf := iq hc6 hf
              refine V_aload_n E 0 rfl dX8_laysSeam_29 ?_
              refine V_iload_n E 1 rfl dX8_laysSeam_30 ?_
              refine V_iload_n E 3 rfl dX8_laysSeam_31 ?_
              obtain ⟨u7, hu7, hf⟩ := bd hf
              refine V_frW E (Rn_V E (rest := []) mlX8_228 wd_yX8_hasRow (kMo_hasRow l G qMo p1 a8_3 mo_all mo_past mo_aside mo_states mo_refused mo_causeKind mo_causeOrder mo_corner mo_linkVotes mo_linkE mo_linkF mo_follower mo_ahead c22_mo_least (upd c8_mo_seam a8_3.toNatClampNeg (-1 : Int32)) mo_above mo_below mo_text mo_textLong mo_place mo_value mo_numbers mo_not u7 hu7) ⟨rfl, rfl, Nat.le_of_ble_eq_true rfl, Nat.le_of_ble_eq_true rfl⟩ 0 rfl rfl rfl rfl rfl (Nat.le_of_ble_eq_true rfl) dX8_laysSeam_32) ?_
              show V G p l e rmMo_laysSeam s m args below meth c 8 A Q 0 0 (gMo G qMo mo_all mo_past mo_aside mo_states mo_refused mo_causeKind mo_causeOrder mo_corner mo_linkVotes mo_linkE mo_linkF mo_follower mo_ahead c22_mo_least (upd c8_mo_seam a8_3.toNatClampNeg (-1 : Int32)) mo_above mo_below mo_text mo_textLong mo_place mo_value mo_numbers mo_not) 35 [(0, .ref (qMo 0)), (1, .int p1), (2, .int u1), (3, .int a8_3), (4, .int a22_4)] [.int u7]
              refine V_if_eq E (tgt := 156) dX8_laysSeam_35 (by decide) (fun hc8 => ?_) (fun hc8 => ?_)
              · have hf := ip hc8 hf
                refine V_sub [0, 1, 2, 3] rfl ?_
                rw [← Option.some.inj hf] at hk
                exact hk
              · have hf := iq hc8 hf
                refine V_iconst E (v := (0 : Int32)) dX8_laysSeam_38 (by decide) ?_
                refine V_istore E (lv' := [(0, .ref (qMo 0)), (1, .int p1), (2, .int u1), (3, .int a8_3), (4, .int a22_4), (5, .int (0 : Int32))]) dX8_laysSeam_39 (by decide) rfl ?_
                refine V_iconst E (v := (0 : Int32)) dX8_laysSeam_41 (by decide) ?_
                refine V_istore E (lv' := [(0, .ref (qMo 0)), (1, .int p1), (2, .int u1), (3, .int a8_3), (4, .int a22_4), (5, .int (0 : Int32)), (6, .int (0 : Int32))]) dX8_laysSeam_42 (by decide) rfl ?_
                refine V_iload_n E 2 rfl dX8_laysSeam_44 ?_
                refine V_istore E (lv' := [(0, .ref (qMo 0)), (1, .int p1), (2, .int u1), (3, .int a8_3), (4, .int a22_4), (5, .int (0 : Int32)), (6, .int (0 : Int32)), (7, .int u1)]) dX8_laysSeam_45 (by decide) rfl ?_
                have L47 : ∀ (n : Nat) (a47_5 : Int32) (a47_6 : Int32) (a47_7 : Int32) (u : Int32), fMo_laysSeam_L47 p1 a8_3 a22_4 mo_linkE mo_follower c22_mo_least n a47_5 a47_6 a47_7 = some u → (V G p l e rmMo_laysSeam s m args below meth c 8 A Q 0 0 (gMo G qMo mo_all mo_past mo_aside mo_states mo_refused mo_causeKind mo_causeOrder mo_corner mo_linkVotes mo_linkE mo_linkF mo_follower mo_ahead c22_mo_least (upd c8_mo_seam a8_3.toNatClampNeg (-1 : Int32)) mo_above mo_below mo_text mo_textLong mo_place mo_value mo_numbers mo_not) 124 [(0, .ref (qMo 0)), (1, .int p1), (2, .int u1), (3, .int a8_3), (4, .int a22_4), (5, .int u)] []) → V G p l e rmMo_laysSeam s m args below meth c 8 A Q 0 0 (gMo G qMo mo_all mo_past mo_aside mo_states mo_refused mo_causeKind mo_causeOrder mo_corner mo_linkVotes mo_linkE mo_linkF mo_follower mo_ahead c22_mo_least (upd c8_mo_seam a8_3.toNatClampNeg (-1 : Int32)) mo_above mo_below mo_text mo_textLong mo_place mo_value mo_numbers mo_not) 47 [(0, .ref (qMo 0)), (1, .int p1), (2, .int u1), (3, .int a8_3), (4, .int a22_4), (5, .int a47_5), (6, .int a47_6), (7, .int a47_7)] [] := by
                  intro n
                  induction n with
                  | zero =>
                    intro a47_5 a47_6 a47_7 u hf hk
                    rw [fMo_laysSeam_L47] at hf
                    cases hf
                  | succ n ih =>
                    intro a47_5 a47_6 a47_7 u hf hk
                    rw [fMo_laysSeam_L47] at hf
                    refine V_iload E 7 rfl dX8_laysSeam_47 ?_
                    refine V_bipush E (v := (8 : Int32)) dX8_laysSeam_49 (by decide) ?_
                    refine V_icmp_ge E (tgt := 124) dX8_laysSeam_51 (by decide) (fun hc10 => ?_) (fun hc10 => ?_)
                    · have hf := ip hc10 hf
                      refine V_sub [0, 1, 2, 3, 4, 5] rfl ?_
                      rw [← Option.some.inj hf] at hk
                      exact hk
                    · have hf := iq hc10 hf
                      refine V_aload_n E 0 rfl dX8_laysSeam_54 ?_
                      refine V_iload_n E 1 rfl dX8_laysSeam_55 ?_
                      refine V_iload_n E 3 rfl dX8_laysSeam_56 ?_
                      refine V_iconst E (v := (1 : Int32)) dX8_laysSeam_57 (by decide) ?_
                      refine V_iadd E dX8_laysSeam_58 ?_
                      obtain ⟨u11, hu11, hf⟩ := bd hf
                      refine V_frW E (Rn_V E (rest := []) mlX8_228 wd_yX8_hasRow (kMo_hasRow l G qMo p1 (a8_3 + (1 : Int32)) mo_all mo_past mo_aside mo_states mo_refused mo_causeKind mo_causeOrder mo_corner mo_linkVotes mo_linkE mo_linkF mo_follower mo_ahead c22_mo_least (upd c8_mo_seam a8_3.toNatClampNeg (-1 : Int32)) mo_above mo_below mo_text mo_textLong mo_place mo_value mo_numbers mo_not u11 hu11) ⟨rfl, rfl, Nat.le_of_ble_eq_true rfl, Nat.le_of_ble_eq_true rfl⟩ 0 rfl rfl rfl rfl rfl (Nat.le_of_ble_eq_true rfl) dX8_laysSeam_59) ?_
                      show V G p l e rmMo_laysSeam s m args below meth c 8 A Q 0 0 (gMo G qMo mo_all mo_past mo_aside mo_states mo_refused mo_causeKind mo_causeOrder mo_corner mo_linkVotes mo_linkE mo_linkF mo_follower mo_ahead c22_mo_least (upd c8_mo_seam a8_3.toNatClampNeg (-1 : Int32)) mo_above mo_below mo_text mo_textLong mo_place mo_value mo_numbers mo_not) 62 [(0, .ref (qMo 0)), (1, .int p1), (2, .int u1), (3, .int a8_3), (4, .int a22_4), (5, .int a47_5), (6, .int a47_6), (7, .int a47_7)] [.int u11]
                      refine V_if_eq E (tgt := 124) dX8_laysSeam_62 (by decide) (fun hc12 => ?_) (fun hc12 => ?_)
                      · have hf := ip hc12 hf
                        refine V_sub [0, 1, 2, 3, 4, 5] rfl ?_
                        rw [← Option.some.inj hf] at hk
                        exact hk
                      · have hf := iq hc12 hf
                        refine V_iload E 4 rfl dX8_laysSeam_65 ?_
                        refine V_iload E 7 rfl dX8_laysSeam_67 ?_
                        obtain ⟨u13, hu13, hf⟩ := bd hf
                        refine V_fr0 E (Rn_S E (rest := []) mlX8_231 wd_yX8_isNear (kMo_isNear l G a22_4 a47_7 u13 hu13) ⟨rfl, rfl, Nat.le_of_ble_eq_true rfl, Nat.le_of_ble_eq_true rfl⟩ rfl rfl (Nat.le_of_ble_eq_true rfl) dX8_laysSeam_69) ?_
                        show V G p l e rmMo_laysSeam s m args below meth c 8 A Q 0 0 (gMo G qMo mo_all mo_past mo_aside mo_states mo_refused mo_causeKind mo_causeOrder mo_corner mo_linkVotes mo_linkE mo_linkF mo_follower mo_ahead c22_mo_least (upd c8_mo_seam a8_3.toNatClampNeg (-1 : Int32)) mo_above mo_below mo_text mo_textLong mo_place mo_value mo_numbers mo_not) 72 [(0, .ref (qMo 0)), (1, .int p1), (2, .int u1), (3, .int a8_3), (4, .int a22_4), (5, .int a47_5), (6, .int a47_6), (7, .int a47_7)] [.int u13]
                        refine V_if_eq E (tgt := 118) dX8_laysSeam_72 (by decide) (fun hc14 => ?_) (fun hc14 => ?_)
                        · have hf := ip hc14 hf
                          refine V_iinc E (v := (a47_7 + (1 : Int32))) (lv' := [(0, .ref (qMo 0)), (1, .int p1), (2, .int u1), (3, .int a8_3), (4, .int a22_4), (5, .int a47_5), (6, .int a47_6), (7, .int (a47_7 + (1 : Int32)))]) 7 rfl dX8_laysSeam_118 rfl (by decide) rfl ?_
                          refine V_goto E (tgt := 47) dX8_laysSeam_121 (by decide) ?_
                          exact ih a47_5 a47_6 (a47_7 + (1 : Int32)) _ hf hk
                        · have hf := iq hc14 hf
                          refine V_iload E 6 rfl dX8_laysSeam_75 ?_
                          refine V_if_eq E (tgt := 99) dX8_laysSeam_77 (by decide) (fun hc15 => ?_) (fun hc15 => ?_)
                          · have hf := ip hc15 hf
                            refine V_aload_n E 0 rfl dX8_laysSeam_99 ?_
                            refine gfX8_44 E 0 rfl rfl dX8_laysSeam_100 ?_
                            refine V_bipush E (v := (8 : Int32)) dX8_laysSeam_103 (by decide) ?_
                            refine V_iload_n E 3 rfl dX8_laysSeam_105 ?_
                            refine V_iconst E (v := (1 : Int32)) dX8_laysSeam_106 (by decide) ?_
                            refine V_iadd E dX8_laysSeam_107 ?_
                            refine V_imul E dX8_laysSeam_108 ?_
                            refine V_iload E 7 rfl dX8_laysSeam_109 ?_
                            refine V_iadd E dX8_laysSeam_111 ?_
                            obtain ⟨hi16, hf⟩ := asr_ok hf
                            refine V_iald E 11 rfl hi16 dX8_laysSeam_112 ?_
                            obtain ⟨t17, ht17, hf⟩ := bd hf
                            have ht17 := Option.some.inj ht17
                            rw [ht17]
                            refine V_istore E (lv' := [(0, .ref (qMo 0)), (1, .int p1), (2, .int u1), (3, .int a8_3), (4, .int a22_4), (5, .int t17), (6, .int a47_6), (7, .int a47_7)]) dX8_laysSeam_113 (by decide) rfl ?_
                            refine V_iconst E (v := (1 : Int32)) dX8_laysSeam_115 (by decide) ?_
                            refine V_istore E (lv' := [(0, .ref (qMo 0)), (1, .int p1), (2, .int u1), (3, .int a8_3), (4, .int a22_4), (5, .int t17), (6, .int (1 : Int32)), (7, .int a47_7)]) dX8_laysSeam_116 (by decide) rfl ?_
                            refine V_iinc E (v := (a47_7 + (1 : Int32))) (lv' := [(0, .ref (qMo 0)), (1, .int p1), (2, .int u1), (3, .int a8_3), (4, .int a22_4), (5, .int t17), (6, .int (1 : Int32)), (7, .int (a47_7 + (1 : Int32)))]) 7 rfl dX8_laysSeam_118 rfl (by decide) rfl ?_
                            refine V_goto E (tgt := 47) dX8_laysSeam_121 (by decide) ?_
                            exact ih t17 (1 : Int32) (a47_7 + (1 : Int32)) _ hf hk
                          · have hf := iq hc15 hf
                            refine V_aload_n E 0 rfl dX8_laysSeam_80 ?_
                            refine gfX8_44 E 0 rfl rfl dX8_laysSeam_81 ?_
                            refine V_bipush E (v := (8 : Int32)) dX8_laysSeam_84 (by decide) ?_
                            refine V_iload_n E 3 rfl dX8_laysSeam_86 ?_
                            refine V_iconst E (v := (1 : Int32)) dX8_laysSeam_87 (by decide) ?_
                            refine V_iadd E dX8_laysSeam_88 ?_
                            refine V_imul E dX8_laysSeam_89 ?_
                            refine V_iload E 7 rfl dX8_laysSeam_90 ?_
                            refine V_iadd E dX8_laysSeam_92 ?_
                            obtain ⟨hi18, hf⟩ := asr_ok hf
                            refine V_iald E 11 rfl hi18 dX8_laysSeam_93 ?_
                            refine V_iload E 5 rfl dX8_laysSeam_94 ?_
                            refine V_icmp_ge E (tgt := 118) dX8_laysSeam_96 (by decide) (fun hc19 => ?_) (fun hc19 => ?_)
                            · have hf := ip hc19 hf
                              refine V_iinc E (v := (a47_7 + (1 : Int32))) (lv' := [(0, .ref (qMo 0)), (1, .int p1), (2, .int u1), (3, .int a8_3), (4, .int a22_4), (5, .int a47_5), (6, .int a47_6), (7, .int (a47_7 + (1 : Int32)))]) 7 rfl dX8_laysSeam_118 rfl (by decide) rfl ?_
                              refine V_goto E (tgt := 47) dX8_laysSeam_121 (by decide) ?_
                              exact ih a47_5 a47_6 (a47_7 + (1 : Int32)) _ hf hk
                            · have hf := iq hc19 hf
                              refine V_aload_n E 0 rfl dX8_laysSeam_99 ?_
                              refine gfX8_44 E 0 rfl rfl dX8_laysSeam_100 ?_
                              refine V_bipush E (v := (8 : Int32)) dX8_laysSeam_103 (by decide) ?_
                              refine V_iload_n E 3 rfl dX8_laysSeam_105 ?_
                              refine V_iconst E (v := (1 : Int32)) dX8_laysSeam_106 (by decide) ?_
                              refine V_iadd E dX8_laysSeam_107 ?_
                              refine V_imul E dX8_laysSeam_108 ?_
                              refine V_iload E 7 rfl dX8_laysSeam_109 ?_
                              refine V_iadd E dX8_laysSeam_111 ?_
                              obtain ⟨hi20, hf⟩ := asr_ok hf
                              refine V_iald E 11 rfl hi20 dX8_laysSeam_112 ?_
                              obtain ⟨t21, ht21, hf⟩ := bd hf
                              have ht21 := Option.some.inj ht21
                              rw [ht21]
                              refine V_istore E (lv' := [(0, .ref (qMo 0)), (1, .int p1), (2, .int u1), (3, .int a8_3), (4, .int a22_4), (5, .int t21), (6, .int a47_6), (7, .int a47_7)]) dX8_laysSeam_113 (by decide) rfl ?_
                              refine V_iconst E (v := (1 : Int32)) dX8_laysSeam_115 (by decide) ?_
                              refine V_istore E (lv' := [(0, .ref (qMo 0)), (1, .int p1), (2, .int u1), (3, .int a8_3), (4, .int a22_4), (5, .int t21), (6, .int (1 : Int32)), (7, .int a47_7)]) dX8_laysSeam_116 (by decide) rfl ?_
                              refine V_iinc E (v := (a47_7 + (1 : Int32))) (lv' := [(0, .ref (qMo 0)), (1, .int p1), (2, .int u1), (3, .int a8_3), (4, .int a22_4), (5, .int t21), (6, .int (1 : Int32)), (7, .int (a47_7 + (1 : Int32)))]) 7 rfl dX8_laysSeam_118 rfl (by decide) rfl ?_
                              refine V_goto E (tgt := 47) dX8_laysSeam_121 (by decide) ?_
                              exact ih t21 (1 : Int32) (a47_7 + (1 : Int32)) _ hf hk
                obtain ⟨u9, hu9, hf⟩ := bd hf
                refine L47 FU (0 : Int32) (0 : Int32) u1 u9 hu9 ?_
                refine V_aload_n E 0 rfl dX8_laysSeam_124 ?_
                refine gfX8_44 E 0 rfl rfl dX8_laysSeam_125 ?_
                refine V_bipush E (v := (8 : Int32)) dX8_laysSeam_128 (by decide) ?_
                refine V_iload_n E 3 rfl dX8_laysSeam_130 ?_
                refine V_imul E dX8_laysSeam_131 ?_
                refine V_iload E 4 rfl dX8_laysSeam_132 ?_
                refine V_iadd E dX8_laysSeam_134 ?_
                refine V_aload_n E 0 rfl dX8_laysSeam_135 ?_
                refine V_iload_n E 1 rfl dX8_laysSeam_136 ?_
                refine V_iload_n E 3 rfl dX8_laysSeam_137 ?_
                refine V_iload E 4 rfl dX8_laysSeam_138 ?_
                obtain ⟨u22, hu22, hf⟩ := bd hf
                refine V_frW E (Rn_V E (rest := [.int (((8 : Int32) * a8_3) + a22_4), .ref (qMo 11)]) mlX8_234 wd_yX8_differs (kMo_differs l G qMo p1 a8_3 a22_4 mo_all mo_past mo_aside mo_states mo_refused mo_causeKind mo_causeOrder mo_corner mo_linkVotes mo_linkE mo_linkF mo_follower mo_ahead c22_mo_least (upd c8_mo_seam a8_3.toNatClampNeg (-1 : Int32)) mo_above mo_below mo_text mo_textLong mo_place mo_value mo_numbers mo_not u22 hu22) ⟨rfl, rfl, Nat.le_of_ble_eq_true rfl, Nat.le_of_ble_eq_true rfl⟩ 0 rfl rfl rfl rfl rfl (Nat.le_of_ble_eq_true rfl) dX8_laysSeam_140) ?_
                show V G p l e rmMo_laysSeam s m args below meth c 8 A Q 0 0 (gMo G qMo mo_all mo_past mo_aside mo_states mo_refused mo_causeKind mo_causeOrder mo_corner mo_linkVotes mo_linkE mo_linkF mo_follower mo_ahead c22_mo_least (upd c8_mo_seam a8_3.toNatClampNeg (-1 : Int32)) mo_above mo_below mo_text mo_textLong mo_place mo_value mo_numbers mo_not) 143 [(0, .ref (qMo 0)), (1, .int p1), (2, .int u1), (3, .int a8_3), (4, .int a22_4), (5, .int u9)] [.int u22, .int (((8 : Int32) * a8_3) + a22_4), .ref (qMo 11)]
                obtain ⟨u23, hu23, hf⟩ := bd hf
                refine V_fr0 E (Rn_S E (rest := [.int (((8 : Int32) * a8_3) + a22_4), .ref (qMo 11)]) mlX8_146 wd_yX8_abs (kMo_abs l G u22 u23 hu23) ⟨rfl, rfl, Nat.le_of_ble_eq_true rfl, Nat.le_of_ble_eq_true rfl⟩ rfl rfl (Nat.le_of_ble_eq_true rfl) dX8_laysSeam_143) ?_
                show V G p l e rmMo_laysSeam s m args below meth c 8 A Q 0 0 (gMo G qMo mo_all mo_past mo_aside mo_states mo_refused mo_causeKind mo_causeOrder mo_corner mo_linkVotes mo_linkE mo_linkF mo_follower mo_ahead c22_mo_least (upd c8_mo_seam a8_3.toNatClampNeg (-1 : Int32)) mo_above mo_below mo_text mo_textLong mo_place mo_value mo_numbers mo_not) 146 [(0, .ref (qMo 0)), (1, .int p1), (2, .int u1), (3, .int a8_3), (4, .int a22_4), (5, .int u9)] [.int u23, .int (((8 : Int32) * a8_3) + a22_4), .ref (qMo 11)]
                refine V_iload E 5 rfl dX8_laysSeam_146 ?_
                refine V_iadd E dX8_laysSeam_148 ?_
                obtain ⟨hi24, hf⟩ := asr_ok hf
                refine V_iast E (ws' := (gMo G qMo mo_all mo_past mo_aside mo_states mo_refused mo_causeKind mo_causeOrder mo_corner mo_linkVotes mo_linkE mo_linkF mo_follower mo_ahead (upd c22_mo_least (((8 : Int32) * a8_3) + a22_4).toNatClampNeg (u23 + u9)) (upd c8_mo_seam a8_3.toNatClampNeg (-1 : Int32)) mo_above mo_below mo_text mo_textLong mo_place mo_value mo_numbers mo_not)) 11 rfl hi24 dX8_laysSeam_149 rfl ?_
                refine V_iinc E (v := (a22_4 + (1 : Int32))) (lv' := [(0, .ref (qMo 0)), (1, .int p1), (2, .int u1), (3, .int a8_3), (4, .int (a22_4 + (1 : Int32))), (5, .int u9)]) 4 rfl dX8_laysSeam_150 rfl (by decide) rfl ?_
                refine V_goto E (tgt := 22) dX8_laysSeam_153 (by decide) ?_
                refine V_sub [0, 1, 2, 3, 4] rfl ?_
                exact ih (a22_4 + (1 : Int32)) (upd c22_mo_least (((8 : Int32) * a8_3) + a22_4).toNatClampNeg (u23 + u9)) _ hf hk
        obtain ⟨u5, hu5, hf⟩ := bd hf
        refine L22 FU u1 c8_mo_least u5 hu5 ?_
        refine V_iinc E (v := (a8_3 + (-1 : Int32))) (lv' := [(0, .ref (qMo 0)), (1, .int p1), (2, .int u1), (3, .int (a8_3 + (-1 : Int32)))]) 3 rfl dX8_laysSeam_156 rfl (by decide) rfl ?_
        refine V_goto E (tgt := 8) dX8_laysSeam_159 (by decide) ?_
        exact ih (a8_3 + (-1 : Int32)) u5 (upd c8_mo_seam a8_3.toNatClampNeg (-1 : Int32)) _ hf hk
  obtain ⟨u2, hu2, hf⟩ := bd hf
  refine L8 FU (3 : Int32) mo_least mo_seam u2 hu2 ?_
  refine V_iconst E (v := (0 : Int32)) dX8_laysSeam_162 (by decide) ?_
  refine V_istore_n E (lv' := [(0, .ref (qMo 0)), (1, .int p1), (2, .int u1), (3, .int (0 : Int32))]) dX8_laysSeam_163 (by decide) rfl ?_
  have L164 : ∀ (n : Nat) (a164_3 : Int32) (c164_mo_seam : Nat → Int32) (u : (Nat → Int32)), fMo_laysSeam_L164 p1 u1 mo_linkE mo_follower u2.1 n a164_3 c164_mo_seam = some u → (V G p l e rmMo_laysSeam s m args below meth c 8 A Q 0 0 (gMo G qMo mo_all mo_past mo_aside mo_states mo_refused mo_causeKind mo_causeOrder mo_corner mo_linkVotes mo_linkE mo_linkF mo_follower mo_ahead u2.1 u mo_above mo_below mo_text mo_textLong mo_place mo_value mo_numbers mo_not) 293 [] []) → V G p l e rmMo_laysSeam s m args below meth c 8 A Q 0 0 (gMo G qMo mo_all mo_past mo_aside mo_states mo_refused mo_causeKind mo_causeOrder mo_corner mo_linkVotes mo_linkE mo_linkF mo_follower mo_ahead u2.1 c164_mo_seam mo_above mo_below mo_text mo_textLong mo_place mo_value mo_numbers mo_not) 164 [(0, .ref (qMo 0)), (1, .int p1), (2, .int u1), (3, .int a164_3)] [] := by
    intro n
    induction n with
    | zero =>
      intro a164_3 c164_mo_seam u hf hk
      rw [fMo_laysSeam_L164] at hf
      cases hf
    | succ n ih =>
      intro a164_3 c164_mo_seam u hf hk
      rw [fMo_laysSeam_L164] at hf
      refine V_iload_n E 3 rfl dX8_laysSeam_164 ?_
      refine V_iconst E (v := (4 : Int32)) dX8_laysSeam_165 (by decide) ?_
      refine V_icmp_ge E (tgt := 293) dX8_laysSeam_166 (by decide) (fun hc26 => ?_) (fun hc26 => ?_)
      · have hf := ip hc26 hf
        refine V_sub [] rfl ?_
        rw [← Option.some.inj hf] at hk
        exact hk
      · have hf := iq hc26 hf
        refine V_iload_n E 2 rfl dX8_laysSeam_169 ?_
        refine V_istore E (lv' := [(0, .ref (qMo 0)), (1, .int p1), (2, .int u1), (3, .int a164_3), (4, .int u1)]) dX8_laysSeam_170 (by decide) rfl ?_
        have L172 : ∀ (n : Nat) (a172_4 : Int32) (c172_mo_seam : Nat → Int32) (u : (Nat → Int32)), fMo_laysSeam_L172 p1 a164_3 mo_linkE mo_follower u2.1 n a172_4 c172_mo_seam = some u → (V G p l e rmMo_laysSeam s m args below meth c 8 A Q 0 0 (gMo G qMo mo_all mo_past mo_aside mo_states mo_refused mo_causeKind mo_causeOrder mo_corner mo_linkVotes mo_linkE mo_linkF mo_follower mo_ahead u2.1 u mo_above mo_below mo_text mo_textLong mo_place mo_value mo_numbers mo_not) 287 [(0, .ref (qMo 0)), (1, .int p1), (2, .int u1), (3, .int a164_3)] []) → V G p l e rmMo_laysSeam s m args below meth c 8 A Q 0 0 (gMo G qMo mo_all mo_past mo_aside mo_states mo_refused mo_causeKind mo_causeOrder mo_corner mo_linkVotes mo_linkE mo_linkF mo_follower mo_ahead u2.1 c172_mo_seam mo_above mo_below mo_text mo_textLong mo_place mo_value mo_numbers mo_not) 172 [(0, .ref (qMo 0)), (1, .int p1), (2, .int u1), (3, .int a164_3), (4, .int a172_4)] [] := by
          intro n
          induction n with
          | zero =>
            intro a172_4 c172_mo_seam u hf hk
            rw [fMo_laysSeam_L172] at hf
            cases hf
          | succ n ih =>
            intro a172_4 c172_mo_seam u hf hk
            rw [fMo_laysSeam_L172] at hf
            refine V_iload E 4 rfl dX8_laysSeam_172 ?_
            refine V_bipush E (v := (8 : Int32)) dX8_laysSeam_174 (by decide) ?_
            refine V_icmp_ge E (tgt := 287) dX8_laysSeam_176 (by decide) (fun hc28 => ?_) (fun hc28 => ?_)
            · have hf := ip hc28 hf
              refine V_sub [0, 1, 2, 3] rfl ?_
              rw [← Option.some.inj hf] at hk
              exact hk
            · have hf := iq hc28 hf
              refine V_aload_n E 0 rfl dX8_laysSeam_179 ?_
              refine V_iload_n E 1 rfl dX8_laysSeam_180 ?_
              refine V_iload_n E 3 rfl dX8_laysSeam_181 ?_
              obtain ⟨u29, hu29, hf⟩ := bd hf
              refine V_frW E (Rn_V E (rest := []) mlX8_228 wd_yX8_hasRow (kMo_hasRow l G qMo p1 a164_3 mo_all mo_past mo_aside mo_states mo_refused mo_causeKind mo_causeOrder mo_corner mo_linkVotes mo_linkE mo_linkF mo_follower mo_ahead u2.1 c172_mo_seam mo_above mo_below mo_text mo_textLong mo_place mo_value mo_numbers mo_not u29 hu29) ⟨rfl, rfl, Nat.le_of_ble_eq_true rfl, Nat.le_of_ble_eq_true rfl⟩ 0 rfl rfl rfl rfl rfl (Nat.le_of_ble_eq_true rfl) dX8_laysSeam_182) ?_
              show V G p l e rmMo_laysSeam s m args below meth c 8 A Q 0 0 (gMo G qMo mo_all mo_past mo_aside mo_states mo_refused mo_causeKind mo_causeOrder mo_corner mo_linkVotes mo_linkE mo_linkF mo_follower mo_ahead u2.1 c172_mo_seam mo_above mo_below mo_text mo_textLong mo_place mo_value mo_numbers mo_not) 185 [(0, .ref (qMo 0)), (1, .int p1), (2, .int u1), (3, .int a164_3), (4, .int a172_4)] [.int u29]
              refine V_if_eq E (tgt := 287) dX8_laysSeam_185 (by decide) (fun hc30 => ?_) (fun hc30 => ?_)
              · have hf := ip hc30 hf
                refine V_sub [0, 1, 2, 3] rfl ?_
                rw [← Option.some.inj hf] at hk
                exact hk
              · have hf := iq hc30 hf
                refine V_iload_n E 3 rfl dX8_laysSeam_188 ?_
                obtain ⟨u32, hu32, hf⟩ := bd hf
                have J225 : V G p l e rmMo_laysSeam s m args below meth c 8 A Q 0 0 (gMo G qMo mo_all mo_past mo_aside mo_states mo_refused mo_causeKind mo_causeOrder mo_corner mo_linkVotes mo_linkE mo_linkF mo_follower mo_ahead u2.1 c172_mo_seam mo_above mo_below mo_text mo_textLong mo_place mo_value mo_numbers mo_not) 225 [(0, .ref (qMo 0)), (1, .int p1), (2, .int u1), (3, .int a164_3), (4, .int a172_4)] [.int u32] := by
                  refine V_istore E (lv' := [(0, .ref (qMo 0)), (1, .int p1), (2, .int u1), (3, .int a164_3), (4, .int a172_4), (5, .int u32)]) dX8_laysSeam_225 (by decide) rfl ?_
                  refine V_iload E 5 rfl dX8_laysSeam_227 ?_
                  refine V_if_eq E (tgt := 281) dX8_laysSeam_229 (by decide) (fun hc38 => ?_) (fun hc38 => ?_)
                  · have hf := ip hc38 hf
                    refine V_iinc E (v := (a172_4 + (1 : Int32))) (lv' := [(0, .ref (qMo 0)), (1, .int p1), (2, .int u1), (3, .int a164_3), (4, .int (a172_4 + (1 : Int32))), (5, .int u32)]) 4 rfl dX8_laysSeam_281 rfl (by decide) rfl ?_
                    refine V_goto E (tgt := 172) dX8_laysSeam_284 (by decide) ?_
                    refine V_sub [0, 1, 2, 3, 4] rfl ?_
                    exact ih (a172_4 + (1 : Int32)) c172_mo_seam _ hf hk
                  · have hf := iq hc38 hf
                    refine V_aload_n E 0 rfl dX8_laysSeam_232 ?_
                    refine gfX8_47 E 0 rfl rfl dX8_laysSeam_233 ?_
                    refine V_iload_n E 3 rfl dX8_laysSeam_236 ?_
                    obtain ⟨hi39, hf⟩ := asr_ok hf
                    refine V_iald E 12 rfl hi39 dX8_laysSeam_237 ?_
                    refine V_iconst E (v := (-1 : Int32)) dX8_laysSeam_238 (by decide) ?_
                    refine V_icmp_eq E (tgt := 273) dX8_laysSeam_239 (by decide) (fun hc40 => ?_) (fun hc40 => ?_)
                    · have hf := ip hc40 hf
                      refine V_aload_n E 0 rfl dX8_laysSeam_273 ?_
                      refine gfX8_47 E 0 rfl rfl dX8_laysSeam_274 ?_
                      refine V_iload_n E 3 rfl dX8_laysSeam_277 ?_
                      refine V_iload E 4 rfl dX8_laysSeam_278 ?_
                      obtain ⟨hi41, hf⟩ := asr_ok hf
                      refine V_iast E (ws' := (gMo G qMo mo_all mo_past mo_aside mo_states mo_refused mo_causeKind mo_causeOrder mo_corner mo_linkVotes mo_linkE mo_linkF mo_follower mo_ahead u2.1 (upd c172_mo_seam a164_3.toNatClampNeg a172_4) mo_above mo_below mo_text mo_textLong mo_place mo_value mo_numbers mo_not)) 12 rfl hi41 dX8_laysSeam_280 rfl ?_
                      refine V_iinc E (v := (a172_4 + (1 : Int32))) (lv' := [(0, .ref (qMo 0)), (1, .int p1), (2, .int u1), (3, .int a164_3), (4, .int (a172_4 + (1 : Int32))), (5, .int u32)]) 4 rfl dX8_laysSeam_281 rfl (by decide) rfl ?_
                      refine V_goto E (tgt := 172) dX8_laysSeam_284 (by decide) ?_
                      refine V_sub [0, 1, 2, 3, 4] rfl ?_
                      exact ih (a172_4 + (1 : Int32)) (upd c172_mo_seam a164_3.toNatClampNeg a172_4) _ hf hk
                    · have hf := iq hc40 hf
                      refine V_aload_n E 0 rfl dX8_laysSeam_242 ?_
                      refine gfX8_44 E 0 rfl rfl dX8_laysSeam_243 ?_
                      refine V_bipush E (v := (8 : Int32)) dX8_laysSeam_246 (by decide) ?_
                      refine V_iload_n E 3 rfl dX8_laysSeam_248 ?_
                      refine V_imul E dX8_laysSeam_249 ?_
                      refine V_iload E 4 rfl dX8_laysSeam_250 ?_
                      refine V_iadd E dX8_laysSeam_252 ?_
                      obtain ⟨hi42, hf⟩ := asr_ok hf
                      refine V_iald E 11 rfl hi42 dX8_laysSeam_253 ?_
                      refine V_aload_n E 0 rfl dX8_laysSeam_254 ?_
                      refine gfX8_44 E 0 rfl rfl dX8_laysSeam_255 ?_
                      refine V_bipush E (v := (8 : Int32)) dX8_laysSeam_258 (by decide) ?_
                      refine V_iload_n E 3 rfl dX8_laysSeam_260 ?_
                      refine V_imul E dX8_laysSeam_261 ?_
                      refine V_aload_n E 0 rfl dX8_laysSeam_262 ?_
                      refine gfX8_47 E 0 rfl rfl dX8_laysSeam_263 ?_
                      refine V_iload_n E 3 rfl dX8_laysSeam_266 ?_
                      obtain ⟨hi43, hf⟩ := asr_ok hf
                      refine V_iald E 12 rfl hi43 dX8_laysSeam_267 ?_
                      refine V_iadd E dX8_laysSeam_268 ?_
                      obtain ⟨hi44, hf⟩ := asr_ok hf
                      refine V_iald E 11 rfl hi44 dX8_laysSeam_269 ?_
                      refine V_icmp_ge E (tgt := 281) dX8_laysSeam_270 (by decide) (fun hc45 => ?_) (fun hc45 => ?_)
                      · have hf := ip hc45 hf
                        refine V_iinc E (v := (a172_4 + (1 : Int32))) (lv' := [(0, .ref (qMo 0)), (1, .int p1), (2, .int u1), (3, .int a164_3), (4, .int (a172_4 + (1 : Int32))), (5, .int u32)]) 4 rfl dX8_laysSeam_281 rfl (by decide) rfl ?_
                        refine V_goto E (tgt := 172) dX8_laysSeam_284 (by decide) ?_
                        refine V_sub [0, 1, 2, 3, 4] rfl ?_
                        exact ih (a172_4 + (1 : Int32)) c172_mo_seam _ hf hk
                      · have hf := iq hc45 hf
                        refine V_aload_n E 0 rfl dX8_laysSeam_273 ?_
                        refine gfX8_47 E 0 rfl rfl dX8_laysSeam_274 ?_
                        refine V_iload_n E 3 rfl dX8_laysSeam_277 ?_
                        refine V_iload E 4 rfl dX8_laysSeam_278 ?_
                        obtain ⟨hi46, hf⟩ := asr_ok hf
                        refine V_iast E (ws' := (gMo G qMo mo_all mo_past mo_aside mo_states mo_refused mo_causeKind mo_causeOrder mo_corner mo_linkVotes mo_linkE mo_linkF mo_follower mo_ahead u2.1 (upd c172_mo_seam a164_3.toNatClampNeg a172_4) mo_above mo_below mo_text mo_textLong mo_place mo_value mo_numbers mo_not)) 12 rfl hi46 dX8_laysSeam_280 rfl ?_
                        refine V_iinc E (v := (a172_4 + (1 : Int32))) (lv' := [(0, .ref (qMo 0)), (1, .int p1), (2, .int u1), (3, .int a164_3), (4, .int (a172_4 + (1 : Int32))), (5, .int u32)]) 4 rfl dX8_laysSeam_281 rfl (by decide) rfl ?_
                        refine V_goto E (tgt := 172) dX8_laysSeam_284 (by decide) ?_
                        refine V_sub [0, 1, 2, 3, 4] rfl ?_
                        exact ih (a172_4 + (1 : Int32)) (upd c172_mo_seam a164_3.toNatClampNeg a172_4) _ hf hk
                clear hf
                have hf := hu32
                refine V_if_eq E (tgt := 220) dX8_laysSeam_189 (by decide) (fun hc31 => ?_) (fun hc31 => ?_)
                · have hf := ip hc31 hf
                  refine V_iconst E (v := (1 : Int32)) dX8_laysSeam_220 (by decide) ?_
                  refine V_goto E (tgt := 225) dX8_laysSeam_221 (by decide) ?_
                  rw [← Option.some.inj hf] at J225
                  exact J225
                · have hf := iq hc31 hf
                  refine V_aload_n E 0 rfl dX8_laysSeam_192 ?_
                  refine gfX8_47 E 0 rfl rfl dX8_laysSeam_193 ?_
                  refine V_iload_n E 3 rfl dX8_laysSeam_196 ?_
                  refine V_iconst E (v := (1 : Int32)) dX8_laysSeam_197 (by decide) ?_
                  refine V_isub E dX8_laysSeam_198 ?_
                  obtain ⟨hi33, hf⟩ := asr_ok hf
                  refine V_iald E 12 rfl hi33 dX8_laysSeam_199 ?_
                  refine V_iconst E (v := (-1 : Int32)) dX8_laysSeam_200 (by decide) ?_
                  refine V_icmp_eq E (tgt := 220) dX8_laysSeam_201 (by decide) (fun hc34 => ?_) (fun hc34 => ?_)
                  · have hf := ip hc34 hf
                    refine V_iconst E (v := (1 : Int32)) dX8_laysSeam_220 (by decide) ?_
                    refine V_goto E (tgt := 225) dX8_laysSeam_221 (by decide) ?_
                    rw [← Option.some.inj hf] at J225
                    exact J225
                  · have hf := iq hc34 hf
                    refine V_iload E 4 rfl dX8_laysSeam_204 ?_
                    refine V_aload_n E 0 rfl dX8_laysSeam_206 ?_
                    refine gfX8_47 E 0 rfl rfl dX8_laysSeam_207 ?_
                    refine V_iload_n E 3 rfl dX8_laysSeam_210 ?_
                    refine V_iconst E (v := (1 : Int32)) dX8_laysSeam_211 (by decide) ?_
                    refine V_isub E dX8_laysSeam_212 ?_
                    obtain ⟨hi35, hf⟩ := asr_ok hf
                    refine V_iald E 12 rfl hi35 dX8_laysSeam_213 ?_
                    obtain ⟨u36, hu36, hf⟩ := bd hf
                    refine V_fr0 E (Rn_S E (rest := []) mlX8_231 wd_yX8_isNear (kMo_isNear l G a172_4 (c172_mo_seam (a164_3 - (1 : Int32)).toNatClampNeg) u36 hu36) ⟨rfl, rfl, Nat.le_of_ble_eq_true rfl, Nat.le_of_ble_eq_true rfl⟩ rfl rfl (Nat.le_of_ble_eq_true rfl) dX8_laysSeam_214) ?_
                    show V G p l e rmMo_laysSeam s m args below meth c 8 A Q 0 0 (gMo G qMo mo_all mo_past mo_aside mo_states mo_refused mo_causeKind mo_causeOrder mo_corner mo_linkVotes mo_linkE mo_linkF mo_follower mo_ahead u2.1 c172_mo_seam mo_above mo_below mo_text mo_textLong mo_place mo_value mo_numbers mo_not) 217 [(0, .ref (qMo 0)), (1, .int p1), (2, .int u1), (3, .int a164_3), (4, .int a172_4)] [.int u36]
                    refine V_if_eq E (tgt := 224) dX8_laysSeam_217 (by decide) (fun hc37 => ?_) (fun hc37 => ?_)
                    · have hf := ip hc37 hf
                      refine V_iconst E (v := (0 : Int32)) dX8_laysSeam_224 (by decide) ?_
                      rw [← Option.some.inj hf] at J225
                      exact J225
                    · have hf := iq hc37 hf
                      refine V_iconst E (v := (1 : Int32)) dX8_laysSeam_220 (by decide) ?_
                      refine V_goto E (tgt := 225) dX8_laysSeam_221 (by decide) ?_
                      rw [← Option.some.inj hf] at J225
                      exact J225
        obtain ⟨u27, hu27, hf⟩ := bd hf
        refine L172 FU u1 c164_mo_seam u27 hu27 ?_
        refine V_iinc E (v := (a164_3 + (1 : Int32))) (lv' := [(0, .ref (qMo 0)), (1, .int p1), (2, .int u1), (3, .int (a164_3 + (1 : Int32)))]) 3 rfl dX8_laysSeam_287 rfl (by decide) rfl ?_
        refine V_goto E (tgt := 164) dX8_laysSeam_290 (by decide) ?_
        exact ih (a164_3 + (1 : Int32)) u27 _ hf hk
  obtain ⟨u25, hu25, hf⟩ := bd hf
  refine L164 FU (0 : Int32) u2.2 u25 hu25 ?_
  have h9 := hret 293 [] dX8_laysSeam_293
  rw [← (Option.some.inj hf)] at h9
  exact h9
abbrev rmMo_seamSum : Room := { frames := 3, cells := 0, slots := 0, locals := 74 }
theorem wd_yX8_seamSum : wdV yX8_seamSum cX8_seamSum 4 (some .int) 1 := ⟨wc_yX8_seamSum, wi_yX8_seamSum, wse_yX8_seamSum, wini_X8, by decide +kernel, by decide +kernel, by decide +kernel⟩
set_option maxHeartbeats 4000000 in
set_option maxRecDepth 100000 in
theorem kMo_seamSum (l : Launch) (G : wG) (qMo : Nat → Nat) (p1 : Int32) (mo_all : Nat → Int32) (mo_past : Nat → Int32) (mo_aside : Nat → Int32) (mo_states : Int32) (mo_refused : Nat → Int32) (mo_causeKind : Int32) (mo_causeOrder : Int32) (mo_corner : Nat → Int32) (mo_linkVotes : Nat → Int32) (mo_linkE : Nat → Int32) (mo_linkF : Nat → Int32) (mo_follower : Nat → Int32) (mo_ahead : Nat → Int32) (mo_least : Nat → Int32) (mo_seam : Nat → Int32) (mo_above : Int64) (mo_below : Int64) (mo_text : Nat → Int32) (mo_textLong : Int32) (mo_place : Int32) (mo_value : Int32) (mo_numbers : Nat → Int32) (mo_not : Int32) (o : Int32 × (Nat → Int32) × (Nat → Int32)) (hf : fMo_seamSum p1 mo_all mo_linkE mo_linkF mo_follower mo_least mo_seam = some o) : Ct G l yX8_seamSum cX8_seamSum 4 (some .int) rmMo_seamSum [.ref (qMo 0), .int p1] (gMo G qMo mo_all mo_past mo_aside mo_states mo_refused mo_causeKind mo_causeOrder mo_corner mo_linkVotes mo_linkE mo_linkF mo_follower mo_ahead mo_least mo_seam mo_above mo_below mo_text mo_textLong mo_place mo_value mo_numbers mo_not) (some (.int o.1)) (gMo G qMo mo_all mo_past mo_aside mo_states mo_refused mo_causeKind mo_causeOrder mo_corner mo_linkVotes mo_linkE mo_linkF mo_follower mo_ahead o.2.1 o.2.2 mo_above mo_below mo_text mo_textLong mo_place mo_value mo_numbers mo_not) := by
  refine Ct.ofI (by decide +kernel) (Nat.le_of_ble_eq_true rfl) (fun p e s m args below meth c A Q E hret => ?_)
  unfold fMo_seamSum at hf
  show V G p l e rmMo_seamSum s m args below meth c 4 A Q 0 0 (gMo G qMo mo_all mo_past mo_aside mo_states mo_refused mo_causeKind mo_causeOrder mo_corner mo_linkVotes mo_linkE mo_linkF mo_follower mo_ahead mo_least mo_seam mo_above mo_below mo_text mo_textLong mo_place mo_value mo_numbers mo_not) 0 [(0, .ref (qMo 0)), (1, .int p1)] []
  refine V_iconst E (v := (0 : Int32)) dX8_seamSum_0 (by decide) ?_
  refine V_istore_n E (lv' := [(0, .ref (qMo 0)), (1, .int p1), (2, .int (0 : Int32))]) dX8_seamSum_1 (by decide) rfl ?_
  refine V_aload_n E 0 rfl dX8_seamSum_2 ?_
  refine V_iload_n E 1 rfl dX8_seamSum_3 ?_
  obtain ⟨u1, hu1, hf⟩ := bd hf
  refine V_frW E (Rn_V E (rest := []) mlX8_237 wd_yX8_laysSeam (kMo_laysSeam l G qMo p1 mo_all mo_past mo_aside mo_states mo_refused mo_causeKind mo_causeOrder mo_corner mo_linkVotes mo_linkE mo_linkF mo_follower mo_ahead mo_least mo_seam mo_above mo_below mo_text mo_textLong mo_place mo_value mo_numbers mo_not u1 hu1) ⟨rfl, rfl, Nat.le_of_ble_eq_true rfl, Nat.le_of_ble_eq_true rfl⟩ 0 rfl rfl rfl rfl rfl (Nat.le_of_ble_eq_true rfl) dX8_seamSum_4) ?_
  show V G p l e rmMo_seamSum s m args below meth c 4 A Q 0 0 (gMo G qMo mo_all mo_past mo_aside mo_states mo_refused mo_causeKind mo_causeOrder mo_corner mo_linkVotes mo_linkE mo_linkF mo_follower mo_ahead u1.1 u1.2 mo_above mo_below mo_text mo_textLong mo_place mo_value mo_numbers mo_not) 7 [(0, .ref (qMo 0)), (1, .int p1), (2, .int (0 : Int32))] []
  refine V_iconst E (v := (0 : Int32)) dX8_seamSum_7 (by decide) ?_
  refine V_istore_n E (lv' := [(0, .ref (qMo 0)), (1, .int p1), (2, .int (0 : Int32)), (3, .int (0 : Int32))]) dX8_seamSum_8 (by decide) rfl ?_
  have L9 : ∀ (n : Nat) (a9_2 : Int32) (a9_3 : Int32) (u : Int32), fMo_seamSum_L9 p1 mo_all mo_linkE mo_linkF mo_follower u1.2 n a9_2 a9_3 = some u → (V G p l e rmMo_seamSum s m args below meth c 4 A Q 0 0 (gMo G qMo mo_all mo_past mo_aside mo_states mo_refused mo_causeKind mo_causeOrder mo_corner mo_linkVotes mo_linkE mo_linkF mo_follower mo_ahead u1.1 u1.2 mo_above mo_below mo_text mo_textLong mo_place mo_value mo_numbers mo_not) 52 [(2, .int u)] []) → V G p l e rmMo_seamSum s m args below meth c 4 A Q 0 0 (gMo G qMo mo_all mo_past mo_aside mo_states mo_refused mo_causeKind mo_causeOrder mo_corner mo_linkVotes mo_linkE mo_linkF mo_follower mo_ahead u1.1 u1.2 mo_above mo_below mo_text mo_textLong mo_place mo_value mo_numbers mo_not) 9 [(0, .ref (qMo 0)), (1, .int p1), (2, .int a9_2), (3, .int a9_3)] [] := by
    intro n
    induction n with
    | zero =>
      intro a9_2 a9_3 u hf hk
      rw [fMo_seamSum_L9] at hf
      cases hf
    | succ n ih =>
      intro a9_2 a9_3 u hf hk
      rw [fMo_seamSum_L9] at hf
      refine V_iload_n E 3 rfl dX8_seamSum_9 ?_
      refine V_iconst E (v := (4 : Int32)) dX8_seamSum_10 (by decide) ?_
      refine V_icmp_ge E (tgt := 52) dX8_seamSum_11 (by decide) (fun hc3 => ?_) (fun hc3 => ?_)
      · have hf := ip hc3 hf
        refine V_sub [2] rfl ?_
        rw [← Option.some.inj hf] at hk
        exact hk
      · have hf := iq hc3 hf
        refine V_iload_n E 2 rfl dX8_seamSum_14 ?_
        refine V_aload_n E 0 rfl dX8_seamSum_15 ?_
        refine gfX8_47 E 0 rfl rfl dX8_seamSum_16 ?_
        refine V_iload_n E 3 rfl dX8_seamSum_19 ?_
        obtain ⟨hi4, hf⟩ := asr_ok hf
        refine V_iald E 12 rfl hi4 dX8_seamSum_20 ?_
        refine V_iconst E (v := (-1 : Int32)) dX8_seamSum_21 (by decide) ?_
        refine V_icmp_ne E (tgt := 29) dX8_seamSum_22 (by decide) (fun hc5 => ?_) (fun hc5 => ?_)
        · have hf := iq hc5 hf
          refine V_aload_n E 0 rfl dX8_seamSum_29 ?_
          refine V_iload_n E 1 rfl dX8_seamSum_30 ?_
          refine V_iload_n E 3 rfl dX8_seamSum_31 ?_
          refine V_aload_n E 0 rfl dX8_seamSum_32 ?_
          refine gfX8_47 E 0 rfl rfl dX8_seamSum_33 ?_
          refine V_iload_n E 3 rfl dX8_seamSum_36 ?_
          obtain ⟨hi6, hf⟩ := asr_ok hf
          refine V_iald E 12 rfl hi6 dX8_seamSum_37 ?_
          obtain ⟨u7, hu7, hf⟩ := bd hf
          refine V_frW E (Rn_V E (rest := [.int a9_2]) mlX8_234 wd_yX8_differs (kMo_differs l G qMo p1 a9_3 (u1.2 a9_3.toNatClampNeg) mo_all mo_past mo_aside mo_states mo_refused mo_causeKind mo_causeOrder mo_corner mo_linkVotes mo_linkE mo_linkF mo_follower mo_ahead u1.1 u1.2 mo_above mo_below mo_text mo_textLong mo_place mo_value mo_numbers mo_not u7 hu7) ⟨rfl, rfl, Nat.le_of_ble_eq_true rfl, Nat.le_of_ble_eq_true rfl⟩ 0 rfl rfl rfl rfl rfl (Nat.le_of_ble_eq_true rfl) dX8_seamSum_38) ?_
          show V G p l e rmMo_seamSum s m args below meth c 4 A Q 0 0 (gMo G qMo mo_all mo_past mo_aside mo_states mo_refused mo_causeKind mo_causeOrder mo_corner mo_linkVotes mo_linkE mo_linkF mo_follower mo_ahead u1.1 u1.2 mo_above mo_below mo_text mo_textLong mo_place mo_value mo_numbers mo_not) 41 [(0, .ref (qMo 0)), (1, .int p1), (2, .int a9_2), (3, .int a9_3)] [.int u7, .int a9_2]
          obtain ⟨u8, hu8, hf⟩ := bd hf
          refine V_fr0 E (Rn_S E (rest := [.int a9_2]) mlX8_146 wd_yX8_abs (kMo_abs l G u7 u8 hu8) ⟨rfl, rfl, Nat.le_of_ble_eq_true rfl, Nat.le_of_ble_eq_true rfl⟩ rfl rfl (Nat.le_of_ble_eq_true rfl) dX8_seamSum_41) ?_
          show V G p l e rmMo_seamSum s m args below meth c 4 A Q 0 0 (gMo G qMo mo_all mo_past mo_aside mo_states mo_refused mo_causeKind mo_causeOrder mo_corner mo_linkVotes mo_linkE mo_linkF mo_follower mo_ahead u1.1 u1.2 mo_above mo_below mo_text mo_textLong mo_place mo_value mo_numbers mo_not) 44 [(0, .ref (qMo 0)), (1, .int p1), (2, .int a9_2), (3, .int a9_3)] [.int u8, .int a9_2]
          refine V_iadd E dX8_seamSum_44 ?_
          refine V_istore_n E (lv' := [(0, .ref (qMo 0)), (1, .int p1), (2, .int (a9_2 + u8)), (3, .int a9_3)]) dX8_seamSum_45 (by decide) rfl ?_
          refine V_iinc E (v := (a9_3 + (1 : Int32))) (lv' := [(0, .ref (qMo 0)), (1, .int p1), (2, .int (a9_2 + u8)), (3, .int (a9_3 + (1 : Int32)))]) 3 rfl dX8_seamSum_46 rfl (by decide) rfl ?_
          refine V_goto E (tgt := 9) dX8_seamSum_49 (by decide) ?_
          exact ih (a9_2 + u8) (a9_3 + (1 : Int32)) _ hf hk
        · have hf := ip hc5 hf
          refine V_iconst E (v := (0 : Int32)) dX8_seamSum_25 (by decide) ?_
          refine V_goto E (tgt := 44) dX8_seamSum_26 (by decide) ?_
          refine V_iadd E dX8_seamSum_44 ?_
          refine V_istore_n E (lv' := [(0, .ref (qMo 0)), (1, .int p1), (2, .int (a9_2 + (0 : Int32))), (3, .int a9_3)]) dX8_seamSum_45 (by decide) rfl ?_
          refine V_iinc E (v := (a9_3 + (1 : Int32))) (lv' := [(0, .ref (qMo 0)), (1, .int p1), (2, .int (a9_2 + (0 : Int32))), (3, .int (a9_3 + (1 : Int32)))]) 3 rfl dX8_seamSum_46 rfl (by decide) rfl ?_
          refine V_goto E (tgt := 9) dX8_seamSum_49 (by decide) ?_
          exact ih (a9_2 + (0 : Int32)) (a9_3 + (1 : Int32)) _ hf hk
  obtain ⟨u2, hu2, hf⟩ := bd hf
  refine L9 FU (0 : Int32) (0 : Int32) u2 hu2 ?_
  refine V_iload_n E 0 rfl dX8_seamSum_52 ?_
  have h9 := hret 53 [(2, .int u2)] dX8_seamSum_53
  rw [← (Option.some.inj hf)] at h9
  exact h9
abbrev rmMo_cells : Room := { frames := 1, cells := 0, slots := 0, locals := 21 }
theorem wd_yX8_cells : wdV yX8_cells cX8_cells 2 (some .int) 1 := ⟨wc_yX8_cells, wi_yX8_cells, wse_yX8_cells, wini_X8, by decide +kernel, by decide +kernel, by decide +kernel⟩
set_option maxHeartbeats 4000000 in
set_option maxRecDepth 100000 in
theorem kMo_cells (l : Launch) (G : wG) (qMo : Nat → Nat) (p1 : Int32) (mo_all : Nat → Int32) (mo_past : Nat → Int32) (mo_aside : Nat → Int32) (mo_states : Int32) (mo_refused : Nat → Int32) (mo_causeKind : Int32) (mo_causeOrder : Int32) (mo_corner : Nat → Int32) (mo_linkVotes : Nat → Int32) (mo_linkE : Nat → Int32) (mo_linkF : Nat → Int32) (mo_follower : Nat → Int32) (mo_ahead : Nat → Int32) (mo_least : Nat → Int32) (mo_seam : Nat → Int32) (mo_above : Int64) (mo_below : Int64) (mo_text : Nat → Int32) (mo_textLong : Int32) (mo_place : Int32) (mo_value : Int32) (mo_numbers : Nat → Int32) (mo_not : Int32) (o : Int32) (hf : fMo_cells p1 mo_linkE mo_linkF mo_follower = some o) : Ct G l yX8_cells cX8_cells 2 (some .int) rmMo_cells [.ref (qMo 0), .int p1] (gMo G qMo mo_all mo_past mo_aside mo_states mo_refused mo_causeKind mo_causeOrder mo_corner mo_linkVotes mo_linkE mo_linkF mo_follower mo_ahead mo_least mo_seam mo_above mo_below mo_text mo_textLong mo_place mo_value mo_numbers mo_not) (some (.int o)) (gMo G qMo mo_all mo_past mo_aside mo_states mo_refused mo_causeKind mo_causeOrder mo_corner mo_linkVotes mo_linkE mo_linkF mo_follower mo_ahead mo_least mo_seam mo_above mo_below mo_text mo_textLong mo_place mo_value mo_numbers mo_not) := by
  refine Ct.ofI (by decide +kernel) (Nat.le_of_ble_eq_true rfl) (fun p e s m args below meth c A Q E hret => ?_)
  unfold fMo_cells at hf
  show V G p l e rmMo_cells s m args below meth c 2 A Q 0 0 (gMo G qMo mo_all mo_past mo_aside mo_states mo_refused mo_causeKind mo_causeOrder mo_corner mo_linkVotes mo_linkE mo_linkF mo_follower mo_ahead mo_least mo_seam mo_above mo_below mo_text mo_textLong mo_place mo_value mo_numbers mo_not) 0 [(0, .ref (qMo 0)), (1, .int p1)] []
  refine V_iconst E (v := (4 : Int32)) dX8_cells_0 (by decide) ?_
  refine V_aload_n E 0 rfl dX8_cells_1 ?_
  refine V_iload_n E 1 rfl dX8_cells_2 ?_
  obtain ⟨u1, hu1, hf⟩ := bd hf
  refine V_frW E (Rn_V E (rest := [.int (4 : Int32)]) mlX8_202 wd_yX8_eOf (kMo_eOf l G qMo p1 mo_all mo_past mo_aside mo_states mo_refused mo_causeKind mo_causeOrder mo_corner mo_linkVotes mo_linkE mo_linkF mo_follower mo_ahead mo_least mo_seam mo_above mo_below mo_text mo_textLong mo_place mo_value mo_numbers mo_not u1 hu1) ⟨rfl, rfl, Nat.le_of_ble_eq_true rfl, Nat.le_of_ble_eq_true rfl⟩ 0 rfl rfl rfl rfl rfl (Nat.le_of_ble_eq_true rfl) dX8_cells_3) ?_
  show V G p l e rmMo_cells s m args below meth c 2 A Q 0 0 (gMo G qMo mo_all mo_past mo_aside mo_states mo_refused mo_causeKind mo_causeOrder mo_corner mo_linkVotes mo_linkE mo_linkF mo_follower mo_ahead mo_least mo_seam mo_above mo_below mo_text mo_textLong mo_place mo_value mo_numbers mo_not) 6 [(0, .ref (qMo 0)), (1, .int p1)] [.int u1, .int (4 : Int32)]
  obtain ⟨u2, hu2, hf⟩ := bd hf
  refine V_fr0 E (Rn_S E (rest := [.int (4 : Int32)]) mlX8_146 wd_yX8_abs (kMo_abs l G u1 u2 hu2) ⟨rfl, rfl, Nat.le_of_ble_eq_true rfl, Nat.le_of_ble_eq_true rfl⟩ rfl rfl (Nat.le_of_ble_eq_true rfl) dX8_cells_6) ?_
  show V G p l e rmMo_cells s m args below meth c 2 A Q 0 0 (gMo G qMo mo_all mo_past mo_aside mo_states mo_refused mo_causeKind mo_causeOrder mo_corner mo_linkVotes mo_linkE mo_linkF mo_follower mo_ahead mo_least mo_seam mo_above mo_below mo_text mo_textLong mo_place mo_value mo_numbers mo_not) 9 [(0, .ref (qMo 0)), (1, .int p1)] [.int u2, .int (4 : Int32)]
  refine V_isub E dX8_cells_9 ?_
  refine V_bipush E (v := (8 : Int32)) dX8_cells_10 (by decide) ?_
  refine V_aload_n E 0 rfl dX8_cells_12 ?_
  refine V_iload_n E 1 rfl dX8_cells_13 ?_
  obtain ⟨u3, hu3, hf⟩ := bd hf
  refine V_frW E (Rn_V E (rest := [.int (8 : Int32), .int ((4 : Int32) - u2)]) mlX8_205 wd_yX8_fOf (kMo_fOf l G qMo p1 mo_all mo_past mo_aside mo_states mo_refused mo_causeKind mo_causeOrder mo_corner mo_linkVotes mo_linkE mo_linkF mo_follower mo_ahead mo_least mo_seam mo_above mo_below mo_text mo_textLong mo_place mo_value mo_numbers mo_not u3 hu3) ⟨rfl, rfl, Nat.le_of_ble_eq_true rfl, Nat.le_of_ble_eq_true rfl⟩ 0 rfl rfl rfl rfl rfl (Nat.le_of_ble_eq_true rfl) dX8_cells_14) ?_
  show V G p l e rmMo_cells s m args below meth c 2 A Q 0 0 (gMo G qMo mo_all mo_past mo_aside mo_states mo_refused mo_causeKind mo_causeOrder mo_corner mo_linkVotes mo_linkE mo_linkF mo_follower mo_ahead mo_least mo_seam mo_above mo_below mo_text mo_textLong mo_place mo_value mo_numbers mo_not) 17 [(0, .ref (qMo 0)), (1, .int p1)] [.int u3, .int (8 : Int32), .int ((4 : Int32) - u2)]
  refine V_isub E dX8_cells_17 ?_
  refine V_imul E dX8_cells_18 ?_
  have h9 := hret 19 [(0, .ref (qMo 0)), (1, .int p1)] dX8_cells_19
  rw [← (Option.some.inj hf)] at h9
  exact h9
