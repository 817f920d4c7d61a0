
abbrev rmHi_hold : Room := { frames := 2, cells := 0, slots := 0, locals := 47 }
theorem wd_yX1_hold : wdV yX1_hold cX1_hold 2 none 1 := ⟨wc_yX1_hold, wi_yX1_hold, wse_yX1_hold, wini_X1, by decide +kernel, by decide +kernel, by decide +kernel⟩
set_option maxHeartbeats 4000000 in
set_option maxRecDepth 100000 in
theorem kHi_hold (l : Launch) (G : wG) (qSc : Nat → Nat) (qS2 : Nat → Nat) (qHi : Nat → Nat) (sc_columns : Int32) (sc_count : Int32) (sc_cornerChange : Int32) (sc_voteApart : Int32) (sc_dots : Nat → Int32) (sc_cells : Nat → Int32) (sc_shotX : Nat → Int32) (sc_shotY : Nat → Int32) (sc_shotColumns : Nat → Int32) (s2_columns : Int32) (s2_count : Int32) (s2_cornerChange : Int32) (s2_voteApart : Int32) (s2_dots : Nat → Int32) (s2_cells : Nat → Int32) (s2_shotX : Nat → Int32) (s2_shotY : Nat → Int32) (s2_shotColumns : Nat → Int32) (hi_count : Int32) (hi_states : Nat → Option Nat) (o : Int32 × Int32 × Int32 × Int32 × (Nat → Int32) × (Nat → Int32) × (Nat → Int32) × (Nat → Int32) × (Nat → Int32)) (hf : fHi_hold sc_columns sc_count sc_cornerChange sc_voteApart sc_dots sc_cells sc_shotX sc_shotY sc_shotColumns s2_columns s2_count s2_cornerChange s2_voteApart s2_dots s2_cells s2_shotX s2_shotY s2_shotColumns = some o) : Ct G l yX1_hold cX1_hold 2 none rmHi_hold [.ref (qHi 0), .ref (qSc 0)] (gSc G qSc sc_columns sc_count sc_cornerChange sc_voteApart sc_dots sc_cells sc_shotX sc_shotY sc_shotColumns ++ (gSc G qS2 s2_columns s2_count s2_cornerChange s2_voteApart s2_dots s2_cells s2_shotX s2_shotY s2_shotColumns ++ (gHi G qHi hi_count hi_states (qS2 0)))) none (gSc G qSc sc_columns sc_count sc_cornerChange sc_voteApart sc_dots sc_cells sc_shotX sc_shotY sc_shotColumns ++ (gSc G qS2 o.1 o.2.1 o.2.2.1 o.2.2.2.1 o.2.2.2.2.1 o.2.2.2.2.2.1 o.2.2.2.2.2.2.1 o.2.2.2.2.2.2.2.1 o.2.2.2.2.2.2.2.2 ++ (gHi G qHi hi_count hi_states (qS2 0)))) := by
  refine Ct.ofV (by decide +kernel) (Nat.le_of_ble_eq_true rfl) (fun p e s m args below meth c A Q E hret => ?_)
  unfold fHi_hold at hf
  show V G p l e rmHi_hold s m args below meth c 2 A Q 0 0 (gSc G qSc sc_columns sc_count sc_cornerChange sc_voteApart sc_dots sc_cells sc_shotX sc_shotY sc_shotColumns ++ (gSc G qS2 s2_columns s2_count s2_cornerChange s2_voteApart s2_dots s2_cells s2_shotX s2_shotY s2_shotColumns ++ (gHi G qHi hi_count hi_states (qS2 0)))) 0 [(0, .ref (qHi 0)), (1, .ref (qSc 0))] []
  refine V_aload_n E 0 rfl dX1_hold_0 ?_
  refine gfX1_18 E 12 rfl rfl dX1_hold_1 ?_
  refine V_aload_n E 1 rfl dX1_hold_4 ?_
  obtain ⟨u1, hu1, hf⟩ := bd hf
  refine V_frG E (wr := (gHi G qHi hi_count hi_states (qS2 0))) (ws' := (gSc G qSc sc_columns sc_count sc_cornerChange sc_voteApart sc_dots sc_cells sc_shotX sc_shotY sc_shotColumns ++ (gSc G qS2 u1.1 u1.2.1 u1.2.2.1 u1.2.2.2.1 u1.2.2.2.2.1 u1.2.2.2.2.2.1 u1.2.2.2.2.2.2.1 u1.2.2.2.2.2.2.2.1 u1.2.2.2.2.2.2.2.2 ++ (gHi G qHi hi_count hi_states (qS2 0))))) [6, 7, 8, 9, 10, 11, 0, 1, 2, 3, 4, 5] [12, 13] [8, 9, 10, 11, 12, 13, 2, 3, 4, 5, 6, 7, 0, 1] rfl rfl ⟨rfl, rfl, rfl, rfl⟩ rfl (Rn_V E (rest := []) mlX1_22 wd_yX5_copyFrom (kSc_copyFrom l G qS2 qSc s2_columns s2_count s2_cornerChange s2_voteApart s2_dots s2_cells s2_shotX s2_shotY s2_shotColumns sc_columns sc_count sc_cornerChange sc_voteApart sc_dots sc_cells sc_shotX sc_shotY sc_shotColumns u1 hu1) ⟨rfl, rfl, Nat.le_of_ble_eq_true rfl, Nat.le_of_ble_eq_true rfl⟩ 0 rfl rfl rfl rfl rfl (Nat.le_of_ble_eq_true rfl) dX1_hold_5) ?_
  show V G p l e rmHi_hold s m args below meth c 2 A Q 0 0 (gSc G qSc sc_columns sc_count sc_cornerChange sc_voteApart sc_dots sc_cells sc_shotX sc_shotY sc_shotColumns ++ (gSc G qS2 u1.1 u1.2.1 u1.2.2.1 u1.2.2.2.1 u1.2.2.2.2.1 u1.2.2.2.2.2.1 u1.2.2.2.2.2.2.1 u1.2.2.2.2.2.2.2.1 u1.2.2.2.2.2.2.2.2 ++ (gHi G qHi hi_count hi_states (qS2 0)))) 8 [(0, .ref (qHi 0)), (1, .ref (qSc 0))] []
  have h9 := hret 8 [(0, .ref (qHi 0)), (1, .ref (qSc 0))] dX1_hold_8
  rw [← (Option.some.inj hf)] at h9
  exact h9
abbrev rmHi_release : Room := { frames := 2, cells := 0, slots := 0, locals := 47 }
theorem wd_yX1_release : wdV yX1_release cX1_release 2 none 1 := ⟨wc_yX1_release, wi_yX1_release, wse_yX1_release, wini_X1, by decide +kernel, by decide +kernel, by decide +kernel⟩
set_option maxHeartbeats 4000000 in
set_option maxRecDepth 100000 in
theorem kHi_release (l : Launch) (G : wG) (qSc : Nat → Nat) (qS2 : Nat → Nat) (qHi : Nat → Nat) (sc_columns : Int32) (sc_count : Int32) (sc_cornerChange : Int32) (sc_voteApart : Int32) (sc_dots : Nat → Int32) (sc_cells : Nat → Int32) (sc_shotX : Nat → Int32) (sc_shotY : Nat → Int32) (sc_shotColumns : Nat → Int32) (s2_columns : Int32) (s2_count : Int32) (s2_cornerChange : Int32) (s2_voteApart : Int32) (s2_dots : Nat → Int32) (s2_cells : Nat → Int32) (s2_shotX : Nat → Int32) (s2_shotY : Nat → Int32) (s2_shotColumns : Nat → Int32) (hi_count : Int32) (hi_states : Nat → Option Nat) (o : Int32 × Int32 × Int32 × Int32 × (Nat → Int32) × (Nat → Int32) × (Nat → Int32) × (Nat → Int32) × (Nat → Int32)) (hf : fHi_release sc_columns sc_count sc_cornerChange sc_voteApart sc_dots sc_cells sc_shotX sc_shotY sc_shotColumns s2_columns s2_count s2_cornerChange s2_voteApart s2_dots s2_cells s2_shotX s2_shotY s2_shotColumns = some o) : Ct G l yX1_release cX1_release 2 none rmHi_release [.ref (qHi 0), .ref (qSc 0)] (gSc G qSc sc_columns sc_count sc_cornerChange sc_voteApart sc_dots sc_cells sc_shotX sc_shotY sc_shotColumns ++ (gSc G qS2 s2_columns s2_count s2_cornerChange s2_voteApart s2_dots s2_cells s2_shotX s2_shotY s2_shotColumns ++ (gHi G qHi hi_count hi_states (qS2 0)))) none (gSc G qSc o.1 o.2.1 o.2.2.1 o.2.2.2.1 o.2.2.2.2.1 o.2.2.2.2.2.1 o.2.2.2.2.2.2.1 o.2.2.2.2.2.2.2.1 o.2.2.2.2.2.2.2.2 ++ (gSc G qS2 s2_columns s2_count s2_cornerChange s2_voteApart s2_dots s2_cells s2_shotX s2_shotY s2_shotColumns ++ (gHi G qHi hi_count hi_states (qS2 0)))) := by
  refine Ct.ofV (by decide +kernel) (Nat.le_of_ble_eq_true rfl) (fun p e s m args below meth c A Q E hret => ?_)
  unfold fHi_release at hf
  show V G p l e rmHi_release s m args below meth c 2 A Q 0 0 (gSc G qSc sc_columns sc_count sc_cornerChange sc_voteApart sc_dots sc_cells sc_shotX sc_shotY sc_shotColumns ++ (gSc G qS2 s2_columns s2_count s2_cornerChange s2_voteApart s2_dots s2_cells s2_shotX s2_shotY s2_shotColumns ++ (gHi G qHi hi_count hi_states (qS2 0)))) 0 [(0, .ref (qHi 0)), (1, .ref (qSc 0))] []
  refine V_aload_n E 1 rfl dX1_release_0 ?_
  refine V_aload_n E 0 rfl dX1_release_1 ?_
  refine gfX1_18 E 12 rfl rfl dX1_release_2 ?_
  obtain ⟨u1, hu1, hf⟩ := bd hf
  refine V_frG E (wr := (gHi G qHi hi_count hi_states (qS2 0))) (ws' := (gSc G qSc u1.1 u1.2.1 u1.2.2.1 u1.2.2.2.1 u1.2.2.2.2.1 u1.2.2.2.2.2.1 u1.2.2.2.2.2.2.1 u1.2.2.2.2.2.2.2.1 u1.2.2.2.2.2.2.2.2 ++ (gSc G qS2 s2_columns s2_count s2_cornerChange s2_voteApart s2_dots s2_cells s2_shotX s2_shotY s2_shotColumns ++ (gHi G qHi hi_count hi_states (qS2 0))))) [0, 1, 2, 3, 4, 5, 6, 7, 8, 9, 10, 11] [12, 13] [2, 3, 4, 5, 6, 7, 8, 9, 10, 11, 12, 13, 0, 1] rfl rfl ⟨rfl, rfl, rfl, rfl⟩ rfl (Rn_V E (rest := []) mlX1_22 wd_yX5_copyFrom (kSc_copyFrom l G qSc qS2 sc_columns sc_count sc_cornerChange sc_voteApart sc_dots sc_cells sc_shotX sc_shotY sc_shotColumns s2_columns s2_count s2_cornerChange s2_voteApart s2_dots s2_cells s2_shotX s2_shotY s2_shotColumns u1 hu1) ⟨rfl, rfl, Nat.le_of_ble_eq_true rfl, Nat.le_of_ble_eq_true rfl⟩ 0 rfl rfl rfl rfl rfl (Nat.le_of_ble_eq_true rfl) dX1_release_5) ?_
  show V G p l e rmHi_release s m args below meth c 2 A Q 0 0 (gSc G qSc u1.1 u1.2.1 u1.2.2.1 u1.2.2.2.1 u1.2.2.2.2.1 u1.2.2.2.2.2.1 u1.2.2.2.2.2.2.1 u1.2.2.2.2.2.2.2.1 u1.2.2.2.2.2.2.2.2 ++ (gSc G qS2 s2_columns s2_count s2_cornerChange s2_voteApart s2_dots s2_cells s2_shotX s2_shotY s2_shotColumns ++ (gHi G qHi hi_count hi_states (qS2 0)))) 8 [(0, .ref (qHi 0)), (1, .ref (qSc 0))] []
  have h9 := hret 8 [(0, .ref (qHi 0)), (1, .ref (qSc 0))] dX1_release_8
  rw [← (Option.some.inj hf)] at h9
  exact h9
abbrev rmHi_keep : Room := { frames := 0, cells := 0, slots := 0, locals := 0 }
theorem wd_yX1_keep : wdV yX1_keep cX1_keep 3 none 0 := ⟨wc_yX1_keep, wi_yX1_keep, wse_yX1_keep, wini_X1, by decide +kernel, by decide +kernel, by decide +kernel⟩
set_option maxHeartbeats 4000000 in
set_option maxRecDepth 100000 in
theorem kHi_keep (l : Launch) (G : wG) (qS2 : Nat → Nat) (qPP : Nat → Nat → Nat) (qHi : Nat → Nat) (s2_columns : Int32) (s2_count : Int32) (s2_cornerChange : Int32) (s2_voteApart : Int32) (s2_dots : Nat → Int32) (s2_cells : Nat → Int32) (s2_shotX : Nat → Int32) (s2_shotY : Nat → Int32) (s2_shotColumns : Nat → Int32) (pP_I : Nat → Nat → Int32) (pP_A : Nat → Nat → Nat → Int32) (hi_count : Int32) (o : Int32 × (Nat → Option Nat) × Nat) (hf : fHi_keep hi_count (fun j => some (qPP j 0)) (qS2 0) = some o) : Ct G l yX1_keep cX1_keep 3 none rmHi_keep [.ref (qHi 0)] (gSc G qS2 s2_columns s2_count s2_cornerChange s2_voteApart s2_dots s2_cells s2_shotX s2_shotY s2_shotColumns ++ (gPP G qPP pP_I pP_A ++ (gHi G qHi hi_count (fun j => some (qPP j 0)) (qS2 0)))) none (gSc G qS2 s2_columns s2_count s2_cornerChange s2_voteApart s2_dots s2_cells s2_shotX s2_shotY s2_shotColumns ++ (gPP G qPP pP_I pP_A ++ (gHi G qHi o.1 o.2.1 o.2.2))) := by
  refine Ct.ofV (by decide +kernel) (Nat.le_of_ble_eq_true rfl) (fun p e s m args below meth c A Q E hret => ?_)
  unfold fHi_keep at hf
  show V G p l e rmHi_keep s m args below meth c 3 A Q 0 0 (gSc G qS2 s2_columns s2_count s2_cornerChange s2_voteApart s2_dots s2_cells s2_shotX s2_shotY s2_shotColumns ++ (gPP G qPP pP_I pP_A ++ (gHi G qHi hi_count (fun j => some (qPP j 0)) (qS2 0)))) 0 [(0, .ref (qHi 0))] []
  refine V_aload_n E 0 rfl dX1_keep_0 ?_
  refine gfX1_26 E 36 rfl rfl dX1_keep_1 ?_
  refine V_iconst E (v := (5 : Int32)) dX1_keep_4 (by decide) ?_
  refine V_icmp_lt E (tgt := 60) dX1_keep_5 (by decide) (fun hc1 => ?_) (fun hc1 => ?_)
  · have hf := ip hc1 hf
    refine V_aload_n E 0 rfl dX1_keep_60 ?_
    refine gfX1_26 E 36 rfl rfl dX1_keep_61 ?_
    refine V_if_lt E (tgt := 105) dX1_keep_64 (by decide) (fun hc2 => ?_) (fun hc2 => ?_)
    · have hf := ip hc2 hf
      have h9 := hret 105 [(0, .ref (qHi 0))] dX1_keep_105
      rw [← (Option.some.inj hf)] at h9
      exact h9
    · have hf := iq hc2 hf
      obtain ⟨hi, hf⟩ := asr_ok hf
      refine V_aload_n E 0 rfl dX1_keep_67 ?_
      refine gfX1_11 E 36 rfl rfl dX1_keep_68 ?_
      refine V_aload_n E 0 rfl dX1_keep_71 ?_
      refine gfX1_26 E 36 rfl rfl dX1_keep_72 ?_
      refine V_aald E (b := (qPP hi_count.toNatClampNeg 0)) 37 rfl hi rfl dX1_keep_75 ?_
      refine V_astore_n E (lv' := [(0, .ref (qHi 0)), (1, .ref (qPP hi_count.toNatClampNeg 0))]) dX1_keep_76 (by decide) rfl ?_
      refine V_aload_n E 0 rfl dX1_keep_77 ?_
      refine gfX1_11 E 36 rfl rfl dX1_keep_78 ?_
      refine V_aload_n E 0 rfl dX1_keep_81 ?_
      refine gfX1_26 E 36 rfl rfl dX1_keep_82 ?_
      refine V_aload_n E 0 rfl dX1_keep_85 ?_
      refine gfX1_18 E 36 rfl rfl dX1_keep_86 ?_
      refine V_aast E (ws' := (gSc G qS2 s2_columns s2_count s2_cornerChange s2_voteApart s2_dots s2_cells s2_shotX s2_shotY s2_shotColumns ++ (gPP G qPP pP_I pP_A ++ (gHi G qHi hi_count (va_up (fun j => some (qPP j 0)) hi_count.toNatClampNeg (some (qS2 0))) (qS2 0))))) 37 0 rfl rfl rfl rfl hi dX1_keep_89 rfl ?_
      refine V_aload_n E 0 rfl dX1_keep_90 ?_
      refine V_aload_n E 1 rfl dX1_keep_91 ?_
      refine pfX1_18 E (ws' := (gSc G qS2 s2_columns s2_count s2_cornerChange s2_voteApart s2_dots s2_cells s2_shotX s2_shotY s2_shotColumns ++ (gPP G qPP pP_I pP_A ++ (gHi G qHi hi_count (va_up (fun j => some (qPP j 0)) hi_count.toNatClampNeg (some (qS2 0))) (qPP hi_count.toNatClampNeg 0))))) 36 rfl (Nat.le_of_ble_eq_true rfl) rfl rfl dX1_keep_92 rfl ?_
      refine V_aload_n E 0 rfl dX1_keep_95 ?_
      refine V_dup E dX1_keep_96 rfl ?_
      refine gfX1_26 E 36 rfl rfl dX1_keep_97 ?_
      refine V_iconst E (v := (1 : Int32)) dX1_keep_100 (by decide) ?_
      refine V_iadd E dX1_keep_101 ?_
      refine pfX1_26 E (ws' := (gSc G qS2 s2_columns s2_count s2_cornerChange s2_voteApart s2_dots s2_cells s2_shotX s2_shotY s2_shotColumns ++ (gPP G qPP pP_I pP_A ++ (gHi G qHi (hi_count + (1 : Int32)) (va_up (fun j => some (qPP j 0)) hi_count.toNatClampNeg (some (qS2 0))) (qPP hi_count.toNatClampNeg 0))))) 36 rfl (Nat.le_of_ble_eq_true rfl) rfl rfl dX1_keep_102 rfl ?_
      have h9 := hret 105 [(0, .ref (qHi 0)), (1, .ref (qPP hi_count.toNatClampNeg 0))] dX1_keep_105
      rw [← (Option.some.inj hf)] at h9
      exact h9
  · have hf := iq hc1 hf
    refine V_aload_n E 0 rfl dX1_keep_8 ?_
    refine gfX1_11 E 36 rfl rfl dX1_keep_9 ?_
    refine V_iconst E (v := (0 : Int32)) dX1_keep_12 (by decide) ?_
    refine V_aald E (b := (qPP 0 0)) 37 rfl (by decide) rfl dX1_keep_13 ?_
    refine V_astore_n E (lv' := [(0, .ref (qHi 0)), (1, .ref (qPP 0 0))]) dX1_keep_14 (by decide) rfl ?_
    refine V_iconst E (v := (0 : Int32)) dX1_keep_15 (by decide) ?_
    refine V_istore_n E (lv' := [(0, .ref (qHi 0)), (1, .ref (qPP 0 0)), (2, .int (0 : Int32))]) dX1_keep_16 (by decide) rfl ?_
    refine V_iload_n E 2 rfl dX1_keep_17 ?_
    refine V_iconst E (v := (4 : Int32)) dX1_keep_18 (by decide) ?_
    refine V_icmp_ge E (tgt := 42) dX1_keep_19 (by decide) (fun hc => absurd hc (by decide)) (fun _ => ?_)
    refine V_aload_n E 0 rfl dX1_keep_22 ?_
    refine gfX1_11 E 36 rfl rfl dX1_keep_23 ?_
    refine V_iload_n E 2 rfl dX1_keep_26 ?_
    refine V_aload_n E 0 rfl dX1_keep_27 ?_
    refine gfX1_11 E 36 rfl rfl dX1_keep_28 ?_
    refine V_iload_n E 2 rfl dX1_keep_31 ?_
    refine V_iconst E (v := (1 : Int32)) dX1_keep_32 (by decide) ?_
    refine V_iadd E dX1_keep_33 ?_
    refine V_aald E (b := (qPP 1 0)) 37 rfl (by decide) rfl dX1_keep_34 ?_
    refine V_aast E (ws' := (gSc G qS2 s2_columns s2_count s2_cornerChange s2_voteApart s2_dots s2_cells s2_shotX s2_shotY s2_shotColumns ++ (gPP G qPP pP_I pP_A ++ (gHi G qHi hi_count (va_up (fun j => some (qPP j 0)) 0 (some (qPP 1 0))) (qS2 0))))) 37 12 rfl rfl rfl rfl (by decide) dX1_keep_35 rfl ?_
    refine V_iinc E (v := (1 : Int32)) (lv' := [(0, .ref (qHi 0)), (1, .ref (qPP 0 0)), (2, .int (1 : Int32))]) 2 rfl dX1_keep_36 rfl (by decide) rfl ?_
    refine V_goto E (tgt := 17) dX1_keep_39 (by decide) ?_
    refine V_iload_n E 2 rfl dX1_keep_17 ?_
    refine V_iconst E (v := (4 : Int32)) dX1_keep_18 (by decide) ?_
    refine V_icmp_ge E (tgt := 42) dX1_keep_19 (by decide) (fun hc => absurd hc (by decide)) (fun _ => ?_)
    refine V_aload_n E 0 rfl dX1_keep_22 ?_
    refine gfX1_11 E 36 rfl rfl dX1_keep_23 ?_
    refine V_iload_n E 2 rfl dX1_keep_26 ?_
    refine V_aload_n E 0 rfl dX1_keep_27 ?_
    refine gfX1_11 E 36 rfl rfl dX1_keep_28 ?_
    refine V_iload_n E 2 rfl dX1_keep_31 ?_
    refine V_iconst E (v := (1 : Int32)) dX1_keep_32 (by decide) ?_
    refine V_iadd E dX1_keep_33 ?_
    refine V_aald E (b := (qPP 2 0)) 37 rfl (by decide) rfl dX1_keep_34 ?_
    refine V_aast E (ws' := (gSc G qS2 s2_columns s2_count s2_cornerChange s2_voteApart s2_dots s2_cells s2_shotX s2_shotY s2_shotColumns ++ (gPP G qPP pP_I pP_A ++ (gHi G qHi hi_count (va_up (va_up (fun j => some (qPP j 0)) 0 (some (qPP 1 0))) 1 (some (qPP 2 0))) (qS2 0))))) 37 18 rfl rfl rfl rfl (by decide) dX1_keep_35 rfl ?_
    refine V_iinc E (v := (2 : Int32)) (lv' := [(0, .ref (qHi 0)), (1, .ref (qPP 0 0)), (2, .int (2 : Int32))]) 2 rfl dX1_keep_36 rfl (by decide) rfl ?_
    refine V_goto E (tgt := 17) dX1_keep_39 (by decide) ?_
    refine V_iload_n E 2 rfl dX1_keep_17 ?_
    refine V_iconst E (v := (4 : Int32)) dX1_keep_18 (by decide) ?_
    refine V_icmp_ge E (tgt := 42) dX1_keep_19 (by decide) (fun hc => absurd hc (by decide)) (fun _ => ?_)
    refine V_aload_n E 0 rfl dX1_keep_22 ?_
    refine gfX1_11 E 36 rfl rfl dX1_keep_23 ?_
    refine V_iload_n E 2 rfl dX1_keep_26 ?_
    refine V_aload_n E 0 rfl dX1_keep_27 ?_
    refine gfX1_11 E 36 rfl rfl dX1_keep_28 ?_
    refine V_iload_n E 2 rfl dX1_keep_31 ?_
    refine V_iconst E (v := (1 : Int32)) dX1_keep_32 (by decide) ?_
    refine V_iadd E dX1_keep_33 ?_
    refine V_aald E (b := (qPP 3 0)) 37 rfl (by decide) rfl dX1_keep_34 ?_
    refine V_aast E (ws' := (gSc G qS2 s2_columns s2_count s2_cornerChange s2_voteApart s2_dots s2_cells s2_shotX s2_shotY s2_shotColumns ++ (gPP G qPP pP_I pP_A ++ (gHi G qHi hi_count (va_up (va_up (va_up (fun j => some (qPP j 0)) 0 (some (qPP 1 0))) 1 (some (qPP 2 0))) 2 (some (qPP 3 0))) (qS2 0))))) 37 24 rfl rfl rfl rfl (by decide) dX1_keep_35 rfl ?_
    refine V_iinc E (v := (3 : Int32)) (lv' := [(0, .ref (qHi 0)), (1, .ref (qPP 0 0)), (2, .int (3 : Int32))]) 2 rfl dX1_keep_36 rfl (by decide) rfl ?_
    refine V_goto E (tgt := 17) dX1_keep_39 (by decide) ?_
    refine V_iload_n E 2 rfl dX1_keep_17 ?_
    refine V_iconst E (v := (4 : Int32)) dX1_keep_18 (by decide) ?_
    refine V_icmp_ge E (tgt := 42) dX1_keep_19 (by decide) (fun hc => absurd hc (by decide)) (fun _ => ?_)
    refine V_aload_n E 0 rfl dX1_keep_22 ?_
    refine gfX1_11 E 36 rfl rfl dX1_keep_23 ?_
    refine V_iload_n E 2 rfl dX1_keep_26 ?_
    refine V_aload_n E 0 rfl dX1_keep_27 ?_
    refine gfX1_11 E 36 rfl rfl dX1_keep_28 ?_
    refine V_iload_n E 2 rfl dX1_keep_31 ?_
    refine V_iconst E (v := (1 : Int32)) dX1_keep_32 (by decide) ?_
    refine V_iadd E dX1_keep_33 ?_
    refine V_aald E (b := (qPP 4 0)) 37 rfl (by decide) rfl dX1_keep_34 ?_
    refine V_aast E (ws' := (gSc G qS2 s2_columns s2_count s2_cornerChange s2_voteApart s2_dots s2_cells s2_shotX s2_shotY s2_shotColumns ++ (gPP G qPP pP_I pP_A ++ (gHi G qHi hi_count (va_up (va_up (va_up (va_up (fun j => some (qPP j 0)) 0 (some (qPP 1 0))) 1 (some (qPP 2 0))) 2 (some (qPP 3 0))) 3 (some (qPP 4 0))) (qS2 0))))) 37 30 rfl rfl rfl rfl (by decide) dX1_keep_35 rfl ?_
    refine V_iinc E (v := (4 : Int32)) (lv' := [(0, .ref (qHi 0)), (1, .ref (qPP 0 0)), (2, .int (4 : Int32))]) 2 rfl dX1_keep_36 rfl (by decide) rfl ?_
    refine V_goto E (tgt := 17) dX1_keep_39 (by decide) ?_
    refine V_iload_n E 2 rfl dX1_keep_17 ?_
    refine V_iconst E (v := (4 : Int32)) dX1_keep_18 (by decide) ?_
    refine V_icmp_ge E (tgt := 42) dX1_keep_19 (by decide) (fun _ => ?_) (fun hc => absurd (by decide) hc)
    refine V_aload_n E 0 rfl dX1_keep_42 ?_
    refine gfX1_11 E 36 rfl rfl dX1_keep_43 ?_
    refine V_iconst E (v := (4 : Int32)) dX1_keep_46 (by decide) ?_
    refine V_aload_n E 0 rfl dX1_keep_47 ?_
    refine gfX1_18 E 36 rfl rfl dX1_keep_48 ?_
    refine V_aast E (ws' := (gSc G qS2 s2_columns s2_count s2_cornerChange s2_voteApart s2_dots s2_cells s2_shotX s2_shotY s2_shotColumns ++ (gPP G qPP pP_I pP_A ++ (gHi G qHi hi_count (va_up (va_up (va_up (va_up (va_up (fun j => some (qPP j 0)) 0 (some (qPP 1 0))) 1 (some (qPP 2 0))) 2 (some (qPP 3 0))) 3 (some (qPP 4 0))) 4 (some (qS2 0))) (qS2 0))))) 37 0 rfl rfl rfl rfl (by decide) dX1_keep_51 rfl ?_
    refine V_aload_n E 0 rfl dX1_keep_52 ?_
    refine V_aload_n E 1 rfl dX1_keep_53 ?_
    refine pfX1_18 E (ws' := (gSc G qS2 s2_columns s2_count s2_cornerChange s2_voteApart s2_dots s2_cells s2_shotX s2_shotY s2_shotColumns ++ (gPP G qPP pP_I pP_A ++ (gHi G qHi hi_count (va_up (va_up (va_up (va_up (va_up (fun j => some (qPP j 0)) 0 (some (qPP 1 0))) 1 (some (qPP 2 0))) 2 (some (qPP 3 0))) 3 (some (qPP 4 0))) 4 (some (qS2 0))) (qPP 0 0))))) 36 rfl (Nat.le_of_ble_eq_true rfl) rfl rfl dX1_keep_54 rfl ?_
    refine V_goto E (tgt := 105) dX1_keep_57 (by decide) ?_
    have h9 := hret 105 [(0, .ref (qHi 0)), (1, .ref (qPP 0 0)), (2, .int (4 : Int32))] dX1_keep_105
    rw [← (Option.some.inj hf)] at h9
    exact h9
abbrev rmHi_goBack : Room := { frames := 2, cells := 0, slots := 0, locals := 47 }
theorem wd_yX1_goBack : wdV yX1_goBack cX1_goBack 2 none 1 := ⟨wc_yX1_goBack, wi_yX1_goBack, wse_yX1_goBack, wini_X1, by decide +kernel, by decide +kernel, by decide +kernel⟩
set_option maxHeartbeats 4000000 in
set_option maxRecDepth 100000 in
theorem kHi_goBack (l : Launch) (G : wG) (qSc : Nat → Nat) (qS2 : Nat → Nat) (qHi : Nat → Nat) (sc_columns : Int32) (sc_count : Int32) (sc_cornerChange : Int32) (sc_voteApart : Int32) (sc_dots : Nat → Int32) (sc_cells : Nat → Int32) (sc_shotX : Nat → Int32) (sc_shotY : Nat → Int32) (sc_shotColumns : Nat → Int32) (s2_columns : Int32) (s2_count : Int32) (s2_cornerChange : Int32) (s2_voteApart : Int32) (s2_dots : Nat → Int32) (s2_cells : Nat → Int32) (s2_shotX : Nat → Int32) (s2_shotY : Nat → Int32) (s2_shotColumns : Nat → Int32) (hi_count : Int32) (hi_states : Nat → Option Nat) (hi_held : Nat) (hst : hi_states (hi_count - (1 : Int32)).toNatClampNeg = some (qS2 0)) (o : Int32 × Int32 × Int32 × Int32 × (Nat → Int32) × (Nat → Int32) × (Nat → Int32) × (Nat → Int32) × (Nat → Int32) × Int32) (hf : fHi_goBack sc_columns sc_count sc_cornerChange sc_voteApart sc_dots sc_cells sc_shotX sc_shotY sc_shotColumns s2_columns s2_count s2_cornerChange s2_voteApart s2_dots s2_cells s2_shotX s2_shotY s2_shotColumns hi_count = some o) : Ct G l yX1_goBack cX1_goBack 2 none rmHi_goBack [.ref (qHi 0), .ref (qSc 0)] (gSc G qSc sc_columns sc_count sc_cornerChange sc_voteApart sc_dots sc_cells sc_shotX sc_shotY sc_shotColumns ++ (gSc G qS2 s2_columns s2_count s2_cornerChange s2_voteApart s2_dots s2_cells s2_shotX s2_shotY s2_shotColumns ++ (gHi G qHi hi_count hi_states hi_held))) none (gSc G qSc o.1 o.2.1 o.2.2.1 o.2.2.2.1 o.2.2.2.2.1 o.2.2.2.2.2.1 o.2.2.2.2.2.2.1 o.2.2.2.2.2.2.2.1 o.2.2.2.2.2.2.2.2.1 ++ (gSc G qS2 s2_columns s2_count s2_cornerChange s2_voteApart s2_dots s2_cells s2_shotX s2_shotY s2_shotColumns ++ (gHi G qHi o.2.2.2.2.2.2.2.2.2 hi_states hi_held))) := by
  refine Ct.ofV (by decide +kernel) (Nat.le_of_ble_eq_true rfl) (fun p e s m args below meth c A Q E hret => ?_)
  unfold fHi_goBack at hf
  show V G p l e rmHi_goBack s m args below meth c 2 A Q 0 0 (gSc G qSc sc_columns sc_count sc_cornerChange sc_voteApart sc_dots sc_cells sc_shotX sc_shotY sc_shotColumns ++ (gSc G qS2 s2_columns s2_count s2_cornerChange s2_voteApart s2_dots s2_cells s2_shotX s2_shotY s2_shotColumns ++ (gHi G qHi hi_count hi_states hi_held))) 0 [(0, .ref (qHi 0)), (1, .ref (qSc 0))] []
  refine V_aload_n E 0 rfl dX1_goBack_0 ?_
  refine gfX1_26 E 12 rfl rfl dX1_goBack_1 ?_
  refine V_if_le E (tgt := 38) dX1_goBack_4 (by decide) (fun hc1 => ?_) (fun hc1 => ?_)
  · have hf := ip hc1 hf
    have h9 := hret 38 [(0, .ref (qHi 0)), (1, .ref (qSc 0))] dX1_goBack_38
    rw [← (Option.some.inj hf)] at h9
    exact h9
  · have hf := iq hc1 hf
    refine V_aload_n E 0 rfl dX1_goBack_7 ?_
    refine gfX1_26 E 12 rfl rfl dX1_goBack_8 ?_
    refine V_iconst E (v := (5 : Int32)) dX1_goBack_11 (by decide) ?_
    refine V_icmp_gt E (tgt := 38) dX1_goBack_12 (by decide) (fun hc2 => ?_) (fun hc2 => ?_)
    · have hf := ip hc2 hf
      have h9 := hret 38 [(0, .ref (qHi 0)), (1, .ref (qSc 0))] dX1_goBack_38
      rw [← (Option.some.inj hf)] at h9
      exact h9
    · have hf := iq hc2 hf
      refine V_aload_n E 0 rfl dX1_goBack_15 ?_
      refine V_dup E dX1_goBack_16 rfl ?_
      refine gfX1_26 E 12 rfl rfl dX1_goBack_17 ?_
      refine V_iconst E (v := (1 : Int32)) dX1_goBack_20 (by decide) ?_
      refine V_isub E dX1_goBack_21 ?_
      refine pfX1_26 E (ws' := (gSc G qSc sc_columns sc_count sc_cornerChange sc_voteApart sc_dots sc_cells sc_shotX sc_shotY sc_shotColumns ++ (gSc G qS2 s2_columns s2_count s2_cornerChange s2_voteApart s2_dots s2_cells s2_shotX s2_shotY s2_shotColumns ++ (gHi G qHi (hi_count - (1 : Int32)) hi_states hi_held)))) 12 rfl (Nat.le_of_ble_eq_true rfl) rfl rfl dX1_goBack_22 rfl ?_
      refine V_aload_n E 1 rfl dX1_goBack_25 ?_
      refine V_aload_n E 0 rfl dX1_goBack_26 ?_
      refine gfX1_11 E 12 rfl rfl dX1_goBack_27 ?_
      refine V_aload_n E 0 rfl dX1_goBack_30 ?_
      refine gfX1_26 E 12 rfl rfl dX1_goBack_31 ?_
      obtain ⟨hi3, hf⟩ := asr_ok hf
      refine V_aald E (b := (qS2 0)) 13 rfl hi3 hst dX1_goBack_34 ?_
      obtain ⟨u4, hu4, hf⟩ := bd hf
      refine V_frG E (wr := (gHi G qHi (hi_count - (1 : Int32)) hi_states hi_held)) (ws' := (gSc G qSc u4.1 u4.2.1 u4.2.2.1 u4.2.2.2.1 u4.2.2.2.2.1 u4.2.2.2.2.2.1 u4.2.2.2.2.2.2.1 u4.2.2.2.2.2.2.2.1 u4.2.2.2.2.2.2.2.2 ++ (gSc G qS2 s2_columns s2_count s2_cornerChange s2_voteApart s2_dots s2_cells s2_shotX s2_shotY s2_shotColumns ++ (gHi G qHi (hi_count - (1 : Int32)) hi_states hi_held)))) [0, 1, 2, 3, 4, 5, 6, 7, 8, 9, 10, 11] [12, 13] [2, 3, 4, 5, 6, 7, 8, 9, 10, 11, 12, 13, 0, 1] rfl rfl ⟨rfl, rfl, rfl, rfl⟩ rfl (Rn_V E (rest := []) mlX1_22 wd_yX5_copyFrom (kSc_copyFrom l G qSc qS2 sc_columns sc_count sc_cornerChange sc_voteApart sc_dots sc_cells sc_shotX sc_shotY sc_shotColumns s2_columns s2_count s2_cornerChange s2_voteApart s2_dots s2_cells s2_shotX s2_shotY s2_shotColumns u4 hu4) ⟨rfl, rfl, Nat.le_of_ble_eq_true rfl, Nat.le_of_ble_eq_true rfl⟩ 0 rfl rfl rfl rfl rfl (Nat.le_of_ble_eq_true rfl) dX1_goBack_35) ?_
      show V G p l e rmHi_goBack s m args below meth c 2 A Q 0 0 (gSc G qSc u4.1 u4.2.1 u4.2.2.1 u4.2.2.2.1 u4.2.2.2.2.1 u4.2.2.2.2.2.1 u4.2.2.2.2.2.2.1 u4.2.2.2.2.2.2.2.1 u4.2.2.2.2.2.2.2.2 ++ (gSc G qS2 s2_columns s2_count s2_cornerChange s2_voteApart s2_dots s2_cells s2_shotX s2_shotY s2_shotColumns ++ (gHi G qHi (hi_count - (1 : Int32)) hi_states hi_held))) 38 [(0, .ref (qHi 0)), (1, .ref (qSc 0))] []
      have h9 := hret 38 [(0, .ref (qHi 0)), (1, .ref (qSc 0))] dX1_goBack_38
      rw [← (Option.some.inj hf)] at h9
      exact h9
