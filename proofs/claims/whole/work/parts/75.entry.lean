/-! the law's entry, its script, a row whose cells agree -/
theorem arr_ty {cA : ClassId} {kA : Class} {comp : ClassId} {ty : FieldType} {s : State} (h2 : s.vm.classes[cA]? = some kA) (h3 : kA.kind = .array comp ty) : ArrOfT s cA ty := fun n z => ⟨(fun k h => by cases h), kA, h2, comp, h3⟩
theorem KU_entry {args : Array Value} {s : State} (hts : ∀ w ∈ lw_tbl, w.before args s = true) : ∃ G : wG, KU G s := by
  have hT : ∀ w ∈ wT, w.before args s = true := fun w hw => hts w (wT_tbl w hw)
  obtain ⟨c0, i0, h0⟩ := u_known (C := RX0) (T := TX0) (N := 11) (n := 11) hT wf_X0 (hT _ win_X0)
  obtain ⟨c1, i1, h1⟩ := u_known (C := RX1) (T := TX1) (N := 3) (n := 3) hT wf_X1 (hT _ win_X1)
  obtain ⟨c2, i2, h2⟩ := u_known (C := RX2) (T := TX2) (N := 4) (n := 4) hT wf_X2 (hT _ win_X2)
  obtain ⟨c3, i3, h3⟩ := u_known (C := RX3) (T := TX3) (N := 4) (n := 4) hT wf_X3 (hT _ win_X3)
  obtain ⟨c4, i4, h4⟩ := u_known (C := RX4) (T := TX4) (N := 10) (n := 10) hT wf_X4 (hT _ win_X4)
  obtain ⟨c5, i5, h5⟩ := u_known (C := RX5) (T := TX5) (N := 9) (n := 9) hT wf_X5 (hT _ win_X5)
  obtain ⟨c6, i6, h6⟩ := u_known (C := RX6) (T := TX6) (N := 7) (n := 7) hT wf_X6 (hT _ win_X6)
  obtain ⟨c7, i7, h7⟩ := u_known (C := RX7) (T := TX7) (N := 13) (n := 13) hT wf_X7 (hT _ win_X7)
  obtain ⟨c8, i8, h8⟩ := u_known (C := RX8) (T := TX8) (N := 23) (n := 23) hT wf_X8 (hT _ win_X8)
  obtain ⟨a1, k1, m1, f1, f2, f3⟩ := Cond.arrayClass_spec (hT _ wa_arrayClassint)
  obtain ⟨a2, k2, m2, g1, g2, g3⟩ := Cond.arrayClass_spec (hT _ wa_arrayClasslong)
  have hAO : (Cond.arrayOver (.object "PictureRing$Scene")).before args s = true := hts _ (List.mem_of_getElem? (i := 151) (by decide +kernel))
  obtain ⟨m3, a3, k3, e1, _, e3, e4, e5⟩ := Cond.arrayOver_spec hAO
  refine ⟨((fun k => if k = 0 then c0 else if k = 1 then c1 else if k = 2 then c2 else if k = 3 then c3 else if k = 4 then c4 else if k = 5 then c5 else if k = 6 then c6 else if k = 7 then c7 else c8, fun k => if k = 0 then i0 else if k = 1 then i1 else if k = 2 then i2 else if k = 3 then i3 else if k = 4 then i4 else if k = 5 then i5 else if k = 6 then i6 else if k = 7 then i7 else i8), a1, a2, a3), ⟨?_, ?_⟩, ?_, va_AO.of hAO⟩
  · intro k q hq
    match k, hq with
    | 0, hq => cases hq; exact h0
    | 1, hq => cases hq; exact h1
    | 2, hq => cases hq; exact h2
    | 3, hq => cases hq; exact h3
    | 4, hq => cases hq; exact h4
    | 5, hq => cases hq; exact h5
    | 6, hq => cases hq; exact h6
    | 7, hq => cases hq; exact h7
    | 8, hq => cases hq; exact h8
    | k + 9, hq => simp [vwCl] at hq
  · intro k q hq
    match k, hq with
    | 0, hq => cases hq; exact ⟨arr_ty f2 f3, f1⟩
    | 1, hq => cases hq; exact ⟨arr_ty g2 g3, g1⟩
    | 2, hq => cases hq; exact ⟨arr_ty e3 e4, k3, m3, e3, e4, e1, e5⟩
    | k + 3, hq => simp [tyG] at hq
  · intro w hw
    obtain ⟨x1, x2, x3, x4, rfl⟩ := wN_shape w hw
    exact va_Nw.of rfl (hts _ (wN_tbl _ hw))
section LV
variable {G : wG} {p : Program} {l : Launch} {e : Env} {R : Room} {s : State} {m : MethodId} {args : Array Value} {below : List Frame} {meth : Method} {c : Code} {cc : ByteArray} {nL : Nat} {own : String} {A : Nat → Prop} {Q : State → Prop} {kc ks : Nat} {ws : va_W} {pc : Nat} {lv : List (Nat × Value)} {stk : List Value}
theorem V_sld (E : Cx G p R kc ks s m args c cc nL own A meth) {b LL : Nat} {xs : Nat → Int32} (hX : va_X b LL xs s s.heap) (hbl : b < s.heap.size) (hbA : ¬ A b) {i : Nat} (hin : i < LL) (hLL : LL ≤ 2560) (d : decode cc pc = .ok (.iaload, 1)) (k : V G p l e R s m args below meth c nL A Q kc ks ws (pc + 1) lv (.int (xs i) :: stk)) : V G p l e R s m args below meth c nL A Q kc ks ws pc lv (.int (iz i) :: .ref b :: stk) := fun H locs ls h1 h2 h3 h4 => by
  have hi : (iz (i : Int)).toNatClampNeg = i := by rw [iz_c (by omega) (by omega)]; omega
  have hv : vp_in (iz (i : Int)) LL := vp_in_iff.mpr (by rw [iz_t (by omega) (by omega)]; omega)
  refine va_sld E.1 E.2.1 hX hbl hbA h3 hv d ?_
  rw [hi]
  exact k H locs ls h1 h2 h3 h4
theorem V_slen (E : Cx G p R kc ks s m args c cc nL own A meth) {b LL : Nat} {xs : Nat → Int32} (hX : va_X b LL xs s s.heap) (hbl : b < s.heap.size) (hbA : ¬ A b) (d : decode cc pc = .ok (.arraylength, 1)) (k : V G p l e R s m args below meth c nL A Q kc ks ws (pc + 1) lv (.int (Int32.ofNat LL) :: stk)) : V G p l e R s m args below meth c nL A Q kc ks ws pc lv (.ref b :: stk) := fun H locs ls h1 h2 h3 h4 => va_slen E.1 E.2.1 hX hbl hbA h3 d (k H locs ls h1 h2 h3 h4)
theorem cell_c {cA : ClassId} {n : Nat} {f f' : Nat → Int32} (h : ∀ j, j < n → f' j = f j) : vp_cell cA (n, .inl f') = vp_cell cA (n, .inl f) := by
  show arrV cA n (fun j => .int (f' j)) = arrV cA n (fun j => .int (f j))
  exact arrV_congr (fun j hj => congrArg Value.int (h j hj))
theorem V_arx {pre post : va_W} {x : Nat} {cA : ClassId} {n : Nat} {f f' : Nat → Int32} (h : ∀ j, j < n → f' j = f j) (k : V G p l e R s m args below meth c nL A Q kc ks (pre ++ (x, .inl (cA, n, .inl f)) :: post) pc lv stk) : V G p l e R s m args below meth c nL A Q kc ks (pre ++ (x, .inl (cA, n, .inl f')) :: post) pc lv stk := by
  have key : ∀ (i : Nat) (q : Nat × va_E), (pre ++ (x, .inl (cA, n, .inl f)) :: post)[i]? = some q → ∃ q', (pre ++ (x, .inl (cA, n, .inl f')) :: post)[i]? = some q' ∧ q'.1 = q.1 ∧ ∀ H, va_at G.1 vwCl q' H → va_at G.1 vwCl q H := by
    intro i q hq
    by_cases c1 : i < pre.length
    · rw [List.getElem?_append_left c1] at hq ⊢
      exact ⟨q, hq, rfl, fun _ h => h⟩
    · rw [List.getElem?_append_right (by omega)] at hq ⊢
      generalize i - pre.length = j at *
      cases j with
      | zero =>
        cases hq
        refine ⟨_, rfl, rfl, fun H hH => ?_⟩
        have : H[x]? = some (vp_cell cA (n, .inl f')) := hH
        rw [cell_c h] at this
        exact this
      | succ j => exact ⟨q, hq, rfl, fun _ h => h⟩
  intro H locs ls h1 h2 h3 h4
  refine k H locs ls (fun i q hq => ?_) ⟨fun i j q1 q2 hq1 hq2 he => ?_, fun i q hq => ?_⟩ h3 h4
  · obtain ⟨q', g1, _, g3⟩ := key i q hq
    exact g3 H (h1 i q' g1)
  · obtain ⟨q1', g1, g2, _⟩ := key i q1 hq1
    obtain ⟨q2', g3, g4, _⟩ := key j q2 hq2
    exact h2.1 i j q1' q2' g1 g3 (by rw [g2, g4, he])
  · obtain ⟨q', g1, g2, _⟩ := key i q hq
    rw [← g2]
    exact h2.2 i q' g1
/-- an argument out of the script -/
theorem V_arg (E : Cx G p R kc ks s m args c cc nL own A meth) {b LL : Nat} {xs : Nat → Int32} (hX : va_X b LL xs s s.heap) (hbl : b < s.heap.size) (hbA : ¬ A b) {i j : Nat} (hv : lv[0]? = some (0, .ref b)) (hv3 : lv[3]? = some (3, .int (iz i))) (hin : i + j < LL) (hLL : LL ≤ 2560)
    (d0 : decode cc pc = .ok (.aload_n 0, 1)) (d1 : decode cc (pc + 1) = .ok (.iload_n 3, 1)) (d2 : decode cc (pc + 2) = .ok (.iconst (j : Int), 1)) (d3 : decode cc (pc + 3) = .ok (.iadd, 1)) (d4 : decode cc (pc + 4) = .ok (.iaload, 1)) (k : V G p l e R s m args below meth c nL A Q kc ks ws (pc + 5) lv (.int (xs (i + j)) :: stk)) : V G p l e R s m args below meth c nL A Q kc ks ws pc lv stk := by
  refine V_aload_n E (j := 0) 0 hv d0 ?_
  refine V_iload_n E (j := 3) 3 hv3 d1 ?_
  refine V_iconst E (v := iz (j : Int)) d2 rfl ?_
  refine V_iadd E d3 ?_
  rw [iz_add, show (i : Int) + (j : Int) = ((i + j : Nat) : Int) by omega]
  exact V_sld E hX hbl hbA hin hLL d4 k
end LV
