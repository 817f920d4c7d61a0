/-! dropping a picture -/
def sf (f : Nat → Int32) (a b s : Nat) : Nat → Int32 := fun i => if a ≤ i ∧ i < b then f (i + s) else f i
theorem sf_0 (f : Nat → Int32) {a b : Nat} (s : Nat) (h : b ≤ a) : sf f a b s = f := by
  funext i; unfold sf; rw [if_neg (by omega)]
theorem sf_up (f : Nat → Int32) {a b s : Nat} (h : a < b) (hs : 0 < s) : sf (upd f a (f (a + s))) (a + 1) b s = sf f a b s := by
  funext i
  unfold sf
  by_cases h1 : a + 1 ≤ i ∧ i < b
  · rw [if_pos h1, if_pos (by omega), upd_n _ _ (by omega)]
  · rw [if_neg h1]
    by_cases h2 : i = a
    · subst h2; rw [upd_s, if_pos (by omega)]
    · rw [upd_n _ _ h2, if_neg (by omega)]
theorem sf_cpy (f : Nat → Int32) {k b : Nat} (h : k < b) : sf (va_cpy f f (32 * (k + 1)) (32 * k) 32) (32 * (k + 1)) (32 * b) 32 = sf f (32 * k) (32 * b) 32 := by
  funext i
  unfold sf va_cpy
  by_cases h1 : 32 * (k + 1) ≤ i ∧ i < 32 * b
  · rw [if_pos h1, if_neg (by omega), if_pos (by omega)]
  · rw [if_neg h1]
    by_cases h2 : 32 * k ≤ i ∧ i < 32 * k + 32
    · rw [if_pos h2, if_pos (by omega), show 32 * (k + 1) + (i - 32 * k) = i + 32 by omega]
    · rw [if_neg h2, if_neg (by omega)]
theorem drop_c {N : Int} (hN : 1 ≤ N ∧ N ≤ 6) : ∀ (d : Nat) (k : Int) (m : Nat), k = N - 1 - d → 0 ≤ k → d < m → ∀ cl sx sy sp,
    fSc_dropPicture_L13 (iz N) m (iz k) cl sx sy sp = some (sf cl (32 * k.toNat) (32 * (N - 1).toNat) 32, sf sx k.toNat (N - 1).toNat 1, sf sy k.toNat (N - 1).toNat 1, sf sp k.toNat (N - 1).toNat 1) := by
  intro d
  induction d with
  | zero =>
    intro k m hk h0 hm cl sx sy sp
    obtain ⟨m, rfl⟩ : ∃ q, m = q + 1 := ⟨m - 1, by omega⟩
    unfold fSc_dropPicture_L13
    simp (disch := omega) only [iz_n, iz_neg, iz_add, iz_sub, iz_mul, iz_lt, iz_le, iz_eq, iz_t, iz_c, Option.bind_some, bi0, bi1, bi01, bi10, bi11, if_pos, if_neg, if_true, if_false, ite_not, ite_bi]
    rw [sf_0 _ _ (by omega), sf_0 _ _ (by omega), sf_0 _ _ (by omega), sf_0 _ _ (by omega)]
  | succ d ih =>
    intro k m hk h0 hm cl sx sy sp
    obtain ⟨m, rfl⟩ : ∃ q, m = q + 1 := ⟨m - 1, by omega⟩
    unfold fSc_dropPicture_L13
    simp (disch := omega) only [iz_n, iz_neg, iz_add, iz_sub, iz_mul, iz_lt, iz_le, iz_eq, iz_t, iz_c, Option.bind_some, bi0, bi1, bi01, bi10, bi11, if_pos, if_neg, if_true, if_false, ite_not, ite_bi]
    have e1 : ((k + 1) * 32).toNat = 32 * (k.toNat + 1) := by omega
    have e2 : (k * 32).toNat = 32 * k.toNat := by omega
    have e3 : (k + 1).toNat = k.toNat + 1 := by omega
    rw [ih (k + 1) m (by omega) (by omega) (by omega), e1, e2, e3, show Int.toNat 32 = 32 from rfl, sf_cpy _ (by omega), sf_up _ (by omega) (by omega), sf_up _ (by omega) (by omega), sf_up _ (by omega) (by omega)]
theorem drop_m {N : Int} (hN : 1 ≤ N ∧ N ≤ 6) : ∀ (d : Nat) (j : Int) (m : Nat), j = 196 + 35 * (N - 1) - d → 196 ≤ j → d < m → ∀ al : Nat → Int32, NN al = N →
    fMo_dropNow_L9 m (iz j) al = some (sf al j.toNat (196 + 35 * (N - 1)).toNat 35) := by
  intro d
  induction d with
  | zero =>
    intro k m hk h0 hm al hal
    obtain ⟨m, rfl⟩ : ∃ q, m = q + 1 := ⟨m - 1, by omega⟩
    unfold fMo_dropNow_L9
    simp (disch := omega) only [iz_n, iz_neg, iz_add, iz_sub, iz_mul, iz_lt, iz_le, iz_eq, iz_t, iz_c, sMo_many, hal, Option.bind_some, bi0, bi1, bi01, bi10, bi11, if_pos, if_neg, if_true, if_false, ite_not, ite_bi]
    rw [sf_0 _ _ (by omega)]
  | succ d ih =>
    intro k m hk h0 hm al hal
    obtain ⟨m, rfl⟩ : ∃ q, m = q + 1 := ⟨m - 1, by omega⟩
    unfold fMo_dropNow_L9
    simp (disch := omega) only [iz_n, iz_neg, iz_add, iz_sub, iz_mul, iz_lt, iz_le, iz_eq, iz_t, iz_c, sMo_many, hal, Option.bind_some, bi0, bi1, bi01, bi10, bi11, if_pos, if_neg, if_true, if_false, ite_not, ite_bi]
    have e1 : (k + 35).toNat = k.toNat + 35 := by omega
    have e3 : (k + 1).toNat = k.toNat + 1 := by omega
    rw [ih (k + 1) m (by omega) (by omega) (by omega) _ (by unfold NN; rw [upd_n _ _ (by omega)]; exact hal), e1, e3, sf_up _ (by omega) (by omega)]
theorem op_drop {al : Nat → Int32} {w n t a : Int32} {dots cells sx sy sp : Nat → Int32} (h : RS al w n t a dots cells sx sy sp) (o : OkA al) {k : Int} (hk : 0 ≤ k ∧ k < NN al) :
    ∃ n' cells' sx' sy' sp' al', fSc_dropPicture (iz k) n cells sx sy sp = some (iz (NN al - 1), n', cells', sx', sy', sp') ∧ fMo_dropNow (iz k) al = some (iz (NN al - 1), al') ∧ RS al' w n' t a dots cells' sx' sy' sp' ∧ OkA al' := by
  have hn := o.n
  have en := h.iN
  subst en
  obtain ⟨a2, ea2⟩ : ∃ a2, a2 = upd (sf al (196 + 35 * k).toNat (196 + 35 * (NN al - 1)).toNat 35) 3 (iz (NN al - 1)) := ⟨_, rfl⟩
  have g : ∀ j, j < 196 → j ≠ 3 → a2 j = al j := by
    intro j h0 h3; rw [ea2, upd_n _ _ h3]; unfold sf; rw [if_neg (by omega)]
  have gi : ∀ k' i : Nat, k ≤ k' → (k' : Int) < NN al - 1 → i < 35 → a2 (196 + 35 * k' + i) = al (196 + 35 * (k' + 1) + i) := by
    intro k' i h1 h2 h3; rw [ea2, upd_n _ _ (by omega)]; unfold sf; rw [if_pos (by omega), show 196 + 35 * k' + i + 35 = 196 + 35 * (k' + 1) + i by omega]
  have go : ∀ k' i : Nat, ¬ (k ≤ k' ∧ (k' : Int) < NN al - 1) → i < 35 → a2 (196 + 35 * k' + i) = al (196 + 35 * k' + i) := by
    intro k' i h1 h3; rw [ea2, upd_n _ _ (by omega)]; unfold sf; rw [if_neg (by omega)]
  have gn : a2 3 = iz (NN al - 1) := by rw [ea2, upd_s]
  refine ⟨iz (NN al - 1), sf cells (32 * k.toNat) (32 * (NN al - 1).toNat) 32, sf sx k.toNat (NN al - 1).toNat 1, sf sy k.toNat (NN al - 1).toNat 1, sf sp k.toNat (NN al - 1).toNat 1, a2, ?_, ?_, ?_, ?_⟩
  · unfold fSc_dropPicture
    rw [sSc_hasPicture (by omega) (by omega)]
    simp only [Option.bind_some]
    rw [drop_c (by omega) (NN al - 1 - k).toNat k FU (by omega) (by omega) (by show _ < 5000; omega)]
    simp (disch := omega) only [iz_n, iz_neg, iz_add, iz_sub, iz_mul, iz_lt, iz_le, iz_eq, iz_t, iz_c, Option.bind_some, bi0, bi1, bi01, bi10, bi11, if_pos, if_neg, if_true, if_false, ite_not, ite_bi]
  · unfold fMo_dropNow
    simp only [Option.bind_some]
    rw [iz_n, iz_n, iz_mul, iz_add, drop_m (N := NN al) (by omega) (196 + 35 * (NN al - 1) - (196 + 35 * k)).toNat (196 + 35 * k) FU (by omega) (by omega) (by show _ < 5000; omega) al rfl]
    simp only [Option.bind_some]
    have e3 : sf al (196 + 35 * k).toNat (196 + 35 * (NN al - 1)).toNat 35 (Int.toNat 3) = iz (NN al) := by
      unfold sf; rw [show Int.toNat 3 = 3 from rfl, if_neg (by omega)]; exact iz_self _
    simp (disch := omega) only [iz_n, iz_neg, iz_add, iz_sub, iz_mul, iz_lt, iz_le, iz_eq, iz_t, iz_c, Option.bind_some, bi0, bi1, bi01, bi10, bi11, if_pos, if_neg, if_true, if_false, ite_not, ite_bi, e3, sMo_many]
    rw [show Int.toNat 3 = 3 from rfl, ← ea2]
    unfold NN
    rw [gn, iz_t (by omega) (by omega)]
    rfl
  · refine ⟨?_, ?_, ?_, ?_, ?_, ?_, ?_, ?_, ?_⟩
    · rw [g _ (by omega) (by omega)]; exact h.w
    · rw [gn]
    · rw [g _ (by omega) (by omega)]; exact h.t
    · rw [g _ (by omega) (by omega)]; exact h.a
    · intro j hj
      by_cases e : 4 + j < 196
      · rw [g _ e (by omega)]; exact h.d j hj
      · omega
    · intro k' i hk' hi
      unfold sf
      by_cases e : k ≤ k' ∧ (k' : Int) < NN al - 1
      · rw [gi k' i e.1 e.2 (by omega), if_pos (by omega), show 32 * k' + i + 32 = 32 * (k' + 1) + i by omega]; exact h.c (k' + 1) i (by omega) hi
      · rw [go k' i e (by omega), if_neg (by omega)]; exact h.c k' i hk' hi
    · intro k' hk'
      unfold sf
      rw [show 228 + 35 * k' = 196 + 35 * k' + 32 by omega]
      by_cases e : k ≤ k' ∧ (k' : Int) < NN al - 1
      · rw [gi k' 32 e.1 e.2 (by omega), if_pos (by omega), h.x (k' + 1) (by omega), show 228 + 35 * (k' + 1) = 196 + 35 * (k' + 1) + 32 by omega]
      · rw [go k' 32 e (by omega), if_neg (by omega), h.x k' hk', show 228 + 35 * k' = 196 + 35 * k' + 32 by omega]
    · intro k' hk'
      unfold sf
      rw [show 229 + 35 * k' = 196 + 35 * k' + 33 by omega]
      by_cases e : k ≤ k' ∧ (k' : Int) < NN al - 1
      · rw [gi k' 33 e.1 e.2 (by omega), if_pos (by omega), h.y (k' + 1) (by omega), show 229 + 35 * (k' + 1) = 196 + 35 * (k' + 1) + 33 by omega]
      · rw [go k' 33 e (by omega), if_neg (by omega), h.y k' hk', show 229 + 35 * k' = 196 + 35 * k' + 33 by omega]
    · intro k' hk'
      unfold sf
      rw [show 230 + 35 * k' = 196 + 35 * k' + 34 by omega]
      by_cases e : k ≤ k' ∧ (k' : Int) < NN al - 1
      · rw [gi k' 34 e.1 e.2 (by omega), if_pos (by omega), h.p (k' + 1) (by omega), show 230 + 35 * (k' + 1) = 196 + 35 * (k' + 1) + 34 by omega]
      · rw [go k' 34 e (by omega), if_neg (by omega), h.p k' hk', show 230 + 35 * k' = 196 + 35 * k' + 34 by omega]
  · have en2 : NN a2 = NN al - 1 := (congrArg Int32.toInt gn).trans (iz_t (by omega) (by omega))
    unfold OkA
    rw [en2]
    refine ⟨?_, by omega, ?_, ?_, ?_, ?_, ?_⟩
    · unfold WW; rw [g _ (by omega) (by omega)]; exact o.w
    · unfold TT; rw [g _ (by omega) (by omega)]; exact o.t
    · unfold AA; rw [g _ (by omega) (by omega)]; exact o.a
    · intro k' i hk' hi
      by_cases e : k ≤ k' ∧ (k' : Int) < NN al - 1
      · rw [gi k' i e.1 e.2 (by omega)]; exact o.c (k' + 1) i (by omega) hi
      · rw [go k' i e (by omega)]; exact o.c k' i hk' hi
    · intro k' hk'
      rw [show 228 + 35 * k' = 196 + 35 * k' + 32 by omega, show 229 + 35 * k' = 196 + 35 * k' + 33 by omega, show 230 + 35 * k' = 196 + 35 * k' + 34 by omega]
      by_cases e : k ≤ k' ∧ (k' : Int) < NN al - 1
      · rw [gi k' 32 e.1 e.2 (by omega), gi k' 33 e.1 e.2 (by omega), gi k' 34 e.1 e.2 (by omega)]
        have := o.s (k' + 1) (by omega)
        rwa [show 228 + 35 * (k' + 1) = 196 + 35 * (k' + 1) + 32 by omega, show 229 + 35 * (k' + 1) = 196 + 35 * (k' + 1) + 33 by omega, show 230 + 35 * (k' + 1) = 196 + 35 * (k' + 1) + 34 by omega] at this
      · rw [go k' 32 e (by omega), go k' 33 e (by omega), go k' 34 e (by omega)]
        have := o.s k' (by omega)
        rwa [show 228 + 35 * k' = 196 + 35 * k' + 32 by omega, show 229 + 35 * k' = 196 + 35 * k' + 33 by omega, show 230 + 35 * k' = 196 + 35 * k' + 34 by omega] at this
    · intro j hj; rw [g _ (by omega) (by omega)]; exact o.d j hj
theorem op_drop_not {k n : Int} (cells sx sy sp : Nat → Int32) (hk : -2147483648 ≤ k ∧ k ≤ 2147483647) (hn : 0 ≤ n ∧ n ≤ 6) (hb : ¬ (0 ≤ k ∧ k < n)) : fSc_dropPicture (iz k) (iz n) cells sx sy sp = some (iz (-2), iz n, cells, sx, sy, sp) := by
  unfold fSc_dropPicture
  simp (disch := omega) only [iz_n, iz_neg, iz_add, iz_sub, iz_mul, iz_lt, iz_le, iz_eq, iz_t, iz_c, sSc_hasPicture, Option.bind_some, bi0, bi1, bi01, bi10, bi11, if_pos, if_neg, if_true, if_false, ite_not, ite_bi]
/-! copies and the history -/
theorem RS_ext {al : Nat → Int32} {w n t a : Int32} {dots cells sx sy sp : Nat → Int32} {al' : Nat → Int32} (e : ∀ j, j < 406 → al' j = al j) (h : RS al w n t a dots cells sx sy sp) : RS al' w n t a dots cells sx sy sp := by
  refine ⟨?_, ?_, ?_, ?_, ?_, ?_, ?_, ?_, ?_⟩
  · rw [e _ (by omega)]; exact h.w
  · rw [e _ (by omega)]; exact h.n
  · rw [e _ (by omega)]; exact h.t
  · rw [e _ (by omega)]; exact h.a
  · intro j hj; rw [e _ (by omega)]; exact h.d j hj
  · intro k i hk hi; rw [e _ (by omega)]; exact h.c k i hk hi
  · intro k hk; rw [e _ (by omega)]; exact h.x k hk
  · intro k hk; rw [e _ (by omega)]; exact h.y k hk
  · intro k hk; rw [e _ (by omega)]; exact h.p k hk
theorem OkA_ext {al al' : Nat → Int32} (e : ∀ j, j < 406 → al' j = al j) (o : OkA al) : OkA al' := by
  have hn := o.n
  unfold OkA WW NN TT AA
  rw [e 0 (by omega), e 1 (by omega), e 2 (by omega), e 3 (by omega)]
  refine ⟨o.w, o.n, o.t, o.a, ?_, ?_, fun j hj => by rw [e _ (by omega)]; exact o.d j hj⟩
  · intro k i hk hi; rw [e _ (by omega)]; exact o.c k i hk hi
  · intro k hk
    have h6 : (k : Int) < 6 := by have : (al 3).toInt ≤ 6 := hn.2; omega
    rw [e _ (by omega), e _ (by omega), e _ (by omega)]; exact o.s k hk
theorem cpy_i (f g : Nat → Int32) {n j : Nat} (h : j < n) : va_cpy f g 0 0 n j = f j := by
  unfold va_cpy; rw [if_pos (by omega)]; congr 1; omega
theorem copy_s {al : Nat → Int32} {w n t a : Int32} {dots cells sx sy sp : Nat → Int32} (h : RS al w n t a dots cells sx sy sp) (w2 n2 t2 a2 : Int32) (d2 c2 x2 y2 p2 : Nat → Int32) :
    ∃ d' c' x' y' p', fSc_copyFrom w2 n2 t2 a2 d2 c2 x2 y2 p2 w n t a dots cells sx sy sp = some (w, n, t, a, d', c', x', y', p') ∧ RS al w n t a d' c' x' y' p' := by
  refine ⟨va_cpy dots d2 0 0 192, va_cpy cells c2 0 0 192, va_cpy sx x2 0 0 6, va_cpy sy y2 0 0 6, va_cpy sp p2 0 0 6, ?_, h.w, h.n, h.t, h.a, ?_, ?_, ?_, ?_, ?_⟩
  · unfold fSc_copyFrom
    rw [if_pos (by decide), if_pos (by decide), if_pos (by decide), if_pos (by decide), if_pos (by decide)]
    rfl
  · intro j hj; rw [cpy_i _ _ hj]; exact h.d j hj
  · intro k i hk hi; rw [cpy_i _ _ (by omega)]; exact h.c k i hk hi
  · intro k hk; rw [cpy_i _ _ hk]; exact h.x k hk
  · intro k hk; rw [cpy_i _ _ hk]; exact h.y k hk
  · intro k hk; rw [cpy_i _ _ hk]; exact h.p k hk
theorem hold_s {al : Nat → Int32} {w n t a : Int32} {dots cells sx sy sp : Nat → Int32} (h : RS al w n t a dots cells sx sy sp) (w2 n2 t2 a2 : Int32) (d2 c2 x2 y2 p2 : Nat → Int32) :
    ∃ d' c' x' y' p', fHi_hold w n t a dots cells sx sy sp w2 n2 t2 a2 d2 c2 x2 y2 p2 = some (w, n, t, a, d', c', x', y', p') ∧ RS al w n t a d' c' x' y' p' := by
  obtain ⟨d', c', x', y', p', e, r⟩ := copy_s h w2 n2 t2 a2 d2 c2 x2 y2 p2
  exact ⟨d', c', x', y', p', by unfold fHi_hold; rw [e]; rfl, r⟩
theorem release_s {al : Nat → Int32} {w n t a : Int32} {dots cells sx sy sp : Nat → Int32} (h : RS al w n t a dots cells sx sy sp) (w2 n2 t2 a2 : Int32) (d2 c2 x2 y2 p2 : Nat → Int32) :
    ∃ d' c' x' y' p', fHi_release w2 n2 t2 a2 d2 c2 x2 y2 p2 w n t a dots cells sx sy sp = some (w, n, t, a, d', c', x', y', p') ∧ RS al w n t a d' c' x' y' p' := by
  obtain ⟨d', c', x', y', p', e, r⟩ := copy_s h w2 n2 t2 a2 d2 c2 x2 y2 p2
  exact ⟨d', c', x', y', p', by unfold fHi_release; rw [e]; rfl, r⟩
theorem keep_10 : ∀ (d : Nat) (j : Int) (m : Nat), j = 1624 - d → 0 ≤ j → d < m → ∀ pa : Nat → Int32, fMo_keep_L10 m (iz j) pa = some (sf pa j.toNat 1624 406) := by
  intro d
  induction d with
  | zero =>
    intro j m hj h0 hm pa
    obtain ⟨m, rfl⟩ : ∃ q, m = q + 1 := ⟨m - 1, by omega⟩
    unfold fMo_keep_L10
    simp (disch := omega) only [iz_n, iz_neg, iz_add, iz_sub, iz_mul, iz_lt, iz_le, iz_eq, iz_t, iz_c, Option.bind_some, bi0, bi1, bi01, bi10, bi11, if_pos, if_neg, if_true, if_false, ite_not, ite_bi]
    rw [sf_0 _ _ (by omega)]
  | succ d ih =>
    intro j m hj h0 hm pa
    obtain ⟨m, rfl⟩ : ∃ q, m = q + 1 := ⟨m - 1, by omega⟩
    unfold fMo_keep_L10
    simp (disch := omega) only [iz_n, iz_neg, iz_add, iz_sub, iz_mul, iz_lt, iz_le, iz_eq, iz_t, iz_c, Option.bind_some, bi0, bi1, bi01, bi10, bi11, if_pos, if_neg, if_true, if_false, ite_not, ite_bi]
    have e1 : (j + 406).toNat = j.toNat + 406 := by omega
    have e3 : (j + 1).toNat = j.toNat + 1 := by omega
    rw [ih (j + 1) m (by omega) (by omega) (by omega), e1, e3, sf_up _ (by omega) (by omega)]
theorem keep_51 {s : Int} (hs : 0 ≤ s ∧ s ≤ 4) (al : Nat → Int32) : ∀ (d : Nat) (j : Int) (m : Nat), j = 406 - d → 0 ≤ j → d < m → ∀ pa : Nat → Int32, ∃ pa', fMo_keep_L51 al (iz s) m (iz j) pa = some pa' ∧
    (∀ i, (j ≤ i ∧ i < 406) → pa' (406 * s + i).toNat = al i.toNat) ∧ (∀ i, ¬ (406 * s + j ≤ i ∧ i < 406 * s + 406) → 0 ≤ i → pa' i.toNat = pa i.toNat) := by
  intro d
  induction d with
  | zero =>
    intro j m hj h0 hm pa
    obtain ⟨m, rfl⟩ : ∃ q, m = q + 1 := ⟨m - 1, by omega⟩
    unfold fMo_keep_L51
    simp (disch := omega) only [iz_n, iz_neg, iz_add, iz_sub, iz_mul, iz_lt, iz_le, iz_eq, iz_t, iz_c, Option.bind_some, bi0, bi1, bi01, bi10, bi11, if_pos, if_neg, if_true, if_false, ite_not, ite_bi]
    exact ⟨pa, rfl, fun i hi => by omega, fun _ _ _ => rfl⟩
  | succ d ih =>
    intro j m hj h0 hm pa
    obtain ⟨m, rfl⟩ : ∃ q, m = q + 1 := ⟨m - 1, by omega⟩
    unfold fMo_keep_L51
    simp (disch := omega) only [iz_n, iz_neg, iz_add, iz_sub, iz_mul, iz_lt, iz_le, iz_eq, iz_t, iz_c, Option.bind_some, bi0, bi1, bi01, bi10, bi11, if_pos, if_neg, if_true, if_false, ite_not, ite_bi]
    obtain ⟨pa', e1, e2, e3⟩ := ih (j + 1) m (by omega) (by omega) (by omega) (upd pa (406 * s + j).toNat (al j.toNat))
    refine ⟨pa', e1, ?_, ?_⟩
    · intro i hi
      by_cases e : i = j
      · subst e; rw [e3 _ (by omega) (by omega), upd_s]
      · exact e2 i (by omega)
    · intro i hi h0
      rw [e3 i (by omega) h0, upd_n _ _ (by omega)]
theorem keep_s {s : Int} (hs : 0 ≤ s ∧ s ≤ 5) (al pa : Nat → Int32) : ∃ pa' : Nat → Int32, fMo_keep al pa (iz s) = some (pa', iz (if s = 5 then 5 else s + 1)) ∧
    (s = 5 → (∀ j i : Nat, j < 4 → i < 406 → pa' (406 * j + i) = pa (406 * (j + 1) + i)) ∧ ∀ i, i < 406 → pa' (406 * 4 + i) = al i) ∧
    (s < 5 → (∀ j i : Nat, (j : Int) < s → i < 406 → pa' (406 * j + i) = pa (406 * j + i)) ∧ ∀ i, i < 406 → pa' (406 * s.toNat + i) = al i) := by
  by_cases e : s = 5
  · subst e
    obtain ⟨pa', e1, e2, e3⟩ := keep_51 (s := 4) (by omega) al 406 0 FU (by omega) (by omega) (by decide) (sf pa 0 1624 406)
    refine ⟨pa', ?_, fun _ => ⟨?_, ?_⟩, fun h => by omega⟩
    · unfold fMo_keep
      rw [show (0 : Int32) = iz 0 from iz_n 0, keep_10 1624 0 FU (by omega) (by omega) (by decide)]
      simp (disch := omega) only [iz_n, iz_neg, iz_add, iz_sub, iz_mul, iz_lt, iz_le, iz_eq, iz_t, iz_c, Option.bind_some, bi0, bi1, bi01, bi10, bi11, if_pos, if_neg, if_true, if_false, ite_not, ite_bi]
      rw [show (5 - 1 : Int) = 4 from rfl, show Int.toNat 0 = 0 from rfl, e1]
      rfl
    · intro j i hj hi
      have := e3 (406 * j + i : Int) (by omega) (by omega)
      rw [show (406 * (j : Int) + i).toNat = 406 * j + i by omega] at this
      rw [this]; unfold sf; rw [if_pos (by omega), show 406 * j + i + 406 = 406 * (j + 1) + i by omega]
    · intro i hi
      have := e2 i (by omega)
      rwa [show (406 * 4 + (i : Int)).toNat = 406 * 4 + i by omega, show (i : Int).toNat = i by omega] at this
  · obtain ⟨pa', e1, e2, e3⟩ := keep_51 (s := s) (by omega) al 406 0 FU (by omega) (by omega) (by decide) pa
    refine ⟨pa', ?_, fun h => absurd h e, fun _ => ⟨?_, ?_⟩⟩
    · unfold fMo_keep
      simp (disch := omega) only [iz_n, iz_neg, iz_add, iz_sub, iz_mul, iz_lt, iz_le, iz_eq, iz_t, iz_c, Option.bind_some, bi0, bi1, bi01, bi10, bi11, if_pos, if_neg, if_true, if_false, ite_not, ite_bi, e1]
    · intro j i hj hi
      have := e3 (406 * j + i : Int) (by omega) (by omega)
      rwa [show (406 * (j : Int) + i).toNat = 406 * j + i by omega] at this
    · intro i hi
      have := e2 i (by omega)
      rwa [show (406 * s + (i : Int)).toNat = 406 * s.toNat + i by omega, show (i : Int).toNat = i by omega] at this
