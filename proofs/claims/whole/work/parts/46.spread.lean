/-! LAYER 2: over how many slots lines are spread. -/
theorem XK_ix {x : gM} {W b l w : Nat} {mk : Nat → Nat → Nat} (h : XK x W b mk) (hl : l < 1024) (hw : w < W) : X3_indexOf 0 (nI l) (nI w) x = some (nI (ixR (mk w) l b), x) := by
  obtain ⟨⟨h1, h2, h3, h4⟩, h5⟩ := h
  exact X3_indexOf_ok h2 h4 (by omega) (fun j hj => (h5 w j hw hj).1) hl
theorem MK_ix {m : gM} {W b l w : Nat} {mk : Nat → Nat → Nat} (h : MK m W b mk) (hl : l < 1024) (hw : w < W) : X9_indexOf (nI l) (nI w) m = some (nI (ixR (mk w) l b), m) := by
  obtain ⟨⟨h1, h2, h3, h4⟩, h5⟩ := h
  exact X9_indexOf_ok h2 h4 (by omega) (fun j hj => (h5 w j hw hj).1) hl
theorem ixR_16 {mk : Nat → Nat} {l b : Nat} (hb : b ≤ 4) : ixR mk l b < 16 := by
  have h1 := ixR_lt mk l b
  have h2 : 2 ^ b ≤ 2 ^ 4 := Nat.pow_le_pow_right (by omega) hb
  omega
def tyN (f : Nat → Nat) (n s : Nat) : Nat := cntP (fun i => decide (f i = s)) n
def usN (T : Nat → Nat) : Nat := cntP (fun s => decide (0 < T s)) 16
def mxN (T : Nat → Nat) : Nat → Nat
  | 0 => 0
  | n + 1 => max (mxN T n) (T n)
theorem tyN_le (f : Nat → Nat) (n s : Nat) : tyN f n s ≤ n := cntP_le _ _
theorem tyN_s (f : Nat → Nat) (n s : Nat) : tyN f (n + 1) s = tyN f n s + if f n = s then 1 else 0 := by
  unfold tyN
  simp only [cntP, decide_eq_true_eq]
theorem usN_s {T : Nat → Nat} {a : Nat} (ha : a < 16) : usN (fun q => T q + if a = q then 1 else 0) = usN T + if T a = 0 then 1 else 0 := by
  unfold usN
  by_cases h0 : T a = 0
  · rw [if_pos h0, cntP_new (p := fun s => decide (0 < T s)) (a := a) (fun i => ?_) (decide_eq_false (by omega)) 16, if_pos ha]
    dsimp only
    by_cases e : i = a
    · subst e
      simp
    · have e' : ¬ a = i := fun z => e z.symm
      simp only [e', decide_eq_false e, ↓reduceIte, Bool.or_false, Nat.add_zero]
  · rw [if_neg h0, Nat.add_zero]
    refine cntP_congr _ (fun i _ => ?_)
    dsimp only
    by_cases e : a = i
    · subst e
      exact decide_eq_decide.mpr ⟨fun _ => by omega, fun _ => by omega⟩
    · simp only [e, ↓reduceIte, Nat.add_zero]
theorem mxN_s {T : Nat → Nat} {a : Nat} : ∀ n, mxN (fun q => T q + if a = q then 1 else 0) n = if a < n then max (mxN T n) (T a + 1) else mxN T n := by
  intro n
  induction n with
  | zero => rfl
  | succ n ih =>
    simp only [mxN]
    rw [ih]
    by_cases e : a = n
    · subst e
      rw [if_neg (Nat.lt_irrefl _), if_pos rfl, if_pos (Nat.lt_succ_self _)]
      omega
    · rw [if_neg e, Nat.add_zero]
      by_cases l : a < n
      · rw [if_pos l, if_pos (by omega)]; omega
      · rw [if_neg l, if_neg (by omega), Nat.add_zero]
theorem mxN_ge {T : Nat → Nat} : ∀ n a, a < n → T a ≤ mxN T n := by
  intro n
  induction n with
  | zero => intro a h; omega
  | succ n ih =>
    intro a h
    simp only [mxN]
    by_cases e : a = n
    · subst e; omega
    · have := ih a (by omega); omega
theorem mxN_le {T : Nat → Nat} {M : Nat} : ∀ n, (∀ a, a < n → T a ≤ M) → mxN T n ≤ M := by
  intro n
  induction n with
  | zero => intro _; exact Nat.zero_le _
  | succ n ih =>
    intro h
    simp only [mxN]
    have := ih (fun a ha => h a (by omega))
    have := h n (by omega)
    omega
theorem mxN_cg {T T' : Nat → Nat} : ∀ n, (∀ a, a < n → T a = T' a) → mxN T n = mxN T' n := by
  intro n
  induction n with
  | zero => intro _; rfl
  | succ n ih => intro h; simp only [mxN]; rw [ih (fun a ha => h a (by omega)), h n (by omega)]
def spF (mk : Nat → Nat → Nat) (b w s i : Nat) : Nat := ixR (mk w) (i * s % 1024) b
def p44 (t k _i : Nat) : Prop := t = 44 ∧ k = 0
def pSp (t k i : Nat) : Prop := (t = 57 ∧ k = 0) ∨ (t = 9 ∧ k = 0 ∧ (i = 22 ∨ i = 23))
theorem x_zero44 {x : gM} : ∃ x', J7_fill_53178 44 0 0 x = some ((), x') ∧ (∀ q, q < 16 → x' 44 0 q = 0) ∧ Eqv p44 x x' := by
  refine ⟨_, fill_ok (by rw [ge44, FU_eq]; omega), fun q hq => ?_, Eqv_fil (fun _ => ⟨rfl, rfl⟩)⟩
  unfold gfil
  rw [if_pos ⟨rfl, rfl, hq⟩]
theorem x_lay {x : gM} {W b w s n : Nat} {mk : Nat → Nat → Nat} (h : XK x W b mk) (hw : w < W) (hs : s ≤ 1023) (hn : n ≤ 64) : ∃ x', X7_layOut 0 (nI w) (nI s) (nI n) x = some ((), x') ∧ (∀ q, q < 16 → x' 44 0 q = nI (tyN (spF mk b w s) n q)) ∧ Eqv p44 x x' := by
  unfold X7_layOut
  obtain ⟨x1, a1, a2, a3⟩ := x_zero44 (x := x)
  rw [gCall_eq a1]
  refine gL1_for (fun i σ => (∀ q, q < 16 → σ 44 0 q = nI (tyN (spF mk b w s) i q)) ∧ Eqv p44 x σ) (fun o => ∃ x', o = some ((), x') ∧ (∀ q, q < 16 → x' 44 0 q = nI (tyN (spF mk b w s) n q)) ∧ Eqv p44 x x') n ?_ ?_ FU 0 x1 (Nat.zero_le _) (by rw [FU_eq]; omega) ⟨a2, a3⟩
  · rintro i σ K hi ⟨g1, g2⟩ hK
    unfold X7_layOut_b11
    have his : i * s ≤ 64 * 1023 := Nat.mul_le_mul (by omega) hs
    have hx := XK_cg h (fun t j ht => g2 t 0 j (by unfold p44; omega))
    have hf : ixR (mk w) (i * s % 1024) b < 16 := ixR_16 hx.1.2.2.2
    rw [if_neg (by rw [nI_leq (by omega) (by omega)]; omega), li1024, pk_mul, nI_rem (by omega) (by omega) (by omega), gCall_eq (XK_ix hx (Nat.mod_lt _ (by omega)) hw), gAt_nI (show ixR (mk w) (i * s % 1024) b < 16 from hf) (by omega), g1 _ hf, nI_1, gPut_nI (show ixR (mk w) (i * s % 1024) b < 16 from hf) (by omega), gLet, nI_1]
    refine hK _ ⟨fun q hq => ?_, g2.tr (Eqv.up ⟨rfl, rfl⟩)⟩
    rw [gup_at, tyN_s]
    by_cases e : q = ixR (mk w) (i * s % 1024) b
    · rw [if_pos e, if_pos (show spF mk b w s i = q from e.symm), e]
    · rw [if_neg e, if_neg (fun z => e (show q = spF mk b w s i from z.symm)), g1 q hq]; rfl
  · rintro σ K ⟨g1, g2⟩
    unfold X7_layOut_b11
    rw [if_pos (by rw [nI_leq (by omega) (by omega)]; omega)]
    exact ⟨σ, rfl, g1, g2⟩
theorem x_used {x : gM} {T : Nat → Nat} (h : ∀ q, q < 16 → x 44 0 q = nI (T q) ∧ T q ≤ 100000) : X7_slotsUsed x = some (nI (usN T), x) := by
  unfold X7_slotsUsed
  refine gL2_cnt (fun s => decide (0 < T s)) 16 (fun i c K hi hc => ?_) (fun K => ?_) (by rw [FU_eq]; omega)
  · unfold X7_slotsUsed_b4
    obtain ⟨h1, h2⟩ := h i hi
    rw [if_neg (by rw [li16, nI_leq (by omega) (by omega)]; omega), gAt_nI (show i < 16 from hi) (by omega), h1]
    by_cases e : 0 < T i
    · rw [if_neg (by rw [li0, nI_leq (by omega) (by omega)]; omega), if_pos (decide_eq_true e), gLet, gLet, nI_1, nI_1]
    · rw [if_pos (by rw [li0, nI_leq (by omega) (by omega)]; omega), if_neg (fun z => e (of_decide_eq_true z)), gLet, nI_1] <;> rfl
  · unfold X7_slotsUsed_b4
    rw [if_pos (by rw [li16, nI_leq (by omega) (by omega)]; omega)]
    rfl
theorem x_most {x : gM} {T : Nat → Nat} (h : ∀ q, q < 16 → x 44 0 q = nI (T q) ∧ T q ≤ 100000) : X7_mostInOne x = some (nI (mxN T 16), x) := by
  unfold X7_mostInOne
  refine gL2_for (fun i v σ => σ = x ∧ v = nI (mxN T i)) (fun o => o = some (nI (mxN T 16), x)) 16 ?_ ?_ FU 0 0 x (Nat.zero_le _) (by rw [FU_eq]; omega) ⟨rfl, rfl⟩
  · rintro i v σ K hi ⟨rfl, rfl⟩ hK
    unfold X7_mostInOne_b4
    obtain ⟨h1, h2⟩ := h i hi
    have hm : mxN T i ≤ 100000 := mxN_le i (fun a ha => (h a (by omega)).2)
    rw [if_neg (by rw [li16, nI_leq (by omega) (by omega)]; omega), gAt_nI (show i < 16 from hi) (by omega), h1, gLet, gLet, gMax_nI (by omega) (by omega), nI_1]
    exact hK _ _ ⟨rfl, rfl⟩
  · rintro v σ K ⟨rfl, rfl⟩
    unfold X7_mostInOne_b4
    rw [if_pos (by rw [li16, nI_leq (by omega) (by omega)]; omega)]
theorem m_spr {m : gM} {W b w s n : Nat} {mk : Nat → Nat → Nat} (h : MK m W b mk) (hw : w < W) (hs : s ≤ 1023) (hn : n ≤ 64) : ∃ m', X9_laySpread (nI w) (nI s) (nI n) m = some ((), m') ∧ m' 9 0 22 = nI (usN (tyN (spF mk b w s) n)) ∧ m' 9 0 23 = nI (mxN (tyN (spF mk b w s) n) 16) ∧ Eqv pSp m m' := by
  unfold X9_laySpread
  simp only [gSet]
  rw [gJ0_e]
  have e0 := fil_loop (m := gup (gup m 9 0 22 0) 9 0 23 0) (R := fun m3 => gL1 FU (X9_laySpread_b37 (nI w) (nI s) (nI n)) 0 m3) (f := X9_laySpread_b13 (fun m3 => gL1 FU (X9_laySpread_b37 (nI w) (nI s) (nI n)) 0 m3)) 57 0 0 16 (fun i σ K hi => by
    unfold X9_laySpread_b13
    rw [if_neg (by rw [li16, nI_leq (by omega) (by omega)]; omega), gPut_nI (show i < 16 from hi) (by omega), gLet, nI_1]) (fun σ K => by
    unfold X9_laySpread_b13
    rw [if_pos (by rw [li16, nI_leq (by omega) (by omega)]; omega)]) (by rw [FU_eq]; omega)
  rw [e0]
  have hE0 : Eqv pSp m (gfil (gup (gup m 9 0 22 0) 9 0 23 0) 57 0 0 16) := ((Eqv.up (by unfold pSp; omega)).tr (Eqv.up (by unfold pSp; omega))).tr (Eqv_fil (fun _ => Or.inl ⟨rfl, rfl⟩))
  have z1 : ∀ q, q < 16 → gfil (gup (gup m 9 0 22 0) 9 0 23 0) 57 0 0 16 57 0 q = 0 := fun q hq => by unfold gfil; rw [if_pos ⟨rfl, rfl, hq⟩]
  have z2 : gfil (gup (gup m 9 0 22 0) 9 0 23 0) 57 0 0 16 9 0 22 = 0 := by unfold gfil; rw [if_neg (by omega), gup_at, if_neg (by omega), gup_at, if_pos rfl]
  have z3 : gfil (gup (gup m 9 0 22 0) 9 0 23 0) 57 0 0 16 9 0 23 = 0 := by unfold gfil; rw [if_neg (by omega), gup_at, if_pos rfl]
  revert hE0 z1 z2 z3
  generalize gfil (gup (gup m 9 0 22 0) 9 0 23 0) 57 0 0 16 = m1
  intro hE0 z1 z2 z3
  have t0 : usN (tyN (spF mk b w s) 0) = 0 := cntP_none _ (fun _ _ => rfl)
  have t1 : mxN (tyN (spF mk b w s) 0) 16 = 0 := Nat.le_zero.mp (mxN_le 16 (fun _ _ => Nat.le_refl _))
  refine gL1_for (fun i σ => σ 9 0 22 = nI (usN (tyN (spF mk b w s) i)) ∧ σ 9 0 23 = nI (mxN (tyN (spF mk b w s) i) 16) ∧ (∀ q, q < 16 → σ 57 0 q = nI (tyN (spF mk b w s) i q)) ∧ Eqv pSp m σ) (fun o => ∃ m', o = some ((), m') ∧ m' 9 0 22 = nI (usN (tyN (spF mk b w s) n)) ∧ m' 9 0 23 = nI (mxN (tyN (spF mk b w s) n) 16) ∧ Eqv pSp m m') n ?_ ?_ FU 0 m1 (Nat.zero_le _) (by rw [FU_eq]; omega) ⟨by rw [t0]; exact z2, by rw [t1]; exact z3, z1, hE0⟩
  · rintro i σ K hi ⟨g1, g2, g3, g4⟩ hK
    unfold X9_laySpread_b37
    have his : i * s ≤ 64 * 1023 := Nat.mul_le_mul (by omega) hs
    have hx := MK_cg h (fun j => g4 47 0 j (by unfold pSp; omega))
    have hf : ixR (mk w) (i * s % 1024) b < 16 := ixR_16 hx.1.2.2.2
    have hF : spF mk b w s i = ixR (mk w) (i * s % 1024) b := rfl
    have hty : tyN (spF mk b w s) (i + 1) = fun q => tyN (spF mk b w s) i q + if spF mk b w s i = q then 1 else 0 := funext fun q => tyN_s _ _ _
    have hus := usN_s (T := tyN (spF mk b w s) i) (a := spF mk b w s i) (by rw [hF]; exact hf)
    have hmx := mxN_s (T := tyN (spF mk b w s) i) (a := spF mk b w s i) 16
    rw [← hty] at hus hmx
    rw [if_pos (by rw [hF]; exact hf)] at hmx
    have hle := tyN_le (spF mk b w s) i
    have hle2 : mxN (tyN (spF mk b w s) i) 16 ≤ i := mxN_le 16 (fun a _ => hle a)
    rw [if_neg (by rw [nI_leq (by omega) (by omega)]; omega), li1024, pk_mul, nI_rem (by omega) (by omega) (by omega), gCall_eq (MK_ix hx (Nat.mod_lt _ (by omega)) hw)]
    rw [← hF] at hf ⊢
    revert hf hus hmx hle hle2 hty
    generalize hfi : spF mk b w s i = fi
    intro hf hty hus hmx hle hle2
    have hlf := hle fi
    have fin : ∀ w16 : Nat, w16 = mxN (tyN (spF mk b w s) (i + 1)) 16 → ∀ u : Nat, u = usN (tyN (spF mk b w s) (i + 1)) → ∃ m', K (nI (i + 1)) (gup (gup (gup σ 9 0 22 (nI u)) 57 0 fi (nI (tyN (spF mk b w s) i fi + 1))) 9 0 23 (nI w16)) = some ((), m') ∧ m' 9 0 22 = nI (usN (tyN (spF mk b w s) n)) ∧ m' 9 0 23 = nI (mxN (tyN (spF mk b w s) n) 16) ∧ Eqv pSp m m' := by
      intro w16 hw16 u hu
      rw [hw16, hu]
      refine hK _ ⟨by rw [gup_at, if_neg (by omega), gup_t (by omega), gup_at, if_pos rfl], by rw [gup_at, if_pos rfl], fun q hq => ?_, g4.tr (((Eqv.up (by unfold pSp; omega)).tr (Eqv.up (by unfold pSp; omega))).tr (Eqv.up (by unfold pSp; omega)))⟩
      rw [gup_t (by omega), gup_at, gup_t (by omega), tyN_s, hfi]
      by_cases e : q = fi
      · rw [if_pos e, if_pos e.symm, e]
      · rw [if_neg e, if_neg (fun z => e z.symm), g3 q hq]; rfl
    have two : ∀ u : Nat, u = usN (tyN (spF mk b w s) (i + 1)) → ∃ m', (gAt (gup σ 9 0 22 (nI u)) 57 0 (nI fi) fun x13 => gPut (gup σ 9 0 22 (nI u)) 57 0 (nI fi) (x13 + 1) fun m14 => gAt m14 57 0 (nI fi) fun x15 => gJ1 (fun (w16 : Int32) (m17 : gM) => gSet m17 9 0 23 w16 (fun (m18 : gM) => gLet (nI i + 1) (fun (x19 : Int32) => K x19 m18))) (fun (j122 : Int32 → gM → Option (Unit × gM)) => if x15 ≤ (m14 9 0 23) then (j122 (m14 9 0 23) m14) else (gAt m14 57 0 (nI fi) (fun (x20 : Int32) => j122 x20 m14)))) = some ((), m') ∧ m' 9 0 22 = nI (usN (tyN (spF mk b w s) n)) ∧ m' 9 0 23 = nI (mxN (tyN (spF mk b w s) n) 16) ∧ Eqv pSp m m' := by
      intro u hu
      rw [gAt_nI (show fi < 16 from hf) (by omega), gup_t (show 57 ≠ 9 by omega), g3 fi hf, nI_1, gPut_nI (show fi < 16 from hf) (by omega), gAt_nI (show fi < 16 from hf) (by omega), gup_at, if_pos rfl, gJ1_e, gup_t (show 9 ≠ 57 by omega), gup_at, if_neg (show ¬ (23 : Nat) = 22 by omega), g2]
      simp only [gSet, gLet, nI_1]
      by_cases c : tyN (spF mk b w s) i fi + 1 ≤ mxN (tyN (spF mk b w s) i) 16
      · rw [if_pos (by rw [nI_leq (by omega) (by omega)]; exact c)]
        exact fin _ (by rw [hmx]; omega) u hu
      · rw [if_neg (by rw [nI_leq (by omega) (by omega)]; exact c), gAt_nI (show fi < 16 from hf) (by omega), gup_at, if_pos rfl]
        exact fin _ (by rw [hmx]; omega) u hu
    rw [gAt_nI (show fi < 16 from hf) (by omega), g3 fi hf, gJ1_e]
    simp only [gSet]
    by_cases c0 : tyN (spF mk b w s) i fi = 0
    · rw [if_pos (by rw [c0]; rfl), gLet, g1, nI_1]
      exact two _ (by rw [hus, if_pos c0])
    · rw [if_neg (fun z => c0 ((nI_z (by omega)).mp z)), gLet, g1, nI_p0]
      exact two _ (by rw [hus, if_neg c0]; rfl)
  · rintro σ K ⟨g1, g2, g3, g4⟩
    unfold X9_laySpread_b37
    rw [if_pos (by rw [nI_leq (by omega) (by omega)]; omega)]
    exact ⟨σ, rfl, g1, g2, g4⟩
theorem p44_X {x x' : gM} (h : Eqv p44 x x') : Eqv pX x x' := h.mono (fun t k i q => by unfold p44 at q; unfold pX; omega)
theorem pSp_M {m m' : gM} (h : Eqv pSp m m') : Eqv pM m m' := h.mono (fun t k i q => by unfold pSp at q; unfold pM; omega)
theorem stride1 (a : Int32) : (∃ s, 1 ≤ s ∧ s ≤ 1023 ∧ a = nI s ∧ (∀ m, X8_isStride a m = some (true, m)) ∧ ∀ m, X9_isIn a 1 1023 m = some (true, m)) ∨ ((∀ m, X8_isStride a m = some (false, m)) ∧ ∀ m, X9_isIn a 1 1023 m = some (false, m)) := by
  rcases in_out a 1 1023 with ⟨n, n1, n2, -, rfl⟩ | ho
  · refine Or.inl ⟨n, n1, n2, rfl, fun m => ?_, fun m => isIn_T n1 n2 (by omega) m⟩
    unfold X8_isStride
    rw [if_neg (by rw [li1, nI_ltt (by omega) (by omega)]; omega), if_neg (by rw [li1023, nI_ltt (by omega) (by omega)]; omega)]
  · refine Or.inr ⟨fun m => ?_, fun m => isIn_F ho (by omega) (by omega) m⟩
    unfold X8_isStride
    rcases out1 (by omega) ho with g | ⟨g, g2⟩
    · rw [if_pos g]
    · rw [if_neg g, if_pos (show 1023 < a from g2)]
theorem q_spread {x m : gM} {N : Nat} (h : INV x m N) (a b c d : Int32) : Ag (X8_spread a b c d x) (X9_spread a b c d m) N := by
  unfold X8_spread X9_spread X9_isStride
  rcases way_cases h a with ⟨w, hw, rfl⟩ | ⟨h1, h2⟩
  · rw [gCall_eq (wayT h hw).1, if_pos rfl, gCall_eq (wayT h hw).2, if_pos rfl]
    rcases swept1 c with ⟨n, hn1, hn, rfl, c1, c2⟩ | ⟨c1, c2⟩
    · rw [gCall_eq (c2 m), if_pos rfl, gCall_some, if_pos rfl]
      rcases stride1 b with ⟨s, hs1, hs, rfl, b1, b2⟩ | ⟨b1, b2⟩
      · rw [gCall_eq (b1 x), if_pos rfl, gCall_eq (c1 x), if_pos rfl, gCall_eq (b2 m), if_pos rfl]
        rcases in_out d 0 1 with ⟨j, -, hj, -, rfl⟩ | ho
        · have hT : X9_isIn (nI j) 0 1 m = some (true, m) := isIn_T (Nat.zero_le _) hj (by omega) m
          have hx := XK_of h.rs h.bi
          obtain ⟨x1, d1, d2, d3⟩ := x_lay hx hw hs hn
          obtain ⟨m1, e1, e2, e3, e4⟩ := m_spr (MK_of h.bi) hw hs hn
          have hl : ∀ q, q < 16 → x1 44 0 q = nI (tyN (spF (bMk (mB m)) (bN (mB m)) w s) n q) ∧ tyN (spF (bMk (mB m)) (bN (mB m)) w s) n q ≤ 100000 := fun q hq => ⟨d2 q hq, by have := tyN_le (spF (bMk (mB m)) (bN (mB m)) w s) n q; omega⟩
          rw [gCall_eq hT, if_pos rfl, if_neg (nI_neg (by omega)), if_pos (by rw [li1, nI_leq (by omega) (by omega)]; exact hj), gCall_eq d1, gCall_eq e1]
          by_cases h0 : j = 0
          · subst h0
            rw [if_pos (show nI 0 = 0 from rfl), if_pos (show nI 0 = 0 from rfl), gCall_eq (x_used hl), e2]
            exact ⟨_, _, _, rfl, rfl, INV_congr h (p44_X d3) (pSp_M e4)⟩
          · rw [if_neg (fun z => h0 ((nI_z (by omega)).mp z)), if_neg (fun z => h0 ((nI_z (by omega)).mp z)), gCall_eq (x_most hl), e3]
            exact ⟨_, _, _, rfl, rfl, INV_congr h (p44_X d3) (pSp_M e4)⟩
        · have hF : X9_isIn d 0 1 m = some (false, m) := isIn_F ho (by omega) (by omega) m
          rw [gCall_eq hF]
          refine Ag.same h (-1) ?_ rfl
          rcases ho.lt0 with z | ⟨j, hj, rfl, z⟩
          · rw [if_pos z]
          · rw [if_neg (nI_neg hj), if_neg (by rw [li1, nI_leq hj (by omega)]; omega)]
      · rw [gCall_eq (b1 x), gCall_eq (b2 m)]
        exact Ag.same h _ rfl rfl
    · rw [gCall_eq (c2 m)]
      refine Ag.same h (-1) ?_ rfl
      rcases stride1 b with ⟨s, hs1, hs, rfl, b1, b2⟩ | ⟨b1, b2⟩
      · rw [gCall_eq (b1 x), if_pos rfl, gCall_eq (c1 x)]; rfl
      · rw [gCall_eq (b1 x)]; rfl
  · rw [gCall_eq h1, gCall_eq h2]
    exact Ag.same h _ rfl rfl
