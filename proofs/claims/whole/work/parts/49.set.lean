/-! LAYER 2: crowd, scatter, collect. -/
def bstX (T : Nat → Nat) : Nat → Nat
  | 0 => 0
  | n + 1 => if T n ≤ T (bstX T n) then bstX T n else n
theorem bstX_lt (T : Nat → Nat) : ∀ n, 0 < n → bstX T n < n := by
  intro n
  induction n with
  | zero => intro h; omega
  | succ n ih =>
    intro _
    simp only [bstX]
    split
    · rcases Nat.eq_zero_or_pos n with h | h
      · subst h; exact Nat.zero_lt_one
      · have := ih h; omega
    · omega
theorem bstX_1 (T : Nat → Nat) : bstX T 1 = 0 := by simp only [bstX]; exact ite_self 0
def cwF (mk : Nat → Nat → Nat) (b w : Nat) (s : Nat → Nat) (i : Nat) : Nat := ixR (mk w) (s i) b
theorem x_crowd {x : gM} {W b w g : Nat} {mk : Nat → Nat → Nat} {s : Nat → Nat} (h : XK x W b mk) (hw : w < W) (hg : g ≤ 32) (hs : ∀ i, i < g → s i < 1024 ∧ x 40 0 i = nI (s i)) : ∃ x', X7_crowdedSlot 0 (nI w) 40 0 (nI g) x = some (nI (bstX (tyN (cwF mk b w s) g) (2 ^ b)), x') ∧ (∀ q, q < 16 → x' 44 0 q = nI (tyN (cwF mk b w s) g q)) ∧ Eqv p44 x x' := by
  unfold X7_crowdedSlot
  obtain ⟨x1, a1, a2, a3⟩ := x_zero44 (x := x)
  have h4 := h.1.2.2.2
  have hp : 2 ^ b ≤ 2 ^ 4 := Nat.pow_le_pow_right (by omega) h4
  have hp1 := Nat.two_pow_pos b
  rw [gCall_eq a1, gJ0_e]
  refine gL1_for (fun i σ => (∀ q, q < 16 → σ 44 0 q = nI (tyN (cwF mk b w s) i q)) ∧ Eqv p44 x σ) (fun o => ∃ x', o = some (nI (bstX (tyN (cwF mk b w s) g) (2 ^ b)), x') ∧ (∀ q, q < 16 → x' 44 0 q = nI (tyN (cwF mk b w s) g q)) ∧ Eqv p44 x x') g ?_ ?_ FU 0 x1 (Nat.zero_le _) (by rw [FU_eq]; omega) ⟨a2, a3⟩
  · rintro i σ K hi ⟨g1, g2⟩ hK
    unfold X7_crowdedSlot_b11
    have hx := XK_cg h (fun t j ht => g2 t 0 j (by unfold p44; omega))
    have hf : ixR (mk w) (s i) b < 16 := ixR_16 h4
    rw [if_neg (by rw [nI_leq (by omega) (by omega)]; omega), show Int32.ofNat (glen 40) = nI 32 from rfl, if_neg (by rw [nI_leq (by omega) (by omega)]; omega), gAt_nI (show i < 32 by omega) (by omega), g2 40 0 i (by unfold p44; omega), (hs i hi).2, gCall_eq (XK_ix hx (hs i hi).1 hw), gAt_nI (show ixR (mk w) (s i) b < 16 from hf) (by omega), g1 _ hf, nI_1, gPut_nI (show ixR (mk w) (s i) b < 16 from hf) (by omega), gLet, nI_1]
    refine hK _ ⟨fun q hq => ?_, g2.tr (Eqv.up ⟨rfl, rfl⟩)⟩
    rw [gup_at, tyN_s]
    by_cases e : q = ixR (mk w) (s i) b
    · rw [if_pos e, if_pos (show cwF mk b w s i = q from e.symm), e]
    · rw [if_neg e, if_neg (fun z => e (show q = cwF mk b w s i from z.symm)), g1 q hq]; rfl
  · rintro σ K ⟨g1, g2⟩
    unfold X7_crowdedSlot_b11
    rw [if_pos (by rw [nI_leq (by omega) (by omega)]; omega)]
    have hx := XK_cg h (fun t j ht => g2 t 0 j (by unfold p44; omega))
    refine gL2_for (fun i v τ => τ = σ ∧ 1 ≤ i ∧ v = nI (bstX (tyN (cwF mk b w s) g) i)) (fun o => ∃ x', o = some (nI (bstX (tyN (cwF mk b w s) g) (2 ^ b)), x') ∧ (∀ q, q < 16 → x' 44 0 q = nI (tyN (cwF mk b w s) g q)) ∧ Eqv p44 x x') (2 ^ b) ?_ ?_ FU 1 0 σ (by omega) (by rw [FU_eq]; omega) ⟨rfl, Nat.le_refl _, by rw [bstX_1]; rfl⟩
    · rintro i v τ K2 hi ⟨rfl, h1, rfl⟩ hK2
      unfold X7_crowdedSlot_b55
      have hb := bstX_lt (tyN (cwF mk b w s) g) i (by omega)
      have t1 := tyN_le (cwF mk b w s) g i
      have t2 := tyN_le (cwF mk b w s) g (bstX (tyN (cwF mk b w s) g) i)
      rw [gCall_eq (XK_sl hx), if_neg (by rw [nI_leq (by omega) (by omega)]; omega), gAt_nI (show i < 16 by omega) (by omega), g1 i (by omega), gAt_nI (show bstX (tyN (cwF mk b w s) g) i < 16 by omega) (by omega), g1 _ (by omega)]
      by_cases e : tyN (cwF mk b w s) g i ≤ tyN (cwF mk b w s) g (bstX (tyN (cwF mk b w s) g) i)
      · rw [if_pos (by rw [nI_leq (by omega) (by omega)]; exact e), gLet, nI_1]
        exact hK2 _ _ ⟨rfl, by omega, by simp only [bstX]; rw [if_pos e]⟩
      · rw [if_neg (by rw [nI_leq (by omega) (by omega)]; exact e), gLet, nI_1]
        exact hK2 _ _ ⟨rfl, by omega, by simp only [bstX]; rw [if_neg e]⟩
    · rintro v τ K2 ⟨rfl, h1, rfl⟩
      unfold X7_crowdedSlot_b55
      rw [gCall_eq (XK_sl hx), if_pos (by rw [nI_leq (by omega) (by omega)]; omega)]
      exact ⟨τ, rfl, g1, g2⟩
def p57 (t k _i : Nat) : Prop := t = 57 ∧ k = 0
theorem m_crowd {m : gM} {W b w g : Nat} {mk : Nat → Nat → Nat} {s : Nat → Nat} {a : Int32} (h : MK m W b mk) (hw : w < W) (hg : g ≤ 32) (h3 : m 47 0 3 = nI g) (hs : ∀ i, i < g → s i < 1024 ∧ m 47 0 (4 + i) = nI (s i)) : ∃ m', gJ0 (fun (m3 : gM) => gJ0 (fun (m4 : gM) => gJ1 (fun (v5 : Int32) (m6 : gM) => if a = 0 then (some (v5, m6)) else (gAt m6 57 0 v5 (fun (x7 : Int32) => some (x7, m6)))) (fun (j116 : Int32 → gM → Option (Int32 × gM)) => gL2 FU (X9_crowd_b82 j116) 0 1 m4)) (fun (j79 : gM → Option (Int32 × gM)) => gL1 FU (X9_crowd_b39 (nI w) j79) 0 m3)) (fun (j36 : gM → Option (Int32 × gM)) => gL1 FU (X9_crowd_b15 j36) 0 m) = some (if a = 0 then nI (bstX (tyN (cwF mk b w s) g) (2 ^ b)) else nI (tyN (cwF mk b w s) g (bstX (tyN (cwF mk b w s) g) (2 ^ b))), m') ∧ Eqv p57 m m' := by
  have h4 := h.1.2.2.2
  have hp : 2 ^ b ≤ 2 ^ 4 := Nat.pow_le_pow_right (by omega) h4
  have hp1 := Nat.two_pow_pos b
  rw [gJ0_e]
  generalize hR : (fun (m3 : gM) => gJ0 (fun (m4 : gM) => gJ1 (fun (v5 : Int32) (m6 : gM) => if a = 0 then (some (v5, m6)) else (gAt m6 57 0 v5 (fun (x7 : Int32) => some (x7, m6)))) (fun (j116 : Int32 → gM → Option (Int32 × gM)) => gL2 FU (X9_crowd_b82 j116) 0 1 m4)) (fun (j79 : gM → Option (Int32 × gM)) => gL1 FU (X9_crowd_b39 (nI w) j79) 0 m3)) = R
  have e0 := fil_loop (m := m) (R := R) (f := X9_crowd_b15 R) 57 0 0 16 (fun i σ K hi => by
    unfold X9_crowd_b15
    rw [if_neg (by rw [li16, nI_leq (by omega) (by omega)]; omega), gPut_nI (show i < 16 from hi) (by omega), gLet, nI_1]) (fun σ K => by
    unfold X9_crowd_b15
    rw [if_pos (by rw [li16, nI_leq (by omega) (by omega)]; omega)]) (by rw [FU_eq]; omega)
  rw [e0, ← hR]
  have a2 : ∀ q, q < 16 → gfil m 57 0 0 16 57 0 q = 0 := fun q hq => by unfold gfil; rw [if_pos ⟨rfl, rfl, hq⟩]
  have a3 : Eqv p57 m (gfil m 57 0 0 16) := Eqv_fil (fun _ => ⟨rfl, rfl⟩)
  revert a2 a3
  generalize gfil m 57 0 0 16 = m1
  intro a2 a3
  dsimp only
  rw [gJ0_e]
  refine gL1_for (fun i σ => (∀ q, q < 16 → σ 57 0 q = nI (tyN (cwF mk b w s) i q)) ∧ Eqv p57 m σ) (fun o => ∃ m', o = some (if a = 0 then nI (bstX (tyN (cwF mk b w s) g) (2 ^ b)) else nI (tyN (cwF mk b w s) g (bstX (tyN (cwF mk b w s) g) (2 ^ b))), m') ∧ Eqv p57 m m') g ?_ ?_ FU 0 m1 (Nat.zero_le _) (by rw [FU_eq]; omega) ⟨a2, a3⟩
  · rintro i σ K hi ⟨g1, g2⟩ hK
    unfold X9_crowd_b39
    have hx := MK_cg h (fun j => g2 47 0 j (by unfold p57; omega))
    have hf : ixR (mk w) (s i) b < 16 := ixR_16 h4
    rw [show gAt σ 47 0 3 _ = _ from gAt_nI (i := 3) (show 3 < 30843 by omega) (by omega), g2 47 0 3 (by unfold p57; omega), h3, if_neg (by rw [nI_leq (by omega) (by omega)]; omega), li4, nI_add, gAt_nI (show 4 + i < 30843 by omega) (by omega), g2 47 0 _ (by unfold p57; omega), (hs i hi).2, gCall_eq (MK_ix hx (hs i hi).1 hw), gAt_nI (show ixR (mk w) (s i) b < 16 from hf) (by omega), g1 _ hf, nI_1, gPut_nI (show ixR (mk w) (s i) b < 16 from hf) (by omega), gLet, nI_1]
    refine hK _ ⟨fun q hq => ?_, g2.tr (Eqv.up ⟨rfl, rfl⟩)⟩
    rw [gup_at, tyN_s]
    by_cases e : q = ixR (mk w) (s i) b
    · rw [if_pos e, if_pos (show cwF mk b w s i = q from e.symm), e]
    · rw [if_neg e, if_neg (fun z => e (show q = cwF mk b w s i from z.symm)), g1 q hq]; rfl
  · rintro σ K ⟨g1, g2⟩
    unfold X9_crowd_b39
    rw [show gAt σ 47 0 3 _ = _ from gAt_nI (i := 3) (show 3 < 30843 by omega) (by omega), g2 47 0 3 (by unfold p57; omega), h3, if_pos (by rw [nI_leq (by omega) (by omega)]; omega)]
    dsimp only
    rw [gJ1_e]
    have hx := MK_cg h (fun j => g2 47 0 j (by unfold p57; omega))
    refine gL2_for (fun i v τ => τ = σ ∧ 1 ≤ i ∧ v = nI (bstX (tyN (cwF mk b w s) g) i)) (fun o => ∃ m', o = some (if a = 0 then nI (bstX (tyN (cwF mk b w s) g) (2 ^ b)) else nI (tyN (cwF mk b w s) g (bstX (tyN (cwF mk b w s) g) (2 ^ b))), m') ∧ Eqv p57 m m') (2 ^ b) ?_ ?_ FU 1 0 σ (by omega) (by rw [FU_eq]; omega) ⟨rfl, Nat.le_refl _, by rw [bstX_1]; rfl⟩
    · rintro i v τ K2 hi ⟨rfl, h1, rfl⟩ hK2
      unfold X9_crowd_b82
      have hb := bstX_lt (tyN (cwF mk b w s) g) i (by omega)
      have t1 := tyN_le (cwF mk b w s) g i
      have t2 := tyN_le (cwF mk b w s) g (bstX (tyN (cwF mk b w s) g) i)
      rw [gCall_eq (MK_sl hx), if_neg (by rw [nI_leq (by omega) (by omega)]; omega), gAt_nI (show i < 16 by omega) (by omega), g1 i (by omega), gAt_nI (show bstX (tyN (cwF mk b w s) g) i < 16 by omega) (by omega), g1 _ (by omega)]
      by_cases e : tyN (cwF mk b w s) g i ≤ tyN (cwF mk b w s) g (bstX (tyN (cwF mk b w s) g) i)
      · rw [if_pos (by rw [nI_leq (by omega) (by omega)]; exact e), gLet, nI_1]
        exact hK2 _ _ ⟨rfl, by omega, by simp only [bstX]; rw [if_pos e]⟩
      · rw [if_neg (by rw [nI_leq (by omega) (by omega)]; exact e), gLet, nI_1]
        exact hK2 _ _ ⟨rfl, by omega, by simp only [bstX]; rw [if_neg e]⟩
    · rintro v τ K2 ⟨rfl, h1, rfl⟩
      unfold X9_crowd_b82
      have hb := bstX_lt (tyN (cwF mk b w s) g) (2 ^ b) hp1
      rw [gCall_eq (MK_sl hx), if_pos (by rw [nI_leq (by omega) (by omega)]; omega)]
      dsimp only
      by_cases ha : a = 0
      · rw [if_pos ha, if_pos ha]; exact ⟨τ, rfl, g2⟩
      · rw [if_neg ha, if_neg ha, gAt_nI (show bstX (tyN (cwF mk b w s) g) (2 ^ b) < 16 by omega) (by omega), g1 _ (by omega)]; exact ⟨τ, rfl, g2⟩
theorem p57_M {m m' : gM} (h : Eqv p57 m m') : Eqv pM m m' := h.mono (fun t k i q => by unfold p57 at q; unfold pM; omega)
theorem q_crowd {x m : gM} {N : Nat} (h : INV x m N) (a b : Int32) : Ag (X8_crowd a b x) (X9_crowd a b m) N := by
  unfold X8_crowd X9_crowd
  obtain ⟨g, s, g1, g2, g3, g4, -⟩ := set_is h
  have hb4 := h.bi.2.1.2.2
  have hp : 2 ^ bN (mB m) ≤ 2 ^ 4 := Nat.pow_le_pow_right (by omega) hb4
  rcases way_cases h a with ⟨w, hw, rfl⟩ | ⟨h1, h2⟩
  · rw [gCall_eq (wayT h hw).1, if_pos rfl, gCall_eq (wayT h hw).2, if_pos rfl]
    obtain ⟨x1, d1, d2, d3⟩ := x_crowd (s := s) (XK_of h.rs h.bi) hw g1 (fun i hi => ⟨(g4 i hi).1, (g4 i hi).2.1⟩)
    obtain ⟨m1, e1, e2⟩ := m_crowd (s := s) (a := b) (MK_of h.bi) hw g1 g3 (fun i hi => ⟨(g4 i hi).1, (g4 i hi).2.2⟩)
    rw [g2, gCall_eq d1, e1]
    have hl := bstX_lt (tyN (cwF (bMk (mB m)) (bN (mB m)) w s) g) (2 ^ bN (mB m)) (Nat.two_pow_pos _)
    by_cases hb : b = 0
    · rw [if_pos hb, if_pos hb]
      exact ⟨_, _, _, rfl, rfl, INV_congr h (p44_X d3) (p57_M e2)⟩
    · unfold X7_inSlot
      rw [if_neg hb, if_neg hb, if_neg (nI_neg (by omega)), if_neg (by rw [li16, nI_leq (by omega) (by omega)]; omega), gAt_nI (show bstX (tyN (cwF (bMk (mB m)) (bN (mB m)) w s) g) (2 ^ bN (mB m)) < 16 by omega) (by omega), d2 _ (by omega)]
      exact ⟨_, _, _, rfl, rfl, INV_congr h (p44_X d3) (p57_M e2)⟩
  · rw [gCall_eq h1, gCall_eq h2]
    exact Ag.same h _ rfl rfl
theorem stF_lt {e : Nat → Int32} {a : Int32} : ∀ n j, stF e a n = some j → j < n ∧ e j = a := by
  intro n
  induction n with
  | zero => intro j z; cases z
  | succ n ih =>
    intro j z
    simp only [stF] at z
    cases q : stF e a n with
    | some i => rw [q] at z; cases z; have := ih j q; exact ⟨by omega, this.2⟩
    | none =>
      rw [q] at z
      dsimp only at z
      by_cases y : e n = a
      · rw [if_pos y] at z; cases z; exact ⟨by omega, y⟩
      · rw [if_neg y] at z; cases z
theorem q_scatter {x m : gM} {N : Nat} (h : INV x m N) (a : Int32) : Ag (X8_scatter a x) (X9_scatter a m) N := by
  unfold X8_scatter X9_scatter
  obtain ⟨g, f1, f2, f3, p1, p2⟩ := set_find h a
  obtain ⟨⟨-, -, -, g', f1', f2', f3', f4, f5⟩, -⟩ := id h
  have hg : g' = g := (nI_inj (by omega) (by omega)).mp (f1'.symm.trans f1)
  subst hg
  rw [gCall_eq p1, gCall_eq p2]
  cases hs : stF (x 40 0) a g' with
  | none =>
    rw [if_pos (show oI none = -1 from rfl), if_pos (show oI none = -1 from rfl)]
    exact Ag.same h _ rfl rfl
  | some j =>
    obtain ⟨hj, -⟩ := stF_lt _ _ hs
    rw [show oI (some j) = nI j from rfl, if_neg (nI_nm1 (by omega)), if_neg (nI_nm1 (by omega))]
    have ex : ∃ x', X6_dropFromSet 0 (nI j) x = some ((), x') ∧ x' 6 0 7 = nI (g' - 1) ∧ (∀ q, q < g' - 1 → x' 40 0 q = if j ≤ q then x 40 0 (q + 1) else x 40 0 q) ∧ Eqv pXs x x' := by
      unfold X6_dropFromSet
      rw [gJ0_e]
      refine gL1_for (fun i σ => j ≤ i ∧ (∀ q, σ 40 0 q = if j ≤ q ∧ q < i then x 40 0 (q + 1) else x 40 0 q) ∧ σ 6 0 7 = nI g' ∧ Eqv pXs x σ) (fun r => ∃ x', r = some ((), x') ∧ x' 6 0 7 = nI (g' - 1) ∧ (∀ q, q < g' - 1 → x' 40 0 q = if j ≤ q then x 40 0 (q + 1) else x 40 0 q) ∧ Eqv pXs x x') (g' - 1) ?_ ?_ FU j x (by omega) (by rw [FU_eq]; omega) ⟨Nat.le_refl _, fun q => by rw [if_neg (by omega)], f1, Eqv.rf⟩
      · rintro i σ K hi ⟨z0, z1, z2, z3⟩ hK
        unfold X6_dropFromSet_b2
        rw [z2, nI_1, if_neg (by rw [nI_leq (by omega) (by omega)]; omega), gAt_nI (show i + 1 < 32 by omega) (by omega), gPut_nI (show i < 32 by omega) (by omega), gLet, z1 (i + 1), if_neg (by omega)]
        refine hK _ ⟨by omega, fun q => ?_, by rw [gup_t (by omega)]; exact z2, z3.tr (Eqv.up (by unfold pXs; omega))⟩
        rw [gup_at]
        by_cases e : q = i
        · subst e
          rw [if_pos rfl, if_pos ⟨z0, by omega⟩]
        · rw [if_neg e, z1 q]
          by_cases c : j ≤ q ∧ q < i
          · rw [if_pos c, if_pos ⟨c.1, by omega⟩]
          · rw [if_neg c, if_neg (by omega)]
      · rintro σ K ⟨z0, z1, z2, z3⟩
        unfold X6_dropFromSet_b2
        rw [z2, nI_1, if_pos (by rw [nI_leq (by omega) (by omega)]; omega)]
        simp only [gSet, gLet]
        rw [z2, nI_sub1 (by omega)]
        refine ⟨_, rfl, by rw [gup_at, if_pos rfl], fun q hq => ?_, z3.tr (Eqv.up (by unfold pXs; omega))⟩
        rw [gup_t (by omega), z1 q]
        by_cases c : j ≤ q
        · rw [if_pos ⟨c, hq⟩, if_pos c]
        · rw [if_neg (fun z => c z.1), if_neg c]
    have em : ∃ m', gJ0 (fun (m3 : gM) => gAt m3 47 0 3 (fun (x4 : Int32) => gPut m3 47 0 3 (x4 - 1) (fun (m5 : gM) => some (true, m5)))) (fun (j51 : gM → Option (Bool × gM)) => gL1 FU (X9_scatter_b15 j51) (nI j) m) = some (true, m') ∧ m' 47 0 3 = nI (g' - 1) ∧ (∀ q, q < g' - 1 → m' 47 0 (4 + q) = if j ≤ q then m 47 0 (4 + (q + 1)) else m 47 0 (4 + q)) ∧ Eqv pMs m m' := by
      rw [gJ0_e]
      refine gL1_for (fun i σ => j ≤ i ∧ (∀ q, q < 32 → σ 47 0 (4 + q) = if j ≤ q ∧ q < i then m 47 0 (4 + (q + 1)) else m 47 0 (4 + q)) ∧ σ 47 0 3 = nI g' ∧ Eqv pMs m σ) (fun r => ∃ m', r = some (true, m') ∧ m' 47 0 3 = nI (g' - 1) ∧ (∀ q, q < g' - 1 → m' 47 0 (4 + q) = if j ≤ q then m 47 0 (4 + (q + 1)) else m 47 0 (4 + q)) ∧ Eqv pMs m m') (g' - 1) ?_ ?_ FU j m (by omega) (by rw [FU_eq]; omega) ⟨Nat.le_refl _, fun q _ => by rw [if_neg (by omega)], f2, Eqv.rf⟩
      · rintro i σ K hi ⟨z0, z1, z2, z3⟩ hK
        unfold X9_scatter_b15
        rw [show gAt σ 47 0 3 _ = _ from gAt_nI (i := 3) (show 3 < 30843 by omega) (by omega), z2, nI_sub1 (by omega), if_neg (by rw [nI_leq (by omega) (by omega)]; omega), li4, nI_add, nI_1, gAt_nI (show 4 + i + 1 < 30843 by omega) (by omega), gPut_nI (show 4 + i < 30843 by omega) (by omega), gLet, nI_1, show 4 + i + 1 = 4 + (i + 1) by omega, z1 (i + 1) (by omega), if_neg (by omega)]
        refine hK _ ⟨by omega, fun q hq => ?_, by rw [gup_at, if_neg (by omega)]; exact z2, z3.tr (Eqv.up (by unfold pMs; omega))⟩
        rw [gup_at]
        by_cases e : q = i
        · subst e
          rw [if_pos rfl, if_pos ⟨z0, by omega⟩]
        · rw [if_neg (by omega), z1 q hq]
          by_cases c : j ≤ q ∧ q < i
          · rw [if_pos c, if_pos ⟨c.1, by omega⟩]
          · rw [if_neg c, if_neg (by omega)]
      · rintro σ K ⟨z0, z1, z2, z3⟩
        unfold X9_scatter_b15
        rw [show gAt σ 47 0 3 _ = _ from gAt_nI (i := 3) (show 3 < 30843 by omega) (by omega), z2, nI_sub1 (by omega), if_pos (by rw [nI_leq (by omega) (by omega)]; omega)]
        dsimp only
        rw [show gAt σ 47 0 3 _ = _ from gAt_nI (i := 3) (show 3 < 30843 by omega) (by omega), z2, nI_sub1 (by omega), show gPut σ 47 0 3 _ _ = _ from gPut_nI (i := 3) (show 3 < 30843 by omega) (by omega)]
        refine ⟨_, rfl, by rw [gup_at, if_pos rfl], fun q hq => ?_, z3.tr (Eqv.up (by unfold pMs; omega))⟩
        rw [gup_at, if_neg (by omega), z1 q (by omega)]
        by_cases c : j ≤ q
        · rw [if_pos ⟨c, hq⟩, if_pos c]
        · rw [if_neg (fun z => c z.1), if_neg c]
    obtain ⟨x', a1, a2, a3, a4⟩ := ex
    obtain ⟨m', b1, b2, b3, b4⟩ := em
    rw [gCall_eq a1, b1]
    refine ⟨_, _, _, rfl, rfl, INV_set h a4 b4 ⟨g' - 1, a2, b2, by omega, fun i hi => ?_, fun i k hik hk => ?_⟩⟩
    · rw [a3 i hi, b3 i hi]
      split
      · exact f4 (i + 1) (by omega)
      · exact f4 i (by omega)
    · rw [a3 i (by omega), a3 k hk]
      by_cases c : j ≤ i
      · rw [if_pos c, if_pos (by omega)]
        exact f5 (i + 1) (k + 1) (by omega) (by omega)
      · rw [if_neg c]
        by_cases c2 : j ≤ k
        · rw [if_pos c2]; exact f5 i (k + 1) (by omega) (by omega)
        · rw [if_neg c2]; exact f5 i k hik (by omega)
def pX2 (t k i : Nat) : Prop := t = 40 ∧ k = 0 ∨ t = 6 ∧ k = 0 ∧ i = 7
def pM2 (t k i : Nat) : Prop := t = 47 ∧ k = 0 ∧ 3 ≤ i ∧ i < 36
theorem pX2_s {x x' : gM} (h : Eqv pX2 x x') : Eqv pXs x x' := h.mono (fun t k i q => by unfold pX2 at q; unfold pXs; omega)
theorem pM2_s {m m' : gM} (h : Eqv pM2 m m') : Eqv pMs m m' := h.mono (fun t k i q => by unfold pM2 at q; unfold pMs; omega)
/-- one more in the set, if it isn't there, and there is room -/
theorem add_ok {x m : gM} {N l : Nat} (h : INV x m N) (hl : l < 1024) : ∃ p r x' m', X6_placeInSet 0 (nI l) x = some (p, x) ∧ (p = -1 → X6_addToSet 0 (nI l) x = some ((), x')) ∧ (p ≠ -1 → x' = x) ∧ X9_gather (nI l) m = some (r, m') ∧ INV x' m' N ∧ Eqv pX2 x x' ∧ Eqv pM2 m m' := by
  unfold X9_gather
  obtain ⟨g, f1, f2, f3, p1, p2⟩ := set_find h (nI l)
  obtain ⟨⟨-, -, -, g', f1', f2', f3', f4, f5⟩, -⟩ := id h
  have hg : g' = g := (nI_inj (by omega) (by omega)).mp (f1'.symm.trans f1)
  subst hg
  rw [gCall_eq (lineT hl m).2, if_pos rfl, gCall_eq p2]
  refine ⟨oI (stF (x 40 0) (nI l) g'), ?_⟩
  cases hs : stF (x 40 0) (nI l) g' with
  | some j =>
    have hj := (stF_lt _ _ hs).1
    rw [hs] at p1
    rw [show oI (some j) = nI j from rfl, if_neg (nI_nm1 (by omega))]
    exact ⟨_, x, m, p1, fun z => absurd z (nI_nm1 (by omega)), fun _ => rfl, rfl, h, Eqv.rf, Eqv.rf⟩
  | none =>
    have hno := stF_non _ hs
    rw [hs] at p1
    rw [if_pos (show oI none = -1 from rfl), show gAt m 47 0 3 _ = _ from gAt_nI (i := 3) (show 3 < 30843 by omega) (by omega), f2]
    unfold X6_addToSet
    rw [f1]
    by_cases h32 : g' = 32
    · rw [if_pos (show nI g' = 32 by rw [h32]; rfl)]
      refine ⟨_, x, m, p1, fun _ => ?_, fun _ => rfl, rfl, h, Eqv.rf, Eqv.rf⟩
      rw [if_pos (by rw [li32, nI_leq (by omega) (by omega)]; omega)]
    · rw [if_neg (show ¬ nI g' = 32 by rw [li32, nI_inj (by omega) (by omega)]; exact h32), show gAt m 47 0 3 _ = _ from gAt_nI (i := 3) (show 3 < 30843 by omega) (by omega), f2, li4, nI_add, gPut_nI (t := 47) (show 4 + g' < 30843 by omega) (by omega), show gAt _ 47 0 3 _ = _ from gAt_nI (i := 3) (show 3 < 30843 by omega) (by omega), gup_at, if_neg (show ¬ 3 = 4 + g' by omega), f2, nI_1, show gPut _ 47 0 3 _ _ = _ from gPut_nI (i := 3) (show 3 < 30843 by omega) (by omega), show gAt _ 47 0 3 _ = _ from gAt_nI (i := 3) (show 3 < 30843 by omega) (by omega)]
      rw [if_neg (show ¬ 32 ≤ nI g' by rw [li32, nI_leq (by omega) (by omega)]; omega), gPut_nI (show g' < 32 by omega) (by omega), gup_t (show 6 ≠ 40 by omega), f1, gLet, nI_1]
      simp only [gSet]
      refine ⟨_, _, _, p1, fun _ => rfl, fun z => absurd rfl z, rfl, INV_set h (pX2_s ((Eqv.up (by unfold pX2; omega)).tr (Eqv.up (by unfold pX2; omega)))) (pM2_s ((Eqv.up (by unfold pM2; omega)).tr (Eqv.up (by unfold pM2; omega)))) ⟨g' + 1, by rw [gup_at, if_pos rfl], by rw [gup_at, if_pos rfl], by omega, fun i hi => ?_, fun i j hij hj => ?_⟩, (Eqv.up (by unfold pX2; omega)).tr (Eqv.up (by unfold pX2; omega)), (Eqv.up (by unfold pM2; omega)).tr (Eqv.up (by unfold pM2; omega))⟩
      · rw [gup_t (show 40 ≠ 6 by omega), gup_at, gup_at, if_neg (show ¬ 4 + i = 3 by omega), gup_at]
        by_cases e : i = g'
        · rw [if_pos e, if_pos (by omega)]; exact ⟨l, hl, rfl, rfl⟩
        · rw [if_neg e, if_neg (by omega)]; exact f4 i (by omega)
      · rw [gup_t (show 40 ≠ 6 by omega), gup_at, gup_at, if_neg (show ¬ i = g' by omega)]
        by_cases e : j = g'
        · rw [if_pos e]; exact hno i (by omega)
        · rw [if_neg e]; exact f5 i j hij (by omega)
theorem q_collect {x m : gM} {N : Nat} (h : INV x m N) (a : Int32) : Ag (X8_collect a x) (X9_collect a m) N := by
  unfold X8_collect X9_collect
  rcases trace_cases h a with ⟨t, ht, rfl, c1, c2, s, s1, s2, s3, s4⟩ | ⟨c1, c2⟩
  · rw [gCall_eq c1, if_pos rfl, gCall_eq c2, if_pos rfl, x_tr ht, z4, show gPut m 47 0 3 _ _ = _ from gPut_nI (i := 3) (show 3 < 30843 by omega) (by omega), gJ0_e]
    unfold X6_collectFrom
    simp only [gSet]
    have h0 : INV (gup x 6 0 7 0) (gup m 47 0 3 0) N := INV_set h (Eqv.up (by unfold pXs; omega)) (Eqv.up (by unfold pMs; omega)) ⟨0, by rw [gup_at, if_pos rfl]; rfl, by rw [gup_at, if_pos rfl]; rfl, by omega, fun i hi => by omega, fun i j _ hj => by omega⟩
    have key : ∃ x' m', gL1 FU (X6_collectFrom_b7 0 t) 0 (gup x 6 0 7 0) = some ((), x') ∧ gL1 FU (X9_collect_b19 (nI t) (fun m4 => gAt m4 47 0 3 (fun (x5 : Int32) => some (x5, m4)))) 0 (gup m 47 0 3 0) = some (m' 47 0 3, m') ∧ INV x' m' N := by
      refine gL1_two (fun i σ τ => INV σ τ N ∧ Eqv pX2 x σ ∧ Eqv pM2 m τ) (fun p q => ∃ x' m', p = some ((), x') ∧ q = some (m' 47 0 3, m') ∧ INV x' m' N) s ?_ ?_ FU FU 0 _ _ (Nat.zero_le _) (by rw [FU_eq]; omega) (by rw [FU_eq]; omega) ⟨h0, Eqv.up (by unfold pX2; omega), Eqv.up (by unfold pM2; omega)⟩
      · rintro i σ τ K K' hi ⟨k1, k2, k3⟩ hK
        unfold X6_collectFrom_b7 X9_collect_b19
        obtain ⟨⟨l, l1, l2, l3⟩, -⟩ := s4 i hi
        have e5 : σ 5 t 2 = nI s := by rw [k2 5 t 2 (by unfold pX2; omega)]; exact s1
        have e38 : σ 38 t i = nI l := by rw [k2 38 t i (by unfold pX2; omega)]; exact l2
        have e49 : ∀ j, τ 49 0 j = m 49 0 j := fun j => k3 49 0 j (by unfold pM2; omega)
        obtain ⟨p, r, x', m', a1, a2, a3, a4, a5, a6, a7⟩ := add_ok k1 l1
        rw [e5, if_neg (by rw [nI_leq (by omega) (by omega)]; omega), gAt_nI (show i < 600 by omega) (by omega), e38, gCall_eq a1, gCall_eq (m_len ht (by rw [e49]; exact s2)), if_neg (show ¬ nI s ≤ nI i by rw [nI_leq (by omega) (by omega)]; omega), gCall_eq (m_line ht (by omega) (by rw [e49]; exact l3)), gCall_eq a4]
        by_cases hp : p = -1
        · rw [if_pos hp, gAt_nI (show i < 600 by omega) (by omega), e38, gCall_eq (a2 hp), gLet, gLet, nI_1]
          exact hK _ _ ⟨a5, k2.tr a6, k3.tr a7⟩
        · rw [if_neg hp, gLet, gLet, nI_1]
          have := a3 hp
          subst this
          exact hK _ _ ⟨a5, k2, k3.tr a7⟩
      · rintro σ τ K K' ⟨k1, k2, k3⟩
        unfold X6_collectFrom_b7 X9_collect_b19
        have e5 : σ 5 t 2 = nI s := by rw [k2 5 t 2 (by unfold pX2; omega)]; exact s1
        have e49 : ∀ j, τ 49 0 j = m 49 0 j := fun j => k3 49 0 j (by unfold pM2; omega)
        rw [e5, if_pos (by rw [nI_leq (by omega) (by omega)]; omega), gCall_eq (m_len ht (by rw [e49]; exact s2)), if_pos (by rw [nI_leq (by omega) (by omega)]; omega)]
        dsimp only
        rw [show gAt τ 47 0 3 _ = _ from gAt_nI (i := 3) (show 3 < 30843 by omega) (by omega)]
        exact ⟨σ, τ, rfl, rfl, k1⟩
    obtain ⟨x', m', r1, r2, r3⟩ := key
    rw [gCall_eq r1, r2]
    obtain ⟨g, s, -, y1, y2, -⟩ := set_is r3
    rw [y1, y2]
    exact ⟨_, _, _, rfl, rfl, r3⟩
  · rw [gCall_eq c1, gCall_eq c2]
    exact Ag.same h _ rfl rfl
