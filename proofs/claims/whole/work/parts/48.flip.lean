/-! LAYER 2: scattered; worst; flips; crowd. -/
theorem cntP_front (p : Nat → Bool) : ∀ n, cntP p (n + 1) = (if p 0 then 1 else 0) + cntP (fun i => p (i + 1)) n := by
  intro n
  induction n with
  | zero => simp [cntP]
  | succ n ih =>
    rw [show cntP p (n + 1 + 1) = cntP p (n + 1) + (if p (n + 1) then 1 else 0) from rfl, ih]
    rw [show cntP (fun i => p (i + 1)) (n + 1) = cntP (fun i => p (i + 1)) n + (if p (n + 1) then 1 else 0) from rfl]
    omega
theorem popF_cnt : ∀ f n, popF f n = cntP (fun i => n.testBit i) f := by
  intro f
  induction f with
  | zero => intro n; rfl
  | succ f ih =>
    intro n
    rw [cntP_front]
    simp only [popF]
    rw [ih (n / 2)]
    congr 1
    · rw [Nat.testBit_zero]
      rcases Nat.mod_two_eq_zero_or_one n with h | h <;> simp [h]
    · refine cntP_congr _ (fun i _ => ?_)
      rw [Nat.testBit_div_two]
def scT (mk : Nat → Nat → Nat) (b l w o n s : Nat) : Nat := cntP (fun k => decide (ixR (mk w) k b = ixR (mk w) l b) && decide (ixR (mk o) k b = s)) n
theorem x_scat {x : gM} {W b l w o : Nat} {mk : Nat → Nat → Nat} (h : XK x W b mk) (hl : l < 1024) (hw : w < W) (ho : o < W) : ∃ x', X7_slotsScattered 0 (nI l) (nI w) (nI o) x = some (nI (usN (scT mk b l w o 1024)), x') ∧ Eqv p44 x x' := by
  unfold X7_slotsScattered
  obtain ⟨x1, a1, a2, a3⟩ := x_zero44 (x := x)
  have h4 := h.1.2.2.2
  rw [gCall_eq (XK_ix h hl hw), gCall_eq a1, gJ0_e]
  refine gL1_for (fun i σ => (∀ q, q < 16 → σ 44 0 q = nI (scT mk b l w o i q)) ∧ Eqv p44 x σ) (fun r => ∃ x', r = some (nI (usN (scT mk b l w o 1024)), x') ∧ Eqv p44 x x') 1024 ?_ ?_ FU 0 x1 (Nat.zero_le _) (by rw [FU_eq]; omega) ⟨a2, a3⟩
  · rintro i σ K hi ⟨g1, g2⟩ hK
    unfold X7_slotsScattered_b19
    have hx := XK_cg h (fun t j ht => g2 t 0 j (by unfold p44; omega))
    have f1 : ixR (mk w) i b < 16 := ixR_16 h4
    have f2 : ixR (mk w) l b < 16 := ixR_16 h4
    have f3 : ixR (mk o) i b < 16 := ixR_16 h4
    rw [if_neg (by rw [li1024, nI_leq (by omega) (by omega)]; omega), gCall_eq (XK_ix hx hi hw)]
    by_cases e : ixR (mk w) i b = ixR (mk w) l b
    · rw [if_pos (by rw [e]), gCall_eq (XK_ix hx hi ho), gAt_nI (show ixR (mk o) i b < 16 from f3) (by omega), g1 _ f3, nI_1, gPut_nI (show ixR (mk o) i b < 16 from f3) (by omega), gLet, nI_1]
      refine hK _ ⟨fun q hq => ?_, g2.tr (Eqv.up ⟨rfl, rfl⟩)⟩
      rw [gup_at]
      unfold scT
      simp only [cntP, decide_eq_true e, Bool.true_and]
      by_cases eq : q = ixR (mk o) i b
      · rw [if_pos eq, if_pos (decide_eq_true eq.symm), eq]
      · rw [if_neg eq, if_neg (fun z => eq (of_decide_eq_true z).symm), g1 q hq]; rfl
    · rw [if_neg (fun z => e ((nI_inj (by omega) (by omega)).mp z)), gLet, nI_1]
      refine hK _ ⟨fun q hq => ?_, g2⟩
      rw [g1 q hq]
      unfold scT
      simp only [cntP, decide_eq_false e, Bool.false_and]
      rfl
  · rintro σ K ⟨g1, g2⟩
    unfold X7_slotsScattered_b19
    rw [if_pos (by rw [li1024, nI_leq (by omega) (by omega)]; omega)]
    dsimp only
    rw [gCall_eq (x_used (T := scT mk b l w o 1024) (fun q hq => ⟨g1 q hq, by have : scT mk b l w o 1024 q ≤ 1024 := cntP_le _ _
                                                                              omega⟩))]
    exact ⟨σ, rfl, g2⟩
theorem m_scat {m : gM} {W b l w o : Nat} {mk : Nat → Nat → Nat} (h : MK m W b mk) (hl : l < 1024) (hw : w < W) (ho : o < W) : gJ1 (fun (v7 : Int32) (m8 : gM) => gCall (X9_many v7 m8) (fun (r10 : Int32) (m9 : gM) => some (r10, m9))) (fun (j80 : Int32 → gM → Option (Int32 × gM)) => gL2 FU (X9_scattered_b36 (nI l) (nI w) (nI o) j80) 0 0 m) = some (nI (usN (scT mk b l w o 1024)), m) := by
  have h4 := h.1.2.2.2
  rw [gJ1_e]
  refine gL2_for (fun i v σ => σ = m ∧ ∃ c, v = nI c ∧ c < 65536 ∧ ∀ q, c.testBit q = decide (0 < scT mk b l w o i q)) (fun r => r = some (nI (usN (scT mk b l w o 1024)), m)) 1024 ?_ ?_ FU 0 0 m (Nat.zero_le _) (by rw [FU_eq]; omega) ⟨rfl, 0, rfl, by omega, fun q => by rw [Nat.zero_testBit]; rfl⟩
  · rintro i v σ K hi ⟨rfl, c, rfl, hc, hb⟩ hK
    unfold X9_scattered_b36
    have f1 : ixR (mk w) i b < 16 := ixR_16 h4
    have f2 : ixR (mk w) l b < 16 := ixR_16 h4
    have f3 : ixR (mk o) i b < 16 := ixR_16 h4
    rw [if_neg (by rw [li1024, nI_leq (by omega) (by omega)]; omega), gCall_eq (MK_ix h hi hw), gCall_eq (MK_ix h hl hw)]
    by_cases e : ixR (mk w) i b = ixR (mk w) l b
    · rw [if_pos (by rw [e]), gCall_eq (MK_ix h hi ho), two_shl (by omega), nI_or, gLet, gLet, nI_1]
      refine hK _ _ ⟨rfl, _, rfl, Nat.or_lt_two_pow (n := 16) hc (Nat.pow_lt_pow_right (by omega) f3), fun q => ?_⟩
      rw [Nat.testBit_or, hb, Nat.testBit_two_pow]
      unfold scT
      simp only [cntP, decide_eq_true e, Bool.true_and]
      by_cases eq : ixR (mk o) i b = q
      · rw [decide_eq_true eq, Bool.or_true, if_pos rfl]
        exact (decide_eq_true (by omega)).symm
      · simp only [decide_eq_false eq, Bool.or_false, Bool.false_eq_true, ↓reduceIte, Nat.add_zero]
    · rw [if_neg (fun z => e ((nI_inj (by omega) (by omega)).mp z)), gLet, nI_1]
      refine hK _ _ ⟨rfl, c, rfl, hc, fun q => ?_⟩
      rw [hb]
      unfold scT
      simp only [cntP, decide_eq_false e, Bool.false_and]
      rfl
  · rintro v σ K ⟨rfl, c, rfl, hc, hb⟩
    unfold X9_scattered_b36
    rw [if_pos (by rw [li1024, nI_leq (by omega) (by omega)]; omega)]
    dsimp only
    rw [gCall_eq (many_ok (by omega) _), popF_grow 16 16 c hc, popF_cnt]
    unfold usN
    rw [cntP_congr 16 (fun q _ => hb q)]
theorem q_scattered {x m : gM} {N : Nat} (h : INV x m N) (a b c : Int32) : Ag (X8_scattered a b c x) (X9_scattered a b c m) N := by
  unfold X8_scattered X9_scattered
  have hW := h.bi.1.2.2
  rcases line_cases a with ⟨l, hl, rfl⟩ | ⟨h1, h2⟩
  · rw [gCall_eq (lineT hl x).1, if_pos rfl, gCall_eq (lineT hl m).2, if_pos rfl]
    rcases way_cases h b with ⟨w, hw, rfl⟩ | ⟨h1, h2⟩
    · rw [gCall_eq (wayT h hw).1, if_pos rfl, gCall_eq (wayT h hw).2, if_pos rfl]
      rcases way_cases h c with ⟨o, ho, rfl⟩ | ⟨h1, h2⟩
      · rw [gCall_eq (wayT h ho).1, if_pos rfl, gCall_eq (wayT h ho).2, if_pos rfl]
        by_cases e : nI w = nI o
        · rw [if_pos e, if_pos e]
          exact Ag.same h _ rfl rfl
        · obtain ⟨x1, d1, d2⟩ := x_scat (XK_of h.rs h.bi) hl hw ho
          rw [if_neg e, if_neg e, gCall_eq d1, m_scat (MK_of h.bi) hl hw ho]
          exact ⟨_, _, _, rfl, rfl, INV_congr h (p44_X d2) Eqv.rf⟩
      · rw [gCall_eq h1, gCall_eq h2]
        exact Ag.same h _ rfl rfl
    · rw [gCall_eq h1, gCall_eq h2]
      exact Ag.same h _ rfl rfl
  · rw [gCall_eq (h1 x), gCall_eq (h2 m)]
    exact Ag.same h _ rfl rfl
theorem Eqv_44 {x x1 x2 : gM} (h : Eqv p44 x x1) (g : Eqv p44 x1 x2) : Eqv p44 x x2 := h.tr g
theorem mxN_pos {f : Nat → Nat} {n : Nat} (hn : 1 ≤ n) (hf : ∀ i, f i < 16) : 1 ≤ mxN (tyN f n) 16 := by
  have h1 := mxN_ge (T := tyN f n) 16 (f 0) (hf 0)
  have h2 : cntP (fun i => decide (f i = f 0)) 1 ≤ tyN f n (f 0) := by
    obtain ⟨k, rfl⟩ := Nat.exists_eq_add_of_le hn
    unfold tyN
    rw [cntP_add]
    omega
  have h3 : cntP (fun i => decide (f i = f 0)) 1 = 1 := by simp [cntP]
  omega
theorem q_worst {x m : gM} {N : Nat} (h : INV x m N) (a b : Int32) : Ag (X8_worst a b x) (X9_worst a b m) N := by
  unfold X8_worst X9_worst X9_isStride
  rcases way_cases h a with ⟨w, hw, rfl⟩ | ⟨h1, h2⟩
  · rw [gCall_eq (wayT h hw).1, if_pos rfl, gCall_eq (wayT h hw).2, if_pos rfl]
    rcases swept1 b with ⟨n, hn1, hn, rfl, c1, c2⟩ | ⟨c1, c2⟩
    · rw [gCall_eq (c1 x), if_pos rfl, gCall_eq (c2 m), if_pos rfl, gCall_some, if_pos rfl]
      unfold X7_worstStride
      have hx := XK_of h.rs h.bi
      have hm := MK_of h.bi
      have h4 := hx.1.2.2.2
      revert hx hm h4
      generalize bMk (mB m) = mk
      generalize hW : bW (mB m) = W
      rw [hW] at hw
      generalize bN (mB m) = bb
      intro hx hm h4
      have key : ∃ r x' m', gL3 FU (X7_worstStride_b9 0 (nI w) (nI n)) 1 0 1 x = some (r, x') ∧ gL3 FU (X9_worst_b19 (nI w) (nI n)) (-1) 0 1 m = some (r, m') ∧ Eqv p44 x x' ∧ Eqv pSp m m' := by
        refine gL3_two (fun i a b c d σ τ => 1 ≤ i ∧ b = d ∧ (∃ mx, b = nI mx ∧ mx ≤ 64 ∧ (i = 1 → mx = 0)) ∧ (1 < i → a = c) ∧ Eqv p44 x σ ∧ Eqv pSp m τ) (fun p q => ∃ r x' m', p = some (r, x') ∧ q = some (r, m') ∧ Eqv p44 x x' ∧ Eqv pSp m m') 64 ?_ ?_ FU FU 1 1 0 (-1) 0 x m (by omega) (by rw [FU_eq]; omega) (by rw [FU_eq]; omega) ⟨Nat.le_refl _, rfl, ⟨0, rfl, by omega, fun _ => rfl⟩, fun z => absurd z (by omega), Eqv.rf, Eqv.rf⟩
        · rintro i a b c d σ τ K K' hi ⟨hs, rfl, ⟨mx, rfl, hmx, hm1⟩, hac, g1, g2⟩ hK
          unfold X7_worstStride_b9 X9_worst_b19
          obtain ⟨x1, d1, d2, d3⟩ := x_lay (s := i) (XK_cg hx (fun t j ht => g1 t 0 j (by unfold p44; omega))) hw (by omega) hn
          obtain ⟨m1, e1, e2, e3, e4⟩ := m_spr (s := i) (MK_cg hm (fun j => g2 47 0 j (by unfold pSp; omega))) hw (by omega) hn
          have hl : ∀ q, q < 16 → x1 44 0 q = nI (tyN (spF mk bb w i) n q) ∧ tyN (spF mk bb w i) n q ≤ 100000 := fun q hq => ⟨d2 q hq, by have := tyN_le (spF mk bb w i) n q; omega⟩
          have hM : mxN (tyN (spF mk bb w i) n) 16 ≤ n := mxN_le 16 (fun q _ => tyN_le _ _ _)
          have hp := mxN_pos (f := spF mk bb w i) hn1 (fun _ => spF_16 h4)
          rw [if_neg (by rw [li63, nI_ltt (by omega) (by omega)]; omega), if_neg (by rw [li63, nI_ltt (by omega) (by omega)]; omega), gCall_eq d1, gCall_eq (x_most hl), gCall_eq e1, e3]
          by_cases e : mxN (tyN (spF mk bb w i) n) 16 ≤ mx
          · rw [if_pos (by rw [nI_leq (by omega) (by omega)]; exact e), if_neg (by rw [nI_ltt (by omega) (by omega)]; omega), gLet, gLet, nI_1]
            have : i ≠ 1 := fun z => by have := hm1 z; omega
            exact hK _ _ _ _ _ _ ⟨by omega, rfl, ⟨mx, rfl, hmx, fun z => absurd z (by omega)⟩, fun _ => hac (by omega), g1.tr d3, g2.tr e4⟩
          · rw [if_neg (by rw [nI_leq (by omega) (by omega)]; exact e), if_pos (by rw [nI_ltt (by omega) (by omega)]; omega), gLet, gLet, nI_1]
            exact hK _ _ _ _ _ _ ⟨by omega, rfl, ⟨_, rfl, by omega, fun z => absurd z (by omega)⟩, fun _ => rfl, g1.tr d3, g2.tr e4⟩
        · rintro a b c d σ τ K K' ⟨hs, rfl, hmx, hac, g1, g2⟩
          unfold X7_worstStride_b9 X9_worst_b19
          rw [if_pos (by rw [li63, nI_ltt (by omega) (by omega)]; omega), if_pos (by rw [li63, nI_ltt (by omega) (by omega)]; omega)]
          exact ⟨_, σ, τ, rfl, by rw [hac (by omega)], g1, g2⟩
      obtain ⟨r, x', m', k1, k2, k3, k4⟩ := key
      rw [k1, k2]
      exact ⟨_, _, _, rfl, rfl, INV_congr h (p44_X k3) (pSp_M k4)⟩
    · rw [gCall_eq (c1 x), gCall_eq (c2 m)]
      exact Ag.same h _ rfl rfl
  · rw [gCall_eq h1, gCall_eq h2]
    exact Ag.same h _ rfl rfl
def mkF (mk : Nat → Nat → Nat) (w j v : Nat) (u i : Nat) : Nat := if u = w ∧ i = j then v else mk u i
theorem XK_fl {x : gM} {W b w j v : Nat} {mk : Nat → Nat → Nat} (h : XK x W b mk) (hw : w < W) (hj : j < b) (hv : v < 1024) : XK (gup x 25 0 (4 * w + j) (nI v)) W b (mkF mk w j v) := by
  obtain ⟨⟨h1, h2, h3, h4⟩, h5⟩ := h
  refine ⟨⟨by rw [gup_t (by omega)]; exact h1, by rw [gup_t (by omega)]; exact h2, h3, h4⟩, fun u i hu hi => ?_⟩
  rw [gup_at]
  unfold mkF
  by_cases e : u = w ∧ i = j
  · rw [if_pos (by rw [e.1, e.2]), if_pos e]; exact ⟨rfl, hv⟩
  · rw [if_neg (by omega), if_neg e]; exact h5 u i hu hi
theorem MK_fl {m : gM} {W b w j v : Nat} {mk : Nat → Nat → Nat} (h : MK m W b mk) (hw : w < W) (hj : j < b) (hv : v < 1024) : MK (gup m 47 0 (47 + 4 * w + j) (nI v)) W b (mkF mk w j v) := by
  obtain ⟨⟨h1, h2, h3, h4⟩, h5⟩ := h
  refine ⟨⟨by rw [gup_at, if_neg (by omega)]; exact h1, by rw [gup_at, if_neg (by omega)]; exact h2, h3, h4⟩, fun u i hu hi => ?_⟩
  rw [gup_at]
  unfold mkF
  by_cases e : u = w ∧ i = j
  · rw [if_pos (by rw [e.1, e.2]), if_pos e]; exact ⟨rfl, hv⟩
  · rw [if_neg (by omega), if_neg e]; exact h5 u i hu hi
theorem gup_back {m : gM} {t k i : Nat} {a v : Int32} (h : m t k i = v) : gup (gup m t k i a) t k i v = m := by
  funext t' k' i'
  unfold gup
  by_cases e : t' = t ∧ k' = k ∧ i' = i
  · rw [if_pos e, e.1, e.2.1, e.2.2, h]
  · rw [if_neg e, if_neg e]
def flN (mk : Nat → Nat → Nat) (b w j o : Nat) : Nat := evN (mkF mk w j (mk w j ^^^ 2 ^ o)) b w
theorem x_flip {x : gM} {W b w j o : Nat} {mk : Nat → Nat → Nat} (h : XK x W b mk) (hw : w < W) (hj : j < b) (ho : o < 10) : X7_evenIfFlipped 0 (nI w) (nI j) (nI o) x = some (nI (flN mk b w j o), x) := by
  unfold X7_evenIfFlipped
  obtain ⟨⟨h1, h2, h3, h4⟩, h5⟩ := id h
  obtain ⟨a1, a2⟩ := h5 w j hw hj
  have hma : X8_maskAt (nI w) (nI j) x = some (nI (4 * w + j), x) := by
    unfold X8_maskAt
    rw [li4, pk_mul, nI_add, Nat.mul_comm]
  have hv : mk w j ^^^ 2 ^ o < 1024 := Nat.xor_lt_two_pow (n := 10) a2 (Nat.pow_lt_pow_right (by omega) ho)
  rw [gCall_eq hma, gAt_nI (show 4 * w + j < 16 by omega) (by omega), a1, two_shl (by omega), nI_xor, gPut_nI (show 4 * w + j < 16 by omega) (by omega), gCall_eq (x_evens (XK_fl h hw hj hv) hw), gPut_nI (show 4 * w + j < 16 by omega) (by omega), gup_back a1]
  rfl
theorem m_flip {m : gM} {W b w j o : Nat} {mk : Nat → Nat → Nat} (h : MK m W b mk) (hw : w < W) (hj : j < b) (ho : o < 10) : ∃ m', X9_flippedBy (nI w) (nI j) (nI o) m = some (nI (flN mk b w j o), m') ∧ Eqv pSp m m' := by
  unfold X9_flippedBy
  obtain ⟨⟨h1, h2, h3, h4⟩, h5⟩ := id h
  obtain ⟨a1, a2⟩ := h5 w j hw hj
  have hma : ∀ m : gM, X9_maskAt (nI w) (nI j) m = some (nI (47 + 4 * w + j), m) := by
    intro m
    unfold X9_maskAt
    rw [li47, li4, pk_mul, nI_add, nI_add]
  have hv : mk w j ^^^ 2 ^ o < 1024 := Nat.xor_lt_two_pow (n := 10) a2 (Nat.pow_lt_pow_right (by omega) ho)
  obtain ⟨m1, e1, e2⟩ := m_evens (MK_fl h hw hj hv) hw
  have e3 : m1 47 0 (47 + 4 * w + j) = nI (mk w j ^^^ 2 ^ o) := by rw [e2 47 0 _ (by unfold pSp; omega), gup_at, if_pos rfl]
  rw [gCall_eq (hma m), gAt_nI (show 47 + 4 * w + j < 30843 by omega) (by omega), a1, two_shl (by omega), nI_xor, gPut_nI (show 47 + 4 * w + j < 30843 by omega) (by omega), gCall_eq e1, gCall_eq (hma m1), gAt_nI (show 47 + 4 * w + j < 30843 by omega) (by omega), e3, nI_xor, gPut_nI (show 47 + 4 * w + j < 30843 by omega) (by omega), xr1]
  refine ⟨_, rfl, fun t k i q => ?_⟩
  unfold gup
  by_cases e : t = 47 ∧ k = 0 ∧ i = 47 + 4 * w + j
  · rw [if_pos e, e.1, e.2.1, e.2.2, a1]
  · rw [if_neg e, e2 t k i q]
    unfold gup
    rw [if_neg e]
theorem q_flipped {x m : gM} {N : Nat} (h : INV x m N) (a b c : Int32) : Ag (X8_flipped a b c x) (X9_flipped a b c m) N := by
  unfold X8_flipped X9_flipped
  rcases mask_cases h a b with ⟨w, j, hw, hj, rfl, rfl, h1, h2⟩ | ⟨h1, h2⟩
  · rw [gCall_eq h1, if_pos rfl, gCall_eq h2, if_pos rfl]
    rcases in_out c 0 9 with ⟨o, -, ho, -, rfl⟩ | ho
    · have hT : X9_isIn (nI o) 0 9 m = some (true, m) := isIn_T (Nat.zero_le _) ho (by omega) m
      obtain ⟨m1, e1, e2⟩ := m_flip (o := o) (MK_of h.bi) hw hj (by omega)
      rw [gCall_eq hT, if_pos rfl, if_neg (nI_neg (by omega)), if_pos (by rw [li10, nI_ltt (by omega) (by omega)]; omega), gCall_eq (x_flip (XK_of h.rs h.bi) hw hj (by omega)), gCall_eq e1]
      exact ⟨_, _, _, rfl, rfl, INV_congr h Eqv.rf (pSp_M e2)⟩
    · have hF : X9_isIn c 0 9 m = some (false, m) := isIn_F ho (by omega) (by omega) m
      rw [gCall_eq hF]
      refine Ag.same h (-1) ?_ rfl
      rcases ho.lt0 with z | ⟨j, hj, rfl, z⟩
      · rw [if_pos z]
      · rw [if_neg (nI_neg hj), if_neg (by rw [li10, nI_ltt hj (by omega)]; omega)]
  · rw [gCall_eq h1, gCall_eq h2]
    exact Ag.same h _ rfl rfl
theorem q_bestFlip {x m : gM} {N : Nat} (h : INV x m N) (a : Int32) : Ag (X8_bestFlip a x) (X9_bestFlip a m) N := by
  unfold X8_bestFlip X9_bestFlip
  rcases way_cases h a with ⟨w, hw, rfl⟩ | ⟨h1, h2⟩
  · rw [gCall_eq (wayT h hw).1, if_pos rfl, gCall_eq (wayT h hw).2, if_pos rfl]
    unfold X7_bestFlipOf
    have hx := XK_of h.rs h.bi
    have hm := MK_of h.bi
    revert hx hm
    generalize bMk (mB m) = mk
    generalize hW : bW (mB m) = W
    rw [hW] at hw
    generalize bN (mB m) = b
    intro hx hm
    have h4 := hx.1.2.2.2
    obtain ⟨m1, e1, e2⟩ := m_evens hm hw
    rw [gCall_eq (x_evens hx hw), gCall_eq e1]
    have key : ∃ r m', gL3 FU (X7_bestFlipOf_b13 0 (nI w)) (-1) (nI (evN mk b w)) 0 x = some (r, x) ∧ gL3 FU (X9_bestFlip_b21 (nI w)) (-1) (nI (evN mk b w)) 0 m1 = some (r, m') ∧ Eqv pSp m m' := by
      refine gL3_two (fun i a b c d σ τ => a = c ∧ b = d ∧ σ = x ∧ Eqv pSp m τ) (fun p q => ∃ r m', p = some (r, x) ∧ q = some (r, m') ∧ Eqv pSp m m') b ?_ ?_ FU FU 0 (-1) (nI (evN mk b w)) (-1) (nI (evN mk b w)) x m1 (by omega) (by rw [FU_eq]; omega) (by rw [FU_eq]; omega) ⟨rfl, rfl, rfl, e2⟩
      · rintro i p q c d σ τ K K' hi ⟨rfl, rfl, rfl, g2⟩ hK
        unfold X7_bestFlipOf_b13 X9_bestFlip_b21
        have hm' := MK_cg hm (fun j => g2 47 0 j (by unfold pSp; omega))
        rw [hx.1.2.1, if_neg (by rw [nI_leq (by omega) (by omega)]; omega), show gAt τ 47 0 37 _ = _ from gAt_nI (i := 37) (show 37 < 30843 by omega) (by omega), hm'.1.2.1, if_neg (by rw [nI_leq (by omega) (by omega)]; omega)]
        refine gL3_two (fun i a b c d σ' τ' => a = c ∧ b = d ∧ σ' = σ ∧ Eqv pSp m τ') (fun p q => ∃ r m', p = some (r, σ) ∧ q = some (r, m') ∧ Eqv pSp m m') 10 ?_ ?_ FU FU 0 p q p q σ τ (by omega) (by rw [FU_eq]; omega) (by rw [FU_eq]; omega) ⟨rfl, rfl, rfl, g2⟩
        · rintro o p q c d σ' τ' K2 K3 ho ⟨rfl, rfl, rfl, g3⟩ hK2
          unfold X7_bestFlipOf_b25 X9_bestFlip_b36
          obtain ⟨m2, f1, f2⟩ := m_flip (o := o) (MK_cg hm (fun j => g3 47 0 j (by unfold pSp; omega))) hw hi ho
          rw [if_neg (by rw [li10, nI_leq (by omega) (by omega)]; omega), if_neg (by rw [li10, nI_leq (by omega) (by omega)]; omega), gCall_eq (x_flip hx hw hi ho), gCall_eq f1]
          by_cases e : nI (flN mk b w i o) ≤ q
          · rw [if_pos e, if_neg (by rw [Int32.not_lt]; exact e), gLet, gLet, nI_1]
            exact hK2 _ _ _ _ _ _ ⟨rfl, rfl, rfl, g3.tr f2⟩
          · rw [if_neg e, if_pos (by rw [← Int32.not_le]; exact e), gLet, gLet, gLet, gLet, nI_1, li16, pk_mul, pk_mul, Nat.mul_comm i 16]
            exact hK2 _ _ _ _ _ _ ⟨rfl, rfl, rfl, g3.tr f2⟩
        · rintro p q c d σ' τ' K2 K3 ⟨rfl, rfl, rfl, g3⟩
          unfold X7_bestFlipOf_b25 X9_bestFlip_b36
          rw [if_pos (by rw [li10, nI_leq (by omega) (by omega)]; omega), if_pos (by rw [li10, nI_leq (by omega) (by omega)]; omega), gLet, gLet, nI_1]
          exact hK _ _ _ _ _ _ ⟨rfl, rfl, rfl, g3⟩
      · rintro p q c d σ τ K K' ⟨rfl, rfl, rfl, g2⟩
        unfold X7_bestFlipOf_b13 X9_bestFlip_b21
        have hm' := MK_cg hm (fun j => g2 47 0 j (by unfold pSp; omega))
        rw [hx.1.2.1, if_pos (by rw [nI_leq (by omega) (by omega)]; omega), show gAt τ 47 0 37 _ = _ from gAt_nI (i := 37) (show 37 < 30843 by omega) (by omega), hm'.1.2.1, if_pos (by rw [nI_leq (by omega) (by omega)]; omega)]
        exact ⟨_, _, rfl, rfl, g2⟩
    obtain ⟨r, m', k1, k2, k3⟩ := key
    rw [k1, k2]
    exact ⟨_, _, _, rfl, rfl, INV_congr h Eqv.rf (pSp_M k3)⟩
  · rw [gCall_eq h1, gCall_eq h2]
    exact Ag.same h _ rfl rfl
