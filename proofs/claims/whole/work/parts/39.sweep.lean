/-! LAYER 2: sweep, holds. -/
theorem out1 {a : Int32} {hi : Nat} (hh : hi < 2147483648) (ho : Out a 1 hi) : a < 1 ∨ ¬ a < 1 ∧ nI hi < a := by
  rcases ho with g | ⟨j, hj, rfl, g | g⟩
  · exact Or.inl (neg_lt g (show 1 < 2147483648 by omega))
  · exact Or.inl (by rw [li1, nI_ltt hj (by omega)]; omega)
  · by_cases h1 : j < 1
    · exact Or.inl (by rw [li1, nI_ltt hj (by omega)]; exact h1)
    · exact Or.inr ⟨by rw [li1, nI_ltt hj (by omega)]; exact h1, by rw [nI_ltt hh hj]; exact g⟩
theorem sweep_two {β : Type} {x m : gM} {N s n r : Nat} {R : gM → Option β} (hR : RS x 42 (mB m) N) (hB : BI (mB m) N) (hs : s ≤ 1023) (hn : n ≤ 64) (hr : r ≤ 9) (hN : N + 1200 ≤ 1000000000) {g : Int32 → gM → (Int32 → gM → Option β) → Option β} (hg : ∀ i σ K, i < r → g (nI i) σ K = gL1 FU (fun v8 m9 k27 => if nI n ≤ v8 then gLet (nI i + 1) (fun x10 => K x10 m9) else gCall (X9_askNow (gRem (v8 * nI s) 1024) m9) (fun r12 m11 => gLet (v8 + 1) (fun x13 => k27 x13 m11))) 0 σ) (hx : ∀ σ K, g (nI r) σ K = R σ) : ∃ x' m', gL1 FU (X8_sweepTrial_b25 (nI s) (nI n) (nI r)) 0 x = some ((), x') ∧ gL1 FU g 0 m = R m' ∧ RS x' 42 (mB m') (N + 1200) ∧ BI (mB m') (N + 1200) ∧ Eqv (pCo 42) x x' ∧ Eqv pCm m m' := by
  refine gL1_two (fun i σ τ => RS σ 42 (mB τ) (N + 128 * i) ∧ BI (mB τ) (N + 128 * i) ∧ Eqv (pCo 42) x σ ∧ Eqv pCm m τ) (fun p q => ∃ x' m', p = some ((), x') ∧ q = R m' ∧ RS x' 42 (mB m') (N + 1200) ∧ BI (mB m') (N + 1200) ∧ Eqv (pCo 42) x x' ∧ Eqv pCm m m') r ?_ ?_ FU FU 0 x m (Nat.zero_le _) (by rw [FU_eq]; omega) (by rw [FU_eq]; omega) ⟨hR, hB, Eqv.rf, Eqv.rf⟩
  · rintro i σ τ K K' hi ⟨g1, g2, g3, g4⟩ hK
    rw [hg i τ K' hi]
    unfold X8_sweepTrial_b25
    rw [if_neg (by rw [nI_leq (by omega) (by omega)]; omega)]
    refine gL1_two (fun j σ2 τ2 => RS σ2 42 (mB τ2) (N + 128 * i + 2 * j) ∧ BI (mB τ2) (N + 128 * i + 2 * j) ∧ Eqv (pCo 42) x σ2 ∧ Eqv pCm m τ2) (fun p q => ∃ x' m', p = some ((), x') ∧ q = R m' ∧ RS x' 42 (mB m') (N + 1200) ∧ BI (mB m') (N + 1200) ∧ Eqv (pCo 42) x x' ∧ Eqv pCm m m') n ?_ ?_ FU FU 0 σ τ (Nat.zero_le _) (by rw [FU_eq]; omega) (by rw [FU_eq]; omega) ⟨g1, g2, g3, g4⟩
    · rintro j σ2 τ2 K2 K3 hj ⟨s1, s2, s3, s4⟩ hK2
      have hjs : j * s ≤ 64 * 1023 := Nat.mul_le_mul (by omega) hs
      obtain ⟨x2, m2, c1, c2, c3, c4, c5, c6, -⟩ := come_ok (line := j * s % 1024) s1 s2 (Nat.mod_lt _ (by omega)) (by omega)
      unfold X8_sweepTrial_b34
      rw [if_neg (by rw [nI_leq (by omega) (by omega)]; omega), if_neg (by rw [nI_leq (by omega) (by omega)]; omega), li1024, pk_mul, nI_rem (by omega) (by omega) (by omega), gCall_eq c1, gCall_eq c2, gLet, gLet, nI_1]
      exact hK2 _ _ ⟨c3, c4, s3.tr c5, s4.tr c6⟩
    · rintro σ2 τ2 K2 K3 ⟨s1, s2, s3, s4⟩
      unfold X8_sweepTrial_b34
      rw [if_pos (by rw [nI_leq (by omega) (by omega)]; omega), if_pos (by rw [nI_leq (by omega) (by omega)]; omega), gLet, gLet, nI_1]
      exact hK _ _ ⟨RS_mono s1 (by omega), BI_mono s2 (by omega), s3, s4⟩
  · rintro σ τ K K' ⟨g1, g2, g3, g4⟩
    rw [hx τ K']
    unfold X8_sweepTrial_b25
    rw [if_pos (by rw [nI_leq (by omega) (by omega)]; omega)]
    exact ⟨σ, τ, rfl, rfl, RS_mono g1 (by omega), BI_mono g2 (by omega), g3, g4⟩
theorem sweep_ok {x m : gM} {N s n r : Nat} (h : INV x m N) (hs : s ≤ 1023) (hn : n ≤ 64) (hr : r ≤ 9) (hN : N + 1200 ≤ 1000000000) : ∃ v x' m', X8_sweepTrial (nI s) (nI n) (nI r) x = some ((), x') ∧ X9_sweepNow (nI s) (nI n) (nI r) (gblk m 47 0 36 56 0 0 1467) = some (v, m') ∧ v = mB m' 4 - mB m 4 ∧ RS x' 42 (mB m') (N + 1200) ∧ BI (mB m') (N + 1200) ∧ Eqv pX x x' ∧ Eqv pCm (gblk m 47 0 36 56 0 0 1467) m' := by
  unfold X8_sweepTrial X9_sweepNow
  obtain ⟨x1, y1, y2, y3⟩ := take_ok h
  obtain ⟨x2, z1, z2, z3⟩ := x_emptyAll y2 h.bi
  obtain ⟨m2, w1, w2, w3⟩ := m_emptyNow (m := gblk m 47 0 36 56 0 0 1467) put_mB h.bi
  obtain ⟨b2, -, b3, -⟩ := emB_ok h.bi 64
  obtain ⟨x4, m4, d1, d2, d3, d4, d5, d6⟩ := sweep_two (x := x2) (m := m2) (s := s) (n := n) (r := r) (R := fun m4 => gAt m4 47 0 40 (fun x5 => some (x5 - mB m 4, m4))) (g := X9_sweepNow_b18 (nI s) (nI n) (nI r) (fun m4 => gAt m4 47 0 40 (fun x5 => some (x5 - mB m 4, m4)))) (by rw [w2]; exact z2) (by rw [w2]; exact b2) hs hn hr hN (fun i σ K hi => by
    unfold X9_sweepNow_b18
    rw [if_neg (by rw [nI_leq (by omega) (by omega)]; omega)]
    unfold X9_sweepNow_b27
    exact Eq.refl _) (fun σ K => by
    unfold X9_sweepNow_b18
    rw [if_pos (by rw [nI_leq (by omega) (by omega)]; omega)])
  rw [gCall_eq y1, gCall_eq z1, d1, gCall_eq w1, show (40 : Int32) = nI (36 + 4) from rfl, m_get (by omega), w2, b3 4 (by omega) (by omega), gJ0_e]
  refine ⟨_, x4, m4, rfl, ?_, rfl, d3, d4, (y3.tr (pCo_pX z3)).tr (pCo_pX d5), (w3.mono (fun t k i q => by unfold pBk at q; unfold pCm; omega)).tr d6⟩
  refine Eq.trans d2 ?_
  rw [show (40 : Int32) = nI (36 + 4) from rfl, m_get (by omega)]
theorem swept_cases (a b : Int32) : (∃ s n, s ≤ 1023 ∧ n ≤ 64 ∧ a = nI s ∧ b = nI n ∧ (∀ m, X8_isStride a m = some (true, m)) ∧ (∀ m, X8_isSwept b m = some (true, m)) ∧ ∀ m, X9_isSwept a b m = some (true, m)) ∨ (((∀ m, X8_isStride a m = some (false, m)) ∨ (∀ m, X8_isStride a m = some (true, m)) ∧ ∀ m, X8_isSwept b m = some (false, m)) ∧ ∀ m, X9_isSwept a b m = some (false, m)) := by
  rcases in_out a 1 1023 with ⟨s, s1, s2, -, rfl⟩ | ho
  · have hT : ∀ m, X9_isIn (nI s) 1 1023 m = some (true, m) := fun m => isIn_T s1 s2 (by omega) m
    have hX : ∀ m, X8_isStride (nI s) m = some (true, m) := fun m => by
      unfold X8_isStride
      rw [if_neg (by rw [li1, nI_ltt (by omega) (by omega)]; omega), if_neg (by rw [li1023, nI_ltt (by omega) (by omega)]; omega)]
    rcases in_out b 1 64 with ⟨n, n1, n2, -, rfl⟩ | ho
    · have hT2 : ∀ m, X9_isIn (nI n) 1 64 m = some (true, m) := fun m => isIn_T n1 n2 (by omega) m
      refine Or.inl ⟨s, n, s2, n2, rfl, rfl, hX, fun m => ?_, fun m => ?_⟩
      · unfold X8_isSwept
        rw [if_neg (by rw [li1, nI_ltt (by omega) (by omega)]; omega), if_neg (by rw [li64, nI_ltt (by omega) (by omega)]; omega)]
      · unfold X9_isSwept
        rw [gCall_eq (hT m), if_pos rfl, gCall_eq (hT2 m), if_pos rfl]
    · have hF : ∀ m, X9_isIn b 1 64 m = some (false, m) := fun m => isIn_F ho (by omega) (by omega) m
      refine Or.inr ⟨Or.inr ⟨hX, fun m => ?_⟩, fun m => ?_⟩
      · unfold X8_isSwept
        rcases out1 (by omega) ho with g | ⟨g, g2⟩
        · rw [if_pos g]
        · rw [if_neg g, if_pos (show 64 < b from g2)]
      · unfold X9_isSwept
        rw [gCall_eq (hT m), if_pos rfl, gCall_eq (hF m), if_neg (by decide)]
  · have hF : ∀ m, X9_isIn a 1 1023 m = some (false, m) := fun m => isIn_F ho (by omega) (by omega) m
    refine Or.inr ⟨Or.inl (fun m => ?_), fun m => ?_⟩
    · unfold X8_isStride
      rcases out1 (by omega) ho with g | ⟨g, g2⟩
      · rw [if_pos g]
      · rw [if_neg g, if_pos (show 1023 < a from g2)]
    · unfold X9_isSwept
      rw [gCall_eq (hF m), if_neg (by decide)]
theorem q_sweep {x m : gM} {N : Nat} (h : INV x m N) (hN : N + 1200 ≤ 1000000000) (a b c : Int32) : Ag (X8_sweep a b c x) (X9_sweep a b c m) N := by
  unfold X8_sweep X9_sweep
  rcases swept_cases a b with ⟨s, n, hs, hn, rfl, rfl, h1, h2, h3⟩ | ⟨h1, h3⟩
  · rw [gCall_eq (h1 x), if_pos rfl, gCall_eq (h2 x), if_pos rfl, gCall_eq (h3 m), if_pos rfl]
    rcases in_out c 1 9 with ⟨r, r1, r2, -, rfl⟩ | ho
    · have hT : X9_isIn (nI r) 1 9 m = some (true, m) := isIn_T r1 r2 (by omega) m
      obtain ⟨v, x1, m1, d1, d2, d3, d4, d5, d6, d7⟩ := sweep_ok h hs hn r2 hN
      have e0 : x1 26 0 1 = mB m 4 := by rw [d6 26 0 1 (by unfold pX; omega)]; exact h.rs.2.1.2.1
      rw [if_neg (by rw [li1, nI_ltt (by omega) (by omega)]; omega), if_pos (by rw [li9, nI_leq (by omega) (by omega)]; omega), gCall_eq hT, if_pos rfl, gCall_eq d1, gCall_eq put_ok, gCall_eq d2, gCall_eq back_ok, gA1, gA1, e0, d4.2.1.2.1, ← d3]
      exact ⟨_, _, _, rfl, rfl, INV_congr h d6 (back_pM d7)⟩
    · have hF : X9_isIn c 1 9 m = some (false, m) := isIn_F ho (by omega) (by omega) m
      rw [gCall_eq hF]
      refine Ag.same h (-1) ?_ rfl
      rcases out1 (by omega) ho with g | ⟨g, g2⟩
      · rw [if_pos g]
      · rw [if_neg g, if_neg (by rw [Int32.not_le]; exact g2)]
  · rw [gCall_eq (h3 m), if_neg (by decide)]
    refine Ag.same h (-1) ?_ rfl
    rcases h1 with h1 | ⟨h1, h2⟩
    · rw [gCall_eq (h1 x), if_neg (by decide)]
    · rw [gCall_eq (h1 x), if_pos rfl, gCall_eq (h2 x), if_neg (by decide)]
theorem q_holds {x m : gM} {N : Nat} (h : INV x m N) (hN : N + 1200 ≤ 1000000000) (a b : Int32) : Ag (X8_holds a b x) (X9_holds a b m) N := by
  unfold X8_holds X9_holds
  rcases swept_cases a b with ⟨s, n, hs, hn, rfl, rfl, h1, h2, h3⟩ | ⟨h1, h3⟩
  · obtain ⟨v, x1, m1, d1, d2, d3, d4, d5, d6, d7⟩ := sweep_ok (r := 1) h hs hn (by omega) hN
    have d1' : X8_sweepTrial (nI s) (nI n) 1 x = some ((), x1) := d1
    have d2' : X9_sweepNow (nI s) (nI n) 1 (gblk m 47 0 36 56 0 0 1467) = some (v, m1) := d2
    rw [gCall_eq (h1 x), if_pos rfl, gCall_eq (h2 x), if_pos rfl, gCall_eq (h3 m), if_pos rfl, gCall_eq d1', gCall_eq put_ok, gCall_eq d2', gCall_eq (x_held d4 d5), gCall_eq (m_held d5), gCall_eq back_ok]
    exact ⟨_, _, _, rfl, rfl, INV_congr h d6 (back_pM d7)⟩
  · rw [gCall_eq (h3 m), if_neg (by decide)]
    refine Ag.same h (-1) ?_ rfl
    rcases h1 with h1 | ⟨h1, h2⟩
    · rw [gCall_eq (h1 x), if_neg (by decide)]
    · rw [gCall_eq (h1 x), if_pos rfl, gCall_eq (h2 x), if_neg (by decide)]
