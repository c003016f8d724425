/-! LAYER 2: texts: text. -/
theorem RT_TX {x : gM} {k t : Nat} {TX TX' : Nat → Int32} (h : RT x k TX t) (e : ∀ i, i < 1201 * t + 1201 → TX' i = TX i) : RT x k TX' t := by
  obtain ⟨s, h1, h2, h3, h4⟩ := h
  refine ⟨s, h1, by rw [e _ (by omega)]; exact h2, h3, fun i hi => ?_⟩
  rw [e _ (by omega), e _ (by omega)]
  exact h4 i hi
theorem WR_tx {x x' : gM} {w N tr : Nat} {A TX TX' : Nat → Int32} (h : WR x w A TX N) (htr : ∀ t, x 6 w 6 = nI t → t ≤ 4 → t ≤ tr) (e : ∀ t k i, wT t → (t = 6 → k = w) → (t = 5 ∨ t = 38 ∨ t = 39 → 4 * w ≤ k ∧ k < 4 * w + 4) → x' t k i = x t k i) (eT : ∀ i, i < 1201 * tr → TX' i = TX i) : WR x' w A TX' N := by
  obtain ⟨⟨a1, a2⟩, ⟨c, e0, f, b1, b2, b3, b4, b5, b6, b7, b8⟩, ⟨t0, d1, d2, d3, d4⟩, g, f1, f2, f3, f4, f5⟩ := h
  have e6 := fun i => e 6 w i (by unfold wT; omega) (fun _ => rfl) (fun z => by omega)
  have e40 := fun i => e 40 w i (by unfold wT; omega) (fun z => by omega) (fun z => by omega)
  have ht0 := htr t0 d1 d3
  refine ⟨⟨RS_congr a1 (fun t i ht => e t _ i (by unfold wT; omega) (fun z => by omega) (fun z => by omega)), a2⟩, ⟨c, e0, f, by rw [e6]; exact b1, b2, b3, by rw [e6]; exact b4, b5, b6, b7, fun j hj => ⟨RS_congr (b8 j hj).1 (fun t i ht => e t _ i (by unfold wT; omega) (fun z => by omega) (fun z => by omega)), (b8 j hj).2⟩⟩, ⟨t0, by rw [e6]; exact d1, d2, d3, fun t ht => RT_TX (RT_congr (d4 t ht) (fun t' i ht' => e t' _ i (by unfold wT; omega) (fun z => by omega) (fun z => by omega))) (fun i hi => eT i (by omega))⟩, g, by rw [e6]; exact f1, f2, f3, fun i hi => by rw [e40]; exact f4 i hi, fun i j hi hj => by rw [e40, e40]; exact f5 i j hi hj⟩
theorem WR_new {x x' : gM} {N tr : Nat} {A A' TX TX' : Nat → Int32} (h : WR x 0 A TX N) (h6 : x 6 0 6 = nI tr) (htr : tr < 4) (e : ∀ t k i, wT t → (t = 6 → k = 0 ∧ i ≠ 6) → (t = 5 ∨ t = 38 ∨ t = 39 → k < tr) → x' t k i = x t k i) (h6' : x' 6 0 6 = nI (tr + 1)) (A0 : A' 0 = nI (tr + 1)) (eA : ∀ i, i ≠ 0 → A' i = A i) (eT : ∀ i, i < 1201 * tr → TX' i = TX i) (hR : RT x' tr TX' tr) : WR x' 0 A' TX' N := by
  obtain ⟨⟨a1, a2⟩, ⟨c, e0, f, b1, b2, b3, b4, b5, b6, b7, b8⟩, ⟨t0, d1, d2, d3, d4⟩, g, f1, f2, f3, f4, f5⟩ := h
  have ht0 : t0 = tr := by
    rw [h6, nI_inj (by omega) (by omega)] at d1
    exact d1.symm
  subst ht0
  have e6 := fun i (hi : i ≠ 6) => e 6 0 i (by unfold wT; omega) (fun _ => ⟨rfl, hi⟩) (fun z => by omega)
  have e40 := fun i => e 40 0 i (by unfold wT; omega) (fun z => by omega) (fun z => by omega)
  have eA1 : (fun i => A' (36 + i)) = fun i => A (36 + i) := funext fun i => eA _ (by omega)
  have eA2 : ∀ j, (fun i => A' (1503 + 1467 * ((f + j) % 20) + i)) = fun i => A (1503 + 1467 * ((f + j) % 20) + i) := fun j => funext fun i => eA _ (by omega)
  refine ⟨⟨by rw [eA1]; exact RS_congr a1 (fun t i ht => e t _ i (by unfold wT; omega) (fun z => by omega) (fun z => by omega)), by rw [eA1]; exact a2⟩, ⟨c, e0, f, by rw [e6 _ (by omega)]; exact b1, by rw [eA _ (by omega)]; exact b2, b3, by rw [e6 _ (by omega)]; exact b4, b5, by rw [eA _ (by omega)]; exact b6, b7, fun j hj => by rw [eA2]; exact ⟨RS_congr (b8 j hj).1 (fun t i ht => e t _ i (by unfold wT; omega) (fun z => by omega) (fun z => by omega)), (b8 j hj).2⟩⟩, ⟨t0 + 1, h6', A0, by omega, fun t ht => ?_⟩, g, by rw [e6 _ (by omega)]; exact f1, by rw [eA _ (by omega)]; exact f2, f3, fun i hi => by rw [e40, eA _ (by omega)]; exact f4 i hi, fun i j hi hj => by rw [e40, e40]; exact f5 i j hi hj⟩
  by_cases c2 : t = t0
  · subst c2
    rw [Nat.mul_zero, Nat.zero_add]
    exact hR
  · exact RT_TX (RT_congr (d4 t (by omega)) (fun t' i ht' => e t' _ i (by unfold wT; omega) (fun z => by omega) (fun z => by omega))) (fun i hi => eT i (by omega))
theorem RT_of {x m : gM} {S : gT} {T : Nat} (ok : SOK S) (t1 : tRx S x) (t2 : tRm T S m) : RT x 8 (m 49 0) T := by
  refine ⟨S.1, t1.1, t2.2.1, ok.1, fun i hi => ?_⟩
  have h1 := t1.2.2 i hi
  have h2 := t2.2.2.2 i hi
  have h3 := ok.2.2.2 i hi
  refine ⟨⟨_, h3.1, h1.1, h2.1⟩, h1.2.trans h2.2.symm, ?_⟩
  rw [h1.2]
  rcases h3.2 with z | ⟨w, w1, w2⟩
  · exact Or.inl z
  · exact Or.inr ⟨w, w1, w2⟩
theorem q_text {x m : gM} {N : Nat} (h : INV x m N) : Ag (X8_text x) (X9_text m) N := by
  obtain ⟨W0, W1, h3, ⟨tp, htp, hTP⟩, h8, h9, hN⟩ := id h
  obtain ⟨tr, d1, d2, d3, d4⟩ := W0.2.2.1
  obtain ⟨kr, k1, k2, k3, k4⟩ := W1.2.2.1
  have hkr : kr ≤ tr := by rw [d1, k1, nI_cl (by omega), nI_cl (by omega)] at h3; exact h3
  unfold X8_text X9_text
  rw [show gAt m 47 0 0 = gAt m 47 0 (nI 0) from rfl, gAt_nI (show 0 < glen 47 by decide) (by omega), d1, d2]
  by_cases c : tr = 4
  · rw [if_neg (by rw [c]; decide), if_pos (by rw [c]; rfl)]
    exact Ag.same h (-1) rfl rfl
  have htr : tr < 4 := by omega
  rw [if_pos (by rw [li4, nI_ltt (by omega) (by omega)]; exact htr), if_neg (by rw [li4, nI_inj (by omega) (by omega)]; exact c), hTP.1]
  rcases read_both hTP htp htr d2 with ⟨f, q, x1, m1, r1, r2, r3, r4, r5, r6, r7, r8, r9⟩ | ⟨S, x1, m1, r1, r2, ok, t1, t2, r5, r6, r8, r9⟩
  · rw [gCall_eq r1, gCall_eq r2]
    have hfz : ¬ nI f = 0 := by rw [nI_z (by omega)]; exact r3
    have g1 : gup x1 8 0 11 0 0 0 8 = nI f := by rw [gup_t (by omega)]; exact r5
    have g2 : gup (gup x1 8 0 11 0) 8 0 12 (nI f) 0 0 9 = nI q := by rw [gup_t (by omega), gup_t (by omega)]; exact r6
    have g3 : gup (gup (gup x1 8 0 11 0) 8 0 12 (nI f)) 8 0 13 (nI q) 8 0 12 = nI f := by rw [gup_at, if_neg (by omega), gup_at, if_pos rfl]
    have g4 : gup m1 9 0 5 (nI f) 9 0 5 = nI f := by rw [gup_at, if_pos rfl]
    have g5 : gup m1 9 0 5 (nI f) 9 0 8 = nI q := by rw [gup_at, if_neg (by omega)]; exact r7
    have g6 : gup (gup (gup m1 9 0 5 (nI f)) 9 0 6 (nI q)) 9 0 4 0 9 0 5 = nI f := by rw [gup_at, if_neg (by omega), gup_at, if_neg (by omega), gup_at, if_pos rfl]
    rw [gSet, gSet, g1, gSet, g2]
    try dsimp only
    rw [g3, if_neg hfz, gSet, gJ1_e, g4, if_neg hfz, g5]
    try dsimp only
    rw [gSet, gSet, g6, if_neg hfz]
    have ex : Eqv (fun t k i => pRx t k i ∨ (t = 8 ∧ k = 0 ∧ (i = 11 ∨ i = 12 ∨ i = 13))) x (gup (gup (gup x1 8 0 11 0) 8 0 12 (nI f)) 8 0 13 (nI q)) := (((r8.mono (fun _ _ _ z => Or.inl z)).tr (Eqv.up (Or.inr (by omega)))).tr (Eqv.up (Or.inr (by omega)))).tr (Eqv.up (Or.inr (by omega)))
    have em : Eqv (fun t k i => pRm tr t k i ∨ (t = 9 ∧ k = 0 ∧ (i = 4 ∨ i = 5 ∨ i = 6))) m (gup (gup (gup m1 9 0 5 (nI f)) 9 0 6 (nI q)) 9 0 4 0) := (((r9.mono (fun _ _ _ z => Or.inl z)).tr (Eqv.up (Or.inr (by omega)))).tr (Eqv.up (Or.inr (by omega)))).tr (Eqv.up (Or.inr (by omega)))
    refine ⟨-1, _, _, rfl, rfl, ?_⟩
    have e47 : ∀ t, t = 47 ∨ t = 48 → gup (gup (gup m1 9 0 5 (nI f)) 9 0 6 (nI q)) 9 0 4 0 t 0 = m t 0 := fun t ht => funext fun i => em t 0 i (by unfold pRm; omega)
    have e49 : ∀ i, i < 1201 * tr → gup (gup (gup m1 9 0 5 (nI f)) 9 0 6 (nI q)) 9 0 4 0 49 0 i = m 49 0 i := fun i hi => em 49 0 i (by unfold pRm; omega)
    have ew : ∀ w, w < 2 → ∀ t k i, wT t → (t = 6 → k = w) → (t = 5 ∨ t = 38 ∨ t = 39 → 4 * w ≤ k ∧ k < 4 * w + 4) → gup (gup (gup x1 8 0 11 0) 8 0 12 (nI f)) 8 0 13 (nI q) t k i = x t k i := fun w hw t k i ht _ hk => ex t k i (by unfold pRx; unfold wT at ht; omega)
    refine ⟨?_, ?_, ?_, ⟨0, by omega, ?_, ?_, fun i hi => absurd hi (Nat.not_lt_zero _)⟩, ?_, ?_, hN⟩
    · rw [e47 47 (by omega)]
      exact WR_tx W0 (fun t ht h4 => by rw [d1, nI_inj (by omega) (by omega)] at ht; omega) (ew 0 (by omega)) e49
    · rw [e47 48 (by omega)]
      exact WR_tx W1 (fun t ht h4 => by rw [k1, nI_inj (by omega) (by omega)] at ht; omega) (ew 1 (by omega)) e49
    · rw [ex 6 1 6 (by unfold pRx; omega), ex 6 0 6 (by unfold pRx; omega)]; exact h3
    · rw [gup_at, if_neg (by omega), gup_at, if_neg (by omega), gup_at, if_pos rfl]; rfl
    · rw [gup_at, if_pos rfl]; rfl
    · rw [g3, g6]
    · rw [gup_at, if_pos rfl, gup_at, if_neg (by omega), gup_at, if_pos rfl]
  · rw [gCall_eq r1, gCall_eq r2]
    have g1 : gup x1 8 0 11 0 0 0 8 = 0 := by rw [gup_t (by omega)]; exact r5
    have g2 : gup (gup x1 8 0 11 0) 8 0 12 0 0 0 9 = -1 := by rw [gup_t (by omega), gup_t (by omega)]; exact r6
    have g3 : gup (gup (gup x1 8 0 11 0) 8 0 12 0) 8 0 13 (-1) 8 0 12 = 0 := by rw [gup_at, if_neg (by omega), gup_at, if_pos rfl]
    have g4 : gup m1 9 0 5 0 9 0 5 = 0 := by rw [gup_at, if_pos rfl]
    have g6 : gup (gup (gup m1 9 0 5 0) 9 0 6 (-1)) 9 0 4 0 9 0 5 = 0 := by rw [gup_at, if_neg (by omega), gup_at, if_neg (by omega), gup_at, if_pos rfl]
    rw [gSet, gSet, g1, gSet, g2]
    try dsimp only
    rw [g3, if_pos rfl, gSet, gJ1_e, g4, if_pos rfl]
    try dsimp only
    rw [gSet, gSet, g6, if_pos rfl]
    have ex : Eqv (fun t k i => pRx t k i ∨ (t = 8 ∧ k = 0 ∧ (i = 11 ∨ i = 12 ∨ i = 13))) x (gup (gup (gup x1 8 0 11 0) 8 0 12 0) 8 0 13 (-1)) := (((r8.mono (fun _ _ _ z => Or.inl z)).tr (Eqv.up (Or.inr (by omega)))).tr (Eqv.up (Or.inr (by omega)))).tr (Eqv.up (Or.inr (by omega)))
    have em : Eqv (fun t k i => pRm tr t k i ∨ (t = 9 ∧ k = 0 ∧ (i = 4 ∨ i = 5 ∨ i = 6))) m (gup (gup (gup m1 9 0 5 0) 9 0 6 (-1)) 9 0 4 0) := (((r9.mono (fun _ _ _ z => Or.inl z)).tr (Eqv.up (Or.inr (by omega)))).tr (Eqv.up (Or.inr (by omega)))).tr (Eqv.up (Or.inr (by omega)))
    generalize hX : gup (gup (gup x1 8 0 11 0) 8 0 12 0) 8 0 13 (-1) = x5 at ex g3 ⊢
    generalize hM : gup (gup (gup m1 9 0 5 0) 9 0 6 (-1)) 9 0 4 0 = m5 at em g6 ⊢
    have x606 : x5 6 0 6 = nI tr := (ex 6 0 6 (by unfold pRx; omega)).trans d1
    have m470 : m5 47 0 0 = nI tr := (em 47 0 0 (by unfold pRm; omega)).trans d2
    have hR : RT x5 8 (m5 49 0) tr := by
      refine RT_of ok ?_ ?_
      · rw [← hX]
        exact tRx_cg t1 (by simp [gup]) (by simp [gup]) (fun i => by simp [gup]) (fun i => by simp [gup])
      · rw [← hM]
        obtain ⟨a0, a1, a2, a3⟩ := t2
        exact ⟨by simp [gup]; exact a0, by simp [gup]; exact a1, by simp [gup]; exact a2, fun i hi => ⟨by simp [gup]; exact (a3 i hi).1, by simp [gup]; exact (a3 i hi).2⟩⟩
    obtain ⟨x6, u1, u2, u3⟩ := takeTrace_ok (k := tr) (by omega) hR
    rw [x606, gAtR_nI (show tr < 4 by omega) (by omega), Nat.mul_zero, Nat.zero_add, gCall_eq u1, nI_1, gLet, gSet]
    rw [show gAt m5 47 0 0 = gAt m5 47 0 (nI 0) from rfl, gAt_nI (show 0 < glen 47 by decide) (by omega), m470, nI_1, show gPut m5 47 0 0 = gPut m5 47 0 (nI 0) from rfl, gPut_nI (show 0 < glen 47 by decide) (by omega)]
    rw [show gAt (gup m5 47 0 0 (nI (tr + 1))) 47 0 0 = gAt (gup m5 47 0 0 (nI (tr + 1))) 47 0 (nI 0) from rfl, gAt_nI (show 0 < glen 47 by decide) (by omega), gup_at, if_pos rfl, li1, pk_sub (by omega), show tr + 1 - 1 = tr by omega]
    have ec : ∀ t k i, wT t → (t = 6 → ¬ (k = 0 ∧ i = 6)) → (t = 5 ∨ t = 38 ∨ t = 39 → k ≠ tr ∧ k ≠ 8) → gup x6 6 0 6 (nI (tr + 1)) t k i = x t k i := fun t k i ht h6 hk => by
      rw [← ex t k i (by unfold pRx; unfold wT at ht; omega), ← u3 t k i (by omega)]
      unfold gup
      rw [if_neg (by omega)]
    have e48 : gup m5 47 0 0 (nI (tr + 1)) 48 0 = m 48 0 := funext fun i => by rw [gup_t (by omega)]; exact em 48 0 i (by unfold pRm; omega)
    have e49 : ∀ i, i < 1201 * tr → gup m5 47 0 0 (nI (tr + 1)) 49 0 i = m 49 0 i := fun i hi => by rw [gup_t (by omega)]; exact em 49 0 i (by unfold pRm; omega)
    have f49 : gup m5 47 0 0 (nI (tr + 1)) 49 0 = m5 49 0 := funext fun i => by rw [gup_t (by omega)]
    have oX : ∀ i, gup x6 6 0 6 (nI (tr + 1)) 8 0 i = x5 8 0 i := fun i => by rw [gup_t (by omega), u3 8 0 i (by omega)]
    have oM : ∀ i, gup m5 47 0 0 (nI (tr + 1)) 9 0 i = m5 9 0 i := fun i => by rw [gup_t (by omega)]
    refine ⟨nI tr, _, _, rfl, rfl, ?_, ?_, ?_, ⟨0, by omega, ?_, ?_, fun i hi => absurd hi (Nat.not_lt_zero _)⟩, ?_, ?_, hN⟩
    · refine WR_new W0 d1 htr (fun t k i ht h6 hk => ec t k i ht (fun z => by have := h6 z; omega) (fun z => by have := hk z; omega)) (by rw [gup_at, if_pos rfl]) (by rw [gup_at, if_pos rfl]) (fun i hi => ?_) e49 ?_
      · rw [gup_at, if_neg hi]; exact em 47 0 i (by unfold pRm; omega)
      · rw [f49]
        exact RT_congr u2 (fun t i ht => by rw [gup_t (by omega)])
    · rw [e48]
      refine WR_tx W1 (fun t ht h4 => ?_) (fun t k i ht h6 hk => ec t k i ht (fun z => by have := h6 z; omega) (fun z => by have := hk z; omega)) e49
      rw [k1, nI_inj (by omega) (by omega)] at ht; omega
    · rw [gup_at, if_pos rfl, ec 6 1 6 (by unfold wT; omega) (fun _ => by omega) (fun z => by omega), k1, nI_cl (by omega), nI_cl (by omega)]
      omega
    · rw [oX, ← hX, gup_at, if_neg (by omega), gup_at, if_neg (by omega), gup_at, if_pos rfl]; rfl
    · rw [oM, ← hM, gup_at, if_pos rfl]; rfl
    · rw [oX, oM, g3, g6]
    · rw [oX, oM, ← hX, ← hM, gup_at, if_pos rfl, gup_at, if_neg (by omega), gup_at, if_pos rfl]
