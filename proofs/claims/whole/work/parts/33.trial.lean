/-! LAYER 2: what is foretold: on a trial store, and on a block that is put aside. -/
theorem put_ok {m : gM} : X9_putAside m = some ((), gblk m 47 0 36 56 0 0 1467) := by
  unfold X9_putAside
  refine copy_loop (R := fun σ => some ((), σ)) 47 0 36 56 0 0 1467 (fun i σ K hi => ?_) (fun σ K => ?_) (fun i j _ _ => by omega) (by rw [FU_eq]; omega)
  · unfold X9_putAside_b2
    rw [if_neg (by rw [li1467, nI_leq (by omega) (by omega)]; omega), li36, nI_add, gAt_nI (show 36 + i < 30843 by omega) (by omega), gPut_nI (show i < 1467 from hi) (by omega), gLet, nI_1, Nat.zero_add]
  · unfold X9_putAside_b2
    rw [if_pos (by rw [li1467, nI_leq (by omega) (by omega)]; omega)]
theorem back_ok {m : gM} : X9_bringBack m = some ((), gblk m 56 0 0 47 0 36 1467) := by
  unfold X9_bringBack
  refine copy_loop (R := fun σ => some ((), σ)) 56 0 0 47 0 36 1467 (fun i σ K hi => ?_) (fun σ K => ?_) (fun i j _ _ => by omega) (by rw [FU_eq]; omega)
  · unfold X9_bringBack_b2
    rw [if_neg (by rw [li1467, nI_leq (by omega) (by omega)]; omega), gAt_nI (show i < 1467 from hi) (by omega), li36, nI_add, gPut_nI (show 36 + i < 30843 by omega) (by omega), gLet, nI_1, Nat.zero_add]
  · unfold X9_bringBack_b2
    rw [if_pos (by rw [li1467, nI_leq (by omega) (by omega)]; omega)]
theorem put_at {m : gM} {t k i : Nat} (h : t ≠ 56) : gblk m 47 0 36 56 0 0 1467 t k i = m t k i := by
  unfold gblk
  rw [if_neg (by omega)]
theorem put_mB {m : gM} : mB (gblk m 47 0 36 56 0 0 1467) = mB m := funext fun i => put_at (by omega)
theorem back_pM {m m' : gM} (e : Eqv pCm (gblk m 47 0 36 56 0 0 1467) m') : Eqv pM m (gblk m' 56 0 0 47 0 36 1467) := by
  intro t k i q
  unfold pM at q
  have hq : t = 47 ∨ t = 48 ∨ t = 49 ∨ t = 50 ∨ t = 9 ∧ (i = 4 ∨ i = 5 ∨ i = 6) := Classical.not_not.mp q
  by_cases c : t = 47 ∧ k = 0 ∧ 36 ≤ i ∧ i < 1503
  · obtain ⟨rfl, rfl, c1, c2⟩ := c
    have e2 := e 56 0 (i - 36) (by unfold pCm; omega)
    unfold gblk at e2 ⊢
    rw [if_pos ⟨rfl, rfl, by omega, by omega⟩] at e2
    rw [if_pos ⟨rfl, rfl, by omega, by omega⟩, Nat.zero_add, e2]
    congr 1; omega
  · have e2 := e t k i (by unfold pCm; omega)
    unfold gblk at e2 ⊢
    rw [if_neg (by omega)] at e2
    rw [if_neg (by omega), e2]
theorem pCo_pX {x x' : gM} (h : Eqv (pCo 42) x x') : Eqv pX x x' := h.mono (fun t k i q => by unfold pCo at q; unfold pX; omega)
theorem take_ok {x m : gM} {N : Nat} (h : INV x m N) : ∃ x1, X3_takeStore 42 0 x = some ((), x1) ∧ RS x1 42 (mB m) N ∧ Eqv pX x x1 := by
  obtain ⟨x1, h1, h2, h3, h4⟩ := takeStore_ok (m := x) (k := 42) (o := 0) (by omega)
  exact ⟨x1, h1, RS_take h.rs h2 h3, fun t k i q => h4 t k i (fun z => q (by unfold sT at z; unfold pX; omega))⟩
theorem RT_pX {x x' : gM} {t : Nat} {TX : Nat → Int32} (ht : t < 8) (h : RT x t TX t) (e : Eqv pX x x') : RT x' t TX t := RT_congr h (fun t' i ht' => e t' _ i (by unfold pX; omega))
theorem q_hits {x m : gM} {N : Nat} (h : INV x m N) (hN : N + 1200 ≤ 1000000000) (a : Int32) : Ag (X8_hits a x) (X9_hits a m) N := by
  unfold X8_hits X9_hits
  rcases trace_cases h a with ⟨t, ht, rfl, c1, c2, hT⟩ | ⟨c1, c2⟩
  · obtain ⟨x1, y1, y2, y3⟩ := take_ok h
    have hT1 : RT x1 t (gblk m 47 0 36 56 0 0 1467 49 0) t := by
      have e49 : gblk m 47 0 36 56 0 0 1467 49 0 = m 49 0 := funext fun i => put_at (by omega)
      rw [e49]; exact RT_pX (by omega) hT y3
    obtain ⟨r, x2, m2, d1, d2, d3, d4, d5, d6⟩ := run_ok (k := 42) (o := t) (m := gblk m 47 0 36 56 0 0 1467) (by rw [put_mB]; exact y2) (by rw [put_mB]; exact h.bi) ht hT1 hN
    obtain ⟨s, s1, s2, -⟩ := hT1
    rw [gCall_eq c1, if_pos rfl, gCall_eq c2, if_pos rfl, gCall_eq y1, gCall_eq put_ok, x_tr ht, x_tr ht, z4, gCall_eq d1, gCall_eq (m_len ht s2), gCall_eq d2, gLet, gCall_eq back_ok, s1]
    exact ⟨_, _, _, rfl, rfl, INV_congr h (y3.tr (pCo_pX d5)) (back_pM d6)⟩
  · rw [gCall_eq c1, gCall_eq c2]
    exact Ag.same h _ rfl rfl
theorem RS_f2 {m : gM} {k N : Nat} {B : Nat → Int32} (h : RS m k B N) (w : Int32) : RS (gup m 3 k 2 w) k (bup B 2 w) N := by
  obtain ⟨⟨a1, a2, a3, a4⟩, ⟨b1, b2, b3, b4, b5, b6⟩, c1, c2, c3, c4, c5, c6, c7, nb, d1, d2, d3, d4⟩ := h
  have em : ∀ t i, ¬ (t = 3 ∧ i = 2) → gup m 3 k 2 w t k i = m t k i := fun t i ht => by unfold gup; rw [if_neg (by omega)]
  have eB : ∀ i, i ≠ 2 → bup B 2 w i = B i := fun i hi => bup_ne hi
  exact ⟨⟨by rw [em _ _ (by omega), eB _ (by omega)]; exact a1, by rw [em _ _ (by omega), eB _ (by omega)]; exact a2, by rw [gup_at, if_pos rfl, bup_eq], by rw [em _ _ (by omega), eB _ (by omega)]; exact a4⟩, ⟨by rw [em _ _ (by omega), eB _ (by omega)]; exact b1, by rw [em _ _ (by omega), eB _ (by omega)]; exact b2, by rw [em _ _ (by omega), eB _ (by omega)]; exact b3, by rw [em _ _ (by omega), eB _ (by omega)]; exact b4, by rw [em _ _ (by omega), eB _ (by omega)]; exact b5, by rw [em _ _ (by omega), eB _ (by omega)]; exact b6⟩, fun q hq => by rw [em _ _ (by omega), eB (11 + q) (by omega), mB_w (eB 0 (by omega)), mB_n (eB 1 (by omega))]; exact c1 q hq, fun q hq => by rw [em _ _ (by omega), eB _ (by omega)]; exact c2 q hq, fun q hq => by rw [em _ _ (by omega), eB _ (by omega)]; exact c3 q hq, fun q hq => by rw [em _ _ (by omega), eB _ (by omega)]; exact c4 q hq, fun q hq => by rw [em _ _ (by omega), eB _ (by omega)]; exact c5 q hq, fun q hq => by rw [em _ _ (by omega), eB _ (by omega)]; exact c6 q hq, fun q hq => by rw [em _ _ (by omega), eB _ (by omega)]; exact c7 q hq, nb, by rw [em _ _ (by omega)]; exact d1, d2, by rw [eB _ (by omega)]; exact d3, fun q j hq hj => by rw [em _ _ (by omega), eB _ (by omega)]; exact d4 q j hq hj⟩
theorem BI_f2 {B : Nat → Int32} {N d : Nat} (hB : BI B N) (hd : d ≤ 3) : BI (bup B 2 (nI d)) N := by
  obtain ⟨p, q, h3, h4, h5⟩ := hB.2.2.2.1
  obtain ⟨y, e1, e2⟩ := hB.2.2.2.2.1
  exact BI_sc hB (fun i _ hi => bup_ne (by omega)) ⟨d, hd, bup_eq⟩ ⟨y, by rw [bup_ne (by omega)]; exact e1, e2⟩ ⟨p, q, by rw [bup_ne (by omega)]; exact h3, by rw [bup_ne (by omega)]; exact h4, h5⟩
/-- misses on an empty store -/
theorem fore_ok {x m : gM} {N t d : Nat} (h : INV x m N) (hN : N + 1200 ≤ 1000000000) (ht : t < 4) (hT : RT x t (m 49 0) t) (hd : d ≤ 3) : ∃ r x' m', X8_missesForetold (4 * 0 + t) (nI d) x = some (r, x') ∧ X9_missesBy (nI t) (nI d) (-1) m = some (r, m') ∧ Eqv pX x x' ∧ Eqv pM m m' := by
  unfold X8_missesForetold X9_missesBy
  obtain ⟨x1, y1, y2, y3⟩ := take_ok h
  obtain ⟨x2, z1, z2, z3⟩ := x_emptyAll y2 h.bi
  obtain ⟨m2, w1, w2, w3⟩ := m_emptyNow (m := gblk m 47 0 36 56 0 0 1467) put_mB h.bi
  have b2 := (emB_ok h.bi 64).1
  have em : mB (gup m2 47 0 (36 + 2) (nI d)) = bup (emB (mB m) 64) 2 (nI d) := by rw [mB_up, w2]
  have r3 := RS_f2 z2 (nI d)
  have ex2 : Eqv pX x (gup x2 3 42 2 (nI d)) := (y3.tr (pCo_pX z3)).tr (Eqv.up (by unfold pX; omega))
  have em2 : Eqv pCm (gblk m 47 0 36 56 0 0 1467) (gup m2 47 0 (36 + 2) (nI d)) := (w3.mono (fun t k i q => by unfold pBk at q; unfold pCm; omega)).tr (Eqv.up (by unfold pCm; omega))
  have hT1 : RT (gup x2 3 42 2 (nI d)) t (gup m2 47 0 (36 + 2) (nI d) 49 0) t := by
    have e49 : gup m2 47 0 (36 + 2) (nI d) 49 0 = m 49 0 := funext fun i => by rw [em2 49 0 i (by unfold pCm; omega)]; exact put_at (by omega)
    rw [e49]; exact RT_pX (by omega) hT ex2
  obtain ⟨r, x4, m4, d1, d2, d3, d4, d5, d6⟩ := run_ok (k := 42) (o := t) (by rw [em]; exact r3) (by rw [em]; exact BI_f2 b2 hd) ht hT1 hN
  rw [gCall_eq y1, gCall_eq z1, gCall_eq put_ok, gCall_eq w1, show (38 : Int32) = nI (36 + 2) from rfl, m_put (by omega), gJ0_e, if_pos rfl, z4]
  simp only [gSet]
  rw [gCall_eq d1, gCall_eq d2, gCall_eq back_ok]
  exact ⟨r, _, _, rfl, rfl, ex2.tr (pCo_pX d5), back_pM (em2.tr d6)⟩
theorem depth_cases (a : Int32) : (∃ d, d ≤ 3 ∧ a = nI d) ∨ ((∀ m, X8_isDepth a m = some (false, m)) ∧ ∀ m, X9_isIn a 0 3 m = some (false, m)) := by
  rcases in_out a 0 3 with ⟨j, -, h2, -, rfl⟩ | ho
  · exact Or.inl ⟨j, h2, rfl⟩
  · refine Or.inr ⟨fun m => ?_, fun m => isIn_F ho (by omega) (by omega) m⟩
    unfold X8_isDepth
    rcases ho.lt0 with g1 | ⟨j, hj, rfl, g1⟩
    · rw [if_pos g1]
    · rw [if_neg (nI_neg hj), if_pos (by rw [li3, nI_ltt (by omega) hj]; omega)]
theorem depthT {d : Nat} (hd : d ≤ 3) (m : gM) : X8_isDepth (nI d) m = some (true, m) ∧ X9_isIn (nI d) 0 3 m = some (true, m) := by
  refine ⟨?_, isIn_T (Nat.zero_le _) hd (by omega) m⟩
  unfold X8_isDepth
  rw [if_neg (nI_neg (by omega)), if_neg (by rw [li3, nI_ltt (by omega) (by omega)]; omega)]
theorem q_misses {x m : gM} {N : Nat} (h : INV x m N) (hN : N + 1200 ≤ 1000000000) (a b : Int32) : Ag (X8_misses a b x) (X9_misses a b m) N := by
  unfold X8_misses X9_misses
  rcases trace_cases h a with ⟨t, ht, rfl, c1, c2, hT⟩ | ⟨c1, c2⟩
  · rcases depth_cases b with ⟨d, hd, rfl⟩ | ⟨g1, g2⟩
    · obtain ⟨r, x1, m1, y1, y2, y3, y4⟩ := fore_ok h hN ht hT hd
      rw [gCall_eq c1, if_pos rfl, gCall_eq c2, if_pos rfl, gCall_eq (depthT hd x).1, if_pos rfl, gCall_eq (depthT hd m).2, if_pos rfl, x_tr ht, gCall_eq y1, gCall_eq y2]
      exact ⟨_, _, _, rfl, rfl, INV_congr h y3 y4⟩
    · rw [gCall_eq c1, if_pos rfl, gCall_eq c2, if_pos rfl, gCall_eq (g1 x), gCall_eq (g2 m)]
      exact Ag.same h _ rfl rfl
  · rw [gCall_eq c1, gCall_eq c2]
    exact Ag.same h _ rfl rfl
