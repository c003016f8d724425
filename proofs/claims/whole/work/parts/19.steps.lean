/-! LAYER 2: undo, tell, depth, end, feed. -/
/-- the scalars of a block have changed, ways and bits apart -/
theorem BI_sc {B B' : Nat → Int32} {N N' : Nat} (h : BI B N) (e : ∀ i, i < 1467 → i < 2 ∨ 11 ≤ i → B' i = B i) (h2 : ∃ d, d ≤ 3 ∧ B' 2 = nI d) (h8 : ∃ x, B' 8 = nI x ∧ x < 30047) (hc : ∃ p q, B' 3 = nI p ∧ B' 4 = nI q ∧ p + q ≤ N') : BI B' N' := by
  obtain ⟨⟨a1, a2⟩, ⟨b1, b2⟩, -, -, -, f1, f2, f3⟩ := h
  obtain ⟨d, hd, h2⟩ := h2
  exact (BI_mk (bW B) (bN B) d (bMk B) (bL B) (bAg B) (by rw [e 0 (by omega) (by omega)]; exact a1) a2 (by rw [e 1 (by omega) (by omega)]; exact b1) b2 h2 hd hc h8 (fun w j hw hj => by rw [e _ (by omega) (by omega)]; exact f1 w j hw hj) (fun p hp => by rw [e _ (by omega) (by omega), e _ (by omega) (by omega), e _ (by omega) (by omega), e _ (by omega) (by omega)]; exact f2 p hp) (fun p hp hne => f3.1 p hp hne) (fun p hp h0 => by rw [e _ (by omega) (by omega), e _ (by omega) (by omega), e _ (by omega) (by omega), e _ (by omega) (by omega)]; exact f3.2 p hp h0)).1
theorem Eqv_up {P : Nat → Nat → Nat → Prop} {m : gM} {t k i : Nat} {v : Int32} (h : P t k i) : Eqv P m (gup m t k i v) := Eqv.up h
theorem q_tell {x m : gM} {N : Nat} (h : INV x m N) (a : Int32) : Ag (X8_tell a x) (X9_tell a m) N := by
  unfold X8_tell X9_tell
  rcases in_out a 0 30046 with ⟨j, -, h2, -, rfl⟩ | ho
  · have hT : X9_isIn (nI j) 0 30046 m = some (true, m) := isIn_T (Nat.zero_le _) h2 (by omega) m
    rw [gCall_eq hT, if_pos rfl, if_neg (nI_neg (by omega)), if_pos (show nI j < 30047 by rw [li30047, nI_ltt (by omega) (by omega)]; omega)]
    rw [show gPut m 47 0 44 _ _ = _ from gPut_nI (i := 44) (show 44 < 30843 by omega) (by omega)]
    simp only [gSet]
    have hN : N ≤ 1000000000 := h.2.2.2.2.2.2
    have eb : ∀ i, i ≠ 8 → mB (gup m 47 0 44 (nI j)) i = mB m i := by
      intro i hi
      show gup m 47 0 44 (nI j) 47 0 (36 + i) = m 47 0 (36 + i)
      rw [gup_at, if_neg (by omega)]
    have e8 : mB (gup m 47 0 44 (nI j)) 8 = nI j := by
      show gup m 47 0 44 (nI j) 47 0 44 = nI j
      rw [gup_at, if_pos rfl]
    refine ⟨true, _, _, rfl, rfl, INV_store h (Eqv.up (by unfold pXS sT; omega)) (Eqv.up (by unfold pMS; omega)) ?_ ?_ (Nat.le_refl _) hN⟩
    · obtain ⟨⟨a1, a2, a3, a4⟩, ⟨b1, b2, b3, b4, b5, b6⟩, c1, c2, c3, c4, c5, c6, c7, nb, d1, d2, d3, d4⟩ := h.rs
      have r : ∀ t i, ¬ (t = 3 ∧ i = 3) → gup x 3 0 3 (nI j) t 0 i = x t 0 i := by
        intro t i hq
        unfold gup
        rw [if_neg (by omega)]
      refine ⟨⟨by rw [r _ _ (by omega), eb _ (by omega)]; exact a1, by rw [r _ _ (by omega), eb _ (by omega)]; exact a2, by rw [r _ _ (by omega), eb _ (by omega)]; exact a3, by rw [gup_at, if_pos rfl, e8]⟩, ⟨by rw [r _ _ (by omega), eb _ (by omega)]; exact b1, by rw [r _ _ (by omega), eb _ (by omega)]; exact b2, by rw [r _ _ (by omega), eb _ (by omega)]; exact b3, by rw [r _ _ (by omega), eb _ (by omega)]; exact b4, by rw [r _ _ (by omega), eb _ (by omega)]; exact b5, by rw [r _ _ (by omega), eb _ (by omega)]; exact b6⟩, fun i hi => by rw [r _ _ (by omega), eb _ (by omega)]; exact c1 i hi, fun i hi => by rw [r _ _ (by omega), eb _ (by omega)]; exact c2 i hi, fun i hi => by rw [r _ _ (by omega), eb _ (by omega)]; exact c3 i hi, fun i hi => by rw [r _ _ (by omega), eb _ (by omega)]; exact c4 i hi, fun i hi => by rw [r _ _ (by omega), eb _ (by omega)]; exact c5 i hi, fun i hi => by rw [r _ _ (by omega), eb _ (by omega)]; exact c6 i hi, fun i hi => by rw [r _ _ (by omega), eb _ (by omega)]; exact c7 i hi, nb, by rw [r _ _ (by omega)]; exact d1, d2, by rw [eb _ (by omega)]; exact d3, fun i q hi hq => by rw [r _ _ (by omega), eb _ (by omega)]; exact d4 i q hi hq⟩
    · obtain ⟨-, -, c, ⟨p, q, d1, d2, d3⟩, -⟩ := h.bi
      exact BI_sc h.bi (fun i _ hi => eb i (by omega)) ⟨bD (mB m), c.2, by rw [eb 2 (by omega)]; exact c.1⟩ ⟨j, e8, by omega⟩ ⟨p, q, by rw [eb 3 (by omega)]; exact d1, by rw [eb 4 (by omega)]; exact d2, d3⟩
  · have hF : X9_isIn a 0 30046 m = some (false, m) := isIn_F ho (by omega) (by omega) m
    rw [gCall_eq hF]
    refine Ag.same h false ?_ rfl
    rcases ho.lt0 with g1 | ⟨j, hj, rfl, g1⟩
    · rw [if_pos g1]
    · rw [if_neg (nI_neg hj), if_neg (by rw [li30047, nI_ltt hj (by omega)]; omega)]
theorem q_depth {x m : gM} {N : Nat} (h : INV x m N) (a : Int32) : Ag (X8_depth a x) (X9_depth a m) N := by
  unfold X8_depth X9_depth
  rcases in_out a 0 3 with ⟨j, -, h2, -, rfl⟩ | ho
  · have hT : X9_isIn (nI j) 0 3 m = some (true, m) := isIn_T (Nat.zero_le _) h2 (by omega) m
    have hx : X8_isDepth (nI j) x = some (true, x) := by
      unfold X8_isDepth
      rw [if_neg (nI_neg (by omega)), if_neg (by rw [li3, nI_ltt (by omega) (by omega)]; omega)]
    obtain ⟨x1, m1, k1, k2, h, -⟩ := keep_ok h
    rw [gCall_eq hT, if_pos rfl, gCall_eq hx, if_pos rfl, gCall_eq k1, gCall_eq k2]
    rw [show gPut m1 47 0 38 _ _ = _ from gPut_nI (i := 38) (show 38 < 30843 by omega) (by omega)]
    simp only [gSet]
    have hN : N ≤ 1000000000 := h.2.2.2.2.2.2
    have eb : ∀ i, i ≠ 2 → mB (gup m1 47 0 38 (nI j)) i = mB m1 i := by
      intro i hi
      show gup m1 47 0 38 (nI j) 47 0 (36 + i) = m1 47 0 (36 + i)
      rw [gup_at, if_neg (by omega)]
    have e8 : mB (gup m1 47 0 38 (nI j)) 2 = nI j := by
      show gup m1 47 0 38 (nI j) 47 0 38 = nI j
      rw [gup_at, if_pos rfl]
    refine ⟨true, _, _, rfl, rfl, INV_store h (Eqv.up (by unfold pXS sT; omega)) (Eqv.up (by unfold pMS; omega)) ?_ ?_ (Nat.le_refl _) hN⟩
    · obtain ⟨⟨a1, a2, a3, a4⟩, ⟨b1, b2, b3, b4, b5, b6⟩, c1, c2, c3, c4, c5, c6, c7, nb, d1, d2, d3, d4⟩ := h.rs
      have r : ∀ t i, ¬ (t = 3 ∧ i = 2) → gup x1 3 0 2 (nI j) t 0 i = x1 t 0 i := by
        intro t i hq
        unfold gup
        rw [if_neg (by omega)]
      refine ⟨⟨by rw [r _ _ (by omega), eb _ (by omega)]; exact a1, by rw [r _ _ (by omega), eb _ (by omega)]; exact a2, by rw [gup_at, if_pos rfl, e8], by rw [r _ _ (by omega), eb _ (by omega)]; exact a4⟩, ⟨by rw [r _ _ (by omega), eb _ (by omega)]; exact b1, by rw [r _ _ (by omega), eb _ (by omega)]; exact b2, by rw [r _ _ (by omega), eb _ (by omega)]; exact b3, by rw [r _ _ (by omega), eb _ (by omega)]; exact b4, by rw [r _ _ (by omega), eb _ (by omega)]; exact b5, by rw [r _ _ (by omega), eb _ (by omega)]; exact b6⟩, fun i hi => by rw [r _ _ (by omega), eb _ (by omega)]; exact c1 i hi, fun i hi => by rw [r _ _ (by omega), eb _ (by omega)]; exact c2 i hi, fun i hi => by rw [r _ _ (by omega), eb _ (by omega)]; exact c3 i hi, fun i hi => by rw [r _ _ (by omega), eb _ (by omega)]; exact c4 i hi, fun i hi => by rw [r _ _ (by omega), eb _ (by omega)]; exact c5 i hi, fun i hi => by rw [r _ _ (by omega), eb _ (by omega)]; exact c6 i hi, fun i hi => by rw [r _ _ (by omega), eb _ (by omega)]; exact c7 i hi, nb, by rw [r _ _ (by omega)]; exact d1, d2, by rw [eb _ (by omega)]; exact d3, fun i q hi hq => by rw [r _ _ (by omega), eb _ (by omega)]; exact d4 i q hi hq⟩
    · obtain ⟨-, -, c, ⟨p, q, d1, d2, d3⟩, ⟨y, y1, y2⟩, -⟩ := h.bi
      exact BI_sc h.bi (fun i _ hi => eb i (by omega)) ⟨j, h2, e8⟩ ⟨y, by rw [eb 8 (by omega)]; exact y1, y2⟩ ⟨p, q, by rw [eb 3 (by omega)]; exact d1, by rw [eb 4 (by omega)]; exact d2, d3⟩
  · have hF : X9_isIn a 0 3 m = some (false, m) := isIn_F ho (by omega) (by omega) m
    have hx : X8_isDepth a x = some (false, x) := by
      unfold X8_isDepth
      rcases ho.lt0 with g1 | ⟨j, hj, rfl, g1⟩
      · rw [if_pos g1]
      · rw [if_neg (nI_neg hj), if_pos (by rw [li3, nI_ltt (by omega) hj]; exact g1)]
    rw [gCall_eq hF, gCall_eq hx]
    exact Ag.same h _ rfl rfl
set_option maxRecDepth 100000 in
theorem q_undo {x m : gM} {N : Nat} (h : INV x m N) : Ag (X8_undo x) (X9_undo m) N := by
  obtain ⟨⟨-, ⟨c, e, f, b1, b2, b3, b4, b5, b6, b7, b8⟩, -⟩, -⟩ := id h
  have hN : N ≤ 1000000000 := h.2.2.2.2.2.2
  unfold X8_undo X6_takeBack X9_undo
  rw [show gAt m 47 0 1 _ = _ from gAt_nI (i := 1) (show 1 < 30843 by omega) (by omega), b1, b2]
  by_cases hc0 : c = 0
  · subst hc0
    rw [if_pos (show nI 0 = 0 from rfl), if_pos (show nI 0 = 0 from rfl)]
    exact Ag.same h (-1) rfl rfl
  · have hne : ¬ nI c = 0 := by rw [li0, nI_inj (by omega) (by omega)]; exact hc0
    rw [if_neg hne, if_neg hne]
    rw [show gAt m 47 0 1 _ = _ from gAt_nI (i := 1) (show 1 < 30843 by omega) (by omega), b2]
    rw [show gPut m 47 0 1 _ _ = _ from gPut_nI (i := 1) (show 1 < 30843 by omega) (by omega)]
    simp only [gLet, gSet, gJ0]
    rw [nI_sub1 (by omega)]
    generalize hx1 : gup x 6 0 5 (nI (c - 1)) = x1
    generalize hm1 : gup m 47 0 1 (nI (c - 1)) = m1
    have ex : ∀ t k i, ¬ (t = 6 ∧ k = 0 ∧ i = 5) → x1 t k i = x t k i := by
      intro t k i hq; rw [← hx1]; unfold gup; rw [if_neg (by omega)]
    have em : ∀ t k i, ¬ (t = 47 ∧ k = 0 ∧ i = 1) → m1 t k i = m t k i := by
      intro t k i hq; rw [← hm1]; unfold gup; rw [if_neg (by omega)]
    have c1 : x1 6 0 5 = nI (c - 1) := by rw [← hx1, gup_at, if_pos rfl]
    have c2 : m1 47 0 1 = nI (c - 1) := by rw [← hm1, gup_at, if_pos rfl]
    have h1 : INV x1 m1 N := by
      refine INV_ring (c := c - 1) (e := e) (f := f) h (fun t k i q _ => ex t k i (by omega)) (fun t k i q => em t k i (by omega)) ⟨c1, c2, by omega⟩ ⟨by rw [ex _ _ _ (by omega)]; exact b4, b5⟩ ⟨by rw [em _ _ _ (by omega)]; exact b6, b7⟩ (fun j hj => ?_)
      obtain ⟨r1, r2⟩ := b8 j (by omega)
      rw [show 21 * 0 + 1 + (e + j) % 20 = 1 + (e + j) % 20 by omega] at r1
      have eb : ∀ i, i < 1467 → m1 47 0 (1503 + 1467 * ((f + j) % 20) + i) = m 47 0 (1503 + 1467 * ((f + j) % 20) + i) := fun i hi => em _ _ _ (by omega)
      exact ⟨RS_congrB (RS_congr r1 (fun t i ht => ex _ _ _ (by omega))) eb, BI_congr r2 eb⟩
    obtain ⟨r1, r2⟩ := b8 (c - 1) (by omega)
    rw [show 21 * 0 + 1 + (e + (c - 1)) % 20 = 1 + (e + (c - 1)) % 20 by omega] at r1
    obtain ⟨xs, hxs, s3, sr, so⟩ := takeStore_ok (m := x1) (k := 0) (o := 1 + (e + (c - 1)) % 20) (by omega)
    rw [show gAt m1 47 0 2 _ = _ from gAt_nI (i := 2) (show 2 < 30843 by omega) (by omega), show m1 47 0 2 = nI f by rw [em _ _ _ (by omega)]; exact b6]
    rw [show gAt m1 47 0 1 _ = _ from gAt_nI (i := 1) (show 1 < 30843 by omega) (by omega), c2, c1, show x1 6 0 4 = nI e by rw [ex _ _ _ (by omega)]; exact b4]
    unfold X9_stepAt
    rw [nI_add, nI_add, li20, nI_rem (by omega) (by omega) (by omega), nI_rem (by omega) (by omega) (by omega), gAtR_nI (show (e + (c - 1)) % 20 < 20 by omega) (by omega), show 21 * 0 + 1 + (e + (c - 1)) % 20 = 1 + (e + (c - 1)) % 20 by omega, show 21 * 0 = 0 from rfl, gCall_eq hxs]
    rw [li1467, pk_mul, li1503, nI_add]
    simp only [gCall_some]
    have hmc : gL1 FU (X9_undo_b39 (fun m8 => gAt m8 47 0 1 (fun x9 => some (x9, m8))) (nI (1503 + 1467 * ((f + (c - 1)) % 20)))) 0 m1 = some (nI (c - 1), gblk m1 47 0 (1503 + 1467 * ((f + (c - 1)) % 20)) 47 0 36 1467) := by
      rw [copy_loop 47 0 (1503 + 1467 * ((f + (c - 1)) % 20)) 47 0 36 1467 (R := fun m8 => gAt m8 47 0 1 (fun x9 => some (x9, m8))) (fun i σ K hi => ?_) (fun σ K => ?_) (by omega) (by rw [FU_eq]; omega)]
      · have e2 : gblk m1 47 0 (1503 + 1467 * ((f + (c - 1)) % 20)) 47 0 36 1467 47 0 1 = nI (c - 1) := by
          unfold gblk
          rw [if_neg (by omega)]; exact c2
        rw [show gAt _ 47 0 1 _ = _ from gAt_nI (i := 1) (show 1 < 30843 by omega) (by omega), e2]
      · unfold X9_undo_b39
        rw [if_neg (by rw [li1467, nI_leq (by omega) (by omega)]; omega), nI_add, gAt_nI (show 1503 + 1467 * ((f + (c - 1)) % 20) + i < 30843 by omega) (by omega), li36, nI_add, gPut_nI (show 36 + i < 30843 by omega) (by omega)]
        simp only [gLet, nI_1]
      · unfold X9_undo_b39
        rw [if_pos (by rw [li1467, nI_leq (by omega) (by omega)]; omega)]
    have eb : ∀ i, i < 1467 → mB (gblk m1 47 0 (1503 + 1467 * ((f + (c - 1)) % 20)) 47 0 36 1467) i = m 47 0 (1503 + 1467 * ((f + (c - 1)) % 20) + i) := by
      intro i hi
      show gblk m1 47 0 _ 47 0 36 1467 47 0 (36 + i) = _
      unfold gblk
      rw [if_pos (by omega), em _ _ _ (by omega)]
      congr 1; omega
    refine ⟨nI (c - 1), xs, _, ?_, hmc, INV_store h1 (fun t k i q => so t k i (fun z => q (Or.inr z))) (fun t k i q => ?_) (RS_congrB (RS_take (RS_congr r1 (fun t i ht => ex _ _ _ (by omega))) s3 sr) eb) (BI_congr r2 eb) (Nat.le_refl _) hN⟩
    · rw [so 6 0 5 (by unfold sT; omega), c1]
    · unfold gblk
      rw [if_neg (by unfold pMS at q; omega)]
