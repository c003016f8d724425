/-! LAYER 2: slot, book, stale, about, fault, gathered, length, step, writes, tell, feed, end. -/
theorem q_fault {x m : gM} {N : Nat} (h : INV x m N) (a : Int32) : Ag (X8_fault a x) (X9_fault a m) N := by
  obtain ⟨-, -, -, -, h1, h2, -⟩ := id h
  unfold X8_fault X9_fault
  by_cases a0 : a = 0
  · rw [if_pos a0, if_pos a0, h1]; exact Ag.same h _ rfl rfl
  · rw [if_neg a0, if_neg a0]
    by_cases a1 : a = 1
    · rw [if_pos a1, if_pos a1, h2]; exact Ag.same h _ rfl rfl
    · rw [if_neg a1, if_neg a1]; exact Ag.same h _ rfl rfl
theorem q_about {x m : gM} {N : Nat} (h : INV x m N) (a : Int32) : Ag (X8_about a x) (X9_about a m) N := by
  obtain ⟨⟨-, ⟨c, e, f, b1, b2, -⟩, ⟨tr, d1, d2, -⟩, -⟩, -, -, ⟨tp, t1, t2, t3, -⟩, -⟩ := id h
  unfold X8_about X9_about
  by_cases a0 : a = 0
  · rw [if_pos a0, if_pos a0, li0, gAt_nI (show 0 < 30843 by omega) (by omega), d1, d2]; exact Ag.same h _ rfl rfl
  · rw [if_neg a0, if_neg a0]
    by_cases a1 : a = 1
    · rw [if_pos a1, if_pos a1, li1, gAt_nI (show 1 < 30843 by omega) (by omega), b1, b2]; exact Ag.same h _ rfl rfl
    · rw [if_neg a1, if_neg a1]
      by_cases a2 : a = 2
      · rw [if_pos a2, if_pos a2, t2, t3]; exact Ag.same h _ rfl rfl
      · rw [if_neg a2, if_neg a2]; exact Ag.same h _ rfl rfl
theorem q_gathered {x m : gM} {N : Nat} (h : INV x m N) (a : Int32) : Ag (X8_gathered a x) (X9_gathered a m) N := by
  obtain ⟨⟨-, -, -, g, g1, g2, g3, g4, -⟩, -⟩ := id h
  unfold X8_gathered X9_gathered
  by_cases a0 : a = -1
  · rw [if_pos a0, if_pos a0, li3, gAt_nI (show 3 < 30843 by omega) (by omega), g1, g2]; exact Ag.same h _ rfl rfl
  · rw [if_neg a0, if_neg a0, li3, gAt_nI (show 3 < 30843 by omega) (by omega), g2, g1]
    rcases isIn_n a (n := g) (by omega) m with ⟨j, h1, rfl, h3⟩ | ⟨h1, h2⟩
    · obtain ⟨l, l1, l2, l3⟩ := g4 j h1
      rw [gCall_eq h3, if_pos rfl, if_neg (nI_neg (by omega)), if_neg (by rw [nI_leq (by omega) (by omega)]; omega), gAt_nI (show j < 32 by omega) (by omega), l2, li4, nI_add, gAt_nI (show 4 + j < 30843 by omega) (by omega), l3]
      exact Ag.same h _ rfl rfl
    · rw [gCall_eq h2]
      refine Ag.same h (-1) ?_ rfl
      rcases h1 with h1 | ⟨j, hj, rfl, h1⟩
      · rw [if_pos h1]
      · rw [if_neg (nI_neg hj), if_pos (by rw [nI_leq (by omega) hj]; exact h1)]
/-- a trace's number -/
theorem trace_cases {x m : gM} {N : Nat} (h : INV x m N) (a : Int32) : (∃ t, t < 4 ∧ a = nI t ∧ X8_isTrace a x = some (true, x) ∧ X9_isTrace a m = some (true, m) ∧ RT x t (m 49 0) t) ∨ (X8_isTrace a x = some (false, x) ∧ X9_isTrace a m = some (false, m)) := by
  obtain ⟨⟨-, -, ⟨tr, d1, d2, d3, d4⟩, -⟩, -⟩ := id h
  rcases isIn_n a (n := tr) (by omega) m with ⟨j, h1, rfl, h3⟩ | ⟨h1, h2⟩
  · refine Or.inl ⟨j, by omega, rfl, ?_, ?_, ?_⟩
    · unfold X8_isTrace
      rw [if_neg (nI_neg (by omega)), if_neg (by rw [d1, nI_leq (by omega) (by omega)]; omega)]
    · unfold X9_isTrace
      rw [li0, gAt_nI (show 0 < 30843 by omega) (by omega), d2]
      have h3' : X9_isIn (nI j) (nI 0) (nI tr - 1) m = some (true, m) := h3
      rw [gCall_eq h3']
    · have := d4 j h1
      rw [show 4 * 0 + j = j by omega] at this
      exact this
  · refine Or.inr ⟨?_, ?_⟩
    · unfold X8_isTrace
      rcases h1 with h1 | ⟨j, hj, rfl, h1⟩
      · rw [if_pos h1]
      · rw [if_neg (nI_neg hj), if_pos (by rw [d1, nI_leq (by omega) hj]; exact h1)]
    · unfold X9_isTrace
      rw [li0, gAt_nI (show 0 < 30843 by omega) (by omega), d2]
      have h2' : X9_isIn a (nI 0) (nI tr - 1) m = some (false, m) := h2
      rw [gCall_eq h2']
/-- a trace of the component as it is, in numbers -/
theorem x_tr {t : Nat} (ht : t < 4) {β : Type} {kk : Nat → Option β} : gAtR 42 (nI t) kk = kk t := gAtR_nI (show t < 4 from ht) (by omega)
theorem m_len {m : gM} {t s : Nat} (ht : t < 4) (hs : m 49 0 (1201 * t) = nI s) : X9_lengthOf (nI t) m = some (nI s, m) := by
  unfold X9_lengthOf
  rw [li1201, pk_mul, gAt_nI (show 1201 * t < 4804 by omega) (by omega), hs]
theorem m_line {m : gM} {t i l : Nat} (ht : t < 4) (hi : i < 600) (hs : m 49 0 (1201 * t + 1 + 2 * i) = nI l) : X9_lineOf (nI t) (nI i) m = some (nI l, m) := by
  unfold X9_lineOf
  rw [li1201, li1, li2, pk_mul, pk_mul, nI_add, nI_add, gAt_nI (show 1201 * t + 1 + 2 * i < 4804 by omega) (by omega), hs]
theorem m_valin {m : gM} {t i : Nat} (ht : t < 4) (hi : i < 600) : X9_valueIn (nI t) (nI i) m = some (m 49 0 (1201 * t + 2 + 2 * i), m) := by
  unfold X9_valueIn
  rw [li1201, li2, pk_mul, pk_mul, nI_add, nI_add, gAt_nI (show 1201 * t + 2 + 2 * i < 4804 by omega) (by omega)]
theorem z4 (t : Nat) : 4 * 0 + t = t := by omega
theorem q_length {x m : gM} {N : Nat} (h : INV x m N) (a : Int32) : Ag (X8_length a x) (X9_length a m) N := by
  unfold X8_length X9_length
  rcases trace_cases h a with ⟨t, ht, rfl, h1, h2, s, s1, s2, s3, s4⟩ | ⟨h1, h2⟩
  · rw [gCall_eq h1, gCall_eq h2, if_pos rfl, if_pos rfl, x_tr ht, z4, s1, gCall_eq (m_len ht s2)]
    exact Ag.same h _ rfl rfl
  · rw [gCall_eq h1, gCall_eq h2]; exact Ag.same h _ rfl rfl
theorem q_step {x m : gM} {N : Nat} (h : INV x m N) (a b : Int32) : Ag (X8_step a b x) (X9_step a b m) N := by
  unfold X8_step X9_step
  rcases trace_cases h a with ⟨t, ht, rfl, h1, h2, s, s1, s2, s3, s4⟩ | ⟨h1, h2⟩
  · rw [gCall_eq h1, gCall_eq h2, if_pos rfl, if_pos rfl, x_tr ht, x_tr ht, z4, s1, gCall_eq (m_len ht s2)]
    rcases isIn_n b (n := s) (by omega) m with ⟨j, g1, rfl, g3⟩ | ⟨g1, g2⟩
    · obtain ⟨⟨l, l1, l2, l3⟩, -⟩ := s4 j g1
      rw [gCall_eq g3, if_neg (nI_neg (by omega)), if_pos (by rw [nI_ltt (by omega) (by omega)]; exact g1), gAt_nI (show j < 600 by omega) (by omega), l2, if_pos rfl, gCall_eq (m_line ht (by omega) l3)]
      exact Ag.same h _ rfl rfl
    · rw [gCall_eq g2]
      refine Ag.same h (-1) ?_ rfl
      rcases g1 with g1 | ⟨j, hj, rfl, g1⟩
      · rw [if_pos g1]
      · rw [if_neg (nI_neg hj), if_neg (by rw [nI_ltt hj (by omega)]; omega)]
  · rw [gCall_eq h1, gCall_eq h2]; exact Ag.same h _ rfl rfl
theorem q_writes {x m : gM} {N : Nat} (h : INV x m N) (a : Int32) : Ag (X8_writes a x) (X9_writes a m) N := by
  unfold X8_writes X9_writes
  rcases trace_cases h a with ⟨t, ht, rfl, h1, h2, s, s1, s2, s3, s4⟩ | ⟨h1, h2⟩
  · rw [gCall_eq h1, gCall_eq h2, if_pos rfl, if_pos rfl, x_tr ht, z4]
    have e1 : X5_written t x = some (nI (cntP (fun i => decide (x 39 t i ≠ nM)) s), x) := by
      unfold X5_written
      refine gL2_cnt (fun i => decide (x 39 t i ≠ nM)) s (fun i c K hi hc => ?_) (fun K => ?_) (by rw [FU_eq]; omega)
      · unfold X5_written_b4
        rw [if_neg (by rw [s1, nI_leq (by omega) (by omega)]; omega), gAt_nI (show i < 600 by omega) (by omega), lim1]
        by_cases q : x 39 t i = nM
        · simp [gLet, q, nI_1]
        · simp [gLet, q, nI_1]
      · unfold X5_written_b4
        rw [if_pos (by rw [s1, nI_leq (by omega) (by omega)]; omega)]
    refine Ag.same h (nI (cntP (fun i => decide (x 39 t i ≠ nM)) s)) (by rw [gCall_eq e1]) ?_
    refine gL2_cnt (fun i => decide (x 39 t i ≠ nM)) s (fun i c K hi hc => ?_) (fun K => ?_) (by rw [FU_eq]; omega)
    · unfold X9_writes_b14
      rw [gCall_eq (m_len ht s2), if_neg (by rw [nI_leq (by omega) (by omega)]; omega), gCall_eq (m_valin ht (by omega)), ← (s4 i hi).2.1, lim1]
      by_cases q : x 39 t i = nM
      · simp [gLet, q, nI_1]
      · simp [gLet, q, nI_1]
    · unfold X9_writes_b14
      rw [gCall_eq (m_len ht s2), if_pos (by rw [nI_leq (by omega) (by omega)]; omega)]
  · rw [gCall_eq h1, gCall_eq h2]; exact Ag.same h _ rfl rfl
theorem q_slot {x m : gM} {N : Nat} (h : INV x m N) (a b c : Int32) : Ag (X8_slot a b c x) (X9_slot a b c m) N := by
  have hB := h.bi
  have hR := h.rs
  have hw4 := hB.1.2.2
  have hp := pow_b hB
  unfold X8_slot X9_slot
  rcases way_cases h a with ⟨w, hw, rfl⟩ | ⟨h1, h2⟩
  · rw [gCall_eq (wayT h hw).1, gCall_eq (wayT h hw).2, if_pos rfl, if_pos rfl, gCall_eq (x_slots hR hB), gCall_eq (m_slots hB)]
    rcases isIn_n b (n := 2 ^ bN (mB m)) (by omega) m with ⟨j, g1, rfl, g3⟩ | ⟨g1, g2⟩
    · rw [gCall_eq g3, if_pos rfl, if_neg (nI_neg (by omega)), if_pos (by rw [nI_ltt (by omega) (by omega)]; exact g1)]
      have e1 : (nI w * 16 + nI j : Int32) = nI (16 * w + j) := by rw [li16, pk_mul, nI_add, Nat.mul_comm]
      have e2 : (16 * nI w + nI j : Int32) = nI (16 * w + j) := by rw [li16, pk_mul, nI_add]
      rw [e1, e2]
      simp only [gLet]
      have hpl : 16 * w + j < 64 := by omega
      have hs := hB.2.2.2.2.2.2.1 (16 * w + j) hpl
      rcases in_out c 0 4 with ⟨q, -, q2, q3, rfl⟩ | ho
      · rw [li0, li4, gCall_eq (isIn_T (Nat.zero_le _) q2 (by omega) m), if_pos rfl]
        rcases (show q = 0 ∨ q = 1 ∨ q = 2 ∨ q = 3 ∨ q = 4 by omega) with rfl | rfl | rfl | rfl | rfl
        · rw [if_pos rfl, if_pos rfl, gAt_nI (show 16 * w + j < 64 from hpl) (by omega), hR.2.2.2.2.1 _ hpl, gCall_eq (X9_la hB hpl), hs.1]
          exact Ag.same h _ rfl rfl
        · rw [if_neg (show ¬ nI 1 = nI 0 by decide), if_pos (show nI 1 = 1 from rfl), gAt_nI (show 16 * w + j < 64 from hpl) (by omega), hR.2.2.2.2.2.1 _ hpl, if_neg (show ¬ nI 1 = nI 0 by decide), m_at, m_row hpl (by omega), show 27 + 5 * (16 * w + j) + 1 = 28 + 5 * (16 * w + j) by omega]
          exact Ag.same h _ rfl rfl
        · rw [if_neg (show ¬ nI 2 = nI 0 by decide), if_neg (show ¬ nI 2 = 1 by decide), if_pos (show nI 2 = 2 from rfl), gAt_nI (show 16 * w + j < 64 from hpl) (by omega), hR.2.2.2.2.2.2.1 _ hpl, if_neg (show ¬ nI 2 = nI 0 by decide), m_at, m_row hpl (by omega), show 27 + 5 * (16 * w + j) + 2 = 29 + 5 * (16 * w + j) by omega]
          exact Ag.same h _ rfl rfl
        · rw [if_neg (show ¬ nI 3 = nI 0 by decide), if_neg (show ¬ nI 3 = 1 by decide), if_neg (show ¬ nI 3 = 2 by decide), if_pos (show nI 3 = 3 from rfl), gAt_nI (show 16 * w + j < 64 from hpl) (by omega), hR.2.2.2.2.2.2.2.1 _ hpl, if_neg (show ¬ nI 3 = nI 0 by decide), m_at, m_row hpl (by omega), show 27 + 5 * (16 * w + j) + 3 = 30 + 5 * (16 * w + j) by omega]
          exact Ag.same h _ rfl rfl
        · rw [if_neg (show ¬ nI 4 = nI 0 by decide), if_neg (show ¬ nI 4 = 1 by decide), if_neg (show ¬ nI 4 = 2 by decide), if_neg (show ¬ nI 4 = 3 by decide), if_pos (show nI 4 = nI 4 from rfl), gAt_nI (show 16 * w + j < 64 from hpl) (by omega), hR.2.2.2.2.2.2.2.2.1 _ hpl, if_neg (show ¬ nI 4 = nI 0 by decide), m_at, m_row hpl (by omega), show 27 + 5 * (16 * w + j) + 4 = 31 + 5 * (16 * w + j) by omega]
          exact Ag.same h _ rfl rfl
      · have hne : ∀ n, n ≤ 4 → ¬ c = nI n := by
          intro n hn
          rcases ho.lt0 with hz | ⟨j, hj, rfl, hz⟩
          · exact neg_ne hz (by omega)
          · exact nI_bigne hj (by omega) (by omega)
        have hf : X9_isIn c 0 4 m = some (false, m) := isIn_F ho (by omega) (by omega) m
        rw [gCall_eq hf, if_neg (show ¬ c = 0 from hne 0 (by omega)), if_neg (show ¬ c = 1 from hne 1 (by omega)), if_neg (show ¬ c = 2 from hne 2 (by omega)), if_neg (show ¬ c = 3 from hne 3 (by omega)), if_neg (show ¬ c = 4 from hne 4 (by omega))]
        exact Ag.same h _ rfl rfl
    · rw [gCall_eq g2]
      refine Ag.same h (-10000) ?_ rfl
      rcases g1 with g1 | ⟨j, hj, rfl, g1⟩
      · rw [if_pos g1]
      · rw [if_neg (nI_neg hj), if_neg (by rw [nI_ltt hj (by omega)]; omega)]
  · rw [gCall_eq h1, gCall_eq h2]; exact Ag.same h _ rfl rfl
theorem gMin_nI {a b : Nat} (ha : a < 2147483648) (hb : b < 2147483648) : gMin (nI a) (nI b) = nI (min a b) := by
  unfold gMin
  by_cases q : b < a
  · rw [if_pos (by rw [nI_ltt hb ha]; exact q)]; congr 1; omega
  · rw [if_neg (by rw [nI_ltt hb ha]; exact q)]; congr 1; omega
theorem gMax_nI {a b : Nat} (ha : a < 2147483648) (hb : b < 2147483648) : gMax (nI a) (nI b) = nI (max a b) := by
  unfold gMax
  by_cases q : a < b
  · rw [if_pos (by rw [nI_ltt ha hb]; exact q)]; congr 1; omega
  · rw [if_neg (by rw [nI_ltt ha hb]; exact q)]; congr 1; omega
theorem q_book {x m : gM} {N : Nat} (h : INV x m N) (a b : Int32) : Ag (X8_book a b x) (X9_book a b m) N := by
  have hN : N ≤ 1000000000 := h.2.2.2.2.2.2
  obtain ⟨-, -, -, -, -, -, -, -, -, nb, d1, d2, d3, d4⟩ := h.rs
  have d3' : m 47 0 46 = nI (min nb 24) := d3
  unfold X8_book X9_book
  rw [d1, li24, gMin_nI (by omega) (by omega)]
  simp only [gLet]
  by_cases a0 : a = -1
  · rw [if_pos a0, if_pos a0, li46, gAt_nI (show 46 < 30843 by omega) (by omega), d3']; exact Ag.same h _ rfl rfl
  · rw [if_neg a0, if_neg a0, li46, gAt_nI (show 46 < 30843 by omega) (by omega), d3']
    rcases isIn_n a (n := min nb 24) (by omega) m with ⟨j, g1, rfl, g3⟩ | ⟨g1, g2⟩
    · rw [gCall_eq g3, if_pos rfl, if_neg (nI_neg (by omega)), if_neg (by rw [nI_leq (by omega) (by omega)]; omega)]
      rcases in_out b 0 3 with ⟨q, -, q2, q3, rfl⟩ | ho
      · have e := d4 j q g1 (by omega)
        have hT : X9_isIn (nI q) 0 3 m = some (true, m) := isIn_T (Nat.zero_le _) q2 (by omega) m
        rw [gCall_eq hT, if_pos rfl, if_neg (nI_neg (by omega)), if_pos (show nI q < 4 by rw [li4, nI_ltt (by omega) (by omega)]; omega)]
        rw [pk_sub (by omega), nI_add, nI_rem (by omega) (by omega) (by omega), li4, pk_mul, nI_add, gAt_nI (show (nb - min nb 24 + j) % 24 * 4 + q < 96 by omega) (by omega), e]
        rw [show (1407 + nI 4 * nI j + nI q : Int32) = nI (1407 + 4 * j + q) by rw [li1407, pk_mul, nI_add, nI_add], gAt_nI (show 1407 + 4 * j + q < 30843 by omega) (by omega)]
        refine Ag.same h _ rfl ?_
        show some (m 47 0 _, m) = some (m 47 0 _, m)
        rw [show 1407 + 4 * j + q = 36 + (1371 + 4 * j + q) by omega]
      · have hf : X9_isIn b 0 3 m = some (false, m) := isIn_F ho (by omega) (by omega) m
        rw [gCall_eq hf]
        refine Ag.same h (-2) ?_ rfl
        rcases ho.lt0 with g1 | ⟨j, hj, rfl, g1⟩
        · rw [if_pos g1]
        · rw [if_neg (nI_neg hj), if_neg (by rw [li4, nI_ltt hj (by omega)]; omega)]
    · rw [gCall_eq g2]
      refine Ag.same h (-2) ?_ rfl
      rcases g1 with g1 | ⟨j, hj, rfl, g1⟩
      · rw [if_pos g1]
      · rw [if_neg (nI_neg hj), if_pos (by rw [nI_leq (by omega) hj]; exact g1)]
theorem q_stale {x m : gM} {N : Nat} (h : INV x m N) : Ag (X8_stale x) (X9_stale m) N := by
  have hB := h.bi
  have hR := h.rs
  refine Ag.same h (nI (cntP (fun p => decide (bL (mB m) p ≠ 0 ∧ mB m (28 + 5 * p) ≠ mB m (347 + (bL (mB m) p - 1)))) 64)) ?_ ?_
  · unfold X8_stale
    refine gL2_cnt (fun p => decide (bL (mB m) p ≠ 0 ∧ mB m (28 + 5 * p) ≠ mB m (347 + (bL (mB m) p - 1)))) 64 (fun i c K hi hc => ?_) (fun K => ?_) (by rw [FU_eq]; omega)
    · unfold X8_stale_b4
      rw [if_neg (by rw [li64, nI_leq (by omega) (by omega)]; omega), gAt_nI (show i < 64 by omega) (by omega), hR.2.2.2.2.1 i hi]
      have hs := hB.2.2.2.2.2.2.1 i hi
      rw [hs.1]
      by_cases h0 : bL (mB m) i = 0
      · rw [if_pos ((line_none hs.2.1).mpr h0)]
        simp [gLet, h0, nI_1]
      · rw [if_neg (fun q => h0 ((line_none hs.2.1).mp q)), gAt_nI (show i < 64 by omega) (by omega), hR.2.2.2.2.2.1 i hi, nI_sub1 (by omega), gAt_nI (show bL (mB m) i - 1 < 1024 by omega) (by omega), hR.2.2.2.1 _ (by omega)]
        by_cases ha : mB m (28 + 5 * i) = mB m (347 + (bL (mB m) i - 1))
        · simp [gLet, h0, nI_1, ha]
        · simp [gLet, h0, nI_1, ha]
    · unfold X8_stale_b4
      rw [if_pos (by rw [li64, nI_leq (by omega) (by omega)]; omega)]
  · unfold X9_stale
    refine gL2_cnt (fun p => decide (bL (mB m) p ≠ 0 ∧ mB m (28 + 5 * p) ≠ mB m (347 + (bL (mB m) p - 1)))) 64 (fun i c K hi hc => ?_) (fun K => ?_) (by rw [FU_eq]; omega)
    · unfold X9_stale_b4
      rw [if_neg (by rw [li64, nI_leq (by omega) (by omega)]; omega), gCall_eq (X9_la hB hi)]
      have hs := hB.2.2.2.2.2.2.1 i hi
      by_cases h0 : bL (mB m) i = 0
      · rw [if_pos ((line_none hs.2.1).mpr h0)]
        simp [gLet, h0, nI_1]
      · rw [if_neg (fun q => h0 ((line_none hs.2.1).mp q)), m_at, li1, m_row hi (by omega), show 27 + 5 * i + 1 = 28 + 5 * i by omega, gCall_eq (X9_la hB hi), nI_sub1 (by omega), m_mem (by omega)]
        by_cases ha : mB m (28 + 5 * i) = mB m (347 + (bL (mB m) i - 1))
        · simp [gLet, h0, nI_1, ha]
          rw [← li1, nI_1]
        · simp [gLet, h0, nI_1, ha]
          rw [← li1, nI_1, nI_1]
    · unfold X9_stale_b4
      rw [if_pos (by rw [li64, nI_leq (by omega) (by omega)]; omega)]
