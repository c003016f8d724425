/-! LAYER 2: is, masked, index, slot, where, memory, value, aged, book, stale. -/
theorem oI_n : oI none = -1 := rfl
theorem oI_s {p : Nat} : oI (some p) = nI p := rfl
theorem nI_bigne {j n : Nat} (hj : j < 2147483648) (hn : n < 2147483648) (h : j ≠ n) : ¬ nI j = nI n := fun q => h ((nI_inj hj hn).mp q)
theorem q_is {x m : gM} {N : Nat} (h : INV x m N) (a : Int32) : Ag (X8_is a x) (X9_is a m) N := by
  have hR := h.rs
  have hB := h.bi
  obtain ⟨⟨r1, r2, r3, r4⟩, ⟨c0, c1, c2, c3, c4, c5⟩, -⟩ := hR
  rcases in_out a 0 8 with ⟨j, -, h2, -, rfl⟩ | ho
  · have hm : X9_is (nI j) m = some (mB m j, m) := by
      unfold X9_is
      rw [li0, li8, gCall_eq (isIn_T (Nat.zero_le _) h2 (by omega) m), if_pos rfl, li36, nI_add, gAt_nI (show 36 + j < 30843 by omega) (by omega)]
      rfl
    have hx : X8_is (nI j) x = some (mB m j, x) := by
      unfold X8_is
      rcases (show j = 0 ∨ j = 1 ∨ j = 2 ∨ j = 3 ∨ j = 4 ∨ j = 5 ∨ j = 6 ∨ j = 7 ∨ j = 8 by omega) with rfl | rfl | rfl | rfl | rfl | rfl | rfl | rfl | rfl
      · rw [if_pos li0.symm, r1]
      · rw [if_neg (by decide), if_pos li1.symm, r2]
      · rw [if_neg (by decide), if_neg (by decide), if_pos li2.symm, r3]
      · rw [if_neg (by decide), if_neg (by decide), if_neg (by decide), if_pos li3.symm, li0, gAt_nI (show 0 < 6 by omega) (by omega), c0]
      · rw [if_neg (by decide), if_neg (by decide), if_neg (by decide), if_neg (by decide), if_pos li4.symm, li1, gAt_nI (show 1 < 6 by omega) (by omega), c1]
      · rw [if_neg (by decide), if_neg (by decide), if_neg (by decide), if_neg (by decide), if_neg (by decide), if_pos li5.symm, li2, gAt_nI (show 2 < 6 by omega) (by omega), c2]
      · rw [if_neg (by decide), if_neg (by decide), if_neg (by decide), if_neg (by decide), if_neg (by decide), if_neg (by decide), if_pos li6.symm, li3, gAt_nI (show 3 < 6 by omega) (by omega), c3]
      · rw [if_neg (by decide), if_neg (by decide), if_neg (by decide), if_neg (by decide), if_neg (by decide), if_neg (by decide), if_neg (by decide), if_pos li7.symm, li4, gAt_nI (show 4 < 6 by omega) (by omega), c4]
      · rw [if_neg (by decide), if_neg (by decide), if_neg (by decide), if_neg (by decide), if_neg (by decide), if_neg (by decide), if_neg (by decide), if_neg (by decide), if_pos li8.symm, r4]
    exact Ag.same h _ hx hm
  · have hm0 := isIn_F ho (by omega) (by omega) m
    have hne : ∀ n, n ≤ 8 → ¬ a = nI n := by
      intro n hn
      rcases ho.lt0 with hz | ⟨j, hj, rfl, hz⟩
      · exact neg_ne hz (by omega)
      · exact nI_bigne hj (by omega) (by omega)
    have hxs : ∀ {o : Option (Int32 × gM)}, (if a = 9 then (gCall (X3_slotsInAll 0 x) (fun r7 m6 => gCall (X3_linesHeld 0 m6) (fun r9 m8 => some (r7 - r9, m8)))) else (if a = 10 then (gAt x 26 0 5 (fun x10 => some (x10, x))) else (if a = 11 then (gCall (X3_linesPinned 0 x) (fun r12 m11 => some (r12, m11))) else (some ((-1), x))))) = o → X8_is a x = o := by
      intro o ho
      unfold X8_is
      rw [if_neg (show ¬ a = 0 from hne 0 (by omega)), if_neg (show ¬ a = 1 from hne 1 (by omega)), if_neg (show ¬ a = 2 from hne 2 (by omega)), if_neg (show ¬ a = 3 from hne 3 (by omega)), if_neg (show ¬ a = 4 from hne 4 (by omega)), if_neg (show ¬ a = 5 from hne 5 (by omega)), if_neg (show ¬ a = 6 from hne 6 (by omega)), if_neg (show ¬ a = 7 from hne 7 (by omega)), if_neg (show ¬ a = 8 from hne 8 (by omega))]
      exact ho
    have hms : ∀ {o : Option (Int32 × gM)}, (if a = 9 then (gCall (X9_slotsAll m) (fun r4 m3 => gCall (X9_inSlots m3) (fun r6 m5 => some (r4 - r6, m5)))) else (if a = 10 then (gAt m 47 0 45 (fun x7 => some (x7, m))) else (if a = 11 then (gCall (X9_pinned m) (fun r9 m8 => some (r9, m8))) else (some ((-1), m))))) = o → X9_is a m = o := by
      intro o ho
      unfold X9_is
      rw [li0, li8, gCall_eq hm0, if_neg (by decide)]
      exact ho
    by_cases e9 : a = 9
    · refine Ag.same h (nI (bW (mB m) * 2 ^ bN (mB m)) - nI (cntP (fun p => decide (bL (mB m) p ≠ 0)) 64)) (hxs ?_) (hms ?_)
      · rw [if_pos e9, gCall_eq (x_slotsAll h.rs hB), gCall_eq (x_held h.rs hB)]
      · rw [if_pos e9, gCall_eq (m_slotsAll hB), gCall_eq (m_held hB)]
    · by_cases e10 : a = 10
      · refine Ag.same h (mB m 9) (hxs ?_) (hms ?_)
        · rw [if_neg e9, if_pos e10, li5, gAt_nI (show 5 < 6 by omega) (by omega), c5]
        · rw [if_neg e9, if_pos e10, li45, gAt_nI (show 45 < 30843 by omega) (by omega)]; rfl
      · by_cases e11 : a = 11
        · refine Ag.same h (nI (cntP (pnN (mB m)) 64)) (hxs ?_) (hms ?_)
          · rw [if_neg e9, if_neg e10, if_pos e11, gCall_eq (x_pinned h.rs hB)]
          · rw [if_neg e9, if_neg e10, if_pos e11, gCall_eq (m_pinned hB)]
        · refine Ag.same h (-1) (hxs ?_) (hms ?_)
          · rw [if_neg e9, if_neg e10, if_neg e11]
          · rw [if_neg e9, if_neg e10, if_neg e11]
theorem mask_cases {x m : gM} {N : Nat} (h : INV x m N) (a b : Int32) : (∃ w j, w < bW (mB m) ∧ j < bN (mB m) ∧ a = nI w ∧ b = nI j ∧ X8_isMask a b x = some (true, x) ∧ X9_isBit a b m = some (true, m)) ∨ (X8_isMask a b x = some (false, x) ∧ X9_isBit a b m = some (false, m)) := by
  have hb := h.bi.2.1
  rcases way_cases h a with ⟨w, hw, rfl⟩ | ⟨h1, h2⟩
  · have hT := wayT h hw
    rcases isIn_n b (n := bN (mB m)) (by omega) m with ⟨j, h1, rfl, h3⟩ | ⟨h1, h2⟩
    · refine Or.inl ⟨w, j, hw, h1, rfl, rfl, ?_, ?_⟩
      · unfold X8_isMask
        rw [gCall_eq hT.1, if_pos rfl, if_neg (nI_neg (by omega)), if_neg (by rw [h.rs.1.2.1, hb.1, nI_leq (by omega) (by omega)]; omega)]
      · unfold X9_isBit
        rw [gCall_eq hT.2, if_pos rfl, li37, gAt_nI (show 37 < 30843 by omega) (by omega), show m 47 0 37 = nI (bN (mB m)) from hb.1, gCall_eq h3]
        rfl
    · refine Or.inr ⟨?_, ?_⟩
      · unfold X8_isMask
        rw [gCall_eq hT.1, if_pos rfl]
        rcases h1 with h1 | ⟨j, hj, rfl, h1⟩
        · rw [if_pos h1]
        · rw [if_neg (nI_neg hj), if_pos (by rw [h.rs.1.2.1, hb.1, nI_leq (by omega) (by omega)]; omega)]
      · unfold X9_isBit
        rw [gCall_eq hT.2, if_pos rfl, li37, gAt_nI (show 37 < 30843 by omega) (by omega), show m 47 0 37 = nI (bN (mB m)) from hb.1, gCall_eq h2]
        rfl
  · refine Or.inr ⟨?_, ?_⟩
    · unfold X8_isMask; rw [gCall_eq h1]; rfl
    · unfold X9_isBit; rw [gCall_eq h2]; rfl
theorem x_mask {m : gM} {k N w j : Nat} {B : Nat → Int32} (hR : RS m k B N) (hB : BI B N) (hw' : w < bW B) (hj' : j < bN B) {β : Type} {kk : Int32 → gM → Option β} : gCall (X8_maskAt (nI w) (nI j) m) kk = kk (nI (4 * w + j)) m ∧ m 25 k (4 * w + j) = nI (bMk B w j) := by
  have hw4 := hB.1.2.2
  have hb4 := hB.2.1.2.2
  have hw : w < 4 := by omega
  have hj : j < 4 := by omega
  constructor
  · unfold X8_maskAt
    rw [li4, pk_mul, nI_add, gCall_some, Nat.mul_comm]
  · rw [hR.2.2.1 _ (by omega) (by omega) (by omega), ← (hB.2.2.2.2.2.1 w j hw hj).1]; congr 1; omega
theorem m_mask {m : gM} {N w j : Nat} (hB : BI (mB m) N) (hw : w < 4) (hj : j < 4) {β : Type} {kk : Int32 → gM → Option β} : gCall (X9_maskAt (nI w) (nI j) m) kk = kk (nI (47 + 4 * w + j)) m ∧ m 47 0 (47 + 4 * w + j) = nI (bMk (mB m) w j) := by
  constructor
  · unfold X9_maskAt
    rw [li47, li4, pk_mul, nI_add, nI_add, gCall_some]
  · rw [← (hB.2.2.2.2.2.1 w j hw hj).1]
    show _ = m 47 0 (36 + (11 + 4 * w + j))
    congr 1; omega
theorem q_masked {x m : gM} {N : Nat} (h : INV x m N) (a b : Int32) : Ag (X8_masked a b x) (X9_masked a b m) N := by
  have hw4 := h.bi.1.2.2
  have hb4 := h.bi.2.1.2.2
  rcases mask_cases h a b with ⟨w, j, hw, hj, rfl, rfl, h1, h2⟩ | ⟨h1, h2⟩
  · refine Ag.same h (nI (bMk (mB m) w j)) ?_ ?_
    · unfold X8_masked
      rw [gCall_eq h1, if_pos rfl, (x_mask h.rs h.bi (by omega) (by omega)).1, gAt_nI (show 4 * w + j < 16 by omega) (by omega), (x_mask (β := Nat) (kk := fun _ _ => none) h.rs h.bi (w := w) (j := j) (by omega) (by omega)).2]
    · unfold X9_masked
      rw [gCall_eq h2, if_pos rfl, (m_mask h.bi (by omega) (by omega)).1, gAt_nI (show 47 + 4 * w + j < 30843 by omega) (by omega), (m_mask (β := Nat) (kk := fun _ _ => none) h.bi (w := w) (j := j) (by omega) (by omega)).2]
  · refine Ag.same h (-1) ?_ ?_
    · unfold X8_masked; rw [gCall_eq h1]; rfl
    · unfold X9_masked; rw [gCall_eq h2]; rfl
theorem q_index {x m : gM} {N : Nat} (h : INV x m N) (a b : Int32) : Ag (X8_index a b x) (X9_index a b m) N := by
  have hw4 := h.bi.1.2.2
  rcases line_cases a with ⟨l, hl, rfl⟩ | ⟨h1, h2⟩
  · rcases way_cases h b with ⟨w, hw, rfl⟩ | ⟨g1, g2⟩
    · refine Ag.same h (nI (bIx (mB m) l w)) ?_ ?_
      · unfold X8_index
        rw [gCall_eq (lineT hl x).1, if_pos rfl, gCall_eq (wayT h hw).1, if_pos rfl, gCall_eq (X3_ix h.rs h.bi hl (by omega))]
      · unfold X9_index
        rw [gCall_eq (lineT hl m).2, if_pos rfl, gCall_eq (wayT h hw).2, if_pos rfl, gCall_eq (X9_ix h.bi hl (by omega))]
    · refine Ag.same h (-1) ?_ ?_
      · unfold X8_index; rw [gCall_eq (lineT hl x).1, if_pos rfl, gCall_eq g1]; rfl
      · unfold X9_index; rw [gCall_eq (lineT hl m).2, if_pos rfl, gCall_eq g2]; rfl
  · refine Ag.same h (-1) ?_ ?_
    · unfold X8_index; rw [gCall_eq (h1 x)]; rfl
    · unfold X9_index; rw [gCall_eq (h2 m)]; rfl
/-- the bounds of where a line is -/
theorem bFind_lt {B : Nat → Int32} {N : Nat} (hB : BI B N) (line : Nat) : ∀ w, w ≤ 4 → ∀ p, bFind B line w = some p → p < 16 * w ∧ bL B p = line + 1 ∧ p / 16 < w ∧ p = 16 * (p / 16) + bIx B line (p / 16) := by
  intro w
  induction w with
  | zero => intro _ p h; cases h
  | succ w ih =>
    intro hw p h
    simp only [bFind] at h
    cases hf : bFind B line w with
    | some q =>
      rw [hf] at h
      cases h
      obtain ⟨i1, i2, i3, i4⟩ := ih (by omega) p hf
      exact ⟨by omega, i2, by omega, i4⟩
    | none =>
      rw [hf] at h
      simp only at h
      split at h
      · rename_i hh
        cases h
        have := bIx_lt hB line w
        exact ⟨by omega, hh, by omega, by rw [show (16 * w + bIx B line w) / 16 = w by omega]⟩
      · cases h
theorem bAt_lt {B : Nat → Int32} {N line p : Nat} (hB : BI B N) (h : bAt B line = some p) : p < 64 ∧ bL B p = line + 1 ∧ p / 16 < bW B ∧ p = 16 * (p / 16) + bIx B line (p / 16) := by
  have hw := hB.1.2.2
  obtain ⟨h1, h2, h3, h4⟩ := bFind_lt hB line (bW B) hw p h
  exact ⟨by omega, h2, h3, h4⟩
theorem held_ok {x m : gM} {N : Nat} (h : INV x m N) (a : Int32) : (∃ l, l < 1024 ∧ a = nI l ∧ X8_placeHeld a x = some (oI (bAt (mB m) l), x)) ∨ ((∀ m, X9_isLine a m = some (false, m)) ∧ X8_placeHeld a x = some (-1, x)) := by
  rcases line_cases a with ⟨l, hl, rfl⟩ | ⟨h1, h2⟩
  · refine Or.inl ⟨l, hl, rfl, ?_⟩
    unfold X8_placeHeld
    rw [gCall_eq (lineT hl x).1, if_pos rfl, gCall_eq (X3_po h.rs h.bi hl)]
  · refine Or.inr ⟨h2, ?_⟩
    unfold X8_placeHeld
    rw [gCall_eq (h1 x)]; rfl
theorem q_where {x m : gM} {N : Nat} (h : INV x m N) (a : Int32) : Ag (X8_where a x) (X9_where a m) N := by
  rcases held_ok h a with ⟨l, hl, rfl, h1⟩ | ⟨h1, h2⟩
  · cases hf : bAt (mB m) l with
    | none =>
      refine Ag.same h (-1) ?_ ?_
      · unfold X8_where; rw [gCall_eq h1, hf, oI_n, if_pos rfl]
      · unfold X9_where; rw [gCall_eq (lineT hl m).2, if_pos rfl, gCall_eq (X9_pw h.bi hl), hf, oI_n, if_pos rfl]
    | some p =>
      have hp := (bAt_lt h.bi hf).1
      refine Ag.same h (nI p / 16) ?_ ?_
      · unfold X8_where; rw [gCall_eq h1, hf, oI_s, if_neg (nI_nm1 (by omega))]
      · unfold X9_where; rw [gCall_eq (lineT hl m).2, if_pos rfl, gCall_eq (X9_pw h.bi hl), hf, oI_s, if_neg (nI_nm1 (by omega)), gCall_eq (X9_pw h.bi hl), hf]; rfl
  · refine Ag.same h (-1) ?_ ?_
    · unfold X8_where; rw [gCall_eq h2, if_pos rfl]
    · unfold X9_where; rw [gCall_eq (h1 m)]; rfl
theorem m_mem {m : gM} {l : Nat} (hl : l < 1024) {β : Type} {kk : Int32 → Option β} : gAt m 47 0 (383 + nI l) kk = kk (mB m (347 + l)) := by
  rw [li383, nI_add, gAt_nI (show 383 + l < 30843 by omega) (by omega)]
  show kk (m 47 0 (383 + l)) = kk (m 47 0 (36 + (347 + l)))
  rw [show 36 + (347 + l) = 383 + l by omega]
theorem q_memory {x m : gM} {N : Nat} (h : INV x m N) (a : Int32) : Ag (X8_memory a x) (X9_memory a m) N := by
  rcases line_cases a with ⟨l, hl, rfl⟩ | ⟨h1, h2⟩
  · refine Ag.same h (mB m (347 + l)) ?_ ?_
    · unfold X8_memory; rw [gCall_eq (lineT hl x).1, if_pos rfl, gAt_nI (show l < 1024 from hl) (by omega), h.rs.2.2.2.1 l hl]
    · unfold X9_memory; rw [gCall_eq (lineT hl m).2, if_pos rfl, m_mem hl]
  · refine Ag.same h (-10000) ?_ ?_
    · unfold X8_memory; rw [gCall_eq (h1 x)]; rfl
    · unfold X9_memory; rw [gCall_eq (h2 m)]; rfl
/-- a line's value as it is told -/
def bVal (B : Nat → Int32) (l : Nat) : Int32 := match bAt B l with
  | none => B (347 + l)
  | some p => B (28 + 5 * p)
theorem x_val {m : gM} {k N l : Nat} {B : Nat → Int32} (hR : RS m k B N) (hB : BI B N) (hl : l < 1024) : X3_valueOf k (nI l) m = some (bVal B l, m) := by
  unfold X3_valueOf bVal
  rw [gCall_eq (X3_po hR hB hl)]
  cases hf : bAt B l with
  | none => dsimp only; rw [oI_n, if_pos rfl, gAt_nI (show l < 1024 from hl) (by omega), hR.2.2.2.1 l hl]
  | some p =>
    have hp := (bAt_lt hB hf).1
    dsimp only
    rw [oI_s, if_neg (nI_nm1 (by omega)), gAt_nI (show p < 64 from hp) (by omega), hR.2.2.2.2.2.1 p hp]
theorem m_val {m : gM} {N l : Nat} (hB : BI (mB m) N) (hl : l < 1024) : X9_valueOf (nI l) m = some (bVal (mB m) l, m) := by
  unfold X9_valueOf bVal
  rw [gCall_eq (X9_pw hB hl)]
  cases hf : bAt (mB m) l with
  | none => dsimp only; rw [oI_n, if_pos rfl, m_mem hl]
  | some p =>
    have hp := (bAt_lt hB hf).1
    dsimp only
    rw [oI_s, if_neg (nI_nm1 (by omega)), gCall_eq (X9_pw hB hl), hf, m_at, oI_s, li1, m_row hp (by omega), show 27 + 5 * p + 1 = 28 + 5 * p by omega]
theorem q_value {x m : gM} {N : Nat} (h : INV x m N) (a : Int32) : Ag (X8_value a x) (X9_value a m) N := by
  rcases line_cases a with ⟨l, hl, rfl⟩ | ⟨h1, h2⟩
  · refine Ag.same h (bVal (mB m) l) ?_ ?_
    · unfold X8_value; rw [gCall_eq (lineT hl x).1, if_pos rfl, gCall_eq (x_val h.rs h.bi hl)]
    · unfold X9_value; rw [gCall_eq (lineT hl m).2, if_pos rfl, gCall_eq (m_val h.bi hl)]
  · refine Ag.same h (-10000) ?_ ?_
    · unfold X8_value; rw [gCall_eq (h1 x)]; rfl
    · unfold X9_value; rw [gCall_eq (h2 m)]; rfl
theorem q_aged {x m : gM} {N : Nat} (h : INV x m N) (a : Int32) : Ag (X8_aged a x) (X9_aged a m) N := by
  have hB := h.bi
  have hR := h.rs
  refine Ag.same h (nI (cntP (fun p => decide (bL (mB m) p ≠ 0 ∧ mB m (30 + 5 * p) = a)) 64)) ?_ ?_
  · unfold X8_aged
    refine gL2_cnt (fun p => decide (bL (mB m) p ≠ 0 ∧ mB m (30 + 5 * p) = a)) 64 (fun i c K hi hc => ?_) (fun K => ?_) (by rw [FU_eq]; omega)
    · unfold X8_aged_b4
      rw [if_neg (by rw [li64, nI_leq (by omega) (by omega)]; omega), gAt_nI (show i < 64 by omega) (by omega), hR.2.2.2.2.1 i hi]
      have hs := hB.2.2.2.2.2.2.1 i hi
      rw [hs.1]
      by_cases h0 : bL (mB m) i = 0
      · rw [if_pos ((line_none hs.2.1).mpr h0)]
        simp [gLet, h0, nI_1]
      · rw [if_neg (fun q => h0 ((line_none hs.2.1).mp q)), gAt_nI (show i < 64 by omega) (by omega), hR.2.2.2.2.2.2.2.1 i hi]
        by_cases ha : mB m (30 + 5 * i) = a
        · simp [gLet, h0, nI_1, ha]
        · simp [gLet, h0, nI_1, ha]
    · unfold X8_aged_b4
      rw [if_pos (by rw [li64, nI_leq (by omega) (by omega)]; omega)]
  · unfold X9_aged
    refine gL2_cnt (fun p => decide (bL (mB m) p ≠ 0 ∧ mB m (30 + 5 * p) = a)) 64 (fun i c K hi hc => ?_) (fun K => ?_) (by rw [FU_eq]; omega)
    · unfold X9_aged_b4
      rw [if_neg (by rw [li64, nI_leq (by omega) (by omega)]; omega), gCall_eq (X9_la hB hi)]
      have hs := hB.2.2.2.2.2.2.1 i hi
      by_cases h0 : bL (mB m) i = 0
      · rw [if_pos ((line_none hs.2.1).mpr h0)]
        simp [gLet, h0, nI_1]
      · rw [if_neg (fun q => h0 ((line_none hs.2.1).mp q)), m_at, li3, m_row hi (by omega), show 27 + 5 * i + 3 = 30 + 5 * i by omega]
        by_cases ha : mB m (30 + 5 * i) = a
        · simp [gLet, h0, nI_1, ha]
        · simp [gLet, h0, nI_1, ha]
    · unfold X9_aged_b4
      rw [if_pos (by rw [li64, nI_leq (by omega) (by omega)]; omega)]
