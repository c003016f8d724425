/-! LAYER 2: shape. -/
theorem RS_used {m : gM} {k N : Nat} {B B' : Nat → Int32} (h : RS m k B N) (e : ∀ i, ¬ (11 ≤ i ∧ i < 27) → B' i = B i) (u : ∀ i, i < 16 → i / 4 < bW B → i % 4 < bN B → B' (11 + i) = B (11 + i)) : RS m k B' N := by
  obtain ⟨⟨a1, a2, a3, a4⟩, ⟨b1, b2, b3, b4, b5, b6⟩, c1, c2, c3, c4, c5, c6, c7, nb, d1, d2, d3, d4⟩ := h
  exact ⟨⟨by rw [e _ (by omega)]; exact a1, by rw [e _ (by omega)]; exact a2, by rw [e _ (by omega)]; exact a3, by rw [e _ (by omega)]; exact a4⟩, ⟨by rw [e _ (by omega)]; exact b1, by rw [e _ (by omega)]; exact b2, by rw [e _ (by omega)]; exact b3, by rw [e _ (by omega)]; exact b4, by rw [e _ (by omega)]; exact b5, by rw [e _ (by omega)]; exact b6⟩, fun i hi h1 h2 => by
    rw [mB_w (e 0 (by omega))] at h1
    rw [mB_n (e 1 (by omega))] at h2
    rw [u i hi h1 h2]; exact c1 i hi h1 h2, fun i hi => by rw [e _ (by omega)]; exact c2 i hi, fun i hi => by rw [e _ (by omega)]; exact c3 i hi, fun i hi => by rw [e _ (by omega)]; exact c4 i hi, fun i hi => by rw [e _ (by omega)]; exact c5 i hi, fun i hi => by rw [e _ (by omega)]; exact c6 i hi, fun i hi => by rw [e _ (by omega)]; exact c7 i hi, nb, d1, d2, by rw [e _ (by omega)]; exact d3, fun i j hi hj => by rw [e _ (by omega)]; exact d4 i j hi hj⟩
theorem fmJ0 {B : Nat → Int32} {w : Nat} : ∀ j, fmJ 0 B w j = fun i => if 11 + 4 * w ≤ i ∧ i < 11 + 4 * w + j then 1 <<< (nI (i - (11 + 4 * w)) &&& 31) else B i := by
  intro j
  induction j with
  | zero => funext i; rw [if_neg (by omega)]; rfl
  | succ j ih =>
    funext i
    simp only [fmJ, stp]
    rw [if_neg (by decide), if_neg (by decide), ih, bup_at]
    by_cases e : i = 11 + (4 * w + j)
    · rw [if_pos e, if_pos (by omega), show i - (11 + 4 * w) = j by omega]
    · rw [if_neg e]
      by_cases e2 : 11 + 4 * w ≤ i ∧ i < 11 + 4 * w + j
      · rw [if_pos e2, if_pos (by omega)]
      · rw [if_neg e2, if_neg (by omega)]
theorem fmW0 {B : Nat → Int32} {n : Nat} (hn : n ≤ 4) : ∀ w i, fmW 0 B n w i = if 11 ≤ i ∧ (i - 11) / 4 < w ∧ (i - 11) % 4 < n then 1 <<< (nI ((i - 11) % 4) &&& 31) else B i := by
  intro w
  induction w with
  | zero => intro i; rw [if_neg (by omega)]; rfl
  | succ w ih =>
    intro i
    simp only [fmW]
    rw [fmJ0]
    dsimp only
    by_cases e : 11 + 4 * w ≤ i ∧ i < 11 + 4 * w + n
    · rw [if_pos e, if_pos (by omega), show i - (11 + 4 * w) = (i - 11) % 4 by omega]
    · rw [if_neg e, ih i]
      by_cases e2 : 11 ≤ i ∧ (i - 11) / 4 < w ∧ (i - 11) % 4 < n
      · rw [if_pos e2, if_pos (by omega)]
      · rw [if_neg e2, if_neg (by omega)]
theorem q_shape {x m : gM} {N : Nat} (h : INV x m N) (a b : Int32) : Ag (X8_shape a b x) (X9_shape a b m) N := by
  unfold X8_shape X9_shape
  have hN := h.2.2.2.2.2.2
  have hout : ∀ a, Out a 1 4 → (a < 1 ∨ ¬ a < 1 ∧ 4 < a) := by
    intro a ho
    rcases ho with g | ⟨j, hj, rfl, g | g⟩
    · exact Or.inl (neg_lt g (show 1 < 2147483648 by omega))
    · exact Or.inl (by rw [li1, nI_ltt hj (by omega)]; omega)
    · exact Or.inr ⟨by rw [li1, nI_ltt hj (by omega)]; omega, by rw [li4, nI_ltt (by omega) hj]; omega⟩
  rcases in_out a 1 4 with ⟨w, hw1, hw2, -, rfl⟩ | ho
  · have hT : X9_isIn (nI w) 1 4 m = some (true, m) := isIn_T hw1 hw2 (by omega) m
    rw [gCall_eq hT, if_pos rfl, if_neg (by rw [li1, nI_ltt (by omega) (by omega)]; omega), if_neg (by rw [li4, nI_ltt (by omega) (by omega)]; omega)]
    rcases in_out b 1 4 with ⟨n, hn1, hn2, -, rfl⟩ | ho
    · have hT2 : X9_isIn (nI n) 1 4 m = some (true, m) := isIn_T hn1 hn2 (by omega) m
      rw [gCall_eq hT2, if_pos rfl, if_neg (by rw [li1, nI_ltt (by omega) (by omega)]; omega), if_pos (by rw [li4, nI_leq (by omega) (by omega)]; omega)]
      obtain ⟨x1, m1, k1, k2, h', -⟩ := keep_ok h
      obtain ⟨x2, y1, y2, y3⟩ := x_emptyAll h'.rs h'.bi
      obtain ⟨m2, z1, z2, z3⟩ := m_emptyNow rfl h'.bi
      have b2 := (emB_ok h'.bi 64).1
      have hE := emB_0 h'.bi
      rw [gCall_eq k1, gCall_eq k2, gCall_eq y1, gCall_eq z1]
      revert y2 z2 b2 hE
      generalize emB (mB m1) 64 = E
      intro y2 z2 b2 hE
      simp only [gSet]
      sorry
    · have hF2 : X9_isIn b 1 4 m = some (false, m) := isIn_F ho (by omega) (by omega) m
      rw [gCall_eq hF2]
      refine Ag.same h (-1) ?_ rfl
      rcases hout b ho with g | ⟨g, g2⟩
      · rw [if_pos g]
      · rw [if_neg g, if_neg (by rw [Int32.not_le]; exact g2)]
  · have hF : X9_isIn a 1 4 m = some (false, m) := isIn_F ho (by omega) (by omega) m
    rw [gCall_eq hF]
    refine Ag.same h (-1) ?_ rfl
    rcases hout a ho with g | ⟨g, g2⟩
    · rw [if_pos g]
    · rw [if_neg g, if_pos g2]
