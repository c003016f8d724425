/-! LAYER 2: shape. -/
theorem RS_used {m : gM} {k N : Nat} {B B' : Nat → Int32} (h : RS m k B N) (e : ∀ i, ¬ (11 ≤ i ∧ i < 27) → B' i = B i) (u : ∀ i, i < 16 → i / 4 < bW B → i % 4 < bN B → B' (11 + i) = B (11 + i)) : RS m k B' N := by
  obtain ⟨⟨a1, a2, a3, a4⟩, ⟨b1, b2, b3, b4, b5, b6⟩, c1, c2, c3, c4, c5, c6, c7, nb, d1, d2, d3, d4⟩ := h
  exact ⟨⟨by rw [e _ (by omega)]; exact a1, by rw [e _ (by omega)]; exact a2, by rw [e _ (by omega)]; exact a3, by rw [e _ (by omega)]; exact a4⟩, ⟨by rw [e _ (by omega)]; exact b1, by rw [e _ (by omega)]; exact b2, by rw [e _ (by omega)]; exact b3, by rw [e _ (by omega)]; exact b4, by rw [e _ (by omega)]; exact b5, by rw [e _ (by omega)]; exact b6⟩, fun i hi h1 h2 => by
    rw [mB_w (e 0 (by omega))] at h1
    rw [mB_n (e 1 (by omega))] at h2
    rw [u i hi h1 h2]; exact c1 i hi h1 h2, fun i hi => by rw [e _ (by omega)]; exact c2 i hi, fun i hi => by rw [e _ (by omega)]; exact c3 i hi, fun i hi => by rw [e _ (by omega)]; exact c4 i hi, fun i hi => by rw [e _ (by omega)]; exact c5 i hi, fun i hi => by rw [e _ (by omega)]; exact c6 i hi, fun i hi => by rw [e _ (by omega)]; exact c7 i hi, nb, d1, d2, by rw [e _ (by omega)]; exact d3, fun i j hi hj => by rw [e _ (by omega)]; exact d4 i j hi hj⟩
theorem fmJ0 {B : Nat → Int32} {w : Nat} : ∀ j, fmJ 0 B w j = fun i => if 11 + 4 * w ≤ i ∧ i < 11 + 4 * w + j then 1 <<< (nI (i - (11 + 4 * w)) &&& 31) else B i := by
  intro j
  induction j with
  | zero => funext i; rw [if_neg (by omega)]; rfl
  | succ j ih =>
    funext i
    simp only [fmJ, stp]
    rw [if_neg (by decide), if_neg (by decide), ih, bup_at]
    by_cases e : i = 11 + (4 * w + j)
    · rw [if_pos e, if_pos (by omega), show i - (11 + 4 * w) = j by omega]
    · rw [if_neg e]
      by_cases e2 : 11 + 4 * w ≤ i ∧ i < 11 + 4 * w + j
      · rw [if_pos e2, if_pos (by omega)]
      · rw [if_neg e2, if_neg (by omega)]
theorem fmW0 {B : Nat → Int32} {n : Nat} (hn : n ≤ 4) : ∀ w i, fmW 0 B n w i = if 11 ≤ i ∧ (i - 11) / 4 < w ∧ (i - 11) % 4 < n then 1 <<< (nI ((i - 11) % 4) &&& 31) else B i := by
  intro w
  induction w with
  | zero => intro i; rw [if_neg (by omega)]; rfl
  | succ w ih =>
    intro i
    simp only [fmW]
    rw [fmJ0]
    dsimp only
    by_cases e : 11 + 4 * w ≤ i ∧ i < 11 + 4 * w + n
    · rw [if_pos e, if_pos (by omega), show i - (11 + 4 * w) = (i - 11) % 4 by omega]
    · rw [if_neg e, ih i]
      by_cases e2 : 11 ≤ i ∧ (i - 11) / 4 < w ∧ (i - 11) % 4 < n
      · rw [if_pos e2, if_pos (by omega)]
      · rw [if_neg e2, if_neg (by omega)]
def shX (x : gM) (E : Nat → Int32) (w n : Nat) : Nat → Int32 := fun i => if i = 0 then nI w else if i = 1 then nI n else if 11 ≤ i ∧ i < 27 then x 25 0 (i - 11) else E i
def shM (E : Nat → Int32) (w n : Nat) : Nat → Int32 := fun q => if 11 ≤ q ∧ q < 27 then 0 else bup (bup E 0 (nI w)) 1 (nI n) q
theorem shX_E {x : gM} {E : Nat → Int32} {w n i : Nat} (h : 2 ≤ i) (h2 : ¬ (11 ≤ i ∧ i < 27)) : shX x E w n i = E i := by
  unfold shX
  rw [if_neg (by omega), if_neg (by omega), if_neg h2]
theorem shM_E {E : Nat → Int32} {w n i : Nat} (h : 2 ≤ i) (h2 : ¬ (11 ≤ i ∧ i < 27)) : shM E w n i = E i := by
  unfold shM
  rw [if_neg h2, bup_ne (by omega), bup_ne (by omega)]
theorem sh_XM {x : gM} {E : Nat → Int32} {w n i : Nat} (h2 : ¬ (11 ≤ i ∧ i < 27)) : shM E w n i = shX x E w n i := by
  by_cases h : 2 ≤ i
  · rw [shX_E h h2, shM_E h h2]
  · rcases (show i = 0 ∨ i = 1 by omega) with rfl | rfl <;> rfl
theorem x_sh {x : gM} {E : Nat → Int32} {N w n : Nat} (h : RS x 0 E N) : RS (gup (gup x 3 0 0 (nI w)) 3 0 1 (nI n)) 0 (shX x E w n) N := by
  obtain ⟨⟨a1, a2, a3, a4⟩, ⟨b1, b2, b3, b4, b5, b6⟩, c1, c2, c3, c4, c5, c6, c7, nb, d1, d2, d3, d4⟩ := h
  have em : ∀ t i, ¬ (t = 3 ∧ i < 2) → gup (gup x 3 0 0 (nI w)) 3 0 1 (nI n) t 0 i = x t 0 i := fun t i ht => by unfold gup; rw [if_neg (by omega), if_neg (by omega)]
  refine ⟨⟨by rw [gup_at, if_neg (by omega), gup_at, if_pos rfl]; rfl, by rw [gup_at, if_pos rfl]; rfl, by rw [em _ _ (by omega), shX_E (by omega) (by omega)]; exact a3, by rw [em _ _ (by omega), shX_E (by omega) (by omega)]; exact a4⟩, ⟨by rw [em _ _ (by omega), shX_E (by omega) (by omega)]; exact b1, by rw [em _ _ (by omega), shX_E (by omega) (by omega)]; exact b2, by rw [em _ _ (by omega), shX_E (by omega) (by omega)]; exact b3, by rw [em _ _ (by omega), shX_E (by omega) (by omega)]; exact b4, by rw [em _ _ (by omega), shX_E (by omega) (by omega)]; exact b5, by rw [em _ _ (by omega), shX_E (by omega) (by omega)]; exact b6⟩, fun q hq _ _ => ?_, fun q hq => by rw [em _ _ (by omega), shX_E (by omega) (by omega)]; exact c2 q hq, fun q hq => by rw [em _ _ (by omega), shX_E (by omega) (by omega)]; exact c3 q hq, fun q hq => by rw [em _ _ (by omega), shX_E (by omega) (by omega)]; exact c4 q hq, fun q hq => by rw [em _ _ (by omega), shX_E (by omega) (by omega)]; exact c5 q hq, fun q hq => by rw [em _ _ (by omega), shX_E (by omega) (by omega)]; exact c6 q hq, fun q hq => by rw [em _ _ (by omega), shX_E (by omega) (by omega)]; exact c7 q hq, nb, by rw [em _ _ (by omega)]; exact d1, d2, by rw [shX_E (by omega) (by omega)]; exact d3, fun q j hq hj => by rw [em _ _ (by omega), shX_E (by omega) (by omega)]; exact d4 q j hq hj⟩
  rw [em _ _ (by omega)]
  unfold shX
  rw [if_neg (by omega), if_neg (by omega), if_pos (by omega), Nat.add_sub_cancel_left]
theorem m_zero {m : gM} (R : gM → Option (Int32 × gM)) : ∃ m', gL1 FU (X9_shape_b48 R) 0 m = R m' ∧ mB m' = (fun q => if 11 ≤ q ∧ q < 27 then 0 else mB m q) ∧ Eqv pBk m m' := by
  refine gL1_for (fun i σ => mB σ = (fun q => if 11 ≤ q ∧ q < 11 + i then 0 else mB m q) ∧ Eqv pBk m σ) (fun r => ∃ m', r = R m' ∧ mB m' = (fun q => if 11 ≤ q ∧ q < 27 then 0 else mB m q) ∧ Eqv pBk m m') 16 ?_ ?_ FU 0 m (Nat.zero_le _) (by rw [FU_eq]; omega) ⟨?_, Eqv.rf⟩
  · rintro i σ K hi ⟨h1, h2⟩ hK
    unfold X9_shape_b48
    rw [if_neg (by rw [li16, nI_leq (by omega) (by omega)]; omega), li47, nI_add, show 47 + i = 36 + (11 + i) by omega, m_put (by omega), gLet, nI_1]
    refine hK _ ⟨?_, h2.tr (Eqv_bk (by omega))⟩
    rw [mB_up, h1]
    funext q
    rw [bup_at]
    by_cases e : q = 11 + i
    · rw [if_pos e, if_pos (by omega)]
    · rw [if_neg e]
      by_cases e2 : 11 ≤ q ∧ q < 11 + i
      · rw [if_pos e2, if_pos (by omega)]
      · rw [if_neg e2, if_neg (by omega)]
  · rintro σ K ⟨h1, h2⟩
    unfold X9_shape_b48
    rw [if_pos (by rw [li16, nI_leq (by omega) (by omega)]; omega)]
    exact ⟨σ, rfl, h1, h2⟩
  · funext q
    rw [if_neg (by omega)]
theorem q_shape {x m : gM} {N : Nat} (h : INV x m N) (a b : Int32) : Ag (X8_shape a b x) (X9_shape a b m) N := by
  unfold X8_shape X9_shape
  have hN := h.2.2.2.2.2.2
  have hout : ∀ a, Out a 1 4 → (a < 1 ∨ ¬ a < 1 ∧ 4 < a) := by
    intro a ho
    rcases ho with g | ⟨j, hj, rfl, g | g⟩
    · exact Or.inl (neg_lt g (show 1 < 2147483648 by omega))
    · exact Or.inl (by rw [li1, nI_ltt hj (by omega)]; omega)
    · exact Or.inr ⟨by rw [li1, nI_ltt hj (by omega)]; omega, by rw [li4, nI_ltt (by omega) hj]; omega⟩
  rcases in_out a 1 4 with ⟨w, hw1, hw2, -, rfl⟩ | ho
  · have hT : X9_isIn (nI w) 1 4 m = some (true, m) := isIn_T hw1 hw2 (by omega) m
    rw [gCall_eq hT, if_pos rfl, if_neg (by rw [li1, nI_ltt (by omega) (by omega)]; omega), if_neg (by rw [li4, nI_ltt (by omega) (by omega)]; omega)]
    rcases in_out b 1 4 with ⟨n, hn1, hn2, -, rfl⟩ | ho
    · have hT2 : X9_isIn (nI n) 1 4 m = some (true, m) := isIn_T hn1 hn2 (by omega) m
      rw [gCall_eq hT2, if_pos rfl, if_neg (by rw [li1, nI_ltt (by omega) (by omega)]; omega), if_pos (by rw [li4, nI_leq (by omega) (by omega)]; omega)]
      obtain ⟨x1, m1, k1, k2, h', -⟩ := keep_ok h
      obtain ⟨x2, y1, y2, y3⟩ := x_emptyAll h'.rs h'.bi
      obtain ⟨m2, z1, z2, z3⟩ := m_emptyNow rfl h'.bi
      have b2 := (emB_ok h'.bi 64).1
      have hE := emB_0 h'.bi
      rw [gCall_eq k1, gCall_eq k2, gCall_eq y1, gCall_eq z1]
      revert y2 z2 b2 hE
      generalize emB (mB m1) 64 = E
      intro y2 z2 b2 hE
      simp only [gSet]
      have rx := x_sh (w := w) (n := n) y2
      obtain ⟨x4, f1, f2, f3⟩ := x_setF (a := 0) (w := w) (n := n) rx rfl hw2 ⟨hn1, hn2⟩ ⟨fun _ _ _ => rfl, rfl⟩
      obtain ⟨m4, g1, g2, g3⟩ := m_zero (m := gup (gup m2 47 0 (36 + 0) (nI w)) 47 0 (36 + 1) (nI n)) (fun m11 => gCall (X9_layFamily 0 m11) (fun r13 m12 => gCall (X9_slotsAll m12) (fun r15 m14 => some (r15, m14))))
      have e4 : mB m4 = shM E w n := by rw [g2, mB_up, mB_up, z2]; rfl
      have hFK : FK (shM E w n) (shM E w n) n := by
        refine ⟨fun _ _ _ => rfl, rfl, ?_, fun i hi => ⟨0, ?_, by omega⟩⟩
        · obtain ⟨y, u1, u2⟩ := b2.2.2.2.2.1
          exact ⟨y, by rw [shM_E (by omega) (by omega)]; exact u1, u2⟩
        · unfold shM
          rw [if_pos (by omega)]; rfl
      obtain ⟨m5, l1, l2, l3⟩ := m_layF (a := 0) e4 (show shM E w n 0 = nI w from rfl) hw2 ⟨hn1, hn2⟩ hFK (Or.inl rfl)
      obtain ⟨q1, q2, q3, q4⟩ := FK_fmW (a := 0) ⟨hn1, hn2⟩ hFK w hw2
      have bF : BI (fmW 0 (shM E w n) n w) N := (BI_em b2 hE (fun i _ h2i h8 hmk => by rw [q1 i h8 hmk, shM_E h2i hmk]) (by rw [q1 0 (by omega) (by omega)]; rfl) ⟨hw1, hw2⟩ q2 ⟨hn1, hn2⟩ q3 q4).1
      have rF : RS x4 0 (fmW 0 (shM E w n) n w) N := by
        have w0 : bW (fmW 0 (shX x2 E w n) n w) = w := by
          unfold bW
          rw [fmW0 hn2, if_neg (by omega)]
          exact nI_cl (by omega)
        have n0 : bN (fmW 0 (shX x2 E w n) n w) = n := by
          unfold bN
          rw [fmW0 hn2, if_neg (by omega)]
          exact nI_cl (by omega)
        refine RS_used f2 (fun i hi => ?_) (fun i hi h1 h2 => ?_)
        · rw [fmW0 hn2, fmW0 hn2, if_neg (by omega), if_neg (by omega)]
          exact sh_XM hi
        · rw [w0] at h1
          rw [n0] at h2
          rw [fmW0 hn2, fmW0 hn2, if_pos (by omega), if_pos (by omega)]
      rw [gCall_eq f1, gCall_eq (x_slotsAll rF bF)]
      rw [show (36 : Int32) = nI (36 + 0) from rfl, m_put (by omega), show (37 : Int32) = nI (36 + 1) from rfl, m_put (by omega), gJ0_e, g1, gCall_eq l1, gCall_eq (m_slotsAll (by rw [l2]; exact bF)), l2]
      refine ⟨_, x4, m5, rfl, rfl, INV_store h' (pCo_XS ((y3.tr ((Eqv.up (by unfold pCo; omega)).tr (Eqv.up (by unfold pCo; omega)))).tr f3)) (pBk_MS ((z3.tr ((Eqv_bk (by omega)).tr (Eqv_bk (by omega)))).tr (g3.tr l3))) (by rw [l2]; exact rF) (by rw [l2]; exact bF) (Nat.le_refl _) hN⟩
    · have hF2 : X9_isIn b 1 4 m = some (false, m) := isIn_F ho (by omega) (by omega) m
      rw [gCall_eq hF2]
      refine Ag.same h (-1) ?_ rfl
      rcases hout b ho with g | ⟨g, g2⟩
      · rw [if_pos g]
      · rw [if_neg g, if_neg (by rw [Int32.not_le]; exact g2)]
  · have hF : X9_isIn a 1 4 m = some (false, m) := isIn_F ho (by omega) (by omega) m
    rw [gCall_eq hF]
    refine Ag.same h (-1) ?_ rfl
    rcases hout a ho with g | ⟨g, g2⟩
    · rw [if_pos g]
    · rw [if_neg g, if_pos g2]
