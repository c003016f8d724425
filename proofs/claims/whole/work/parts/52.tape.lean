/-! LAYER 2: the tape: feed, end. -/
theorem nI_all (x : Int32) : x = nI x.toBitVec.toNat := by
  apply Int32.toBitVec_inj.1
  show x.toBitVec = BitVec.ofNat 32 x.toBitVec.toNat
  simp
def byt (a : Int32) (n : Nat) : Int32 := (gUshr a (nI n)) &&& 255
theorem byt_b (a : Int32) (n : Nat) : ∃ b, b < 256 ∧ byt a n = nI b := by
  unfold byt
  rw [nI_all (gUshr a (nI n)), show (255 : Int32) = nI 255 from rfl, nI_and]
  exact ⟨_, Nat.lt_of_le_of_lt Nat.and_le_right (by omega), rfl⟩
theorem byt_s (a : Int32) (n : Nat) (hn : n ≤ 24) : (a >>> (nI n &&& 31)) &&& 255 = byt a n := by
  unfold byt
  apply b_ext
  intro i hi
  rw [b_and, b_and, b_255, b_sshr n (by omega) a hi]
  unfold gUshr
  rw [b_ushr n (by omega) a i]
  by_cases h : i < 8
  · rw [if_pos (by omega)]
  · rw [decide_eq_false h, Bool.and_false, Bool.and_false]
/-- the tapes: tp bytes, the same -/
def TP (x m : gM) (tp : Nat) : Prop := x 8 0 11 = nI tp ∧ m 9 0 4 = nI tp ∧ ∀ i, i < tp → ∃ b, b < 256 ∧ x 46 0 i = nI b ∧ m 50 0 i = nI b
def pXt (t k i : Nat) : Prop := (t = 8 ∧ k = 0 ∧ i = 11) ∨ (t = 46 ∧ k = 0)
def pMt (t k i : Nat) : Prop := (t = 9 ∧ k = 0 ∧ i = 4) ∨ (t = 50 ∧ k = 0)
theorem INV_tape {x m x' m' : gM} {N tp : Nat} (h : INV x m N) (ex : Eqv pXt x x') (em : Eqv pMt m m') (hT : TP x' m' tp) (ht : tp ≤ 300) : INV x' m' N := by
  obtain ⟨h1, h2, h3, -, h8, h9, h10⟩ := h
  have r := fun t (ht : t = 47 ∨ t = 48 ∨ t = 49) => (funext fun i => em t 0 i (by unfold pMt; omega) : m' t 0 = m t 0)
  have c := fun t k i (ht : wT t) => ex t k i (by unfold pXt; unfold wT at ht; omega)
  unfold INV
  rw [r 47 (by omega), r 48 (by omega), r 49 (by omega), em 9 0 5 (by unfold pMt; omega), em 9 0 6 (by unfold pMt; omega), ex 8 0 12 (by unfold pXt; omega), ex 8 0 13 (by unfold pXt; omega), ex 6 1 6 (by unfold pXt; omega), ex 6 0 6 (by unfold pXt; omega)]
  exact ⟨WR_cg h1 c, WR_cg h2 c, h3, ⟨tp, ht, hT⟩, h8, h9, h10⟩
theorem INV.tp {x m : gM} {N : Nat} (h : INV x m N) : ∃ tp, tp ≤ 300 ∧ TP x m tp := h.2.2.2.1
def shv : Nat → Int32
  | 0 => 24
  | 1 => 16
  | 2 => 8
  | 3 => 0
  | _ => -8
def shn (j : Nat) : Nat := 24 - 8 * j
theorem shv_ok : ∀ j, j < 4 → shv j = nI (shn j) ∧ shv j + (-8) = shv (j + 1) ∧ ¬ shv j < 0 := by decide
theorem x_four {x : gM} {a : Int32} {tp : Nat} (h : x 8 0 11 = nI tp) (ht : tp + 4 ≤ 300) : ∃ x', X8_feedFour a x = some ((), x') ∧ x' 8 0 11 = nI (tp + 4) ∧ (∀ i, x' 46 0 i = if tp ≤ i ∧ i < tp + 4 then byt a (shn (i - tp)) else x 46 0 i) ∧ Eqv pXt x x' := by
  unfold X8_feedFour
  refine gL1_rec (fun q v σ => q ≤ 4 ∧ v = shv (4 - q) ∧ σ 8 0 11 = nI (tp + (4 - q)) ∧ (∀ i, σ 46 0 i = if tp ≤ i ∧ i < tp + (4 - q) then byt a (shn (i - tp)) else x 46 0 i) ∧ Eqv pXt x σ) (fun r => ∃ x', r = some ((), x') ∧ x' 8 0 11 = nI (tp + 4) ∧ (∀ i, x' 46 0 i = if tp ≤ i ∧ i < tp + 4 then byt a (shn (i - tp)) else x 46 0 i) ∧ Eqv pXt x x') ?_ FU 4 24 x (by rw [FU_eq]; omega) ⟨Nat.le_refl _, rfl, by rw [h]; rfl, fun i => by rw [if_neg (by omega)], Eqv.rf⟩
  rintro q v σ K ⟨hq, rfl, g1, g2, g3⟩ hK
  unfold X8_feedFour_b3
  cases q with
  | zero =>
    rw [if_pos (show shv (4 - 0) < 0 by decide)]
    exact ⟨σ, rfl, g1, g2, g3⟩
  | succ q =>
    obtain ⟨s1, s2, s3⟩ := shv_ok (4 - (q + 1)) (by omega)
    have hb : gUshr a (shv (4 - (q + 1))) &&& 255 = byt a (shn (4 - (q + 1))) := by rw [s1]; rfl
    rw [if_neg s3, g1, if_neg (by rw [li300, nI_leq (by omega) (by omega)]; omega), gPut_nI (show tp + (4 - (q + 1)) < 300 by omega) (by omega), gup_t (by omega), g1, nI_1, gLet, s2, hb]
    simp only [gSet, gLet]
    refine hK q _ _ (by omega) ⟨by omega, by rw [show 4 - (q + 1) + 1 = 4 - q by omega], by rw [gup_at, if_pos rfl]; congr 1; omega, fun i => ?_, g3.tr ((Eqv.up (Or.inr ⟨rfl, rfl⟩)).tr (Eqv.up (Or.inl ⟨rfl, rfl, rfl⟩)))⟩
    rw [gup_t (by omega), gup_at]
    by_cases e : i = tp + (4 - (q + 1))
    · rw [if_pos e, if_pos (by omega)]
      congr 2; omega
    · rw [if_neg e, g2 i]
      by_cases c : tp ≤ i ∧ i < tp + (4 - (q + 1))
      · rw [if_pos c, if_pos (by omega)]
      · rw [if_neg c, if_neg (by omega)]
theorem m_four {m : gM} {a : Int32} {tp : Nat} (h : m 9 0 4 = nI tp) (ht : tp + 4 ≤ 300) : ∃ m', X9_four a m = some ((), m') ∧ m' 9 0 4 = nI (tp + 4) ∧ (∀ i, m' 50 0 i = if tp ≤ i ∧ i < tp + 4 then byt a (shn (i - tp)) else m 50 0 i) ∧ Eqv pMt m m' := by
  unfold X9_four
  refine gL1_rec (fun q v σ => q ≤ 4 ∧ v = shv (4 - q) ∧ σ 9 0 4 = nI (tp + (4 - q)) ∧ (∀ i, σ 50 0 i = if tp ≤ i ∧ i < tp + (4 - q) then byt a (shn (i - tp)) else m 50 0 i) ∧ Eqv pMt m σ) (fun r => ∃ m', r = some ((), m') ∧ m' 9 0 4 = nI (tp + 4) ∧ (∀ i, m' 50 0 i = if tp ≤ i ∧ i < tp + 4 then byt a (shn (i - tp)) else m 50 0 i) ∧ Eqv pMt m m') ?_ FU 4 24 m (by rw [FU_eq]; omega) ⟨Nat.le_refl _, rfl, by rw [h]; rfl, fun i => by rw [if_neg (by omega)], Eqv.rf⟩
  rintro q v σ K ⟨hq, rfl, g1, g2, g3⟩ hK
  unfold X9_four_b3
  cases q with
  | zero =>
    rw [if_pos (show shv (4 - 0) < 0 by decide)]
    exact ⟨σ, rfl, g1, g2, g3⟩
  | succ q =>
    obtain ⟨s1, s2, s3⟩ := shv_ok (4 - (q + 1)) (by omega)
    have hb : (a >>> (shv (4 - (q + 1)) &&& 31)) &&& 255 = byt a (shn (4 - (q + 1))) := by rw [s1]; exact byt_s a _ (by unfold shn; omega)
    rw [if_neg s3, g1, gPut_nI (show tp + (4 - (q + 1)) < 300 by omega) (by omega), gup_t (by omega), g1, nI_1, gLet, s2, hb]
    simp only [gSet, gLet]
    refine hK q _ _ (by omega) ⟨by omega, by rw [show 4 - (q + 1) + 1 = 4 - q by omega], by rw [gup_at, if_pos rfl]; congr 1; omega, fun i => ?_, g3.tr ((Eqv.up (Or.inr ⟨rfl, rfl⟩)).tr (Eqv.up (Or.inl ⟨rfl, rfl, rfl⟩)))⟩
    rw [gup_t (by omega), gup_at]
    by_cases e : i = tp + (4 - (q + 1))
    · rw [if_pos e, if_pos (by omega)]
      congr 2; omega
    · rw [if_neg e, g2 i]
      by_cases c : tp ≤ i ∧ i < tp + (4 - (q + 1))
      · rw [if_pos c, if_pos (by omega)]
      · rw [if_neg c, if_neg (by omega)]
theorem four_ok {x m : gM} {a : Int32} {tp : Nat} (h : TP x m tp) (ht : tp + 4 ≤ 300) : ∃ x' m', X8_feedFour a x = some ((), x') ∧ X9_four a m = some ((), m') ∧ TP x' m' (tp + 4) ∧ Eqv pXt x x' ∧ Eqv pMt m m' := by
  obtain ⟨h1, h2, h3⟩ := h
  obtain ⟨x', a1, a2, a3, a4⟩ := x_four (a := a) h1 ht
  obtain ⟨m', b1, b2, b3, b4⟩ := m_four (a := a) h2 ht
  refine ⟨x', m', a1, b1, ⟨a2, b2, fun i hi => ?_⟩, a4, b4⟩
  rw [a3, b3]
  by_cases c : tp ≤ i ∧ i < tp + 4
  · rw [if_pos c, if_pos c]
    obtain ⟨b, hb1, hb2⟩ := byt_b a (shn (i - tp))
    exact ⟨b, hb1, hb2, hb2⟩
  · rw [if_neg c, if_neg c]
    exact h3 i (by omega)
theorem q_feed {x m : gM} {N : Nat} (h : INV x m N) (a b c d e : Int32) : Ag (X8_feed a b c d e x) (X9_feed a b c d e m) N := by
  unfold X8_feed X9_feed
  obtain ⟨tp, ht, h0⟩ := h.tp
  rw [h0.1, h0.2.1, li20, nI_add]
  by_cases hc : tp + 20 ≤ 300
  · rw [if_pos (show nI (tp + 20) ≤ 300 by rw [li300, nI_leq (by omega) (by omega)]; exact hc), if_pos (show nI (tp + 20) ≤ 300 by rw [li300, nI_leq (by omega) (by omega)]; exact hc)]
    obtain ⟨x1, m1, a1, b1, h1, u1, v1⟩ := four_ok (a := a) h0 (by omega)
    obtain ⟨x2, m2, a2, b2, h2, u2, v2⟩ := four_ok (a := b) h1 (by omega)
    obtain ⟨x3, m3, a3, b3, h3, u3, v3⟩ := four_ok (a := c) h2 (by omega)
    obtain ⟨x4, m4, a4, b4, h4, u4, v4⟩ := four_ok (a := d) h3 (by omega)
    obtain ⟨x5, m5, a5, b5, h5, u5, v5⟩ := four_ok (a := e) h4 (by omega)
    rw [gCall_eq a1, gCall_eq a2, gCall_eq a3, gCall_eq a4, gCall_eq a5, gCall_eq b1, gCall_eq b2, gCall_eq b3, gCall_eq b4, gCall_eq b5, h5.1, h5.2.1]
    exact ⟨_, _, _, rfl, rfl, INV_tape h ((((u1.tr u2).tr u3).tr u4).tr u5) ((((v1.tr v2).tr v3).tr v4).tr v5) h5 (by omega)⟩
  · rw [if_neg (show ¬ nI (tp + 20) ≤ 300 by rw [li300, nI_leq (by omega) (by omega)]; exact hc), if_neg (show ¬ nI (tp + 20) ≤ 300 by rw [li300, nI_leq (by omega) (by omega)]; exact hc)]
    exact Ag.same h _ rfl rfl
theorem q_end {x m : gM} {N : Nat} (h : INV x m N) (a : Int32) : Ag (X8_end a x) (X9_end a m) N := by
  unfold X8_end X9_end
  obtain ⟨tp, ht, h0⟩ := h.tp
  rw [h0.1, h0.2.1]
  rcases in_out a 0 tp with ⟨j, -, hj, -, rfl⟩ | ho
  · have hT : X9_isIn (nI j) 0 (nI tp) m = some (true, m) := isIn_T (Nat.zero_le _) hj (by omega) m
    rw [gCall_eq hT, if_pos rfl, if_neg (nI_neg (by omega)), if_pos (by rw [nI_leq (by omega) (by omega)]; exact hj)]
    simp only [gSet]
    refine ⟨_, _, _, rfl, rfl, INV_tape (tp := j) h (Eqv.up (Or.inl ⟨rfl, rfl, rfl⟩)) (Eqv.up (Or.inl ⟨rfl, rfl, rfl⟩)) ⟨by rw [gup_at, if_pos rfl], by rw [gup_at, if_pos rfl], fun i hi => ?_⟩ (by omega)⟩
    rw [gup_t (by omega), gup_t (by omega)]
    exact h0.2.2 i (by omega)
  · have hF : X9_isIn a 0 (nI tp) m = some (false, m) := isIn_F ho (by omega) (by omega) m
    rw [gCall_eq hF]
    refine Ag.same h (-1) ?_ rfl
    rcases ho.lt0 with z | ⟨j, hj, rfl, z⟩
    · rw [if_pos z]
    · rw [if_neg (nI_neg hj), if_neg (by rw [nI_leq hj (by omega)]; omega)]
