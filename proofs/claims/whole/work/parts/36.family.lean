/-! LAYER 2: families of masks; suited, shape. -/
theorem RS_f3 {m : gM} {k N : Nat} {B : Nat → Int32} (h : RS m k B N) (w : Int32) : RS (gup m 3 k 3 w) k (bup B 8 w) N := by
  obtain ⟨⟨a1, a2, a3, a4⟩, ⟨b1, b2, b3, b4, b5, b6⟩, c1, c2, c3, c4, c5, c6, c7, nb, d1, d2, d3, d4⟩ := h
  have em : ∀ t i, ¬ (t = 3 ∧ i = 3) → gup m 3 k 3 w t k i = m t k i := fun t i ht => by unfold gup; rw [if_neg (by omega)]
  have eB : ∀ i, i ≠ 8 → bup B 8 w i = B i := fun i hi => bup_ne hi
  exact ⟨⟨by rw [em _ _ (by omega), eB _ (by omega)]; exact a1, by rw [em _ _ (by omega), eB _ (by omega)]; exact a2, by rw [em _ _ (by omega), eB _ (by omega)]; exact a3, by rw [gup_at, if_pos rfl, bup_eq]⟩, ⟨by rw [em _ _ (by omega), eB _ (by omega)]; exact b1, by rw [em _ _ (by omega), eB _ (by omega)]; exact b2, by rw [em _ _ (by omega), eB _ (by omega)]; exact b3, by rw [em _ _ (by omega), eB _ (by omega)]; exact b4, by rw [em _ _ (by omega), eB _ (by omega)]; exact b5, by rw [em _ _ (by omega), eB _ (by omega)]; exact b6⟩, fun q hq => by rw [em _ _ (by omega), eB _ (by omega)]; exact c1 q hq, fun q hq => by rw [em _ _ (by omega), eB _ (by omega)]; exact c2 q hq, fun q hq => by rw [em _ _ (by omega), eB _ (by omega)]; exact c3 q hq, fun q hq => by rw [em _ _ (by omega), eB _ (by omega)]; exact c4 q hq, fun q hq => by rw [em _ _ (by omega), eB _ (by omega)]; exact c5 q hq, fun q hq => by rw [em _ _ (by omega), eB _ (by omega)]; exact c6 q hq, fun q hq => by rw [em _ _ (by omega), eB _ (by omega)]; exact c7 q hq, nb, by rw [em _ _ (by omega)]; exact d1, d2, by rw [eB _ (by omega)]; exact d3, fun q j hq hj => by rw [em _ _ (by omega), eB _ (by omega)]; exact d4 q j hq hj⟩
theorem RS_u25 {m : gM} {k N p : Nat} {B : Nat → Int32} (h : RS m k B N) (hp : p < 16) (w : Int32) : RS (gup m 25 k p w) k (bup B (11 + p) w) N := by
  obtain ⟨⟨a1, a2, a3, a4⟩, ⟨b1, b2, b3, b4, b5, b6⟩, c1, c2, c3, c4, c5, c6, c7, nb, d1, d2, d3, d4⟩ := h
  have em : ∀ t i, t ≠ 25 → gup m 25 k p w t k i = m t k i := fun t i ht => by rw [gup_t ht]
  have eB : ∀ i, i ≠ 11 + p → bup B (11 + p) w i = B i := fun i hi => bup_ne hi
  refine ⟨⟨by rw [em _ _ (by omega), eB _ (by omega)]; exact a1, by rw [em _ _ (by omega), eB _ (by omega)]; exact a2, by rw [em _ _ (by omega), eB _ (by omega)]; exact a3, by rw [em _ _ (by omega), eB _ (by omega)]; exact a4⟩, ⟨by rw [em _ _ (by omega), eB _ (by omega)]; exact b1, by rw [em _ _ (by omega), eB _ (by omega)]; exact b2, by rw [em _ _ (by omega), eB _ (by omega)]; exact b3, by rw [em _ _ (by omega), eB _ (by omega)]; exact b4, by rw [em _ _ (by omega), eB _ (by omega)]; exact b5, by rw [em _ _ (by omega), eB _ (by omega)]; exact b6⟩, fun q hq => ?_, fun q hq => by rw [em _ _ (by omega), eB _ (by omega)]; exact c2 q hq, fun q hq => by rw [em _ _ (by omega), eB _ (by omega)]; exact c3 q hq, fun q hq => by rw [em _ _ (by omega), eB _ (by omega)]; exact c4 q hq, fun q hq => by rw [em _ _ (by omega), eB _ (by omega)]; exact c5 q hq, fun q hq => by rw [em _ _ (by omega), eB _ (by omega)]; exact c6 q hq, fun q hq => by rw [em _ _ (by omega), eB _ (by omega)]; exact c7 q hq, nb, by rw [em _ _ (by omega)]; exact d1, d2, by rw [eB _ (by omega)]; exact d3, fun q j hq hj => by rw [em _ _ (by omega), eB _ (by omega)]; exact d4 q j hq hj⟩
  rw [gup_at]
  by_cases e : q = p
  · subst e
    rw [if_pos rfl, bup_eq]
    exact fun _ _ => rfl
  · rw [if_neg e, eB (11 + q) (by omega), mB_w (eB 0 (by omega)), mB_n (eB 1 (by omega))]
    exact c1 q hq
/-- an empty block: masks, ways, bits may change -/
theorem BI_em {B B' : Nat → Int32} {N w b : Nat} (hB : BI B N) (hE : ∀ q, q < 64 → bL B q = 0) (e : ∀ i, i < 347 → 2 ≤ i → i ≠ 8 → ¬ (11 ≤ i ∧ i < 27) → B' i = B i) (h0 : B' 0 = nI w) (hw : 1 ≤ w ∧ w ≤ 4) (h1 : B' 1 = nI b) (hb : 1 ≤ b ∧ b ≤ 4) (h8 : ∃ x, B' 8 = nI x ∧ x < 30047) (hm : ∀ i, i < 16 → ∃ v, B' (11 + i) = nI v ∧ v < 1024) : BI B' N ∧ ∀ q, q < 64 → bL B' q = 0 := by
  have hm2 : ∀ w j, w < 4 → j < 4 → B' (11 + 4 * w + j) = nI (bMk B' w j) ∧ bMk B' w j < 1024 := by
    intro w j hw hj
    obtain ⟨v, v1, v2⟩ := hm (4 * w + j) (by omega)
    rw [show 11 + (4 * w + j) = 11 + 4 * w + j by omega] at v1
    have : bMk B' w j = v := by unfold bMk; rw [v1, nI_cl (by omega)]
    rw [this]
    exact ⟨v1, v2⟩
  obtain ⟨a, b', ⟨c1, c2⟩, ⟨x1, x2, d1, d2, d3⟩, e', f1, f2, f3⟩ := hB
  have g := BI_mk (B := B') (N := N) w b (bD B) (bMk B') (fun _ => 0) (bAg B) h0 hw h1 hb (by rw [e 2 (by omega) (by omega) (by omega) (by omega)]; exact c1) c2 ⟨x1, x2, by rw [e 3 (by omega) (by omega) (by omega) (by omega)]; exact d1, by rw [e 4 (by omega) (by omega) (by omega) (by omega)]; exact d2, d3⟩ h8 hm2 (fun p hp => by
    have := f2 p hp
    rw [hE p hp] at this
    rw [e _ (by omega) (by omega) (by omega) (by omega), e _ (by omega) (by omega) (by omega) (by omega), e _ (by omega) (by omega) (by omega) (by omega), e _ (by omega) (by omega) (by omega) (by omega)]
    exact this) (fun p hp hne => absurd rfl hne) (fun p hp _ => by rw [e _ (by omega) (by omega) (by omega) (by omega), e _ (by omega) (by omega) (by omega) (by omega), e _ (by omega) (by omega) (by omega) (by omega), e _ (by omega) (by omega) (by omega) (by omega)]; exact f3.2 p hp (hE p hp))
  exact ⟨g.1, fun q hq => (g.2.2.2.2.2 q hq).1⟩
/-- one mask of a family is laid -/
def stp (a : Int32) (B : Nat → Int32) (w j : Nat) : Nat → Int32 :=
  if a = 2 then bup (bup B 8 (gRem (B 8 * 853 + 461) 30047)) (11 + (4 * w + j)) (gRem (gRem (B 8 * 853 + 461) 30047) 1024)
  else bup B (11 + (4 * w + j)) (if a = 1 then (1 <<< (nI j &&& 31)) ||| (1 <<< ((B 1 + gRem (nI j + nI w) (B 1)) &&& 31)) else 1 <<< (nI j &&& 31))
def fmJ (a : Int32) (B : Nat → Int32) (w : Nat) : Nat → Nat → Int32
  | 0 => B
  | j + 1 => stp a (fmJ a B w j) w j
def fmW (a : Int32) (B : Nat → Int32) (n : Nat) : Nat → Nat → Int32
  | 0 => B
  | w + 1 => fmJ a (fmW a B n w) w n
/-- what laying keeps: all but what was told and the masks -/
def FK (B B' : Nat → Int32) (n : Nat) : Prop := (∀ i, i ≠ 8 → ¬ (11 ≤ i ∧ i < 27) → B' i = B i) ∧ B' 1 = nI n ∧ (∃ y, B' 8 = nI y ∧ y < 30047) ∧ ∀ i, i < 16 → ∃ v, B' (11 + i) = nI v ∧ v < 1024
theorem told_next {y : Nat} (h : y < 30047) : gRem (nI y * 853 + 461) 30047 = nI ((y * 853 + 461) % 30047) := by
  rw [li853, li461, li30047, pk_mul, nI_add, nI_rem (by omega) (by omega) (by omega)]
theorem two_shl {j : Nat} (h : j < 30) : (1 : Int32) <<< (nI j &&& 31) = nI (2 ^ j) := by
  have h2 : 2 ^ j ≤ 2 ^ 30 := Nat.pow_le_pow_right (by omega) (by omega)
  rw [li1, nI_shl (by omega) (by rw [Nat.one_mul]; omega), Nat.one_mul]
theorem FK_stp {a : Int32} {B B' : Nat → Int32} {n w j : Nat} (hn : 1 ≤ n ∧ n ≤ 4) (hw : w < 4) (hj : j < n) (h : FK B B' n) : FK B (stp a B' w j) n := by
  obtain ⟨h1, h2, ⟨y, h3, h4⟩, h5⟩ := h
  have hv : ∀ v : Nat, v < 1024 → ∀ B2, (∀ i, i < 16 → ∃ v, B2 (11 + i) = nI v ∧ v < 1024) → ∀ i, i < 16 → ∃ u, bup B2 (11 + (4 * w + j)) (nI v) (11 + i) = nI u ∧ u < 1024 := by
    intro v hv B2 hB2 i hi
    rw [bup_at]
    split
    · exact ⟨v, rfl, hv⟩
    · exact hB2 i hi
  unfold stp
  split
  · rw [h3, told_next h4, li1024, nI_rem (by omega) (by omega) (by omega)]
    refine ⟨fun i h8 hi => by rw [bup_ne (by omega), bup_ne h8]; exact h1 i h8 hi, by rw [bup_ne (by omega), bup_ne (by omega)]; exact h2, ⟨_, by rw [bup_ne (by omega), bup_eq], Nat.mod_lt _ (by omega)⟩, hv _ (Nat.mod_lt _ (by omega)) _ (fun i hi => by rw [bup_ne (by omega)]; exact h5 i hi)⟩
  · have hbd : ∃ v : Nat, v < 1024 ∧ (if a = 1 then ((1 : Int32) <<< (nI j &&& 31)) ||| (1 <<< ((B' 1 + gRem (nI j + nI w) (B' 1)) &&& 31)) else 1 <<< (nI j &&& 31)) = nI v := by
      have hj2 : 2 ^ j < 2 ^ 10 := Nat.pow_lt_pow_right (by omega) (by omega)
      split
      · have hmod : (j + w) % n < n := Nat.mod_lt _ (by omega)
        have hk2 : 2 ^ (n + (j + w) % n) < 2 ^ 10 := Nat.pow_lt_pow_right (by omega) (by omega)
        rw [h2, nI_add, nI_rem (by omega) (by omega) (by omega), nI_add, two_shl (by omega), two_shl (by omega), nI_or]
        exact ⟨_, Nat.or_lt_two_pow hj2 hk2, rfl⟩
      · rw [two_shl (by omega)]
        exact ⟨_, hj2, rfl⟩
    obtain ⟨v, v1, v2⟩ := hbd
    rw [v2]
    exact ⟨fun i h8 hi => by rw [bup_ne (by omega)]; exact h1 i h8 hi, by rw [bup_ne (by omega)]; exact h2, ⟨y, by rw [bup_ne (by omega)]; exact h3, h4⟩, hv v v1 _ h5⟩
theorem FK_fmJ {a : Int32} {B B' : Nat → Int32} {n w : Nat} (hn : 1 ≤ n ∧ n ≤ 4) (hw : w < 4) (h : FK B B' n) : ∀ j, j ≤ n → FK B (fmJ a B' w j) n := by
  intro j
  induction j with
  | zero => intro _; exact h
  | succ j ih => intro hj; exact FK_stp hn hw (by omega) (ih (by omega))
theorem FK_fmW {a : Int32} {B : Nat → Int32} {n : Nat} (hn : 1 ≤ n ∧ n ≤ 4) (h : FK B B n) : ∀ w, w ≤ 4 → FK B (fmW a B n w) n := by
  intro w
  induction w with
  | zero => intro _; exact h
  | succ w ih => intro hw; exact FK_fmJ hn (by omega) (ih (by omega)) n (Nat.le_refl _)
def FK2 (B B' : Nat → Int32) (n : Nat) : Prop := (∀ i, i ≠ 8 → ¬ (11 ≤ i ∧ i < 27) → B' i = B i) ∧ B' 1 = nI n
theorem FK2_stp {a : Int32} {B B' : Nat → Int32} {n w j : Nat} (hw : w < 4) (hj : j < 4) (h : FK2 B B' n) : FK2 B (stp a B' w j) n := by
  unfold stp
  split
  · exact ⟨fun i h8 hi => by rw [bup_ne (by omega), bup_ne h8]; exact h.1 i h8 hi, by rw [bup_ne (by omega), bup_ne (by omega)]; exact h.2⟩
  · exact ⟨fun i h8 hi => by rw [bup_ne (by omega)]; exact h.1 i h8 hi, by rw [bup_ne (by omega)]; exact h.2⟩
theorem FK2_fmJ {a : Int32} {B B' : Nat → Int32} {n w : Nat} (hw : w < 4) (h : FK2 B B' n) : ∀ j, j ≤ 4 → FK2 B (fmJ a B' w j) n := by
  intro j
  induction j with
  | zero => intro _; exact h
  | succ j ih => intro hj; exact FK2_stp hw (by omega) (ih (by omega))
theorem FK2_fmW {a : Int32} {B : Nat → Int32} {n : Nat} (hn : 1 ≤ n ∧ n ≤ 4) (h : FK2 B B n) : ∀ w, w ≤ 4 → FK2 B (fmW a B n w) n := by
  intro w
  induction w with
  | zero => intro _; exact h
  | succ w ih => intro hw; exact FK2_fmJ (by omega) (ih (by omega)) n hn.2
theorem x_setF {m : gM} {k N n w : Nat} {a : Int32} {B : Nat → Int32} (hR : RS m k B N) (h0 : B 0 = nI w) (hw : w ≤ 4) (hn : 1 ≤ n ∧ n ≤ 4) (hF : FK2 B B n) : ∃ m', X3_setFamily k a m = some ((), m') ∧ RS m' k (fmW a B n w) N ∧ Eqv (pCo k) m m' := by
  unfold X3_setFamily
  refine gL1_for (fun i σ => RS σ k (fmW a B n i) N ∧ Eqv (pCo k) m σ) (fun r => ∃ m', r = some ((), m') ∧ RS m' k (fmW a B n w) N ∧ Eqv (pCo k) m m') w ?_ ?_ FU 0 m (Nat.zero_le _) (by rw [FU_eq]; omega) ⟨hR, Eqv.rf⟩
  · rintro i σ K hi ⟨g1, g2⟩ hK
    have hFi := FK2_fmW (a := a) hn hF i (by omega)
    unfold X3_setFamily_b2
    rw [g1.1.1, hFi.1 0 (by omega) (by omega), h0, if_neg (by rw [nI_leq (by omega) (by omega)]; omega)]
    refine gL1_for (fun j τ => RS τ k (fmJ a (fmW a B n i) i j) N ∧ Eqv (pCo k) m τ) (fun r => ∃ m', r = some ((), m') ∧ RS m' k (fmW a B n w) N ∧ Eqv (pCo k) m m') n ?_ ?_ FU 0 σ (Nat.zero_le _) (by rw [FU_eq]; omega) ⟨g1, g2⟩
    · rintro j τ K2 hj ⟨s1, s2⟩ hK2
      have hFj := FK2_fmJ (a := a) (show i < 4 by omega) hFi j (by omega)
      unfold X3_setFamily_b12
      have hma : X8_maskAt (nI i) (nI j) τ = some (nI (4 * i + j), τ) := by
        unfold X8_maskAt
        rw [li4, pk_mul, nI_add, Nat.mul_comm]
      rw [s1.1.2.1, hFj.2, if_neg (by rw [nI_leq (by omega) (by omega)]; omega), gCall_eq hma]
      unfold X3_maskOfFamily
      by_cases ha : a = 2
      · rw [if_pos ha, gLet]
        simp only [gSet]
        rw [gCall_some, gPut_nI (show 4 * i + j < 16 by omega) (by omega), gup_at, if_pos rfl, gLet, nI_1, s1.1.2.2.2]
        refine hK2 _ ⟨?_, (s2.tr (Eqv.up (by unfold pCo; omega))).tr (Eqv.up (by unfold pCo; omega))⟩
        simp only [fmJ, stp]
        rw [if_pos ha]
        exact RS_u25 (RS_f3 s1 _) (by omega) _
      · rw [if_neg ha, gLet]
        by_cases hb : a = 1
        · rw [if_pos hb, s1.1.2.1, hFj.2, if_neg (fun z => absurd ((nI_z (by omega)).mp z) (by omega)), gCall_some, gPut_nI (show 4 * i + j < 16 by omega) (by omega), gLet, nI_1]
          refine hK2 _ ⟨?_, s2.tr (Eqv.up (by unfold pCo; omega))⟩
          simp only [fmJ, stp]
          rw [if_neg ha, if_pos hb, hFj.2]
          exact RS_u25 s1 (by omega) _
        · rw [if_neg hb, gCall_some, gPut_nI (show 4 * i + j < 16 by omega) (by omega), gLet, nI_1]
          refine hK2 _ ⟨?_, s2.tr (Eqv.up (by unfold pCo; omega))⟩
          simp only [fmJ, stp]
          rw [if_neg ha, if_neg hb]
          exact RS_u25 s1 (by omega) _
    · rintro τ K2 ⟨s1, s2⟩
      have hFj := FK2_fmJ (a := a) (show i < 4 by omega) hFi n (by omega)
      unfold X3_setFamily_b12
      rw [s1.1.2.1, hFj.2, if_pos (by rw [nI_leq (by omega) (by omega)]; omega), gLet, nI_1]
      exact hK _ ⟨s1, s2⟩
  · rintro σ K ⟨g1, g2⟩
    have hFi := FK2_fmW (a := a) hn hF w hw
    unfold X3_setFamily_b2
    rw [g1.1.1, hFi.1 0 (by omega) (by omega), h0, if_pos (by rw [nI_leq (by omega) (by omega)]; omega)]
    exact ⟨σ, rfl, g1, g2⟩
theorem m_layF {m : gM} {n w : Nat} {a : Int32} {B : Nat → Int32} (hm : mB m = B) (h0 : B 0 = nI w) (hw : w ≤ 4) (hn : 1 ≤ n ∧ n ≤ 4) (hF : FK B B n) (ha3 : a = 0 ∨ a = 1 ∨ a = 2) : ∃ m', X9_layFamily a m = some ((), m') ∧ mB m' = fmW a B n w ∧ Eqv pBk m m' := by
  unfold X9_layFamily
  refine gL1_for (fun i σ => mB σ = fmW a B n i ∧ Eqv pBk m σ) (fun r => ∃ m', r = some ((), m') ∧ mB m' = fmW a B n w ∧ Eqv pBk m m') w ?_ ?_ FU 0 m (Nat.zero_le _) (by rw [FU_eq]; omega) ⟨hm, Eqv.rf⟩
  · rintro i σ K hi ⟨g1, g2⟩ hK
    have hFi := FK_fmW (a := a) hn hF i (by omega)
    unfold X9_layFamily_b2
    rw [show (36 : Int32) = nI (36 + 0) from rfl, m_get (by omega), g1, hFi.1 0 (by omega) (by omega), h0, if_neg (by rw [nI_leq (by omega) (by omega)]; omega)]
    refine gL1_for (fun j τ => mB τ = fmJ a (fmW a B n i) i j ∧ Eqv pBk m τ) (fun r => ∃ m', r = some ((), m') ∧ mB m' = fmW a B n w ∧ Eqv pBk m m') n ?_ ?_ FU 0 σ (Nat.zero_le _) (by rw [FU_eq]; omega) ⟨g1, g2⟩
    · rintro j τ K2 hj ⟨s1, s2⟩ hK2
      have hFj := FK_fmJ (a := a) hn (show i < 4 by omega) hFi j (by omega)
      unfold X9_layFamily_b15
      have hma : X9_maskAt (nI i) (nI j) τ = some (nI (36 + (11 + (4 * i + j))), τ) := by
        unfold X9_maskAt
        rw [li47, li4, pk_mul, nI_add, nI_add, show 47 + 4 * i + j = 36 + (11 + (4 * i + j)) by omega]
      rw [show (37 : Int32) = nI (36 + 1) from rfl, m_get (by omega), s1, hFj.2.1, if_neg (by rw [nI_leq (by omega) (by omega)]; omega), gCall_eq hma]
      unfold X9_maskBy
      by_cases ha : a = 2
      · unfold X9_drawn
        rw [if_pos ha, show (44 : Int32) = nI (36 + 8) from rfl, m_get (by omega), m_put (by omega), m_get (by omega), gCall_some, gCall_some, m_put (by omega), gLet, nI_1, mB_up, bup_eq, s1]
        refine hK2 _ ⟨?_, (s2.tr (Eqv_bk (by omega))).tr (Eqv_bk (by omega))⟩
        rw [mB_up, mB_up, s1]
        simp only [fmJ, stp]
        rw [if_pos ha]
      · rw [if_neg ha]
        by_cases hb : a = 1
        · rw [if_neg (by rw [hb]; decide), show (37 : Int32) = nI (36 + 1) from rfl, m_get (by omega), m_get (by omega), s1, hFj.2.1, if_neg (fun z => absurd ((nI_z (by omega)).mp z) (by omega)), gCall_some, m_put (by omega), gLet, nI_1]
          refine hK2 _ ⟨?_, s2.tr (Eqv_bk (by omega))⟩
          rw [mB_up, s1]
          simp only [fmJ, stp]
          rw [if_neg ha, if_pos hb, hFj.2.1]
        · have h00 : a = 0 := by rcases ha3 with z | z | z; exact z; exact absurd z hb; exact absurd z ha
          rw [if_pos h00, gCall_some, m_put (by omega), gLet, nI_1]
          refine hK2 _ ⟨?_, s2.tr (Eqv_bk (by omega))⟩
          rw [mB_up, s1]
          simp only [fmJ, stp]
          rw [if_neg ha, if_neg hb]
    · rintro τ K2 ⟨s1, s2⟩
      have hFj := FK_fmJ (a := a) hn (show i < 4 by omega) hFi n (Nat.le_refl _)
      unfold X9_layFamily_b15
      rw [show (37 : Int32) = nI (36 + 1) from rfl, m_get (by omega), s1, hFj.2.1, if_pos (by rw [nI_leq (by omega) (by omega)]; omega), gLet, nI_1]
      exact hK _ ⟨s1, s2⟩
  · rintro σ K ⟨g1, g2⟩
    have hFi := FK_fmW (a := a) hn hF w hw
    unfold X9_layFamily_b2
    rw [show (36 : Int32) = nI (36 + 0) from rfl, m_get (by omega), g1, hFi.1 0 (by omega) (by omega), h0, if_pos (by rw [nI_leq (by omega) (by omega)]; omega)]
    exact ⟨σ, rfl, g1, g2⟩
