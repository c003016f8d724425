/-! LAYER 2: the calls that only read. -/
theorem INV.rs {x m : gM} {N : Nat} (h : INV x m N) : RS x 0 (mB m) N := h.1.1.1
theorem INV.bi {x m : gM} {N : Nat} (h : INV x m N) : BI (mB m) N := h.1.1.2
theorem isIn_T {a lo hi : Nat} (h1 : lo ≤ a) (h2 : a ≤ hi) (hh : hi < 2147483648) (m : gM) : X9_isIn (nI a) (nI lo) (nI hi) m = some (true, m) := by
  unfold X9_isIn
  rw [if_neg (by rw [nI_ltt (by omega) (by omega)]; omega), if_neg (by rw [nI_ltt (by omega) (by omega)]; omega)]
/-- a number that isn't one of lo .. hi -/
def Out (a : Int32) (lo hi : Nat) : Prop := a < 0 ∨ ∃ j, j < 2147483648 ∧ a = nI j ∧ (j < lo ∨ hi < j)
theorem in_out (a : Int32) (lo hi : Nat) : (∃ j, lo ≤ j ∧ j ≤ hi ∧ j < 2147483648 ∧ a = nI j) ∨ Out a lo hi := by
  rcases nI_any a with h | ⟨j, hj, rfl⟩
  · exact Or.inr (Or.inl h)
  · by_cases hr : lo ≤ j ∧ j ≤ hi
    · exact Or.inl ⟨j, hr.1, hr.2, hj, rfl⟩
    · exact Or.inr (Or.inr ⟨j, hj, rfl, by omega⟩)
theorem isIn_F {a : Int32} {lo hi : Nat} (h : Out a lo hi) (h1 : lo < 2147483648) (h2 : hi < 2147483648) (m : gM) : X9_isIn a (nI lo) (nI hi) m = some (false, m) := by
  unfold X9_isIn
  rcases h with h | ⟨j, hj, rfl, h | h⟩
  · rw [if_pos (neg_lt h h1)]
  · rw [if_pos (by rw [nI_ltt hj h1]; exact h)]
  · by_cases q : nI j < nI lo
    · rw [if_pos q]
    · rw [if_neg q, if_pos (by rw [nI_ltt h2 hj]; exact h)]
theorem Out.lt0 {a : Int32} {hi : Nat} (h : Out a 0 hi) : a < 0 ∨ ∃ j, j < 2147483648 ∧ a = nI j ∧ hi < j := by
  rcases h with h | ⟨j, hj, e, h⟩
  · exact Or.inl h
  · exact Or.inr ⟨j, hj, e, by omega⟩
/-- isIn of nothing: 0 .. -1 -/
theorem isIn_0 (a : Int32) (m : gM) : X9_isIn a 0 (-1) m = some (false, m) := by
  unfold X9_isIn
  rcases nI_any a with h | ⟨j, hj, rfl⟩
  · rw [if_pos h]
  · rw [if_neg (nI_neg hj), if_pos (neg_lt (by decide) hj)]
theorem isIn_n (a : Int32) {n : Nat} (hn : n < 2147483648) (m : gM) : (∃ j, j < n ∧ a = nI j ∧ X9_isIn a 0 (nI n - 1) m = some (true, m)) ∨ ((a < 0 ∨ ∃ j, j < 2147483648 ∧ a = nI j ∧ n ≤ j) ∧ X9_isIn a 0 (nI n - 1) m = some (false, m)) := by
  by_cases h0 : n = 0
  · subst h0
    refine Or.inr ⟨?_, isIn_0 a m⟩
    rcases nI_any a with h | ⟨j, hj, rfl⟩
    · exact Or.inl h
    · exact Or.inr ⟨j, hj, rfl, Nat.zero_le _⟩
  · rw [nI_sub1 (by omega)]
    rcases in_out a 0 (n - 1) with ⟨j, h1, h2, h3, rfl⟩ | h
    · exact Or.inl ⟨j, by omega, rfl, isIn_T h1 h2 (by omega) m⟩
    · refine Or.inr ⟨?_, isIn_F h (by omega) (by omega) m⟩
      rcases h.lt0 with h | ⟨j, hj, e, h⟩
      · exact Or.inl h
      · exact Or.inr ⟨j, hj, e, by omega⟩
theorem lineT {l : Nat} (h : l < 1024) (m : gM) : X8_isLine (nI l) m = some (true, m) ∧ X9_isLine (nI l) m = some (true, m) := by
  constructor
  · unfold X8_isLine
    rw [if_neg (nI_neg (by omega)), if_neg (by rw [li1024, nI_leq (by omega) (by omega)]; omega)]
  · unfold X9_isLine
    rw [li0, li1023, gCall_eq (isIn_T (Nat.zero_le _) (by omega) (by omega) m)]
theorem line_cases (a : Int32) : (∃ l, l < 1024 ∧ a = nI l) ∨ ((∀ m, X8_isLine a m = some (false, m)) ∧ ∀ m, X9_isLine a m = some (false, m)) := by
  rcases in_out a 0 1023 with ⟨j, h1, h2, h3, rfl⟩ | h
  · exact Or.inl ⟨j, by omega, rfl⟩
  · refine Or.inr ⟨fun m => ?_, fun m => ?_⟩
    · unfold X8_isLine
      rcases h.lt0 with h | ⟨j, hj, rfl, h⟩
      · rw [if_pos h]
      · rw [if_neg (nI_neg hj), if_pos (by rw [li1024, nI_leq (by omega) hj]; omega)]
    · unfold X9_isLine
      rw [li0, li1023, gCall_eq (isIn_F h (by omega) (by omega) m)]
theorem wayT {x m : gM} {N : Nat} (h : INV x m N) {w : Nat} (hw : w < bW (mB m)) : X8_isWay (nI w) x = some (true, x) ∧ X9_isWay (nI w) m = some (true, m) := by
  have hb := h.bi.1
  constructor
  · unfold X8_isWay
    rw [if_neg (nI_neg (by omega)), if_neg (by rw [h.rs.1.1, hb.1, nI_leq (by omega) (by omega)]; omega)]
  · unfold X9_isWay
    rw [li36, gAt_nI (show 36 < 30843 by omega) (by omega), show m 47 0 36 = nI (bW (mB m)) from hb.1]
    rcases isIn_n (nI w) (n := bW (mB m)) (by omega) m with ⟨j, h1, h2, h3⟩ | ⟨h1, h2⟩
    · rw [gCall_eq h3]
    · exfalso
      rcases h1 with h1 | ⟨j, hj, e, h1⟩
      · exact nI_neg (by omega) h1
      · rw [nI_inj (by omega) hj] at e; omega
theorem way_cases {x m : gM} {N : Nat} (h : INV x m N) (a : Int32) : (∃ w, w < bW (mB m) ∧ a = nI w) ∨ (X8_isWay a x = some (false, x) ∧ X9_isWay a m = some (false, m)) := by
  have hb := h.bi.1
  rcases isIn_n a (n := bW (mB m)) (by omega) m with ⟨j, h1, h2, h3⟩ | ⟨h1, h2⟩
  · exact Or.inl ⟨j, h1, h2⟩
  · refine Or.inr ⟨?_, ?_⟩
    · unfold X8_isWay
      rcases h1 with h1 | ⟨j, hj, rfl, h1⟩
      · rw [if_pos h1]
      · rw [if_neg (nI_neg hj), if_pos (by rw [h.rs.1.1, hb.1, nI_leq (by omega) (by omega)]; omega)]
    · unfold X9_isWay
      rw [li36, gAt_nI (show 36 < 30843 by omega) (by omega), show m 47 0 36 = nI (bW (mB m)) from hb.1, gCall_eq h2]
theorem x_slots {m : gM} {k N : Nat} {B : Nat → Int32} (hR : RS m k B N) (hB : BI B N) : X3_slotsOfWay k m = some (nI (2 ^ bN B), m) := by
  unfold X3_slotsOfWay
  have hb := hB.2.1
  have : 2 ^ bN B ≤ 2 ^ 4 := Nat.pow_le_pow_right (by omega) (by omega)
  rw [hR.1.2.1, hb.1, li1, nI_shl (by omega) (by omega), Nat.one_mul]
theorem m_slots {m : gM} {N : Nat} (hB : BI (mB m) N) : X9_slotsOf m = some (nI (2 ^ bN (mB m)), m) := by
  unfold X9_slotsOf
  have hb := hB.2.1
  have : 2 ^ bN (mB m) ≤ 2 ^ 4 := Nat.pow_le_pow_right (by omega) (by omega)
  rw [li37, gAt_nI (show 37 < 30843 by omega) (by omega), show m 47 0 37 = nI (bN (mB m)) from hb.1, li1, nI_shl (by omega) (by omega), Nat.one_mul]
theorem pow_b {B : Nat → Int32} {N : Nat} (hB : BI B N) : 2 ≤ 2 ^ bN B ∧ 2 ^ bN B ≤ 16 := by
  have hb := hB.2.1
  have h1 : 2 ^ bN B ≤ 2 ^ 4 := Nat.pow_le_pow_right (by omega) (by omega)
  have h2 : 2 ^ 1 ≤ 2 ^ bN B := Nat.pow_le_pow_right (by omega) (by omega)
  omega
theorem x_slotsAll {m : gM} {k N : Nat} {B : Nat → Int32} (hR : RS m k B N) (hB : BI B N) : X3_slotsInAll k m = some (nI (bW B * 2 ^ bN B), m) := by
  unfold X3_slotsInAll
  have hb := hB.2.1
  have hw := hB.1
  have hp := pow_b hB
  have := Nat.mul_le_mul hw.2.2 hp.2
  rw [hR.1.2.1, hb.1, hR.1.1, hw.1, nI_shl (by omega) (by omega)]
theorem m_slotsAll {m : gM} {N : Nat} (hB : BI (mB m) N) : X9_slotsAll m = some (nI (bW (mB m) * 2 ^ bN (mB m)), m) := by
  unfold X9_slotsAll
  rw [li36, gAt_nI (show 36 < 30843 by omega) (by omega), show m 47 0 36 = nI (bW (mB m)) from hB.1.1, gCall_eq (m_slots hB), pk_mul]
/-- a slot's row in the block, read by the reference -/
theorem m_row {m : gM} {p j : Nat} (hp : p < 64) (hj : j < 5) {β : Type} {kk : Int32 → Option β} : gAt m 47 0 ((63 + 5 * nI p) + nI j) kk = kk (mB m (27 + 5 * p + j)) := by
  rw [show ((63 + 5 * nI p) + nI j : Int32) = nI (63 + 5 * p + j) by rw [li63, li5, pk_mul, nI_add, nI_add], gAt_nI (show 63 + 5 * p + j < 30843 by omega) (by omega)]
  show kk (m 47 0 (63 + 5 * p + j)) = kk (m 47 0 (36 + (27 + 5 * p + j)))
  rw [show 63 + 5 * p + j = 36 + (27 + 5 * p + j) by omega]
theorem m_at {m : gM} {a : Int32} {β : Type} {kk : Int32 → gM → Option β} : gCall (X9_at a m) kk = kk (63 + 5 * a) m := rfl
/-- how many places below n have what p says -/
def cntP (p : Nat → Bool) : Nat → Nat
  | 0 => 0
  | n + 1 => cntP p n + (if p n then 1 else 0)
theorem cntP_le (p : Nat → Bool) : ∀ n, cntP p n ≤ n := by
  intro n
  induction n with
  | zero => exact Nat.le_refl _
  | succ n ih => simp only [cntP]; split <;> omega
theorem cntP_congr {p q : Nat → Bool} : ∀ n, (∀ i, i < n → p i = q i) → cntP p n = cntP q n := by
  intro n
  induction n with
  | zero => intro _; rfl
  | succ n ih => intro h; simp only [cntP]; rw [ih (fun i hi => h i (by omega)), h n (by omega)]
/-- a loop that counts over i = 0 .. e less 1, memory as it is -/
theorem gL2_cnt {β : Type} {m : gM} (p : Nat → Bool) (e : Nat) {R : Option β} {f : Int32 → Int32 → gM → (Int32 → Int32 → gM → Option β) → Option β} (hs : ∀ i c K, i < e → c ≤ i → f (nI c) (nI i) m K = K (nI (c + (if p i then 1 else 0))) (nI (i + 1)) m) (hx : ∀ K, f (nI (cntP p e)) (nI e) m K = R) (he : e < FU) : gL2 FU f 0 0 m = R := by
  refine gL2_for (fun i x σ => σ = m ∧ x = nI (cntP p i)) (fun o => o = R) e ?_ ?_ FU 0 0 m (Nat.zero_le _) (by omega) ⟨rfl, rfl⟩
  · rintro i x σ K hi ⟨rfl, rfl⟩ hK
    rw [hs i _ K hi (cntP_le p i)]
    exact hK _ _ ⟨rfl, rfl⟩
  · rintro x σ K ⟨rfl, rfl⟩
    exact hx K
theorem x_held {m : gM} {k N : Nat} {B : Nat → Int32} (hR : RS m k B N) (hB : BI B N) : X3_linesHeld k m = some (nI (cntP (fun p => decide (bL B p ≠ 0)) 64), m) := by
  unfold X3_linesHeld
  refine gL2_cnt (fun p => decide (bL B p ≠ 0)) 64 (fun i c K hi hc => ?_) (fun K => ?_) (by rw [FU_eq]; omega)
  · unfold X3_linesHeld_b4
    rw [if_neg (by rw [li64, nI_leq (by omega) (by omega)]; omega), gAt_nI (show i < 64 by omega) (by omega), hR.2.2.2.2.1 i hi]
    have hs := hB.2.2.2.2.2.2.1 i hi
    rw [hs.1]
    by_cases h0 : bL B i = 0
    · rw [if_pos ((line_none hs.2.1).mpr h0)]
      simp only [gLet, h0, nI_1]
      rfl
    · rw [if_neg (fun q => h0 ((line_none hs.2.1).mp q))]
      simp only [gLet, nI_1]
      rw [if_pos (by simpa using h0)]
  · unfold X3_linesHeld_b4
    rw [if_pos (by rw [li64, nI_leq (by omega) (by omega)]; omega)]
theorem m_held {m : gM} {N : Nat} (hB : BI (mB m) N) : X9_inSlots m = some (nI (cntP (fun p => decide (bL (mB m) p ≠ 0)) 64), m) := by
  unfold X9_inSlots
  refine gL2_cnt (fun p => decide (bL (mB m) p ≠ 0)) 64 (fun i c K hi hc => ?_) (fun K => ?_) (by rw [FU_eq]; omega)
  · unfold X9_inSlots_b4
    rw [if_neg (by rw [li64, nI_leq (by omega) (by omega)]; omega), gCall_eq (X9_la hB hi)]
    have hs := hB.2.2.2.2.2.2.1 i hi
    by_cases h0 : bL (mB m) i = 0
    · rw [if_pos ((line_none hs.2.1).mpr h0)]
      simp only [gLet, h0, nI_1]
      rw [li0, nI_add]
      rfl
    · rw [if_neg (fun q => h0 ((line_none hs.2.1).mp q))]
      simp only [gLet, nI_1]
      rw [if_pos (by simpa using h0)]
  · unfold X9_inSlots_b4
    rw [if_pos (by rw [li64, nI_leq (by omega) (by omega)]; omega)]
/-- pinned ones are counted as the sum of the flags -/
def pnN (B : Nat → Int32) (p : Nat) : Bool := decide (B (31 + 5 * p) = 1)
theorem pn_eq {B : Nat → Int32} {N p : Nat} (hB : BI B N) (hp : p < 64) : B (31 + 5 * p) = nI (if pnN B p then 1 else 0) := by
  rcases (hB.2.2.2.2.2.2.1 p hp).2.2.2.2 with h | h <;> rw [pnN, h] <;> rfl
theorem x_pinned {m : gM} {k N : Nat} {B : Nat → Int32} (hR : RS m k B N) (hB : BI B N) : X3_linesPinned k m = some (nI (cntP (pnN B) 64), m) := by
  unfold X3_linesPinned
  refine gL2_cnt (pnN B) 64 (fun i c K hi hc => ?_) (fun K => ?_) (by rw [FU_eq]; omega)
  · unfold X3_linesPinned_b4
    rw [if_neg (by rw [li64, nI_leq (by omega) (by omega)]; omega), gAt_nI (show i < 64 by omega) (by omega), hR.2.2.2.2.2.2.2.2.1 i hi, pn_eq hB hi]
    simp only [gLet, nI_1, nI_add]
  · unfold X3_linesPinned_b4
    rw [if_pos (by rw [li64, nI_leq (by omega) (by omega)]; omega)]
theorem m_pinned {m : gM} {N : Nat} (hB : BI (mB m) N) : X9_pinned m = some (nI (cntP (pnN (mB m)) 64), m) := by
  unfold X9_pinned
  refine gL2_cnt (pnN (mB m)) 64 (fun i c K hi hc => ?_) (fun K => ?_) (by rw [FU_eq]; omega)
  · unfold X9_pinned_b4
    rw [if_neg (by rw [li64, nI_leq (by omega) (by omega)]; omega), m_at, li4, m_row hi (by omega), show 27 + 5 * i + 4 = 31 + 5 * i by omega, pn_eq hB hi]
    simp only [gLet, nI_1, nI_add]
  · unfold X9_pinned_b4
    rw [if_pos (by rw [li64, nI_leq (by omega) (by omega)]; omega)]
