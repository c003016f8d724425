/-! LAYER 2: a store. B: the reference's block of 1467 numbers (its a from 36 on); RS: the component's store k holds the same. -/
def bW (B : Nat → Int32) : Nat := (B 0).toNatClampNeg
def bN (B : Nat → Int32) : Nat := (B 1).toNatClampNeg
def bD (B : Nat → Int32) : Nat := (B 2).toNatClampNeg
def bMk (B : Nat → Int32) (w j : Nat) : Nat := (B (11 + 4 * w + j)).toNatClampNeg
def bL (B : Nat → Int32) (p : Nat) : Nat := (B (27 + 5 * p)).toNatClampNeg
def bAg (B : Nat → Int32) (p : Nat) : Nat := (B (30 + 5 * p)).toNatClampNeg
def bIx (B : Nat → Int32) (line w : Nat) : Nat := ixR (bMk B w) line (bN B)
theorem mB_w {B B' : Nat → Int32} (h : B' 0 = B 0) : bW B' = bW B := by unfold bW; rw [h]
theorem mB_n {B B' : Nat → Int32} (h : B' 1 = B 1) : bN B' = bN B := by unfold bN; rw [h]
/-- what a block is like -/
def BI (B : Nat → Int32) (N : Nat) : Prop :=
  (B 0 = nI (bW B) ∧ 1 ≤ bW B ∧ bW B ≤ 4) ∧ (B 1 = nI (bN B) ∧ 1 ≤ bN B ∧ bN B ≤ 4) ∧ (B 2 = nI (bD B) ∧ bD B ≤ 3) ∧
  (∃ h ms, B 3 = nI h ∧ B 4 = nI ms ∧ h + ms ≤ N) ∧ (∃ x, B 8 = nI x ∧ x < 30047) ∧
  (∀ w j, w < 4 → j < 4 → B (11 + 4 * w + j) = nI (bMk B w j) ∧ bMk B w j < 1024) ∧
  (∀ p, p < 64 → B (27 + 5 * p) = nI (bL B p) ∧ bL B p ≤ 1024 ∧ (B (29 + 5 * p) = 0 ∨ B (29 + 5 * p) = 1) ∧ (B (30 + 5 * p) = nI (bAg B p) ∧ bAg B p ≤ 3) ∧ (B (31 + 5 * p) = 0 ∨ B (31 + 5 * p) = 1)) ∧
  ((∀ p, p < 64 → bL B p ≠ 0 → p / 16 < bW B ∧ p % 16 = bIx B (bL B p - 1) (p / 16)) ∧ ∀ p, p < 64 → bL B p = 0 → B (28 + 5 * p) = 0 ∧ B (29 + 5 * p) = 0 ∧ B (30 + 5 * p) = 0 ∧ B (31 + 5 * p) = 0)
/-- the component's store k and the block -/
def RS (m : gM) (k : Nat) (B : Nat → Int32) (N : Nat) : Prop :=
  (m 3 k 0 = B 0 ∧ m 3 k 1 = B 1 ∧ m 3 k 2 = B 2 ∧ m 3 k 3 = B 8) ∧
  (m 26 k 0 = B 3 ∧ m 26 k 1 = B 4 ∧ m 26 k 2 = B 5 ∧ m 26 k 3 = B 6 ∧ m 26 k 4 = B 7 ∧ m 26 k 5 = B 9) ∧
  (∀ i, i < 16 → i / 4 < bW B → i % 4 < bN B → m 25 k i = B (11 + i)) ∧ (∀ i, i < 1024 → m 28 k i = B (347 + i)) ∧
  (∀ p, p < 64 → m 29 k p = B (27 + 5 * p) - 1) ∧ (∀ p, p < 64 → m 30 k p = B (28 + 5 * p)) ∧ (∀ p, p < 64 → m 31 k p = B (29 + 5 * p)) ∧ (∀ p, p < 64 → m 32 k p = B (30 + 5 * p)) ∧ (∀ p, p < 64 → m 33 k p = B (31 + 5 * p)) ∧
  (∃ nb, m 3 k 4 = nI nb ∧ nb ≤ N ∧ B 10 = nI (min nb 24) ∧ ∀ i j, i < min nb 24 → j < 4 → m 27 k ((nb - min nb 24 + i) % 24 * 4 + j) = B (1371 + 4 * i + j))
def mB (m : gM) : Nat → Int32 := fun i => m 47 0 (36 + i)
/-- the least way in which a block has a line, among w ways and on -/
def bFind (B : Nat → Int32) (line : Nat) : Nat → Option Nat
  | 0 => none
  | w + 1 => match bFind B line w with
    | some p => some p
    | none => if bL B (16 * w + bIx B line w) = line + 1 then some (16 * w + bIx B line w) else none
/-- where a block has a line -/
def bAt (B : Nat → Int32) (line : Nat) : Option Nat := bFind B line (bW B)
def oI : Option Nat → Int32
  | none => -1
  | some p => nI p
theorem bIx_lt {B : Nat → Int32} {N : Nat} (h : BI B N) (line w : Nat) : bIx B line w < 16 := by
  have h1 := ixR_lt (bMk B w) line (bN B)
  have h2 : 2 ^ bN B ≤ 2 ^ 4 := Nat.pow_le_pow_right (by omega) h.2.1.2.2
  unfold bIx
  omega
theorem X3_ix {m : gM} {k line w N : Nat} {B : Nat → Int32} (hR : RS m k B N) (hB : BI B N) (hl : line < 1024) (hw' : w < bW B) : X3_indexOf k (nI line) (nI w) m = some (nI (bIx B line w), m) := by
  have hw4 := hB.1.2.2
  have hw : w < 4 := by omega
  refine X3_indexOf_ok (by rw [hR.1.2.1]; exact hB.2.1.1) hB.2.1.2.2 hw (fun j hj => ?_) hl
  have hb := hB.2.1.2.2
  rw [hR.2.2.1 (4 * w + j) (by omega) (by omega) (by omega), show 11 + (4 * w + j) = 11 + 4 * w + j by omega]
  exact (hB.2.2.2.2.2.1 w j hw (by omega)).1
theorem X9_ix {m : gM} {line w N : Nat} (hB : BI (mB m) N) (hl : line < 1024) (hw : w < 4) : X9_indexOf (nI line) (nI w) m = some (nI (bIx (mB m) line w), m) := by
  have hb := hB.2.1.2.2
  refine X9_indexOf_ok hB.2.1.1 hb hw (fun j hj => ?_) hl
  have h1 := (hB.2.2.2.2.2.1 w j hw (by omega)).1
  rw [← h1]
  show m 47 0 (47 + 4 * w + j) = m 47 0 (36 + (11 + 4 * w + j))
  congr 1; omega
theorem X3_pi {m : gM} {k line w N : Nat} {B : Nat → Int32} (hR : RS m k B N) (hB : BI B N) (hl : line < 1024) (hw : w < bW B) : X3_placeIn k (nI line) (nI w) m = some (nI (16 * w + bIx B line w), m) := by
  unfold X3_placeIn
  rw [gCall_eq (X3_ix hR hB hl hw)]
  rw [show nI w * 16 + nI (bIx B line w) = nI (16 * w + bIx B line w) by rw [show (16 : Int32) = nI 16 from rfl, pk_mul, nI_add, Nat.mul_comm]]
theorem X9_pi {m : gM} {line w N : Nat} (hB : BI (mB m) N) (hl : line < 1024) (hw : w < 4) : X9_placeOf (nI line) (nI w) m = some (nI (16 * w + bIx (mB m) line w), m) := by
  unfold X9_placeOf
  rw [gCall_eq (X9_ix hB hl hw)]
  rw [show 16 * nI w + nI (bIx (mB m) line w) = nI (16 * w + bIx (mB m) line w) by rw [show (16 : Int32) = nI 16 from rfl, pk_mul, nI_add]]
theorem nI_m1 {a : Nat} (h : a < 2147483648) : nI a - 1 = if a = 0 then -1 else nI (a - 1) := by
  by_cases h0 : a = 0
  · subst h0; rfl
  · rw [if_neg h0, nI_sub1 (by omega)]
theorem line_eq {l line : Nat} (hl : l ≤ 1024) (hn : line < 1024) : nI l - 1 = nI line ↔ l = line + 1 := by
  rw [nI_m1 (by omega)]
  by_cases h0 : l = 0
  · rw [if_pos h0]
    constructor
    · intro h; exact absurd h.symm (nI_nm1 (by omega))
    · intro h; omega
  · rw [if_neg h0, nI_inj (by omega) (by omega)]; omega
theorem line_none {l : Nat} (hl : l ≤ 1024) : nI l - 1 = -1 ↔ l = 0 := by
  rw [nI_m1 (by omega)]
  by_cases h0 : l = 0
  · simp [h0]
  · rw [if_neg h0]
    constructor
    · intro h; exact absurd h (nI_nm1 (by omega))
    · intro h; exact absurd h h0
theorem X3_po {m : gM} {k line N : Nat} {B : Nat → Int32} (hR : RS m k B N) (hB : BI B N) (hl : line < 1024) : X3_placeOf k (nI line) m = some (oI (bAt B line), m) := by
  unfold X3_placeOf
  have hw4 := hB.1.2.2
  refine gL1_for (fun i σ' => σ' = m ∧ bFind B line i = none) (fun o => o = some (oI (bAt B line), m)) (bW B) ?_ ?_ FU 0 m (Nat.zero_le _) (by rw [FU_eq]; omega) ⟨rfl, rfl⟩
  · rintro i σ' K hi ⟨rfl, hn⟩ hK
    unfold X3_placeOf_b2
    rw [if_neg (by rw [hR.1.1, hB.1.1, nI_leq (by omega) (by omega)]; omega), gCall_eq (X3_pi hR hB hl (by omega))]
    have hix := bIx_lt hB line i
    rw [gAt_nI (show 16 * i + bIx B line i < 64 by omega) (by omega), hR.2.2.2.2.1 _ (by omega), (hB.2.2.2.2.2.2.1 _ (by omega)).1]
    have hb := (hB.2.2.2.2.2.2.1 (16 * i + bIx B line i) (by omega)).2.1
    by_cases he : bL B (16 * i + bIx B line i) = line + 1
    · rw [if_pos ((line_eq hb hl).mpr he)]
      have : ∀ w, i + 1 ≤ w → bFind B line w = some (16 * i + bIx B line i) := by
        intro w
        induction w with
        | zero => intro h; omega
        | succ w ih =>
          intro h
          by_cases hw : w = i
          · subst hw; simp only [bFind, hn, if_pos he]
          · simp only [bFind, ih (by omega)]
      unfold bAt
      rw [this _ (by omega)]
      rfl
    · rw [if_neg (fun q => he ((line_eq hb hl).mp q))]
      simp only [gLet]
      rw [show (1 : Int32) = nI 1 from rfl, nI_add]
      exact hK _ ⟨rfl, by simp only [bFind, hn, if_neg he]⟩
  · rintro σ' K ⟨rfl, hn⟩
    unfold X3_placeOf_b2
    rw [if_pos (by rw [hR.1.1, hB.1.1, nI_leq (by omega) (by omega)]; omega)]
    unfold bAt
    rw [hn]; rfl
theorem X9_la {m : gM} {p N : Nat} (hB : BI (mB m) N) (hp : p < 64) : X9_lineAt (nI p) m = some (nI (bL (mB m) p) - 1, m) := by
  unfold X9_lineAt X9_at
  simp only [gCall_some]
  rw [show (63 + 5 * nI p + 0 : Int32) = nI (63 + 5 * p) by rw [show (5 : Int32) = nI 5 from rfl, show (63 : Int32) = nI 63 from rfl, pk_mul, nI_add, show (0 : Int32) = nI 0 from rfl, nI_add, Nat.add_zero]]
  rw [gAt_nI (show 63 + 5 * p < 30843 by omega) (by omega), ← (hB.2.2.2.2.2.2.1 p hp).1]
  show some (m 47 0 (63 + 5 * p) - 1, m) = some (m 47 0 (36 + (27 + 5 * p)) - 1, m)
  rw [show 36 + (27 + 5 * p) = 63 + 5 * p by omega]
theorem X9_pw {m : gM} {line N : Nat} (hB : BI (mB m) N) (hl : line < 1024) : X9_placeWith (nI line) m = some (oI (bAt (mB m) line), m) := by
  unfold X9_placeWith
  simp only [gJ1]
  have hw4 := hB.1.2.2
  refine gL1_for (fun i σ' => σ' = m ∧ bFind (mB m) line i = none) (fun o => o = some (oI (bAt (mB m) line), m)) (bW (mB m)) ?_ ?_ FU 0 m (Nat.zero_le _) (by rw [FU_eq]; omega) ⟨rfl, rfl⟩
  · rintro i σ' K hi ⟨rfl, hn⟩ hK
    unfold X9_placeWith_b2
    rw [show (36 : Int32) = nI 36 from rfl, gAt_nI (show 36 < 30843 by omega) (by omega), show σ' 47 0 36 = nI (bW (mB σ')) from hB.1.1]
    rw [if_neg (by rw [nI_leq (by omega) (by omega)]; omega), gCall_eq (X9_pi hB hl (by omega))]
    have hix := bIx_lt hB line i
    rw [gCall_eq (X9_la hB (by omega))]
    have hb := (hB.2.2.2.2.2.2.1 (16 * i + bIx (mB σ') line i) (by omega)).2.1
    by_cases he : bL (mB σ') (16 * i + bIx (mB σ') line i) = line + 1
    · rw [if_pos ((line_eq hb hl).mpr he)]
      dsimp only
      rw [gCall_eq (X9_pi hB hl (by omega))]
      have : ∀ w, i + 1 ≤ w → bFind (mB σ') line w = some (16 * i + bIx (mB σ') line i) := by
        intro w
        induction w with
        | zero => intro h; omega
        | succ w ih =>
          intro h
          by_cases hw : w = i
          · subst hw; simp only [bFind, hn, if_pos he]
          · simp only [bFind, ih (by omega)]
      unfold bAt
      rw [this _ (by omega)]
      rfl
    · rw [if_neg (fun q => he ((line_eq hb hl).mp q))]
      simp only [gLet]
      rw [show (1 : Int32) = nI 1 from rfl, nI_add]
      exact hK _ ⟨rfl, by simp only [bFind, hn, if_neg he]⟩
  · rintro σ' K ⟨rfl, hn⟩
    unfold X9_placeWith_b2
    rw [show (36 : Int32) = nI 36 from rfl, gAt_nI (show 36 < 30843 by omega) (by omega), show σ' 47 0 36 = nI (bW (mB σ')) from hB.1.1]
    rw [if_pos (by rw [nI_leq (by omega) (by omega)]; omega)]
    unfold bAt
    rw [hn]; rfl
