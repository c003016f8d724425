/-! LAYER 2: what the candidates are, and which of them is taken. -/
def LE (L L' : gCL) : Prop := L.length ≤ L'.length ∧ ∀ i, i < L.length → lp L' i = lp L i ∧ lo L' i = lo L i
theorem addW_new {B : Nat → Int32} {N line : Nat} (hB : BI B N) {own o : Option Nat} {L : gCL} : ∀ w, w ≤ bW B → ∀ i, L.length ≤ i → i < (addW B line own o L w).length → lo (addW B line own o L w) i = o ∧ lp (addW B line own o L w) i / 16 < bW B ∧ lp (addW B line own o L w) i % 16 = bIx B line (lp (addW B line own o L w) i / 16) ∧ B (31 + 5 * lp (addW B line own o L w) i) ≠ 1 := by
  intro w
  induction w with
  | zero => intro _ i h1 h2; simp only [addW] at h2; omega
  | succ w ih =>
    intro hw i h1 h2
    have ih2 := ih (by omega) i h1
    simp only [addW] at h2 ⊢
    by_cases e : some w = own
    · rw [if_pos e] at h2 ⊢
      exact ih2 h2
    · rw [if_neg e] at h2 ⊢
      generalize addW B line own o L w = M at ih2 h2 ⊢
      unfold addC at h2 ⊢
      by_cases hc : (M.any fun q => q.1 == 16 * w + bIx B line w) = true ∨ B (31 + 5 * (16 * w + bIx B line w)) = 1
      · rw [if_pos hc] at h2 ⊢
        exact ih2 h2
      · rw [if_neg hc] at h2 ⊢
        rw [List.length_append, List.length_singleton] at h2
        by_cases hl : i < M.length
        · rw [(lp_app hl).1, (lp_app hl).2]
          exact ih2 hl
        · have : i = M.length := by omega
          subst this
          rw [lp_last.1, lp_last.2]
          have hix := bIx_lt hB line w
          have h16 : (16 * w + bIx B line w) / 16 = w := by omega
          show o = o ∧ (16 * w + bIx B line w) / 16 < bW B ∧ (16 * w + bIx B line w) % 16 = bIx B line ((16 * w + bIx B line w) / 16) ∧ B (31 + 5 * (16 * w + bIx B line w)) ≠ 1
          rw [h16]
          exact ⟨rfl, by omega, by omega, fun z => hc (Or.inr z)⟩
/-- each candidate is a slot of the line, or of the line in the candidate that it was found from -/
def LQ (B : Nat → Int32) (line : Nat) (L : gCL) : Prop := ∀ i, i < L.length → lp L i / 16 < bW B ∧ B (31 + 5 * lp L i) ≠ 1 ∧ (lo L i = none → lp L i % 16 = bIx B line (lp L i / 16)) ∧ ∀ j, lo L i = some j → bL B (lp L j) ≠ 0 ∧ lp L i % 16 = bIx B (bL B (lp L j) - 1) (lp L i / 16)
/-- back at level 0 after so many steps -/
def chn (L : gCL) : Nat → Nat → Prop
  | 0, i => lo L i = none
  | n + 1, i => ∀ j, lo L i = some j → chn L n j
theorem chn_up {L : gCL} : ∀ n i, chn L n i → chn L (n + 1) i := by
  intro n
  induction n with
  | zero => intro i h j hj; rw [chn] at h; rw [h] at hj; cases hj
  | succ n ih => intro i h j hj; exact ih j (h j hj)
theorem chn_LE {L L' : gCL} (hL : LW L) (hE : LE L L') : ∀ n i, i < L.length → chn L n i → chn L' n i := by
  intro n
  induction n with
  | zero => intro i hi h; rw [chn] at h ⊢; rw [(hE.2 i hi).2]; exact h
  | succ n ih =>
    intro i hi h j hj
    rw [(hE.2 i hi).2] at hj
    have := hL.2.2 i j hi hj
    exact ih j (by omega) (h j hj)
theorem LQ_addW {B : Nat → Int32} {N line line' : Nat} (hB : BI B N) {own o : Option Nat} {L : gCL} (hL : LW L) (h : LQ B line L) (h0 : o = none → line' = line) (h1 : ∀ j, o = some j → j < L.length ∧ bL B (lp L j) ≠ 0 ∧ line' = bL B (lp L j) - 1) : LQ B line (addW B line' own o L (bW B)) ∧ LE L (addW B line' own o L (bW B)) := by
  have hw := hB.1.2.2
  have ho : ∀ j, o = some j → j < L.length := fun j hj => (h1 j hj).1
  obtain ⟨-, e1, e2⟩ := addW_LW (line := line') (own := own) (o := o) hB hL ho (bW B) hw
  refine ⟨fun i hi => ?_, e1, e2⟩
  by_cases hl : i < L.length
  · obtain ⟨a1, a2⟩ := e2 i hl
    obtain ⟨b1, b2, b3, b4⟩ := h i hl
    rw [a1, a2]
    refine ⟨b1, b2, b3, fun j hj => ?_⟩
    have hj2 := hL.2.2 i j hl hj
    rw [(e2 j (by omega)).1]
    exact b4 j hj
  · obtain ⟨c1, c2, c3, c4⟩ := addW_new (line := line') (own := own) (o := o) (L := L) hB (bW B) (Nat.le_refl _) i (by omega) hi
    refine ⟨c2, c4, fun hn => ?_, fun j hj => ?_⟩
    · rw [c1] at hn
      rw [c3, h0 hn]
    · rw [c1] at hj
      obtain ⟨d1, d2, d3⟩ := h1 j hj
      rw [(e2 j d1).1, c3, ← d3]
      exact ⟨d2, rfl⟩
theorem exS_Q {B : Nat → Int32} {N line a k : Nat} (hB : BI B N) {L : gCL} (hL : LW L) (h : LQ B line L) (hc : ∀ i, i < L.length → chn L k i) : ∀ n, a + n ≤ L.length → LQ B line (exS B a L n) ∧ ∀ i, i < (exS B a L n).length → chn (exS B a L n) (k + 1) i := by
  intro n
  induction n with
  | zero => intro _; exact ⟨h, fun i hi => chn_up k i (hc i hi)⟩
  | succ n ih =>
    intro hn
    obtain ⟨i1, i2⟩ := ih (by omega)
    obtain ⟨w1, w2, w3⟩ := exS_LW (a := a) hB hL n (by omega)
    simp only [exS]
    by_cases h0 : bL B (lp (exS B a L n) (a + n)) = 0
    · rw [if_pos h0]; exact ⟨i1, i2⟩
    · rw [if_neg h0]
      obtain ⟨q1, q2⟩ := LQ_addW (line' := bL B (lp (exS B a L n) (a + n)) - 1) (own := some (lp (exS B a L n) (a + n) / 16)) (o := some (a + n)) hB w1 i1 (fun z => by cases z) (fun j hj => by cases hj; exact ⟨by omega, h0, rfl⟩)
      refine ⟨q1, fun i hi => ?_⟩
      by_cases hl : i < (exS B a L n).length
      · exact chn_LE w1 q2 _ i hl (i2 i hl)
      · obtain ⟨c1, -⟩ := addW_new (line := bL B (lp (exS B a L n) (a + n)) - 1) (own := some (lp (exS B a L n) (a + n) / 16)) (o := some (a + n)) (L := exS B a L n) hB (bW B) (Nat.le_refl _) i (by omega) hi
        intro j hj
        rw [c1] at hj
        cases hj
        refine chn_LE w1 q2 k (a + n) (by omega) (chn_LE hL ⟨w2, w3⟩ k (a + n) (by omega) (hc _ (by omega)))
theorem lev_Q {B : Nat → Int32} {N line : Nat} (hB : BI B N) : ∀ d, LQ B line (lev B line d).2 ∧ ∀ i, i < (lev B line d).2.length → chn (lev B line d).2 d i := by
  intro d
  induction d with
  | zero =>
    refine ⟨(LQ_addW hB LW_nil (fun i hi => by simp at hi) (fun _ => rfl) (fun j hj => by cases hj)).1, fun i hi => ?_⟩
    exact (addW_new (line := line) (own := none) (o := none) (L := []) hB (bW B) (Nat.le_refl _) i (Nat.zero_le _) hi).1
  | succ d ih =>
    obtain ⟨h1, h2⟩ := ih
    obtain ⟨w1, w2⟩ := lev_LW (line := line) hB d
    exact exS_Q (a := (lev B line d).1) hB w1 h1 h2 ((lev B line d).2.length - (lev B line d).1) (by omega)
theorem cand_Q {B : Nat → Int32} {N line : Nat} (hB : BI B N) (d : Nat) : LQ B line (cand B line d) ∧ ∀ i, i < (cand B line d).length → chn (cand B line d) d i := lev_Q hB d
/-- the first empty one among the first ones -/
def fE (B : Nat → Int32) (L : gCL) : Nat → Option Nat
  | 0 => none
  | n + 1 => match fE B L n with
    | some j => some j
    | none => if bL B (lp L n) = 0 then some n else none
def pck (B : Nat → Int32) (L : gCL) : Nat → Nat
  | 0 => 0
  | n + 1 => if bAg B (lp L n) ≤ bAg B (lp L (pck B L n)) then pck B L n else n
def tk (B : Nat → Int32) (L : gCL) : Nat := match fE B L L.length with
  | some j => j
  | none => pck B L L.length
theorem fE_keep {B : Nat → Int32} {L : gCL} {n j : Nat} (h : fE B L n = some j) : ∀ q, fE B L (n + q) = some j := by
  intro q
  induction q with
  | zero => exact h
  | succ q ih => rw [← Nat.add_assoc]; simp only [fE, ih]
theorem fE_lt {B : Nat → Int32} {L : gCL} : ∀ n j, fE B L n = some j → j < n ∧ bL B (lp L j) = 0 := by
  intro n
  induction n with
  | zero => intro j h; simp [fE] at h
  | succ n ih =>
    intro j h
    simp only [fE] at h
    cases e : fE B L n with
    | some i =>
      rw [e] at h
      simp only [Option.some.injEq] at h
      subst h
      have := ih i e
      exact ⟨by omega, this.2⟩
    | none =>
      rw [e] at h
      simp only at h
      by_cases h0 : bL B (lp L n) = 0
      · rw [if_pos h0] at h
        cases h
        exact ⟨by omega, h0⟩
      · rw [if_neg h0] at h; cases h
theorem fE_non {B : Nat → Int32} {L : gCL} : ∀ n, fE B L n = none → ∀ i, i < n → bL B (lp L i) ≠ 0 := by
  intro n
  induction n with
  | zero => intro _ i h; omega
  | succ n ih =>
    intro h i hi
    simp only [fE] at h
    cases e : fE B L n with
    | some j => rw [e] at h; simp at h
    | none =>
      rw [e] at h
      simp only at h
      by_cases h0 : bL B (lp L n) = 0
      · rw [if_pos h0] at h; cases h
      · rcases Nat.lt_or_ge i n with q | q
        · exact ih e i q
        · have : i = n := by omega
          subst this; exact h0
theorem pck_lt {B : Nat → Int32} {L : gCL} : ∀ n, 0 < n → pck B L n < n := by
  intro n
  induction n with
  | zero => intro h; omega
  | succ n ih =>
    intro _
    simp only [pck]
    split
    · rcases Nat.eq_zero_or_pos n with h | h
      · subst h; simp [pck]
      · have := ih h; omega
    · omega
theorem pck_max {B : Nat → Int32} {L : gCL} : ∀ n i, i < n → bAg B (lp L i) ≤ bAg B (lp L (pck B L n)) := by
  intro n
  induction n with
  | zero => intro i h; omega
  | succ n ih =>
    intro i hi
    simp only [pck]
    rcases Nat.lt_or_ge i n with q | q
    · have := ih i q
      split
      · exact this
      · omega
    · have : i = n := by omega
      subst this
      split
      · assumption
      · exact Nat.le_refl _
theorem tk_lt {B : Nat → Int32} {L : gCL} (h : 0 < L.length) : tk B L < L.length := by
  unfold tk
  cases e : fE B L L.length with
  | some j => exact (fE_lt _ _ e).1
  | none => exact pck_lt _ h
theorem x_choose {m : gM} {k N : Nat} {B : Nat → Int32} {L : gCL} (hR : RS m k B N) (hB : BI B N) (hL : LW L) (hS : m 1 0 3 = nI L.length ∧ ∀ i, i < L.length → m 17 0 i = nI (lp L i) ∧ m 18 0 i = oI (lo L i)) : X1_choose k m = some (oI (if L.length = 0 then none else some (tk B L)), m) := by
  have hlen := LW_len hL
  unfold X1_choose
  refine gL3_for (fun i x y σ => σ = m ∧ fE B L i = none ∧ (i = 0 ∧ x = -1 ∧ y = -1 ∨ 0 < i ∧ x = nI (pck B L i) ∧ y = nI (bAg B (lp L (pck B L i))))) (fun r => r = some (oI (if L.length = 0 then none else some (tk B L)), m)) L.length ?_ ?_ FU 0 (-1) (-1) m (Nat.zero_le _) (by rw [FU_eq]; omega) ⟨rfl, rfl, Or.inl ⟨rfl, rfl, rfl⟩⟩
  · rintro i x y σ K hi ⟨rfl, hn, hxy⟩ hK
    unfold X1_choose_b7
    have hp := hL.1 i hi
    have hs := hB.2.2.2.2.2.2.1 _ hp
    rw [hS.1, if_neg (by rw [nI_leq (by omega) (by omega)]; omega), gAt_nI (show i < 64 by omega) (by omega), (hS.2 i hi).1, gAt_nI (show lp L i < 64 from hp) (by omega), hR.2.2.2.2.1 _ hp, hs.1]
    by_cases h0 : bL B (lp L i) = 0
    · rw [if_pos ((line_none hs.2.1).mpr h0), if_neg (by omega)]
      have f1 : fE B L (i + 1) = some i := by simp only [fE, hn, if_pos h0]
      have f2 := fE_keep f1 (L.length - (i + 1))
      rw [show i + 1 + (L.length - (i + 1)) = L.length by omega] at f2
      have f3 : tk B L = i := by unfold tk; rw [f2]
      rw [f3]; rfl
    · rw [if_neg (fun q => h0 ((line_none hs.2.1).mp q))]
      have f1 : fE B L (i + 1) = none := by simp only [fE, hn, if_neg h0]
      have ag := hs.2.2.2.1
      rw [gAt_nI (show lp L i < 64 from hp) (by omega), hR.2.2.2.2.2.2.2.1 _ hp, ag.1]
      simp only [gLet]
      rcases hxy with ⟨rfl, rfl, rfl⟩ | ⟨hi0, rfl, rfl⟩
      · rw [if_neg (neg_nle (x := -1) (by decide) (show bAg B (lp L 0) < 2147483648 by omega)), gAt_nI (show lp L 0 < 64 from hp) (by omega), hR.2.2.2.2.2.2.2.1 _ hp, ag.1, nI_1]
        refine hK _ _ _ ⟨rfl, f1, Or.inr ⟨by omega, ?_, ?_⟩⟩
        · simp [pck]
        · simp [pck]
      · have hp2 := hL.1 (pck B L i) (by have := pck_lt (B := B) (L := L) i hi0; omega)
        have ag2 := (hB.2.2.2.2.2.2.1 _ hp2).2.2.2.1
        by_cases hle : bAg B (lp L i) ≤ bAg B (lp L (pck B L i))
        · rw [if_pos ((nI_leq (by omega) (by omega)).mpr hle), nI_1]
          refine hK _ _ _ ⟨rfl, f1, Or.inr ⟨by omega, ?_, ?_⟩⟩
          · simp only [pck, if_pos hle]
          · simp only [pck, if_pos hle]
        · rw [if_neg (fun z => hle ((nI_leq (by omega) (by omega)).mp z)), gAt_nI (show lp L i < 64 from hp) (by omega), hR.2.2.2.2.2.2.2.1 _ hp, ag.1, nI_1]
          refine hK _ _ _ ⟨rfl, f1, Or.inr ⟨by omega, ?_, ?_⟩⟩
          · simp only [pck, if_neg hle]
          · simp only [pck, if_neg hle]
  · rintro x y σ K ⟨rfl, hn, hxy⟩
    unfold X1_choose_b7
    rw [hS.1, if_pos (by rw [nI_leq (by omega) (by omega)]; omega)]
    rcases hxy with ⟨h0, rfl, -⟩ | ⟨h0, rfl, -⟩
    · rw [if_pos h0]; rfl
    · rw [if_neg (by omega)]
      have f3 : tk B L = pck B L L.length := by unfold tk; rw [hn]
      rw [f3]; rfl
theorem m_ag {m : gM} {p N : Nat} {β : Type} {kk : Int32 → Option β} (hB : BI (mB m) N) (hp : p < 64) : gAt m 47 0 ((63 + 5 * nI p) + 3) kk = kk (nI (bAg (mB m) p)) := by
  rw [li3, m_row hp (by omega), show 27 + 5 * p + 3 = 30 + 5 * p by omega, (hB.2.2.2.2.2.2.1 p hp).2.2.2.1.1]
theorem m_taken {m : gM} {N : Nat} {L : gCL} (hB : BI (mB m) N) (hL : LW L) (h0 : 0 < L.length) (hS : SM m L) : X9_taken m = some (nI (tk (mB m) L), m) := by
  have hlen := LW_len hL
  unfold X9_taken
  rw [gJ0_e]
  refine gL1_for (fun i σ => σ = m ∧ fE (mB m) L i = none) (fun r => r = some (nI (tk (mB m) L), m)) L.length ?_ ?_ FU 0 m (Nat.zero_le _) (by rw [FU_eq]; omega) ⟨rfl, rfl⟩
  · rintro i σ K hi ⟨rfl, hn⟩ hK
    unfold X9_taken_b4
    have hp := hL.1 i hi
    have hs := hB.2.2.2.2.2.2.1 _ hp
    rw [hS.1, if_neg (by rw [nI_leq (by omega) (by omega)]; omega), gAt_nI (show i < 64 by omega) (by omega), (hS.2.1 i hi).1, gCall_eq (X9_la hB hp)]
    by_cases h0 : bL (mB σ) (lp L i) = 0
    · rw [if_pos ((line_none hs.2.1).mpr h0)]
      have f1 : fE (mB σ) L (i + 1) = some i := by simp only [fE, hn, if_pos h0]
      have f2 := fE_keep f1 (L.length - (i + 1))
      rw [show i + 1 + (L.length - (i + 1)) = L.length by omega] at f2
      have f3 : tk (mB σ) L = i := by unfold tk; rw [f2]
      rw [f3]
    · rw [if_neg (fun q => h0 ((line_none hs.2.1).mp q)), nI_1]
      exact hK _ ⟨rfl, by simp only [fE, hn, if_neg h0]⟩
  · rintro σ K ⟨rfl, hn⟩
    unfold X9_taken_b4
    rw [hS.1, if_pos (by rw [nI_leq (by omega) (by omega)]; omega)]
    have f3 : tk (mB σ) L = pck (mB σ) L L.length := by unfold tk; rw [hn]
    rw [f3]
    refine gL2_for (fun i x τ => τ = σ ∧ x = nI (pck (mB σ) L i)) (fun r => r = some (nI (pck (mB σ) L L.length), σ)) L.length ?_ ?_ FU 1 0 σ (by omega) (by rw [FU_eq]; omega) ⟨rfl, by simp [pck]; rfl⟩
    · rintro i x τ K2 hi ⟨rfl, rfl⟩ hK2
      unfold X9_taken_b36
      have hp := hL.1 i hi
      have hpl : pck (mB τ) L i < L.length := by
        rcases Nat.eq_zero_or_pos i with q | q
        · subst q; simpa [pck] using h0
        · have := pck_lt (B := mB τ) (L := L) i q; omega
      have hp2 := hL.1 _ hpl
      have ag1 := (hB.2.2.2.2.2.2.1 _ hp).2.2.2.1
      have ag2 := (hB.2.2.2.2.2.2.1 _ hp2).2.2.2.1
      rw [hS.1, if_neg (by rw [nI_leq (by omega) (by omega)]; omega), gAt_nI (show i < 64 by omega) (by omega), (hS.2.1 i hi).1, m_at, m_ag hB hp, gAt_nI (show pck (mB τ) L i < 64 by omega) (by omega), (hS.2.1 _ hpl).1, m_at, m_ag hB hp2, nI_1]
      by_cases hle : bAg (mB τ) (lp L i) ≤ bAg (mB τ) (lp L (pck (mB τ) L i))
      · rw [if_pos ((nI_leq (by omega) (by omega)).mpr hle)]
        exact hK2 _ _ ⟨rfl, by simp only [pck, if_pos hle]⟩
      · rw [if_neg (fun z => hle ((nI_leq (by omega) (by omega)).mp z))]
        exact hK2 _ _ ⟨rfl, by simp only [pck, if_neg hle]⟩
    · rintro x τ K2 ⟨rfl, rfl⟩
      unfold X9_taken_b36
      rw [hS.1, if_pos (by rw [nI_leq (by omega) (by omega)]; omega)]
