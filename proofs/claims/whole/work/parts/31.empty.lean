/-! LAYER 2: empty, leave, clean, pin, cool. -/
def clr (B : Nat → Int32) (p : Nat) : Nat → Int32 := bup (bup (bup (bup (bup B (27 + 5 * p) 0) (28 + 5 * p) 0) (29 + 5 * p) 0) (30 + 5 * p) 0) (31 + 5 * p) 0
theorem clr_out {B : Nat → Int32} {p i : Nat} (h : ¬ (27 + 5 * p ≤ i ∧ i < 32 + 5 * p)) : clr B p i = B i := by
  unfold clr
  rw [bup_ne (by omega), bup_ne (by omega), bup_ne (by omega), bup_ne (by omega), bup_ne (by omega)]
theorem clr_in {B : Nat → Int32} {p i : Nat} (h : 27 + 5 * p ≤ i ∧ i < 32 + 5 * p) : clr B p i = 0 := by
  unfold clr
  simp only [bup_at]
  by_cases e0 : i = 31 + 5 * p
  · rw [if_pos e0]
  · rw [if_neg e0]
    by_cases e1 : i = 30 + 5 * p
    · rw [if_pos e1]
    · rw [if_neg e1]
      by_cases e2 : i = 29 + 5 * p
      · rw [if_pos e2]
      · rw [if_neg e2]
        by_cases e3 : i = 28 + 5 * p
        · rw [if_pos e3]
        · rw [if_neg e3, if_pos (by omega)]
theorem clr_BI {B : Nat → Int32} {N p : Nat} (h : BI B N) : BI (clr B p) N ∧ ∀ q, q < 64 → bL (clr B p) q = if q = p then 0 else bL B q := by
  obtain ⟨a, b, c, d, e, f1, f2, f3⟩ := h
  have g := BI_sl (B' := clr B p) ⟨a, b, c, d, e, f1, f2, f3⟩ (fun i hi => clr_out (by omega)) (fun q => if q = p then 0 else bL B q) (fun q => if q = p then 0 else bAg B q) (fun q hq => ?_) (fun q hq hne => ?_) (fun q hq h0 => ?_)
  · exact ⟨g.1, fun q hq => (g.2 q hq).1⟩
  · by_cases e : q = p
    · subst e
      simp only [↓reduceIte]
      rw [clr_in (by omega), clr_in (by omega), clr_in (by omega), clr_in (by omega)]
      exact ⟨rfl, by omega, Or.inl rfl, ⟨rfl, by omega⟩, Or.inl rfl⟩
    · simp only [if_neg e]
      rw [clr_out (by omega), clr_out (by omega), clr_out (by omega), clr_out (by omega)]
      exact f2 q hq
  · by_cases e : q = p
    · simp only [if_pos e] at hne
      exact absurd rfl hne
    · simp only [if_neg e] at hne ⊢
      exact f3.1 q hq hne
  · by_cases e : q = p
    · subst e
      rw [clr_in (by omega), clr_in (by omega), clr_in (by omega), clr_in (by omega)]
      exact ⟨rfl, rfl, rfl, rfl⟩
    · simp only [if_neg e] at h0
      rw [clr_out (by omega), clr_out (by omega), clr_out (by omega), clr_out (by omega)]
      exact f3.2 q hq h0
theorem clr_eq {B B' : Nat → Int32} {p : Nat} (h : ∀ i, ¬ (27 + 5 * p ≤ i ∧ i < 32 + 5 * p) → B' i = B i) : clr B' p = clr B p := by
  funext i
  by_cases e : 27 + 5 * p ≤ i ∧ i < 32 + 5 * p
  · rw [clr_in e, clr_in e]
  · rw [clr_out e, clr_out e]; exact h i e
/-- an empty slot is blank already -/
theorem clr_id {B : Nat → Int32} {N p : Nat} (hB : BI B N) (hp : p < 64) (h : bL B p = 0) : clr B p = B := by
  obtain ⟨z1, z2, z3, z4⟩ := hB.2.2.2.2.2.2.2.2 p hp h
  have z0 := (hB.2.2.2.2.2.2.1 p hp).1
  rw [h] at z0
  funext i
  by_cases e : 27 + 5 * p ≤ i ∧ i < 32 + 5 * p
  · rw [clr_in e]
    rcases (show i = 27 + 5 * p ∨ i = 28 + 5 * p ∨ i = 29 + 5 * p ∨ i = 30 + 5 * p ∨ i = 31 + 5 * p by omega) with rfl | rfl | rfl | rfl | rfl
    · rw [z0]; rfl
    · rw [z1]
    · rw [z2]
    · rw [z3]
    · rw [z4]
  · rw [clr_out e]
theorem x_mkE {m : gM} {k N p : Nat} {B : Nat → Int32} (hR : RS m k B N) (hp : p < 64) : ∃ m', X3_makeEmpty k (nI p) m = some ((), m') ∧ RS m' k (clr B p) N ∧ Eqv (pCo k) m m' := by
  unfold X3_makeEmpty
  rw [gPut_nI (show p < 64 from hp) (by omega), gPut_nI (show p < 64 from hp) (by omega), gPut_nI (show p < 64 from hp) (by omega), gPut_nI (show p < 64 from hp) (by omega), gPut_nI (show p < 64 from hp) (by omega)]
  have r1 := RS_u29 hR hp 0
  rw [show (0 : Int32) - 1 = -1 from rfl] at r1
  exact ⟨_, rfl, RS_u33 (RS_u32 (RS_u31 (RS_u30 r1 hp 0) hp 0) hp 0) hp 0, ((((Eqv.up (by unfold pCo; omega)).tr (Eqv.up (by unfold pCo; omega))).tr (Eqv.up (by unfold pCo; omega))).tr (Eqv.up (by unfold pCo; omega))).tr (Eqv.up (by unfold pCo; omega))⟩
def gz (m : gM) (p : Nat) : Nat → gM
  | 0 => m
  | i + 1 => gup (gz m p i) 47 0 (36 + (27 + 5 * p + i)) 0
theorem clr_loop {β : Type} {m : gM} {p : Nat} {f : Int32 → gM → (Int32 → gM → Option β) → Option β} {R : gM → Option β} (hs : ∀ i σ K, i < 5 → f (nI i) σ K = K (nI (i + 1)) (gup σ 47 0 (36 + (27 + 5 * p + i)) 0)) (hx : ∀ σ K, f (nI 5) σ K = R σ) : gL1 FU f 0 m = R (gz m p 5) := by
  refine gL1_for (fun i σ => σ = gz m p i) (fun o => o = R (gz m p 5)) 5 ?_ ?_ FU 0 m (Nat.zero_le _) (by rw [FU_eq]; omega) rfl
  · rintro i σ K hi rfl hK
    rw [hs i _ K hi]
    exact hK _ rfl
  · rintro σ K rfl
    exact hx _ K
theorem gz_mB {m : gM} {p : Nat} : mB (gz m p 5) = clr (mB m) p := by
  simp only [gz]
  rw [mB_up, mB_up, mB_up, mB_up, mB_up]
  unfold clr
  rw [show 27 + 5 * p + 0 = 27 + 5 * p by omega, show 27 + 5 * p + 1 = 28 + 5 * p by omega, show 27 + 5 * p + 2 = 29 + 5 * p by omega, show 27 + 5 * p + 3 = 30 + 5 * p by omega, show 27 + 5 * p + 4 = 31 + 5 * p by omega]
theorem gz_bk {m : gM} {p : Nat} (hp : p < 64) : Eqv pBk m (gz m p 5) := by
  simp only [gz]
  exact ((((Eqv_bk (by omega)).tr (Eqv_bk (by omega))).tr (Eqv_bk (by omega))).tr (Eqv_bk (by omega))).tr (Eqv_bk (by omega))
def emB (B : Nat → Int32) : Nat → Nat → Int32
  | 0 => B
  | n + 1 => clr (if bL (emB B n) n = 0 then emB B n else gbk (emB B n) n) n
def emN (B : Nat → Int32) : Nat → Nat
  | 0 => 0
  | n + 1 => emN B n + if bL (emB B n) n = 0 ∨ emB B n (29 + 5 * n) = 0 then 0 else 1
theorem emB_ok {B : Nat → Int32} {N : Nat} (hB : BI B N) : ∀ n, BI (emB B n) N ∧ (∀ q, q < 64 → bL (emB B n) q = if q < n then 0 else bL B q) ∧ (∀ i, i < 27 → i ≠ 6 → emB B n i = B i) ∧ emN B n ≤ n := by
  intro n
  induction n with
  | zero => exact ⟨hB, fun q _ => by rw [if_neg (by omega)]; rfl, fun _ _ _ => rfl, Nat.le_refl _⟩
  | succ n ih =>
    obtain ⟨i1, i2, i3, i4⟩ := ih
    have h1 : BI (if bL (emB B n) n = 0 then emB B n else gbk (emB B n) n) N := by
      split
      · exact i1
      · exact gbk_BI i1
    obtain ⟨c1, c2⟩ := clr_BI (p := n) h1
    simp only [emB, emN]
    refine ⟨c1, fun q hq => ?_, fun i hi h6 => ?_, ?_⟩
    · rw [c2 q hq]
      by_cases e : q = n
      · rw [if_pos e, if_pos (by omega)]
      · rw [if_neg e]
        have : bL (if bL (emB B n) n = 0 then emB B n else gbk (emB B n) n) q = bL (emB B n) q := by
          split
          · rfl
          · exact gbk_L hq
        rw [this, i2 q hq]
        by_cases e2 : q < n
        · rw [if_pos e2, if_pos (by omega)]
        · rw [if_neg e2, if_neg (by omega)]
    · rw [clr_out (by omega)]
      split
      · exact i3 i hi h6
      · rw [gbk_at (by omega) h6]; exact i3 i hi h6
    · split <;> omega
theorem x_emptyAll {m : gM} {k N : Nat} {B : Nat → Int32} (hR : RS m k B N) (hB : BI B N) : ∃ m', X3_emptyAll k m = some (nI (emN B 64), m') ∧ RS m' k (emB B 64) N ∧ Eqv (pCo k) m m' := by
  unfold X3_emptyAll
  refine gL2_for (fun i x σ => x = nI (emN B i) ∧ RS σ k (emB B i) N ∧ Eqv (pCo k) m σ) (fun r => ∃ m', r = some (nI (emN B 64), m') ∧ RS m' k (emB B 64) N ∧ Eqv (pCo k) m m') 64 ?_ ?_ FU 0 0 m (Nat.zero_le _) (by rw [FU_eq]; omega) ⟨rfl, hR, Eqv.rf⟩
  · rintro i x σ K hi ⟨rfl, h1, h2⟩ hK
    obtain ⟨i1, i2, i3, i4⟩ := emB_ok hB i
    unfold X3_emptyAll_b4
    rw [if_neg (by rw [li64, nI_leq (by omega) (by omega)]; omega)]
    by_cases h0 : bL (emB B i) i = 0
    · rw [gCall_eq (x_bring0 h1 i1 hi h0)]
      obtain ⟨x2, y1, y2, y3⟩ := x_mkE h1 hi
      rw [gLet, gCall_eq y1, gLet, nI_1]
      refine hK _ _ ⟨?_, ?_, h2.tr y3⟩
      · simp only [emN]
        rw [if_pos (Or.inl h0)]
        exact nI_add _ 0
      · simp only [emB]
        rw [if_pos h0]; exact y2
    · obtain ⟨x1, z1, z2, z3⟩ := x_bring h1 i1 hi h0
      obtain ⟨x2, y1, y2, y3⟩ := x_mkE z2 hi
      rw [gCall_eq z1, gLet, gCall_eq y1, gLet, nI_1]
      refine hK _ _ ⟨?_, ?_, (h2.tr (z3.mono (fun t k' i q => by unfold pBr at q; unfold pCo; omega))).tr y3⟩
      · simp only [emN]
        by_cases hd : emB B i (29 + 5 * i) = 0
        · rw [if_pos hd, if_pos (Or.inr hd)]
          exact nI_add _ 0
        · rw [if_neg hd, if_neg (fun z => z.elim h0 hd)]
          exact nI_add _ 1
      · simp only [emB]
        rw [if_neg h0]
        rw [clr_eq (B := gbk (emB B i) i) (fun j hj => bup_ne (by omega))] at y2
        exact y2
  · rintro x σ K ⟨rfl, h1, h2⟩
    unfold X3_emptyAll_b4
    rw [if_pos (by rw [li64, nI_leq (by omega) (by omega)]; omega)]
    exact ⟨σ, rfl, h1, h2⟩
theorem m_emptyNow {m : gM} {N : Nat} {B : Nat → Int32} (hm : mB m = B) (hB : BI B N) : ∃ m', X9_emptyNow m = some (nI (emN B 64), m') ∧ mB m' = emB B 64 ∧ Eqv pBk m m' := by
  unfold X9_emptyNow
  refine gL2_for (fun i x σ => x = nI (emN B i) ∧ mB σ = emB B i ∧ Eqv pBk m σ) (fun r => ∃ m', r = some (nI (emN B 64), m') ∧ mB m' = emB B 64 ∧ Eqv pBk m m') 64 ?_ ?_ FU 0 0 m (Nat.zero_le _) (by rw [FU_eq]; omega) ⟨rfl, hm, Eqv.rf⟩
  · rintro i x σ K hi ⟨rfl, h1, h2⟩ hK
    obtain ⟨i1, i2, i3, i4⟩ := emB_ok hB i
    have hs := i1.2.2.2.2.2.2.1 i hi
    unfold X9_emptyNow_b4
    rw [if_neg (by rw [li64, nI_leq (by omega) (by omega)]; omega), gCall_eq (X9_la (by rw [h1]; exact i1) hi), h1]
    by_cases h0 : bL (emB B i) i = 0
    · rw [if_pos ((line_none hs.2.1).mpr h0), gLet, nI_1]
      refine hK _ _ ⟨?_, ?_, h2⟩
      · simp only [emN]
        rw [if_pos (Or.inl h0)]; rfl
      · simp only [emB]
        rw [if_pos h0, clr_id i1 hi h0]; exact h1
    · obtain ⟨x1, z1, z2, z3⟩ := m_goes h1 i1 hi h0
      have hlp : ∀ (x10 : Int32), gL1 FU (X9_emptyNow_b40 K (nI i) x10) 0 x1 = K x10 (nI (i + 1)) (gz x1 i 5) := by
        intro x10
        refine clr_loop (R := fun σ => K x10 (nI (i + 1)) σ) (fun j σ K2 hj => ?_) (fun σ K2 => ?_)
        · unfold X9_emptyNow_b40
          rw [if_neg (by rw [li5, nI_leq (by omega) (by omega)]; omega), m_at, m_ix, m_put (by omega), gLet, nI_1]
        · unfold X9_emptyNow_b40
          rw [if_pos (by rw [li5, nI_leq (by omega) (by omega)]; omega), gLet, nI_1]
      have hfin : mB (gz x1 i 5) = emB B (i + 1) := by
        rw [gz_mB, z2]
        simp only [emB]
        rw [if_neg h0]
      rw [if_neg (fun q => h0 ((line_none hs.2.1).mp q)), gCall_eq z1, gJ1_e]
      by_cases hd : emB B i (29 + 5 * i) = 0
      · rw [if_pos hd, if_neg (by decide)]
        dsimp only
        rw [gLet, hlp]
        refine hK _ _ ⟨?_, hfin, (h2.tr z3).tr (gz_bk hi)⟩
        simp only [emN]
        rw [if_pos (Or.inr hd)]
        exact nI_add _ 0
      · rw [if_neg hd, if_pos rfl]
        dsimp only
        rw [gLet, hlp]
        refine hK _ _ ⟨?_, hfin, (h2.tr z3).tr (gz_bk hi)⟩
        simp only [emN]
        rw [if_neg (fun z => z.elim h0 hd)]
        exact nI_add _ 1
  · rintro x σ K ⟨rfl, h1, h2⟩
    unfold X9_emptyNow_b4
    rw [if_pos (by rw [li64, nI_leq (by omega) (by omega)]; omega)]
    exact ⟨σ, rfl, h1, h2⟩
theorem pBk_MS {m m' : gM} (h : Eqv pBk m m') : Eqv pMS m m' := h.mono (fun t k i q => by unfold pBk at q; unfold pMS pM; omega)
theorem keep_cg {x m x' m' : gM} {N : Nat} (h : INV x m N) (h' : INV x' m' N) (e : ∀ i, i < 1467 → mB m' i = mB m i) (l : Nat) : bAt (mB m') l = bAt (mB m) l := bAt_cg h.bi (fun i hi => e i (by omega)) (fun q hq => by unfold bL; rw [e _ (by omega)])
theorem q_empty {x m : gM} {N : Nat} (h : INV x m N) : Ag (X8_empty x) (X9_empty m) N := by
  unfold X8_empty X9_empty
  obtain ⟨x1, m1, k1, k2, h', -⟩ := keep_ok h
  obtain ⟨x2, y1, y2, y3⟩ := x_emptyAll h'.rs h'.bi
  obtain ⟨m2, z1, z2, z3⟩ := m_emptyNow rfl h'.bi
  rw [gCall_eq k1, gCall_eq k2, gCall_eq y1, gCall_eq z1]
  exact ⟨_, _, _, rfl, rfl, INV_store h' (pCo_XS y3) (pBk_MS z3) (by rw [z2]; exact y2) (by rw [z2]; exact (emB_ok h'.bi 64).1) (Nat.le_refl _) h.2.2.2.2.2.2⟩
