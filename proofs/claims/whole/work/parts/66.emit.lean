/-! LAYER 2: texts: what is laid on both sides. -/
/-- a trace under way: how many, too long or not, lines, values -/
abbrev gT : Type := Nat × Nat × (Nat → Nat) × (Nat → Int32)
def em (S : gT) (l : Nat) (v : Int32) : gT := if S.1 = 600 then (S.1, 1, S.2.2.1, S.2.2.2) else (S.1 + 1, S.2.1, uH S.2.2.1 S.1 l, upd S.2.2.2 S.1 v)
def vOK (v : Int32) : Prop := v = nM ∨ ∃ w, w ≤ 9999 ∧ v = nI w
def SOK (S : gT) : Prop := S.1 ≤ 600 ∧ S.2.1 ≤ 1 ∧ (S.2.1 = 1 → S.1 = 600) ∧ ∀ i, i < S.1 → S.2.2.1 i < 1024 ∧ vOK (S.2.2.2 i)
def tRx (S : gT) (σ : gM) : Prop := σ 5 8 2 = nI S.1 ∧ σ 0 0 7 = nI S.2.1 ∧ ∀ i, i < S.1 → σ 38 8 i = nI (S.2.2.1 i) ∧ σ 39 8 i = S.2.2.2 i
def tRm (T : Nat) (S : gT) (τ : gM) : Prop := τ 9 0 11 = nI (1201 * T) ∧ τ 49 0 (1201 * T) = nI S.1 ∧ τ 9 0 12 = nI S.2.1 ∧ ∀ i, i < S.1 → τ 49 0 (1201 * T + 1 + 2 * i) = nI (S.2.2.1 i) ∧ τ 49 0 (1201 * T + 2 + 2 * i) = S.2.2.2 i
theorem e1_ok {S : gT} {l : Nat} {v : Int32} (h : SOK S) (hl : l < 1024) (hv : vOK v) : SOK (em S l v) := by
  obtain ⟨h1, h2, h3, h4⟩ := h
  unfold em
  by_cases c : S.1 = 600
  · rw [if_pos c]
    exact ⟨h1, Nat.le_refl _, fun _ => c, h4⟩
  · rw [if_neg c]
    refine ⟨by show S.1 + 1 ≤ 600; omega, h2, fun z => absurd (h3 z) c, fun i hi => ?_⟩
    dsimp only at hi ⊢
    unfold uH upd
    by_cases e : i = S.1
    · rw [if_pos e, if_pos e]; exact ⟨hl, hv⟩
    · rw [if_neg e, if_neg e]; exact h4 i (by omega)
def pTx (t k i : Nat) : Prop := (t = 0 ∧ k = 0 ∧ i = 7) ∨ ((t = 5 ∨ t = 38 ∨ t = 39) ∧ k = 8)
def pTm (T t k i : Nat) : Prop := (t = 9 ∧ k = 0 ∧ i = 12) ∨ (t = 49 ∧ k = 0 ∧ 1201 * T ≤ i ∧ i < 1201 * T + 1201)
theorem x_emit {S : gT} {σ : gM} {l : Nat} {v : Int32} (h : SOK S) (hT : tRx S σ) : ∃ σ', X0_emit 8 (nI l) v σ = some ((), σ') ∧ tRx (em S l v) σ' ∧ Eqv pTx σ σ' := by
  obtain ⟨h1, h2, h3, h4⟩ := h
  obtain ⟨t1, t2, t3⟩ := hT
  unfold X0_emit em
  rw [t1]
  by_cases c : S.1 = 600
  · rw [if_pos (show 600 ≤ nI S.1 by rw [li600, nI_leq (by omega) (by omega)]; omega), if_pos c, gSet]
    exact ⟨_, rfl, ⟨by rw [gup_t (by omega)]; exact t1, by rw [gup_at, if_pos rfl]; rfl, fun i hi => by rw [gup_t (by omega), gup_t (by omega)]; exact t3 i hi⟩, Eqv.up (Or.inl ⟨rfl, rfl, rfl⟩)⟩
  · rw [if_neg (show ¬ 600 ≤ nI S.1 by rw [li600, nI_leq (by omega) (by omega)]; omega), if_neg c]
    unfold X5_add
    rw [t1, if_neg (show ¬ 600 ≤ nI S.1 by rw [li600, nI_leq (by omega) (by omega)]; omega), gPut_nI (show S.1 < 600 by omega) (by omega), gup_t (show 5 ≠ 38 by omega), t1, gPut_nI (show S.1 < 600 by omega) (by omega), gup_t (show 5 ≠ 39 by omega), gup_t (show 5 ≠ 38 by omega), t1, nI_1, gLet, gSet, gCall_some]
    refine ⟨_, rfl, ⟨by rw [gup_at, if_pos rfl], by rw [gup_t (by omega), gup_t (by omega), gup_t (by omega)]; exact t2, fun i hi => ?_⟩, ((Eqv.up (Or.inr ⟨by omega, rfl⟩)).tr (Eqv.up (Or.inr ⟨by omega, rfl⟩))).tr (Eqv.up (Or.inr ⟨by omega, rfl⟩))⟩
    dsimp only at hi ⊢
    rw [gup_t (show 38 ≠ 5 by omega), gup_t (show 38 ≠ 39 by omega), gup_at, gup_t (show 39 ≠ 5 by omega), gup_at, gup_t (show 39 ≠ 38 by omega)]
    unfold uH upd
    by_cases e : i = S.1
    · rw [if_pos e, if_pos e, if_pos e, if_pos e]; exact ⟨rfl, rfl⟩
    · rw [if_neg e, if_neg e, if_neg e, if_neg e]; exact t3 i (by omega)
theorem m_lay1 {S : gT} {τ : gM} {T l : Nat} {v : Int32} (hT4 : T < 4) (h : SOK S) (hT : tRm T S τ) : ∃ τ', X9_lay (nI l) v τ = some ((), τ') ∧ tRm T (em S l v) τ' ∧ Eqv (pTm T) τ τ' := by
  obtain ⟨h1, h2, h3, h4⟩ := h
  obtain ⟨t0, t1, t2, t3⟩ := hT
  unfold X9_lay em
  rw [t0, gAt_nI (show 1201 * T < 4804 by omega) (by omega), t1]
  by_cases c : S.1 = 600
  · rw [if_pos (show nI S.1 = 600 by rw [c]; rfl), if_pos c, gSet]
    exact ⟨_, rfl, ⟨by rw [gup_at, if_neg (by omega)]; exact t0, by rw [gup_t (by omega)]; exact t1, by rw [gup_at, if_pos rfl]; rfl, fun i hi => by rw [gup_t (by omega)]; exact t3 i hi⟩, Eqv.up (Or.inl ⟨rfl, rfl, rfl⟩)⟩
  · rw [if_neg (show ¬ nI S.1 = 600 by rw [li600, nI_inj (by omega) (by omega)]; exact c), if_neg c, show (nI (1201 * T) + 1) + 2 * nI S.1 = nI (1201 * T + 1 + 2 * S.1) by rw [nI_1, li2, pk_mul, nI_add], gPut_nI (show 1201 * T + 1 + 2 * S.1 < 4804 by omega) (by omega), gup_t (show 9 ≠ 49 by omega), t0, show (nI (1201 * T) + 2) + 2 * nI S.1 = nI (1201 * T + 2 + 2 * S.1) by rw [li2, nI_add, pk_mul, nI_add], gPut_nI (show 1201 * T + 2 + 2 * S.1 < 4804 by omega) (by omega), gup_t (show 9 ≠ 49 by omega), gup_t (show 9 ≠ 49 by omega), t0, gAt_nI (show 1201 * T < 4804 by omega) (by omega), gup_at, if_neg (by omega), gup_at, if_neg (by omega), t1, nI_1, gPut_nI (show 1201 * T < 4804 by omega) (by omega)]
    refine ⟨_, rfl, ⟨by rw [gup_t (by omega), gup_t (by omega), gup_t (by omega)]; exact t0, by rw [gup_at, if_pos rfl], by rw [gup_t (by omega), gup_t (by omega), gup_t (by omega)]; exact t2, fun i hi => ?_⟩, ((Eqv.up (Or.inr ⟨rfl, rfl, by omega, by omega⟩)).tr (Eqv.up (Or.inr ⟨rfl, rfl, by omega, by omega⟩))).tr (Eqv.up (Or.inr ⟨rfl, rfl, by omega, by omega⟩))⟩
    dsimp only at hi ⊢
    unfold uH upd
    rw [gup_at, if_neg (by omega), gup_at, if_neg (by omega), gup_at, gup_at, if_neg (show ¬ 1201 * T + 2 + 2 * i = 1201 * T by omega), gup_at]
    by_cases e : i = S.1
    · rw [if_pos (show 1201 * T + 1 + 2 * i = 1201 * T + 1 + 2 * S.1 by omega), if_pos (show 1201 * T + 2 + 2 * i = 1201 * T + 2 + 2 * S.1 by omega), if_pos e, if_pos e]
      exact ⟨rfl, rfl⟩
    · rw [if_neg (show ¬ 1201 * T + 1 + 2 * i = 1201 * T + 1 + 2 * S.1 by omega), if_neg (show ¬ 1201 * T + 2 + 2 * i = 1201 * T + 2 + 2 * S.1 by omega), if_neg e, if_neg e, gup_at, if_neg (by omega)]
      exact t3 i (by omega)
/-- many are laid: w gives line and value of each -/
def eN (S : gT) (w : Nat → Nat × Int32) : Nat → gT
  | 0 => S
  | j + 1 => em (eN S w j) (w j).1 (w j).2
theorem eN_ok {S : gT} {w : Nat → Nat × Int32} (h : SOK S) (hw : ∀ j, (w j).1 < 1024 ∧ vOK (w j).2) : ∀ j, SOK (eN S w j) := by
  intro j
  induction j with
  | zero => exact h
  | succ j ih => exact e1_ok ih (hw j).1 (hw j).2
theorem e1_long {S : gT} {l : Nat} {v : Int32} (h : SOK S) (hl : S.2.1 = 1) : em S l v = S := by
  have h6 := h.2.2.1 hl
  unfold em
  rw [if_pos h6]
  obtain ⟨a, b, c, d⟩ := S
  dsimp only at hl
  rw [hl]
theorem eN_long {S : gT} {w : Nat → Nat × Int32} (h : SOK S) (hl : S.2.1 = 1) : ∀ j, eN S w j = S := by
  intro j
  induction j with
  | zero => rfl
  | succ j ih => simp only [eN]; rw [ih, e1_long h hl]
theorem eN_add {S : gT} {w : Nat → Nat × Int32} (a : Nat) : ∀ b, eN S w (a + b) = eN (eN S w a) (fun j => w (a + j)) b := by
  intro b
  induction b with
  | zero => rfl
  | succ b ih => rw [← Nat.add_assoc]; simp only [eN]; rw [ih]
theorem eN_cg {S : gT} {w w' : Nat → Nat × Int32} : ∀ j, (∀ i, i < j → w i = w' i) → eN S w j = eN S w' j := by
  intro j
  induction j with
  | zero => intro _; rfl
  | succ j ih => intro h; simp only [eN]; rw [ih (fun i hi => h i (by omega)), h j (by omega)]
/-- while it isn't too long, all lies as it was laid -/
theorem eN_at {S : gT} {w : Nat → Nat × Int32} : ∀ j, (eN S w j).2.1 = 0 → S.2.1 = 0 ∧ (eN S w j).1 = S.1 + j ∧ (∀ i, i < S.1 → (eN S w j).2.2.1 i = S.2.2.1 i ∧ (eN S w j).2.2.2 i = S.2.2.2 i) ∧ ∀ i, i < j → (eN S w j).2.2.1 (S.1 + i) = (w i).1 ∧ (eN S w j).2.2.2 (S.1 + i) = (w i).2 := by
  intro j
  induction j with
  | zero => intro h; exact ⟨h, rfl, fun i _ => ⟨rfl, rfl⟩, fun i hi => absurd hi (Nat.not_lt_zero _)⟩
  | succ j ih =>
    intro h
    simp only [eN] at h ⊢
    unfold em at h ⊢
    by_cases c : (eN S w j).1 = 600
    · rw [if_pos c] at h; exact absurd h (by show ¬ (1 : Nat) = 0; omega)
    · rw [if_neg c] at h ⊢
      obtain ⟨i1, i2, i3, i4⟩ := ih h
      dsimp only
      unfold uH upd
      refine ⟨i1, by omega, fun i hi => ?_, fun i hi => ?_⟩
      · rw [if_neg (by omega), if_neg (by omega)]; exact i3 i hi
      · by_cases e : i = j
        · rw [if_pos (by omega), if_pos (by omega), e]; exact ⟨rfl, rfl⟩
        · rw [if_neg (by omega), if_neg (by omega)]; exact i4 i (by omega)
/-- strides -/
def wS (line st : Nat) (j : Nat) : Nat × Int32 := ((line + j * st) % 1024, nM)
theorem x_strides {S : gT} {σ : gM} {line st c : Nat} (h : SOK S) (hT : tRx S σ) (h5 : σ 0 0 5 = nI line) (h6 : σ 0 0 6 = nI st) (hl : line < 1024) (hs : st < 1024) (hc : 1 ≤ c ∧ c ≤ 99) : ∃ σ', X0_emitStrides 8 (nI c) σ = some ((), σ') ∧ tRx (eN S (fun j => wS line st (1 + j)) (c - 1)) σ' ∧ Eqv pTx σ σ' := by
  unfold X0_emitStrides
  have hok := eN_ok (w := fun j => wS line st (1 + j)) h (fun j => ⟨Nat.mod_lt _ (by omega), Or.inl rfl⟩)
  refine gL1_for (fun i ρ => 1 ≤ i ∧ tRx (eN S (fun j => wS line st (1 + j)) (i - 1)) ρ ∧ Eqv pTx σ ρ) (fun o => ∃ σ', o = some ((), σ') ∧ tRx (eN S (fun j => wS line st (1 + j)) (c - 1)) σ' ∧ Eqv pTx σ σ') c ?_ ?_ FU 1 σ hc.1 (by rw [FU_eq]; omega) ⟨Nat.le_refl _, hT, Eqv.rf⟩
  · rintro i ρ K hi ⟨i1, g1, g2⟩ hK
    unfold X0_emitStrides_b2
    have his : i * st ≤ 99 * 1023 := Nat.mul_le_mul (by omega) (by omega)
    obtain ⟨ρ', k1, k2, k3⟩ := x_emit (l := (line + i * st) % 1024) (v := nM) (hok (i - 1)) g1
    rw [if_neg (by rw [nI_leq (by omega) (by omega)]; omega), g2 0 0 5 (by unfold pTx; omega), h5, g2 0 0 6 (by unfold pTx; omega), h6, pk_mul, nI_add, li1024, nI_rem (by omega) (by omega) (by omega), lim1, gCall_eq k1, gLet, nI_1]
    refine hK _ ⟨by omega, ?_, g2.tr k3⟩
    rw [show i + 1 - 1 = (i - 1) + 1 by omega]
    simp only [eN]
    unfold wS
    rw [show 1 + (i - 1) = i by omega]
    exact k2
  · rintro ρ K ⟨i1, g1, g2⟩
    unfold X0_emitStrides_b2
    rw [if_pos (by rw [nI_leq (by omega) (by omega)]; omega)]
    exact ⟨ρ, rfl, g1, g2⟩
