/-! LAYER 2: texts: strides of the reference, loops that are closed. -/
theorem m_strides {S : gT} {τ m3 m9 : gM} {T line st c : Nat} {J : gM → Option (Int32 × gM)} {P : Option (Int32 × gM) → Prop} (hT4 : T < 4) (h : SOK S) (hT : tRm T S τ) (h3 : m3 9 0 10 = nI line) (h9 : m9 9 0 10 = nI st) (h10 : τ 9 0 10 = nI c) (hl : line < 1024) (hs : st < 1024) (hc : c ≤ 99) (hP : ∀ τ', tRm T (eN S (wS line st) c) τ' → Eqv (pTm T) τ τ' → P (J τ')) : P (gL1 FU (X9_askItem_b105 J m3 m9) 0 τ) := by
  have hok := eN_ok (w := wS line st) h (fun j => ⟨Nat.mod_lt _ (by omega), Or.inl rfl⟩)
  refine gL1_for (fun i ρ => tRm T (eN S (wS line st) i) ρ ∧ Eqv (pTm T) τ ρ) P c ?_ ?_ FU 0 τ (Nat.zero_le _) (by rw [FU_eq]; omega) ⟨hT, Eqv.rf⟩
  · rintro i ρ K hi ⟨g1, g2⟩ hK
    unfold X9_askItem_b105
    have his : i * st ≤ 99 * 1023 := Nat.mul_le_mul (by omega) (by omega)
    obtain ⟨ρ', k1, k2, k3⟩ := m_lay1 (l := (line + i * st) % 1024) (v := nM) hT4 (hok i) g1
    rw [g2 9 0 10 (by unfold pTm; omega), h10, if_neg (by rw [nI_leq (by omega) (by omega)]; omega), h3, h9, pk_mul, nI_add, li1024, nI_rem (by omega) (by omega) (by omega), lim1, gCall_eq k1, gLet, nI_1]
    exact hK _ ⟨k2, g2.tr k3⟩
  · rintro ρ K ⟨g1, g2⟩
    unfold X9_askItem_b105
    rw [g2 9 0 10 (by unfold pTm; omega), h10, if_pos (by rw [nI_leq (by omega) (by omega)]; omega)]
    exact hP ρ g1 g2
theorem strides_eq {S : gT} {line st c : Nat} (hl : line < 1024) (hc : 1 ≤ c) : eN (em S line nM) (fun j => wS line st (1 + j)) (c - 1) = eN S (wS line st) c := by
  have h := eN_add (S := S) (w := wS line st) 1 (c - 1)
  rw [show 1 + (c - 1) = c by omega] at h
  rw [h]
  congr 1
  simp only [eN]
  unfold wS
  rw [Nat.zero_mul, Nat.add_zero, Nat.mod_eq_of_lt hl]
def wC (S : gT) (fr L j : Nat) : Nat × Int32 := (S.2.2.1 (fr + j % L), S.2.2.2 (fr + j % L))
theorem eN_pre {S : gT} {w : Nat → Nat × Int32} : ∀ j, S.1 ≤ (eN S w j).1 ∧ ∀ i, i < S.1 → (eN S w j).2.2.1 i = S.2.2.1 i ∧ (eN S w j).2.2.2 i = S.2.2.2 i := by
  intro j
  induction j with
  | zero => exact ⟨Nat.le_refl _, fun i _ => ⟨rfl, rfl⟩⟩
  | succ j ih =>
    simp only [eN]
    unfold em
    by_cases c : (eN S w j).1 = 600
    · rw [if_pos c]; exact ih
    · rw [if_neg c]
      refine ⟨by show S.1 ≤ _ + 1; have := ih.1; omega, fun i hi => ?_⟩
      dsimp only
      unfold uH upd
      have := ih.1
      rw [if_neg (by omega), if_neg (by omega)]
      exact ih.2 i hi
theorem wC_ok {S : gT} {fr L : Nat} (h : SOK S) (hL : 0 < L) (hf : fr + L = S.1) (j : Nat) : (wC S fr L j).1 < 1024 ∧ vOK (wC S fr L j).2 := by
  have hm := Nat.mod_lt j hL
  exact h.2.2.2 _ (by omega)
theorem eN_okC {S : gT} {fr L n : Nat} (h : SOK S) (hf : fr + L = S.1) : ∀ j, j ≤ L * n → SOK (eN S (wC S fr L) j) := by
  intro j hj
  rcases Nat.eq_zero_or_pos L with z | z
  · subst z
    rw [Nat.zero_mul] at hj
    rw [show j = 0 by omega]
    exact h
  · exact eN_ok h (wC_ok h z hf) j
def pTo (t k i : Nat) : Prop := pTx t k i ∨ (t = 0 ∧ k = 0 ∧ i = 1)
theorem x_close {S : gT} {σ : gM} {o fr c : Nat} (h : SOK S) (hT : tRx S σ) (ho : 0 < o ∧ o ≤ 4) (h1 : σ 0 0 1 = nI o) (h16 : σ 16 0 (o - 1) = nI fr) (hf : fr ≤ S.1) (hc : 1 ≤ c ∧ c ≤ 9) : ∃ σ', X0_closeLoop 8 (nI c) σ = some ((), σ') ∧ σ' 0 0 1 = nI (o - 1) ∧ tRx (eN S (wC S fr (S.1 - fr)) ((S.1 - fr) * (c - 1))) σ' ∧ Eqv pTo σ σ' := by
  unfold X0_closeLoop
  obtain ⟨t1, t2, t3⟩ := hT
  have hs6 := h.1
  have hmul : (S.1 - fr) * (c - 1) ≤ 600 * 8 := Nat.mul_le_mul (by omega) (by omega)
  have hok := eN_okC (fr := fr) (L := S.1 - fr) (n := c - 1) h (by omega)
  rw [h1, if_pos (by rw [li0, nI_ltt (by omega) (by omega)]; exact ho.1), nI_sub1 ho.1, gLet, gSet, gup_at, if_pos rfl, gAt_nI (show o - 1 < 4 by omega) (by omega), gup_t (show 16 ≠ 0 by omega), h16, gup_t (show 5 ≠ 0 by omega), t1, pk_sub hf, nI_sub1 hc.1, pk_mul, gLet]
  have hT0 : tRx S (gup σ 0 0 1 (nI (o - 1))) := ⟨by rw [gup_t (by omega)]; exact t1, by rw [gup_at, if_neg (by omega)]; exact t2, fun i hi => by rw [gup_t (by omega), gup_t (by omega)]; exact t3 i hi⟩
  refine gL1_for (fun j ρ => tRx (eN S (wC S fr (S.1 - fr)) j) ρ ∧ Eqv pTx (gup σ 0 0 1 (nI (o - 1))) ρ) (fun r => ∃ σ', r = some ((), σ') ∧ σ' 0 0 1 = nI (o - 1) ∧ tRx (eN S (wC S fr (S.1 - fr)) ((S.1 - fr) * (c - 1))) σ' ∧ Eqv pTo σ σ') ((S.1 - fr) * (c - 1)) ?_ ?_ FU 0 _ (Nat.zero_le _) (by rw [FU_eq]; omega) ⟨hT0, Eqv.rf⟩
  · rintro j ρ K hj ⟨g1, g2⟩ hK
    unfold X0_closeLoop_b43
    have hL : 0 < S.1 - fr := by
      rcases Nat.eq_zero_or_pos (S.1 - fr) with z | z
      · rw [z, Nat.zero_mul] at hj; omega
      · exact z
    have hkj := hok j (by omega)
    have e1 : ρ 0 0 1 = nI (o - 1) := by rw [g2 0 0 1 (by unfold pTx; omega), gup_at, if_pos rfl]
    rw [if_neg (by rw [nI_leq (by omega) (by omega)]; omega), g1.2.1]
    by_cases c0 : (eN S (wC S fr (S.1 - fr)) j).2.1 = 0
    · obtain ⟨a1, a2, a3, a4⟩ := eN_at j c0
      have hk6 := hkj.1
      have hlt : fr + j < (eN S (wC S fr (S.1 - fr)) j).1 := by omega
      obtain ⟨b1, b2⟩ := g1.2.2 (fr + j) hlt
      have hread : (eN S (wC S fr (S.1 - fr)) j).2.2.1 (fr + j) = (wC S fr (S.1 - fr) j).1 ∧ (eN S (wC S fr (S.1 - fr)) j).2.2.2 (fr + j) = (wC S fr (S.1 - fr) j).2 := by
        rcases Nat.lt_or_ge (fr + j) S.1 with z | z
        · have := a3 (fr + j) z
          unfold wC
          rw [Nat.mod_eq_of_lt (show j < S.1 - fr by omega)]
          exact this
        · have := a4 (j - (S.1 - fr)) (by omega)
          rw [show S.1 + (j - (S.1 - fr)) = fr + j by omega] at this
          rw [this.1, this.2]
          unfold wC
          rw [← Nat.mod_eq_sub_mod (show S.1 - fr ≤ j by omega)]
          exact ⟨rfl, rfl⟩
      rw [hread.1] at b1
      rw [hread.2] at b2
      obtain ⟨ρ', k1, k2, k3⟩ := x_emit (l := (wC S fr (S.1 - fr) j).1) (v := (wC S fr (S.1 - fr) j).2) hkj g1
      rw [if_pos (by rw [c0]; rfl), nI_add, gAt_nI (show fr + j < 600 by omega) (by omega), b1, gAt_nI (show fr + j < 600 by omega) (by omega), b2, gCall_eq k1, gLet, nI_1]
      exact hK _ ⟨k2, g2.tr k3⟩
    · have c1 : (eN S (wC S fr (S.1 - fr)) j).2.1 = 1 := by have := hkj.2.1; omega
      rw [if_neg (fun z => c0 ((nI_z (by omega)).mp z))]
      refine ⟨ρ, rfl, e1, ?_, (Eqv.up (Or.inr ⟨rfl, rfl, rfl⟩)).tr (g2.mono (fun t k i z => Or.inl z))⟩
      have hadd := eN_add (S := S) (w := wC S fr (S.1 - fr)) j ((S.1 - fr) * (c - 1) - j)
      rw [show j + ((S.1 - fr) * (c - 1) - j) = (S.1 - fr) * (c - 1) by omega] at hadd
      rw [hadd, eN_long hkj c1]
      exact g1
  · rintro ρ K ⟨g1, g2⟩
    unfold X0_closeLoop_b43
    rw [if_pos (by rw [nI_leq (by omega) (by omega)]; omega)]
    exact ⟨ρ, rfl, by rw [g2 0 0 1 (by unfold pTx; omega), gup_at, if_pos rfl], g1, (Eqv.up (Or.inr ⟨rfl, rfl, rfl⟩)).tr (g2.mono (fun t k i z => Or.inl z))⟩
theorem m_close {S : gT} {τ : gM} {T o fr c : Nat} {J : gM → Option (Int32 × gM)} {P : Option (Int32 × gM) → Prop} (hT4 : T < 4) (h : SOK S) (hT : tRm T S τ) (ho : o < 4) (h14 : τ 9 0 14 = nI o) (h51 : τ 51 0 o = nI fr) (hf : fr ≤ S.1) (h10 : τ 9 0 10 = nI c) (hc : 1 ≤ c ∧ c ≤ 9) (hP : ∀ τ', tRm T (eN S (wC S fr (S.1 - fr)) ((S.1 - fr) * (c - 1))) τ' → Eqv (pTm T) τ τ' → P (J τ')) : P (gL1 FU (X9_shutItem_b49 J (nI S.1)) 1 τ) := by
  have hs6 := h.1
  have hok := eN_okC (fr := fr) (L := S.1 - fr) (n := c - 1) h (by omega)
  refine gL1_for (fun k ρ => 1 ≤ k ∧ tRm T (eN S (wC S fr (S.1 - fr)) ((S.1 - fr) * (k - 1))) ρ ∧ Eqv (pTm T) τ ρ) P c ?_ ?_ FU 1 τ hc.1 (by rw [FU_eq]; omega) ⟨Nat.le_refl _, by rw [Nat.sub_self, Nat.mul_zero]; exact hT, Eqv.rf⟩
  · rintro k ρ K hk ⟨k1, g1, g2⟩ hK
    unfold X9_shutItem_b49
    have hmk : (S.1 - fr) * (k - 1) + (S.1 - fr) = (S.1 - fr) * k := by rw [← Nat.mul_succ]; congr 1; omega
    have hmc : (S.1 - fr) * k ≤ (S.1 - fr) * (c - 1) := Nat.mul_le_mul_left _ (by omega)
    rw [g2 9 0 10 (by unfold pTm; omega), h10, if_neg (by rw [nI_leq (by omega) (by omega)]; omega), g2 9 0 14 (by unfold pTm; omega), h14, gAt_nI (show o < 4 from ho) (by omega), g2 51 0 o (by unfold pTm; omega), h51]
    refine gL1_for (fun i ρ' => fr ≤ i ∧ tRm T (eN S (wC S fr (S.1 - fr)) ((S.1 - fr) * (k - 1) + (i - fr))) ρ' ∧ Eqv (pTm T) τ ρ') P S.1 ?_ ?_ FU fr ρ hf (by rw [FU_eq]; omega) ⟨Nat.le_refl _, by rw [Nat.sub_self, Nat.add_zero]; exact g1, g2⟩
    · rintro i ρ' K2 hi ⟨i1, r1, r2⟩ hK2
      unfold X9_shutItem_b68
      have hkj := hok ((S.1 - fr) * (k - 1) + (i - fr)) (by omega)
      obtain ⟨p1, p2⟩ := eN_pre (S := S) (w := wC S fr (S.1 - fr)) ((S.1 - fr) * (k - 1) + (i - fr))
      obtain ⟨q1, q2⟩ := p2 i hi
      obtain ⟨b1, b2⟩ := r1.2.2.2 i (by omega)
      have hw : wC S fr (S.1 - fr) ((S.1 - fr) * (k - 1) + (i - fr)) = (S.2.2.1 i, S.2.2.2 i) := by
        unfold wC
        rw [Nat.mul_add_mod, Nat.mod_eq_of_lt (show i - fr < S.1 - fr by omega), show fr + (i - fr) = i by omega]
      rw [q1] at b1
      rw [q2] at b2
      obtain ⟨ρ2, a1, a2, a3⟩ := m_lay1 (l := S.2.2.1 i) (v := S.2.2.2 i) hT4 hkj r1
      rw [if_neg (by rw [nI_leq (by omega) (by omega)]; omega), r1.1, show (nI (1201 * T) + 1) + 2 * nI i = nI (1201 * T + 1 + 2 * i) by rw [nI_1, li2, pk_mul, nI_add], gAt_nI (show 1201 * T + 1 + 2 * i < 4804 by omega) (by omega), b1, show (nI (1201 * T) + 2) + 2 * nI i = nI (1201 * T + 2 + 2 * i) by rw [li2, nI_add, pk_mul, nI_add], gAt_nI (show 1201 * T + 2 + 2 * i < 4804 by omega) (by omega), b2, gCall_eq a1, gLet, nI_1]
      refine hK2 _ ⟨by omega, ?_, r2.tr a3⟩
      rw [show (S.1 - fr) * (k - 1) + (i + 1 - fr) = (S.1 - fr) * (k - 1) + (i - fr) + 1 by omega]
      simp only [eN]
      rw [hw]
      exact a2
    · rintro ρ' K2 ⟨i1, r1, r2⟩
      unfold X9_shutItem_b68
      rw [if_pos (by rw [nI_leq (by omega) (by omega)]; omega), gLet, nI_1]
      exact hK _ ⟨by omega, by rw [show k + 1 - 1 = k by omega, ← hmk]; exact r1, r2⟩
  · rintro ρ K ⟨k1, g1, g2⟩
    unfold X9_shutItem_b49
    rw [g2 9 0 10 (by unfold pTm; omega), h10, if_pos (by rw [nI_leq (by omega) (by omega)]; omega)]
    exact hP ρ g1 g2
