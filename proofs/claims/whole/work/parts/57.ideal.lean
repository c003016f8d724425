/-! LAYER 2: ideal. -/
def nxd (L : Nat → Nat) (s v e : Nat) : Nat → Nat
  | 0 => e
  | d + 1 => if L (s - (d + 1)) = v then s - (d + 1) else nxd L s v e d
theorem nxd_le {L : Nat → Nat} {s v e : Nat} (he : s ≤ e) : ∀ d, nxd L s v e d ≤ e := by
  intro d
  induction d with
  | zero => exact Nat.le_refl _
  | succ d ih => simp only [nxd]; split <;> omega
/-- a use again, or none: by one bound or another -/
theorem nxd_e {L : Nat → Nat} {s v e : Nat} (he : s ≤ e) : ∀ d, d ≤ s → (nxd L s v s d = s ∧ nxd L s v e d = e) ∨ (nxd L s v s d < s ∧ nxd L s v e d = nxd L s v s d) := by
  intro d
  induction d with
  | zero => intro _; exact Or.inl ⟨rfl, rfl⟩
  | succ d ih =>
    intro hd
    simp only [nxd]
    by_cases c : L (s - (d + 1)) = v
    · rw [if_pos c, if_pos c]; exact Or.inr ⟨by omega, rfl⟩
    · rw [if_neg c, if_neg c]; exact ih (by omega)
theorem nxd_lt {L : Nat → Nat} {s v w e d : Nat} (he : s ≤ e) (hd : d ≤ s) : nxd L s v e d < nxd L s w e d ↔ nxd L s v s d < nxd L s w s d := by
  rcases nxd_e (v := v) he d hd with ⟨a1, a2⟩ | ⟨a1, a2⟩ <;> rcases nxd_e (v := w) he d hd with ⟨b1, b2⟩ | ⟨b1, b2⟩ <;> rw [a2, b2] <;> omega
theorem m_nextOf {m : gM} {t s i v : Nat} {L : Nat → Nat} (h : TRm m t s L) (hi : i < s) (hv : v < 1024) : X9_nextOf (nI t) (nI i) (nI v) m = some (nI (nxd L s v s (s - (i + 1))), m) := by
  unfold X9_nextOf
  have hs := h.2.1
  rw [nI_1, gLet]
  refine gL1_for (fun k σ => σ = m ∧ k ≤ s ∧ nxd L s v s (s - (i + 1)) = nxd L s v s (s - k)) (fun o => o = some (nI (nxd L s v s (s - (i + 1))), m)) s ?_ ?_ FU (i + 1) m (by omega) (by rw [FU_eq]; omega) ⟨rfl, by omega, rfl⟩
  · rintro k σ K hk ⟨rfl, -, he⟩ hK
    unfold X9_nextOf_b5
    have hl := (h.2.2.2 k hk).1
    have hn : nxd L s v s (s - k) = if L k = v then k else nxd L s v s (s - (k + 1)) := by
      rw [show s - k = (s - (k + 1)) + 1 by omega]
      simp only [nxd]
      rw [show s - (s - (k + 1) + 1) = k by omega]
    rw [gCall_eq (TRm_len h), if_neg (by rw [nI_leq (by omega) (by omega)]; omega), gCall_eq (TRm_line h hk)]
    by_cases e : L k = v
    · rw [if_pos (by rw [e]), he, hn, if_pos e]
    · rw [if_neg (fun z => e ((nI_inj (by omega) (by omega)).mp z)), gLet, nI_1]
      exact hK _ ⟨rfl, by omega, by rw [he, hn, if_neg e]⟩
  · rintro σ K ⟨rfl, -, he⟩
    unfold X9_nextOf_b5
    rw [gCall_eq (TRm_len h), if_pos (by rw [nI_leq (by omega) (by omega)]; omega), he, Nat.sub_self]
    rfl
def pSt (t k i : Nat) : Prop := ((34 ≤ t ∧ t ≤ 37) ∧ k = 0) ∨ (t = 4 ∧ k = 0 ∧ i = 4)
theorem pSt_X {x x' : gM} (h : Eqv pSt x x') : Eqv pX x x' := h.mono (fun t k i q => by unfold pSt at q; unfold pX; omega)
theorem p34_St {x x' : gM} (h : Eqv p34 x x') : Eqv pSt x x' := h.mono (fun t k i q => by unfold p34 at q; unfold pSt; omega)
theorem x_next {x : gM} {t s : Nat} {L : Nat → Nat} (h : TRx x t s L) : ∃ x', X4_findNextUses t x = some ((), x') ∧ (∀ i, i < s → x' 35 0 i = nI (nxd L s (L i) 600 (s - (i + 1)))) ∧ Eqv pSt x x' := by
  unfold X4_findNextUses
  obtain ⟨hs, h5, h38⟩ := id h
  obtain ⟨x1, a1, a2, a3⟩ := x_zero34 (x := x) 600
  rw [gCall_eq a1, a3 5 t 2 (by unfold p34; omega), h5, pn_sub, gLet]
  refine gL1_rec (fun q a σ => a = pnI q ∧ q ≤ s ∧ (∀ v, v < 1024 → σ 34 0 v = nI (nxd L s v 600 (s - q))) ∧ (∀ i, q ≤ i → i < s → σ 35 0 i = nI (nxd L s (L i) 600 (s - (i + 1)))) ∧ Eqv pSt x σ) (fun o => ∃ x', o = some ((), x') ∧ (∀ i, i < s → x' 35 0 i = nI (nxd L s (L i) 600 (s - (i + 1)))) ∧ Eqv pSt x x') ?_ FU s (pnI s) x1 (by rw [FU_eq]; omega) ⟨rfl, Nat.le_refl _, fun v hv => by rw [a2 v hv, Nat.sub_self]; rfl, fun i h1 h2 => by omega, p34_St a3⟩
  rintro q a σ K ⟨rfl, hq, g1, g2, g3⟩ hK
  unfold X4_findNextUses_b17
  cases q with
  | zero =>
    rw [if_pos (show pnI 0 < 0 by decide)]
    exact ⟨σ, rfl, fun i hi => g2 i (Nat.zero_le _) hi, g3⟩
  | succ q =>
    obtain ⟨l1, l2⟩ := h38 q (by omega)
    have e38 : σ 38 t q = nI (L q) := by rw [g3 38 t q (by unfold pSt; omega)]; exact l2
    rw [show pnI (q + 1) = nI q from rfl, if_neg (nI_neg (by omega)), gAt_nI (show q < 600 by omega) (by omega), e38, gAt_nI (show L q < 1024 from l1) (by omega), g1 _ l1, gPut_nI (show q < 600 by omega) (by omega), gAt_nI (show q < 600 by omega) (by omega), gup_t (show 38 ≠ 35 by omega), e38, gPut_nI (show L q < 1024 from l1) (by omega), gLet, pn_dn]
    refine hK q _ _ (by omega) ⟨rfl, by omega, fun v hv => ?_, fun i h1 h2 => ?_, g3.tr ((Eqv.up (by unfold pSt; omega)).tr (Eqv.up (by unfold pSt; omega)))⟩
    · rw [gup_at, show s - q = (s - (q + 1)) + 1 by omega]
      simp only [nxd]
      rw [show s - (s - (q + 1) + 1) = q by omega]
      by_cases e : v = L q
      · rw [if_pos e, if_pos e.symm]
      · rw [if_neg e, if_neg (show ¬ L q = v from fun z => e z.symm), gup_t (show 34 ≠ 35 by omega), g1 v hv]
    · rw [gup_t (show 35 ≠ 34 by omega), gup_at]
      by_cases e : i = q
      · subst e; rw [if_pos rfl]
      · rw [if_neg e]; exact g2 i (by omega) h2
theorem x_place {x : gM} {h v : Nat} {H : Nat → Nat} (hh : h ≤ 64) (hv : v < 1024) (h4 : x 4 0 4 = nI h) (hH : ∀ k, k < h → x 36 0 k = nI (H k) ∧ H k < 1024) : X4_placeHolding (nI v) x = some (oI (fdx H v h), x) := by
  unfold X4_placeHolding
  refine gL1_for (fun i σ => σ = x ∧ fdx H v i = none) (fun r => r = some (oI (fdx H v h), x)) h ?_ ?_ FU 0 x (Nat.zero_le _) (by rw [FU_eq]; omega) ⟨rfl, rfl⟩
  · rintro i σ K hi ⟨rfl, hn⟩ hK
    unfold X4_placeHolding_b2
    obtain ⟨k1, k2⟩ := hH i hi
    rw [h4, if_neg (by rw [nI_leq (by omega) (by omega)]; omega), gAt_nI (show i < 64 by omega) (by omega), k1]
    by_cases e : H i = v
    · have f1 : fdx H v (i + 1) = some i := by simp only [fdx, hn, if_pos e]
      have f2 := fdx_keep f1 (h - (i + 1))
      rw [show i + 1 + (h - (i + 1)) = h by omega] at f2
      rw [if_pos (by rw [e]), f2]; rfl
    · rw [if_neg (fun z => e ((nI_inj (by omega) (by omega)).mp z)), gLet, nI_1]
      exact hK _ ⟨rfl, by simp only [fdx, hn, if_neg e]⟩
  · rintro σ K ⟨rfl, hn⟩
    unfold X4_placeHolding_b2
    rw [h4, if_pos (by rw [nI_leq (by omega) (by omega)]; omega), hn]; rfl
theorem x_fill {x : gM} {h R : Nat} {U : Nat → Nat} (hR : 1 ≤ R ∧ R ≤ 64) (hh : h ≤ R) (h4 : x 4 0 4 = nI h) (hU : ∀ k, k < h → x 37 0 k = nI (U k) ∧ U k ≤ 600) : X4_placeToFill (nI R) x = some (nI (if h < R then h else bstX U h), if h < R then gup x 4 0 4 (nI (h + 1)) else x) := by
  unfold X4_placeToFill
  rw [gJ0_e, h4]
  by_cases c : h < R
  · rw [if_neg (show ¬ nI R ≤ nI h by rw [nI_leq (by omega) (by omega)]; omega), if_neg (show ¬ 64 ≤ nI h by rw [li64, nI_leq (by omega) (by omega)]; omega), gLet, nI_1, gSet, gup_at, if_pos rfl, nI_sub1 (by omega), if_pos c, if_pos c]
    rfl
  · rw [if_pos (show nI R ≤ nI h by rw [nI_leq (by omega) (by omega)]; omega), if_neg c, if_neg c]
    refine gL2_for (fun i v σ => σ = x ∧ 1 ≤ i ∧ v = nI (bstX U i)) (fun o => o = some (nI (bstX U h), x)) h ?_ ?_ FU 1 0 x (by omega) (by rw [FU_eq]; omega) ⟨rfl, Nat.le_refl _, by rw [bstX_1]; rfl⟩
    · rintro i v σ K hi ⟨rfl, h1, rfl⟩ hK
      unfold X4_placeToFill_b38
      have hb := bstX_lt U i (by omega)
      obtain ⟨u1, u2⟩ := hU i hi
      obtain ⟨w1, w2⟩ := hU (bstX U i) (by omega)
      rw [h4, if_neg (by rw [nI_leq (by omega) (by omega)]; omega), gAt_nI (show i < 64 by omega) (by omega), u1, gAt_nI (show bstX U i < 64 by omega) (by omega), w1]
      by_cases e : U i ≤ U (bstX U i)
      · rw [if_pos (by rw [nI_leq (by omega) (by omega)]; exact e), gLet, nI_1]
        exact hK _ _ ⟨rfl, by omega, by simp only [bstX]; rw [if_pos e]⟩
      · rw [if_neg (by rw [nI_leq (by omega) (by omega)]; exact e), gLet, nI_1]
        exact hK _ _ ⟨rfl, by omega, by simp only [bstX]; rw [if_neg e]⟩
    · rintro v σ K ⟨rfl, h1, rfl⟩
      unfold X4_placeToFill_b38
      rw [h4, if_pos (by rw [nI_leq (by omega) (by omega)]; omega)]
/-- the same with so much room, on the reference's store: uses again -/
def btI (L : Nat → Nat) (s i : Nat) (H : Nat → Nat) (e k : Nat) : Bool := decide (nxd L s (H k) s (s - (i + 1)) < nxd L s (H e) s (s - (i + 1)))
theorem bst_sel {U : Nat → Nat} {bt : Nat → Nat → Bool} {h : Nat} (hb : ∀ e k, e < h → k < h → (bt e k = true ↔ U k < U e)) : ∀ n, n ≤ h → bstX U n = sel bt n := by
  intro n
  induction n with
  | zero => intro _; rfl
  | succ n ih =>
    intro hn
    have e := ih (by omega)
    simp only [bstX, sel]
    rw [← e]
    rcases Nat.eq_zero_or_pos n with z | z
    · subst z
      rw [show bstX U 0 = 0 from rfl, ite_self, ite_self]
    · have hl := bstX_lt U n z
      have h2 := hb n (bstX U n) (by omega) (by omega)
      by_cases c : U n ≤ U (bstX U n)
      · rw [if_pos c, if_neg (fun q => by have := h2.mp q.2; omega)]
      · rw [if_neg c, if_pos ⟨by omega, h2.mpr (by omega)⟩]
theorem x_ideal {x : gM} {t s R : Nat} {L : Nat → Nat} (h : TRx x t s L) (hR : 1 ≤ R ∧ R ≤ 64) : ∃ x', X4_fewestMisses t (nI R) x = some (nI (rS (btI L s) L R s).1, x') ∧ Eqv pSt x x' := by
  unfold X4_fewestMisses
  obtain ⟨hs, h5, h38⟩ := id h
  obtain ⟨x1, a1, a2, a3⟩ := x_next h
  rw [gCall_eq a1, gSet]
  refine gL2_for (fun i v σ => v = nI (rS (btI L s) L R i).1 ∧ σ 4 0 4 = nI (rS (btI L s) L R i).2.1 ∧ (∀ k, k < (rS (btI L s) L R i).2.1 → (σ 36 0 k = nI ((rS (btI L s) L R i).2.2 k) ∧ (rS (btI L s) L R i).2.2 k < 1024) ∧ σ 37 0 k = nI (nxd L s ((rS (btI L s) L R i).2.2 k) 600 (s - i))) ∧ (∀ j k, j < (rS (btI L s) L R i).2.1 → k < (rS (btI L s) L R i).2.1 → (rS (btI L s) L R i).2.2 j = (rS (btI L s) L R i).2.2 k → j = k) ∧ (∀ j, j < s → σ 35 0 j = nI (nxd L s (L j) 600 (s - (j + 1)))) ∧ Eqv pSt x σ) (fun o => ∃ x', o = some (nI (rS (btI L s) L R s).1, x') ∧ Eqv pSt x x') s ?_ ?_ FU 0 0 _ (Nat.zero_le _) (by rw [FU_eq]; omega) ⟨rfl, by rw [gup_at, if_pos rfl]; rfl, fun k hk => absurd hk (Nat.not_lt_zero _), fun j k hj => absurd hj (Nat.not_lt_zero _), fun j hj => by rw [gup_t (by omega)]; exact a2 j hj, a3.tr (Eqv.up (Or.inr ⟨rfl, rfl, rfl⟩))⟩
  · rintro i v σ K hi ⟨rfl, g1, g2, gd, gn, g3⟩ hK
    unfold X4_fewestMisses_b15
    obtain ⟨l1, l2⟩ := h38 i hi
    obtain ⟨r1, r2⟩ := rS_le (btI L s) L R i
    have e38 : σ 38 t i = nI (L i) := by rw [g3 38 t i (by unfold pSt; omega)]; exact l2
    have hnx : rS (btI L s) L R (i + 1) = match fdx (rS (btI L s) L R i).2.2 (L i) (rS (btI L s) L R i).2.1 with
      | some _ => rS (btI L s) L R i
      | none => ((rS (btI L s) L R i).1 + 1, if (rS (btI L s) L R i).2.1 < R then (rS (btI L s) L R i).2.1 + 1 else (rS (btI L s) L R i).2.1, uH (rS (btI L s) L R i).2.2 (if (rS (btI L s) L R i).2.1 < R then (rS (btI L s) L R i).2.1 else sel (btI L s i (rS (btI L s) L R i).2.2) (rS (btI L s) L R i).2.1) (L i)) := rfl
    rw [g3 5 t 2 (by unfold pSt; omega), h5, if_neg (by rw [nI_leq (by omega) (by omega)]; omega), gAt_nI (show i < 600 by omega) (by omega), e38, gCall_eq (x_place (by omega) l1 g1 (fun k hk => (g2 k hk).1))]
    revert g1 g2 gd hK r1 r2 hnx
    generalize rS (btI L s) L R (i + 1) = q'
    generalize rS (btI L s) L R i = q
    obtain ⟨c, h0, H⟩ := q
    intro g1 g2 gd hK r1 r2 hnx
    dsimp only at hK g1 g2 gd r1 r2 hnx ⊢
    have hsi : ∀ v, nxd L s v 600 (s - i) = if L i = v then i else nxd L s v 600 (s - (i + 1)) := fun v => by
      rw [show s - i = (s - (i + 1)) + 1 by omega]
      simp only [nxd]
      rw [show s - (s - (i + 1) + 1) = i by omega]
    have hnl : nxd L s (L i) 600 (s - (i + 1)) ≤ 600 := nxd_le hs _
    -- the line is at p
    have tail : ∀ (p c1 h1 : Nat) (H1 : Nat → Nat) (τ : gM), p < 64 → q' = (c1, h1, H1) → (∀ k, k < h1 → H1 k = if k = p then L i else H k) → (∀ k, k < h1 → k ≠ p → k < h0) → (∀ k, k < h1 → k ≠ p → H k ≠ L i) → τ 4 0 4 = nI h1 → (∀ t q j, ¬ (t = 4 ∧ q = 0 ∧ j = 4) → τ t q j = σ t q j) →
        ∃ x', (gAt τ 38 t (nI i) (fun (x13 : Int32) => gPut τ 36 0 (nI p) x13 (fun (m14 : gM) => gAt m14 35 0 (nI i) (fun (x15 : Int32) => gPut m14 37 0 (nI p) x15 (fun (m16 : gM) => gLet (nI i + 1) (fun (x17 : Int32) => K (nI c1) x17 m16)))))) = some (nI (rS (btI L s) L R s).1, x') ∧ Eqv pSt x x' := by
      intro p c1 h1 H1 τ hp hq' hH1 hlt hne t4 tth
      subst hq'
      dsimp only at hK
      rw [gAt_nI (show i < 600 by omega) (by omega), tth 38 t i (by omega), e38, gPut_nI (show p < 64 from hp) (by omega), gAt_nI (show i < 600 by omega) (by omega), gup_t (show 35 ≠ 36 by omega), tth 35 0 i (by omega), gn i hi, gPut_nI (show p < 64 from hp) (by omega), gLet, nI_1]
      have hc1 : ∀ k, k < h1 → H1 k < 1024 := fun k hk => by
        rw [hH1 k hk]
        by_cases e : k = p
        · rw [if_pos e]; exact l1
        · rw [if_neg e]; exact (g2 k (hlt k hk e)).1.2
      refine hK _ _ ⟨rfl, by rw [gup_t (by omega), gup_t (by omega)]; exact t4, fun k hk => ⟨⟨?_, hc1 k hk⟩, ?_⟩, fun j k hj hk hjk => ?_, fun j hj => by rw [gup_t (by omega), gup_t (by omega), tth 35 0 j (by omega)]; exact gn j hj, (g3.tr (fun t q j z => tth t q j (fun y => z (Or.inr y)))).tr ((Eqv.up (by unfold pSt; omega)).tr (Eqv.up (by unfold pSt; omega)))⟩
      · rw [gup_t (show 36 ≠ 37 by omega), gup_at, hH1 k hk]
        by_cases e : k = p
        · rw [if_pos e, if_pos e]
        · rw [if_neg e, if_neg e, tth 36 0 k (by omega)]; exact (g2 k (hlt k hk e)).1.1
      · rw [gup_at, hH1 k hk]
        by_cases e : k = p
        · rw [if_pos e, if_pos e]
        · rw [if_neg e, if_neg e, gup_t (show 37 ≠ 36 by omega), tth 37 0 k (by omega), (g2 k (hlt k hk e)).2, hsi, if_neg (fun z => hne k hk e z.symm)]
      · rw [hH1 j hj, hH1 k hk] at hjk
        by_cases ej : j = p
        · by_cases ek : k = p
          · rw [ej, ek]
          · rw [if_pos ej, if_neg ek] at hjk
            exact absurd hjk.symm (hne k hk ek)
        · rw [if_neg ej] at hjk
          by_cases ek : k = p
          · rw [if_pos ek] at hjk
            exact absurd hjk (hne j hj ej)
          · rw [if_neg ek] at hjk
            exact gd j k (hlt j hj ej) (hlt k hk ek) hjk
    rw [gJ2_e]
    cases hf : fdx H (L i) h0 with
    | some p =>
      obtain ⟨p1, p2⟩ := fdx_lt _ _ hf
      rw [hf] at hnx
      dsimp only at hnx
      rw [show oI (some p) = nI p from rfl, if_neg (nI_nm1 (by omega))]
      refine tail p c h0 H σ (by omega) hnx (fun k hk => ?_) (fun k hk _ => hk) (fun k hk hkp z => hkp (gd k p hk p1 (by rw [z, p2]))) g1 (fun _ _ _ _ => rfl)
      by_cases e : k = p
      · rw [if_pos e, e]; exact p2
      · rw [if_neg e]
    | none =>
      have hno := fdx_non _ hf
      rw [hf] at hnx
      dsimp only at hnx
      rw [show oI none = -1 from rfl, if_pos rfl, gLet, nI_1 c, gCall_eq (x_fill (U := fun k => nxd L s (H k) 600 (s - i)) hR r2 g1 (fun k hk => ⟨(g2 k hk).2, nxd_le hs _⟩))]
      have hsel : bstX (fun k => nxd L s (H k) 600 (s - i)) h0 = sel (btI L s i H) h0 := bst_sel (h := h0) (fun e k he hk => by
        unfold btI
        rw [decide_eq_true_iff, hsi, hsi, if_neg (fun z => hno k hk z.symm), if_neg (fun z => hno e he z.symm)]
        exact (nxd_lt hs (by omega)).symm) h0 (Nat.le_refl _)
      by_cases c1 : h0 < R
      · rw [if_pos c1, if_pos c1] at hnx
        rw [if_pos c1, if_pos c1]
        refine tail h0 (c + 1) (h0 + 1) _ (gup σ 4 0 4 (nI (h0 + 1))) (by omega) hnx (fun k hk => rfl) (fun k hk hne => by omega) (fun k hk hne => hno k (by omega)) (by rw [gup_at, if_pos rfl]) (fun t q j z => by unfold gup; rw [if_neg z])
      · rw [if_neg c1, if_neg c1] at hnx
        rw [if_neg c1, if_neg c1, hsel]
        have hl := sel_lt (btI L s i H) h0 (by omega)
        exact tail (sel (btI L s i H) h0) (c + 1) h0 _ σ (by omega) hnx (fun k hk => rfl) (fun k hk _ => hk) (fun k hk _ => hno k hk) g1 (fun _ _ _ _ => rfl)
  · rintro v σ K ⟨rfl, g1, g2, gd, gn, g3⟩
    unfold X4_fewestMisses_b15
    rw [g3 5 t 2 (by unfold pSt; omega), h5, if_pos (by rw [nI_leq (by omega) (by omega)]; omega)]
    exact ⟨σ, rfl, g3⟩
theorem m_ideal {m : gM} {t s R : Nat} {L : Nat → Nat} (h : TRm m t s L) (hR : 1 ≤ R ∧ R ≤ 64) : ∃ m', X9_missesWith (nI t) (nI R) 1 m = some (nI (rS (btI L s) L R s).1, m') ∧ Eqv pWi m m' := by
  refine m_with (btI L s) h hR (fun i H e k h0 σ J hi he hk h0R hT hH => ?_)
  have hs := h.2.1
  obtain ⟨e1, e2⟩ := hH e he
  obtain ⟨k1, k2⟩ := hH k hk
  have n1 := nxd_le (L := L) (s := s) (v := H e) (Nat.le_refl s) (s - (i + 1))
  have n2 := nxd_le (L := L) (s := s) (v := H k) (Nat.le_refl s) (s - (i + 1))
  rw [if_neg (show ¬ (1 : Int32) = 0 by decide), gAt_nI (show e < 64 by omega) (by omega), e1, gCall_eq (m_nextOf hT hi e2), gAt_nI (show k < 64 by omega) (by omega), k1, gCall_eq (m_nextOf hT hi k2)]
  unfold btI
  by_cases c : nxd L s (H k) s (s - (i + 1)) < nxd L s (H e) s (s - (i + 1))
  · rw [if_neg (by rw [nI_leq (by omega) (by omega)]; omega), decide_eq_true c, if_pos rfl]; rfl
  · rw [if_pos (by rw [nI_leq (by omega) (by omega)]; omega), decide_eq_false c, if_neg (by decide)]; rfl
theorem pWi_M {m m' : gM} (h : Eqv pWi m m') : Eqv pM m m' := h.mono (fun t k i q => by unfold pWi at q; unfold pM; omega)
theorem slots_R {B : Nat → Int32} {N : Nat} (hB : BI B N) : 1 ≤ bW B * 2 ^ bN B ∧ bW B * 2 ^ bN B ≤ 64 := by
  have hp := pow_b hB
  have hw := hB.1.2
  have h1 := Nat.mul_le_mul hw.2 hp.2
  have h2 := Nat.mul_le_mul hw.1 hp.1
  omega
theorem q_ideal {x m : gM} {N : Nat} (h : INV x m N) (a : Int32) : Ag (X8_ideal a x) (X9_ideal a m) N := by
  unfold X8_ideal X9_ideal
  rcases trace_cases h a with ⟨t, ht, rfl, c1, c2, hT⟩ | ⟨c1, c2⟩
  · obtain ⟨s, L, hx, hm⟩ := trc2 ht hT
    have hR := slots_R h.bi
    obtain ⟨x1, a1, a2⟩ := x_ideal hx hR
    obtain ⟨m1, b1, b2⟩ := m_ideal hm hR
    rw [gCall_eq c1, if_pos rfl, gCall_eq c2, if_pos rfl, x_tr ht, z4, gCall_eq (x_slotsAll h.rs h.bi), gCall_eq a1, gCall_eq (m_slotsAll h.bi), gCall_eq b1]
    exact ⟨_, _, _, rfl, rfl, INV_congr h (pSt_X a2) (pWi_M b2)⟩
  · rw [gCall_eq c1, gCall_eq c2]
    exact Ag.same h _ rfl rfl
