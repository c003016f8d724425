/-! LAYER 2: distance. -/
theorem x_dst {x : gM} {t s i : Nat} {L : Nat → Nat} (W : Nat → Nat → Nat) (D : Nat → Nat) (h : TRx x t s L) (hi : i < s) (hW0 : ∀ v, W i v = 0) (hD0 : D i = 0)
    (hWa : ∀ a v, a < i → W a v = W (a + 1) v + if L a = v then 1 else 0) (hDa : ∀ a, a < i → D a = D (a + 1) + if W (a + 1) (L a) = 0 then 1 else 0) : ∃ x', X4_distanceAt t (nI i) x = some (if lst L (L i) i = 0 then -1 else nI (D (lst L (L i) i)), x') ∧ Eqv p34 x x' := by
  unfold X4_distanceAt
  obtain ⟨hs, h5, h38⟩ := id h
  obtain ⟨x1, a1, a2, a3⟩ := x_zero34 (x := x) 0
  have hli := h38 i hi
  rw [gCall_eq a1, pn_sub, gLet]
  refine gL2_rec (fun q p b σ => b = pnI q ∧ p = nI (D q) ∧ q ≤ i ∧ lst L (L i) i ≤ q ∧ (∀ v, v < 1024 → σ 34 0 v = nI (if W q v = 0 then 0 else 1)) ∧ Eqv p34 x σ) (fun o => ∃ x', o = some (if lst L (L i) i = 0 then -1 else nI (D (lst L (L i) i)), x') ∧ Eqv p34 x x') ?_ FU i 0 (pnI i) x1 (by rw [FU_eq]; omega) ⟨rfl, by rw [hD0]; rfl, Nat.le_refl _, lst_le _ _ _, fun v hv => by rw [a2 v hv, hW0, if_pos rfl]; rfl, a3⟩
  rintro q p b σ K ⟨rfl, rfl, hq, hlw, g1, g2⟩ hK
  unfold X4_distanceAt_b15
  cases q with
  | zero =>
    rw [if_pos (show pnI 0 < 0 by decide), if_pos (by omega)]
    exact ⟨σ, rfl, g2⟩
  | succ q =>
    obtain ⟨l1, l2⟩ := h38 q (by omega)
    rw [show pnI (q + 1) = nI q from rfl, if_neg (nI_neg (by omega)), gAt_nI (show q < 600 by omega) (by omega), g2 38 t q (by unfold p34; omega), l2, gAt_nI (show i < 600 by omega) (by omega), g2 38 t i (by unfold p34; omega), hli.2]
    by_cases e : L q = L i
    · have : lst L (L i) i = q + 1 := by
        rcases Nat.lt_or_ge q (lst L (L i) i) with z | z
        · omega
        · exact absurd e (lst_no i q z (by omega))
      rw [if_pos (by rw [e]), this, if_neg (by omega)]
      exact ⟨σ, rfl, g2⟩
    · have hlq : lst L (L i) i ≤ q := by
        rcases Nat.lt_or_ge q (lst L (L i) i) with z | z
        · have h1 := lst_eq (L := L) (v := L i) i (by omega)
          rw [show lst L (L i) i - 1 = q by omega] at h1
          exact absurd h1 e
        · exact z
      rw [if_neg (fun z => e ((nI_inj (by omega) (by omega)).mp z)), gAt_nI (show L q < 1024 from l1) (by omega), g1 _ l1]
      have hd := hDa q (by omega)
      by_cases e0 : W (q + 1) (L q) = 0
      · rw [if_pos e0] at hd
        rw [if_pos (show nI (if W (q + 1) (L q) = 0 then 0 else 1) = 0 by rw [if_pos e0]; rfl), gPut_nI (show L q < 1024 from l1) (by omega), gLet, gLet, nI_1, pn_dn]
        refine hK q _ _ _ (by omega) ⟨rfl, by rw [hd], by omega, hlq, fun v hv => ?_, g2.tr (Eqv.up ⟨rfl, rfl⟩)⟩
        rw [gup_at, hWa q v (by omega)]
        by_cases ev : v = L q
        · rw [if_pos ev, if_pos ev.symm, if_neg (by omega)]; rfl
        · rw [if_neg ev, if_neg (show ¬ L q = v from fun z => ev z.symm), g1 v hv]; rfl
      · rw [if_neg e0] at hd
        rw [if_neg (show ¬ nI (if W (q + 1) (L q) = 0 then 0 else 1) = 0 by rw [if_neg e0]; decide), gLet, pn_dn]
        refine hK q _ _ _ (by omega) ⟨rfl, by rw [hd]; rfl, by omega, hlq, fun v hv => ?_, g2⟩
        rw [g1 v hv, hWa q v (by omega)]
        by_cases ev : L q = v
        · rw [if_pos ev, if_neg (by rw [← ev]; exact e0), if_neg (by omega)]
        · rw [if_neg ev]; rfl
theorem m_dst {m : gM} {t s i : Nat} {L : Nat → Nat} (h : TRm m t s L) (hi : i < s) (hl : 0 < lst L (L i) i) : gL2 FU (X9_distance_b50 (nI t) (nI i) (pnI (lst L (L i) i))) 0 (nI (lst L (L i) i)) m = some (nI (dv L (lst L (L i) i) i), m) := by
  have hs := h.2.1
  have hle := lst_le L (L i) i
  rw [dv_first i (fun k hk => (h.2.2.2 k (by omega)).1)]
  refine gL2_cntI (fun σ => σ = m) (fun o => o = some (nI (cntP (fun k => decide (lst L (L i) i ≤ k) && decide (lst L (L k) k ≤ lst L (L i) i)) i), m)) (fun k => decide (lst L (L i) i ≤ k) && decide (lst L (L k) k ≤ lst L (L i) i)) (lst L (L i) i) i (fun k hk => by rw [decide_eq_false (by omega)]; rfl) (fun k c σ K hk1 hk2 hc hI => ?_) (fun σ K hI => ?_) (by rw [FU_eq]; omega) hle rfl
  · subst hI
    refine ⟨σ, rfl, ?_⟩
    unfold X9_distance_b50
    have h3 := lst_le L (L k) k
    rw [if_neg (by rw [nI_leq (by omega) (by omega)]; omega), gCall_eq (m_latest h (by omega))]
    by_cases e : lst L (L k) k ≤ lst L (L i) i
    · rw [if_neg (by rw [pn_pn (by omega) (by omega)]; omega), if_pos (by rw [decide_eq_true hk1, decide_eq_true e]; rfl), gLet, gLet, nI_1, nI_1]
    · rw [if_pos (by rw [pn_pn (by omega) (by omega)]; omega), if_neg (by rw [decide_eq_false e, Bool.and_false]; decide), gLet, gLet, nI_1, nI_p0] <;> rfl
  · subst hI
    unfold X9_distance_b50
    rw [if_pos (by rw [nI_leq (by omega) (by omega)]; omega)]
theorem q_distance {x m : gM} {N : Nat} (h : INV x m N) (a b : Int32) : Ag (X8_distance a b x) (X9_distance a b m) N := by
  unfold X8_distance X9_distance
  rcases trace_cases h a with ⟨t, ht, rfl, c1, c2, hT⟩ | ⟨c1, c2⟩
  · obtain ⟨s, L, hx, hm⟩ := trc2 ht hT
    have hs := hx.1
    rw [gCall_eq c1, if_pos rfl, gCall_eq c2, if_pos rfl, gCall_eq (TRm_len hm)]
    rcases isIn_n b (n := s) (by omega) m with ⟨i, g1, rfl, g3⟩ | ⟨g1, g2⟩
    · obtain ⟨x1, a1, a2⟩ := x_dst (fun a v => wc L a i v) (fun a => dv L a i) hx g1 (fun v => wc_nil (Nat.le_refl _)) (dv_nil (Nat.le_refl _)) (fun a v ha => wc_a ha) (fun a ha => dv_a ha (hx.2.2 a (by omega)).1)
      have hle := lst_le L (L i) i
      rw [if_neg (nI_neg (by omega)), x_tr ht, x_tr ht, z4, hx.2.1, if_pos (by rw [nI_ltt (by omega) (by omega)]; exact g1), gCall_eq a1, gCall_eq g3, if_pos rfl, gCall_eq (m_latest hm g1)]
      by_cases e : lst L (L i) i = 0
      · rw [if_pos e, if_pos ((pn_z (by omega)).mpr e)]
        exact ⟨_, _, _, rfl, rfl, INV_congr h (p34_X a2) Eqv.rf⟩
      · rw [if_neg e, if_neg (fun z => e ((pn_z (by omega)).mp z)), gCall_eq (m_latest hm g1), gLet]
        have hp : pnI (lst L (L i) i) + 1 = nI (lst L (L i) i) := by
          obtain ⟨k, hk⟩ := Nat.exists_eq_succ_of_ne_zero e
          rw [hk, show pnI k.succ = nI k from rfl, nI_1]
        rw [hp, m_dst hm g1 (by omega)]
        exact ⟨_, _, _, rfl, rfl, INV_congr h (p34_X a2) Eqv.rf⟩
    · rw [gCall_eq g2]
      refine Ag.same h (-1) ?_ rfl
      rcases g1 with z | ⟨j, hj, rfl, z⟩
      · rw [if_pos z]
      · rw [if_neg (nI_neg hj), x_tr ht, z4, hx.2.1, if_neg (by rw [nI_ltt hj (by omega)]; omega)]
  · rw [gCall_eq c1, gCall_eq c2]
    exact Ag.same h _ rfl rfl
