/-! LAYER 2: suited. -/
theorem FK_self {B : Nat → Int32} {N : Nat} (hB : BI B N) : FK B B (bN B) := by
  refine ⟨fun _ _ _ => rfl, hB.2.1.1, hB.2.2.2.2.1, fun i hi => ?_⟩
  have := hB.2.2.2.2.2.1 (i / 4) (i % 4) (by omega) (by omega)
  rw [show 11 + 4 * (i / 4) + i % 4 = 11 + i by omega] at this
  exact ⟨_, this.1, this.2⟩
theorem fm_BI {a : Int32} {B : Nat → Int32} {N : Nat} (hB : BI B N) (hE : ∀ q, q < 64 → bL B q = 0) : BI (fmW a B (bN B) (bW B)) N ∧ ∀ q, q < 64 → bL (fmW a B (bN B) (bW B)) q = 0 := by
  obtain ⟨h1, h2, h3, h4⟩ := FK_fmW (a := a) hB.2.1.2 (FK_self hB) (bW B) hB.1.2.2
  exact BI_em hB hE (fun i _ _ h8 hm => h1 i h8 hm) (by rw [h1 0 (by omega) (by omega)]; exact hB.1.1) hB.1.2 h2 hB.2.1.2 h3 h4
theorem emB_0 {B : Nat → Int32} {N : Nat} (hB : BI B N) : ∀ q, q < 64 → bL (emB B 64) q = 0 := fun q hq => by rw [(emB_ok hB 64).2.1 q hq, if_pos hq]
theorem fam_ok {x m : gM} {N t : Nat} {a : Int32} (h : INV x m N) (hN : N + 1200 ≤ 1000000000) (ht : t < 4) (hT : RT x t (m 49 0) t) (ha : a = 0 ∨ a = 1 ∨ a = 2) : ∃ r x' m', X8_missesByFamily (4 * 0 + t) a x = some (r, x') ∧ X9_missesBy (nI t) (nI (bD (mB m))) a m = some (r, m') ∧ Eqv pX x x' ∧ Eqv pM m m' := by
  unfold X8_missesByFamily X9_missesBy
  obtain ⟨x1, y1, y2, y3⟩ := take_ok h
  obtain ⟨x2, z1, z2, z3⟩ := x_emptyAll y2 h.bi
  obtain ⟨m2, w1, w2, w3⟩ := m_emptyNow (m := gblk m 47 0 36 56 0 0 1467) put_mB h.bi
  obtain ⟨b2, -, b3, -⟩ := emB_ok h.bi 64
  have e2 : mB (gup m2 47 0 (36 + 2) (nI (bD (mB m)))) = emB (mB m) 64 := by
    rw [mB_up, w2]
    funext i
    rw [bup_at]
    split
    · rename_i e; rw [e, b3 2 (by omega) (by omega), h.bi.2.2.1.1]
    · rfl
  have hFK := FK_self b2
  obtain ⟨x3, f1, f2, f3⟩ := x_setF (a := a) z2 b2.1.1 b2.1.2.2 b2.2.1.2 ⟨hFK.1, hFK.2.1⟩
  obtain ⟨m3, g1, g2, g3⟩ := m_layF (a := a) e2 b2.1.1 b2.1.2.2 b2.2.1.2 hFK ha
  obtain ⟨c1, c2⟩ := fm_BI (a := a) b2 (emB_0 h.bi)
  have ex3 : Eqv pX x x3 := (y3.tr (pCo_pX z3)).tr (pCo_pX f3)
  have em3 : Eqv pCm (gblk m 47 0 36 56 0 0 1467) m3 := ((w3.mono (fun t k i q => by unfold pBk at q; unfold pCm; omega)).tr (Eqv.up (by unfold pCm; omega))).tr (g3.mono (fun t k i q => by unfold pBk at q; unfold pCm; omega))
  have hT1 : RT x3 t (m3 49 0) t := by
    have e49 : m3 49 0 = m 49 0 := funext fun i => by rw [em3 49 0 i (by unfold pCm; omega)]; exact put_at (by omega)
    rw [e49]; exact RT_pX (by omega) hT ex3
  obtain ⟨r, x4, m4, d1, d2, d3, d4, d5, d6⟩ := run_ok (k := 42) (o := t) (by rw [g2]; exact f2) (by rw [g2]; exact c1) ht hT1 hN
  have hne : a ≠ -1 := by rcases ha with rfl | rfl | rfl <;> decide
  rw [gCall_eq y1, gCall_eq z1, gCall_eq f1, gCall_eq put_ok, gCall_eq w1, show (38 : Int32) = nI (36 + 2) from rfl, m_put (by omega), gJ0_e, if_neg hne, gCall_eq g1, z4, gCall_eq d1]
  dsimp only
  rw [gCall_eq d2, gCall_eq back_ok]
  exact ⟨r, _, _, rfl, rfl, ex3.tr (pCo_pX d5), back_pM (em3.tr d6)⟩
theorem q_suited {x m : gM} {N : Nat} (h : INV x m N) (hN : N + 1200 ≤ 1000000000) (a : Int32) : Ag (X8_suited a x) (X9_suited a m) N := by
  unfold X8_suited X9_suited
  rcases trace_cases h a with ⟨t, ht, rfl, c1, c2, hT⟩ | ⟨c1, c2⟩
  · obtain ⟨r0, x0, m0, y1, y2, y3, y4⟩ := fam_ok (a := 0) h hN ht hT (by simp)
    obtain ⟨r1, x1, m1, z1, z2, z3, z4'⟩ := fam_ok (a := 1) h hN ht hT (by simp)
    obtain ⟨s1, x2, m2, u1, u2, u3, u4⟩ := fam_ok (a := 1) (INV_congr h y3 Eqv.rf) hN ht (RT_pX (by omega) hT y3) (by simp)
    have hi1 := INV_congr h Eqv.rf z4'
    obtain ⟨s0, x3, m3, v1, v2, v3, v4⟩ := fam_ok (a := 0) hi1 hN ht (by rw [pM_49 z4']; exact hT) (by simp)
    rw [z2, Option.some.injEq, Prod.mk.injEq] at u2
    rw [y1, Option.some.injEq, Prod.mk.injEq] at v1
    rw [← u2.1] at u1
    rw [← v1.1] at v2
    rw [gCall_eq c1, if_pos rfl, gCall_eq c2, if_pos rfl, x_tr ht, gCall_eq y1, x_tr ht, gCall_eq u1, dep_m h.bi, gCall_eq z2, dep_m hi1.bi, gCall_eq v2]
    have hf := INV_congr h (y3.tr u3) (z4'.tr v4)
    by_cases hle : r0 ≤ r1
    · rw [if_pos hle, if_pos hle]
      exact ⟨_, _, _, rfl, rfl, hf⟩
    · rw [if_neg hle, if_neg hle]
      exact ⟨_, _, _, rfl, rfl, hf⟩
  · rw [gCall_eq c1, gCall_eq c2]
    exact Ag.same h _ rfl rfl
