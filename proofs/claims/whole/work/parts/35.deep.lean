/-! LAYER 2: deepest. -/
theorem pM_49 {m m' : gM} (e : Eqv pM m m') : m' 49 0 = m 49 0 := row_eq e (by omega)
theorem fore_all {x m : gM} {N t : Nat} (h : INV x m N) (hN : N + 1200 ≤ 1000000000) (ht : t < 4) (hT : RT x t (m 49 0) t) : ∃ M : Nat → Int32, ∀ d, d ≤ 3 → (∀ x1, Eqv pX x x1 → ∃ x2, X8_missesForetold (4 * 0 + t) (nI d) x1 = some (M d, x2) ∧ Eqv pX x x2) ∧ ∀ m1, Eqv pM m m1 → ∃ m2, X9_missesBy (nI t) (nI d) (-1) m1 = some (M d, m2) ∧ Eqv pM m m2 := by
  have h1 : ∀ d, ∃ r : Int32, d ≤ 3 → (∀ x1, Eqv pX x x1 → ∃ x2, X8_missesForetold (4 * 0 + t) (nI d) x1 = some (r, x2) ∧ Eqv pX x x2) ∧ ∀ m1, Eqv pM m m1 → ∃ m2, X9_missesBy (nI t) (nI d) (-1) m1 = some (r, m2) ∧ Eqv pM m m2 := by
    intro d
    by_cases hd : d ≤ 3
    · obtain ⟨r, x', m', y1, y2, y3, y4⟩ := fore_ok h hN ht hT hd
      refine ⟨r, fun _ => ⟨fun x1 e => ?_, fun m1 e => ?_⟩⟩
      · obtain ⟨r1, x2, m2, z1, z2, z3, z4⟩ := fore_ok (INV_congr h e Eqv.rf) hN ht (RT_pX (by omega) hT e) hd
        rw [y2, Option.some.injEq, Prod.mk.injEq] at z2
        rw [← z2.1] at z1
        exact ⟨x2, z1, e.tr z3⟩
      · obtain ⟨r1, x2, m2, z1, z2, z3, z4⟩ := fore_ok (INV_congr h Eqv.rf e) hN ht (by rw [pM_49 e]; exact hT) hd
        rw [y1, Option.some.injEq, Prod.mk.injEq] at z1
        rw [← z1.1] at z2
        exact ⟨m2, z2, e.tr z4⟩
    · exact ⟨0, fun z => absurd z hd⟩
  exact ⟨fun d => Classical.choose (h1 d), fun d hd => Classical.choose_spec (h1 d) hd⟩
def bestD (M : Nat → Int32) : Nat → Nat
  | 0 => 0
  | n + 1 => if M (bestD M n) ≤ M n then bestD M n else n
theorem bestD_le (M : Nat → Int32) : ∀ n, bestD M n ≤ n := by
  intro n
  induction n with
  | zero => exact Nat.le_refl _
  | succ n ih => simp only [bestD]; split <;> omega
theorem bestD_1 (M : Nat → Int32) : bestD M 1 = 0 := by simp only [bestD]; exact ite_self 0
theorem q_deepest {x m : gM} {N : Nat} (h : INV x m N) (hN : N + 1200 ≤ 1000000000) (a : Int32) : Ag (X8_deepest a x) (X9_deepest a m) N := by
  unfold X8_deepest X9_deepest
  rcases trace_cases h a with ⟨t, ht, rfl, c1, c2, hT⟩ | ⟨c1, c2⟩
  · obtain ⟨M, hM⟩ := fore_all h hN ht hT
    obtain ⟨x1, y1, y2⟩ := (hM 0 (by omega)).1 x Eqv.rf
    have hx : ∃ x2, gL3 FU (X8_deepest_b30 (nI t)) 0 (M 0) 1 x1 = some (nI (bestD M 4), x2) ∧ Eqv pX x x2 := by
      refine gL3_for (fun i p q σ => p = nI (bestD M i) ∧ q = M (bestD M i) ∧ Eqv pX x σ) (fun r => ∃ x2, r = some (nI (bestD M 4), x2) ∧ Eqv pX x x2) 4 ?_ ?_ FU 1 0 (M 0) x1 (by omega) (by rw [FU_eq]; omega) ⟨by rw [bestD_1]; rfl, by rw [bestD_1], y2⟩
      · rintro i p q σ K hi ⟨rfl, rfl, g3⟩ hK
        unfold X8_deepest_b30
        obtain ⟨x2, z1, z2⟩ := (hM i (by omega)).1 σ g3
        rw [if_neg (by rw [li3, nI_ltt (by omega) (by omega)]; omega), x_tr ht, gCall_eq z1]
        by_cases hle : M (bestD M i) ≤ M i
        · rw [if_pos hle, gLet, nI_1]
          exact hK _ _ _ ⟨by simp only [bestD]; rw [if_pos hle], by simp only [bestD]; rw [if_pos hle], z2⟩
        · rw [if_neg hle, gLet, nI_1]
          exact hK _ _ _ ⟨by simp only [bestD]; rw [if_neg hle], by simp only [bestD]; rw [if_neg hle], z2⟩
      · rintro p q σ K ⟨rfl, rfl, g3⟩
        unfold X8_deepest_b30
        rw [if_pos (by rw [li3, nI_ltt (by omega) (by omega)]; omega)]
        exact ⟨σ, rfl, g3⟩
    have hm : ∃ m2, gL2 FU (X9_deepest_b14 (nI t)) 0 1 m = some (nI (bestD M 4), m2) ∧ Eqv pM m m2 := by
      refine gL2_for (fun i p σ => p = nI (bestD M i) ∧ Eqv pM m σ) (fun r => ∃ m2, r = some (nI (bestD M 4), m2) ∧ Eqv pM m m2) 4 ?_ ?_ FU 1 0 m (by omega) (by rw [FU_eq]; omega) ⟨by rw [bestD_1]; rfl, Eqv.rf⟩
      · rintro i p σ K hi ⟨rfl, g3⟩ hK
        unfold X9_deepest_b14
        have hb := bestD_le M i
        obtain ⟨m2, z1, z2⟩ := (hM i (by omega)).2 σ g3
        obtain ⟨m3, w1, w2⟩ := (hM (bestD M i) (by omega)).2 m2 z2
        rw [if_neg (by rw [li4, nI_leq (by omega) (by omega)]; omega), gCall_eq z1, gCall_eq w1]
        by_cases hle : M (bestD M i) ≤ M i
        · rw [if_pos hle, gLet, nI_1]
          exact hK _ _ ⟨by simp only [bestD]; rw [if_pos hle], w2⟩
        · rw [if_neg hle, gLet, nI_1]
          exact hK _ _ ⟨by simp only [bestD]; rw [if_neg hle], w2⟩
      · rintro p σ K ⟨rfl, g3⟩
        unfold X9_deepest_b14
        rw [if_pos (by rw [li4, nI_leq (by omega) (by omega)]; omega)]
        exact ⟨σ, rfl, g3⟩
    obtain ⟨x2, z1, z2⟩ := hx
    obtain ⟨m2, w1, w2⟩ := hm
    have y1' : X8_missesForetold (4 * 0 + t) 0 x = some (M 0, x1) := y1
    rw [gCall_eq c1, if_pos rfl, gCall_eq c2, if_pos rfl, x_tr ht, gCall_eq y1', z1, w1]
    exact ⟨_, x2, m2, rfl, rfl, INV_congr h z2 w2⟩
  · rw [gCall_eq c1, gCall_eq c2]
    exact Ag.same h _ rfl rfl
