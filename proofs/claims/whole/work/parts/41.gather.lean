/-! LAYER 2: gather. -/
def stF (e : Nat → Int32) (a : Int32) : Nat → Option Nat
  | 0 => none
  | n + 1 => match stF e a n with
    | some j => some j
    | none => if e n = a then some n else none
theorem stF_keep {e : Nat → Int32} {a : Int32} {n j : Nat} (h : stF e a n = some j) : ∀ q, stF e a (n + q) = some j := by
  intro q
  induction q with
  | zero => exact h
  | succ q ih => rw [← Nat.add_assoc]; simp only [stF, ih]
theorem stF_non {e : Nat → Int32} {a : Int32} : ∀ n, stF e a n = none → ∀ i, i < n → e i ≠ a := by
  intro n
  induction n with
  | zero => intro _ i h; omega
  | succ n ih =>
    intro h i hi
    simp only [stF] at h
    cases q : stF e a n with
    | some j => rw [q] at h; cases h
    | none =>
      rw [q] at h
      dsimp only at h
      rcases Nat.lt_or_ge i n with z | z
      · exact ih q i z
      · have : i = n := by omega
        subst this
        intro y
        rw [if_pos y] at h
        cases h
theorem set_find {x m : gM} {N : Nat} (h : INV x m N) (a : Int32) : ∃ g, x 6 0 7 = nI g ∧ m 47 0 3 = nI g ∧ g ≤ 32 ∧ X6_placeInSet 0 a x = some (oI (stF (x 40 0) a g), x) ∧ X9_gatheredAt a m = some (oI (stF (x 40 0) a g), m) := by
  obtain ⟨⟨-, -, -, g, f1, f2, f3, f4, f5⟩, -⟩ := id h
  refine ⟨g, f1, f2, f3, ?_, ?_⟩
  · unfold X6_placeInSet
    refine gL1_for (fun i σ => σ = x ∧ stF (x 40 0) a i = none) (fun r => r = some (oI (stF (x 40 0) a g), x)) g ?_ ?_ FU 0 x (Nat.zero_le _) (by rw [FU_eq]; omega) ⟨rfl, rfl⟩
    · rintro i σ K hi ⟨rfl, hn⟩ hK
      unfold X6_placeInSet_b2
      rw [f1, if_neg (by rw [nI_leq (by omega) (by omega)]; omega), gAt_nI (show i < 32 by omega) (by omega)]
      by_cases e : σ 40 0 i = a
      · have k1 : stF (σ 40 0) a (i + 1) = some i := by simp only [stF, hn, if_pos e]
        have k2 := stF_keep k1 (g - (i + 1))
        rw [show i + 1 + (g - (i + 1)) = g by omega] at k2
        rw [if_pos e, k2]; rfl
      · rw [if_neg e, gLet, nI_1]
        exact hK _ ⟨rfl, by simp only [stF, hn, if_neg e]⟩
    · rintro σ K ⟨rfl, hn⟩
      unfold X6_placeInSet_b2
      rw [f1, if_pos (by rw [nI_leq (by omega) (by omega)]; omega), hn]; rfl
  · unfold X9_gatheredAt
    refine gL1_for (fun i σ => σ = m ∧ stF (x 40 0) a i = none) (fun r => r = some (oI (stF (x 40 0) a g), m)) g ?_ ?_ FU 0 m (Nat.zero_le _) (by rw [FU_eq]; omega) ⟨rfl, rfl⟩
    · rintro i σ K hi ⟨rfl, hn⟩ hK
      unfold X9_gatheredAt_b2
      obtain ⟨l, l1, l2, l3⟩ := f4 i hi
      rw [li3, gAt_nI (show 3 < 30843 by omega) (by omega), f2, if_neg (by rw [nI_leq (by omega) (by omega)]; omega), li4, nI_add, gAt_nI (show 4 + i < 30843 by omega) (by omega), l3, ← l2]
      by_cases e : x 40 0 i = a
      · have k1 : stF (x 40 0) a (i + 1) = some i := by simp only [stF, hn, if_pos e]
        have k2 := stF_keep k1 (g - (i + 1))
        rw [show i + 1 + (g - (i + 1)) = g by omega] at k2
        rw [if_pos e, k2]; rfl
      · rw [if_neg e, gLet, nI_1]
        exact hK _ ⟨rfl, by simp only [stF, hn, if_neg e]⟩
    · rintro σ K ⟨rfl, hn⟩
      unfold X9_gatheredAt_b2
      rw [li3, gAt_nI (show 3 < 30843 by omega) (by omega), f2, if_pos (by rw [nI_leq (by omega) (by omega)]; omega), hn]; rfl
