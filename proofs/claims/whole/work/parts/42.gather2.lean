/-! LAYER 2: gather, done. -/
theorem q_gather {x m : gM} {N : Nat} (h : INV x m N) (a : Int32) : Ag (X8_gather a x) (X9_gather a m) N := by
  unfold X8_gather X9_gather
  rcases line_cases a with ⟨l, hl, rfl⟩ | ⟨h1, h2⟩
  · obtain ⟨g, f1, f2, f3, p1, p2⟩ := set_find h (nI l)
    obtain ⟨⟨-, -, -, g', f1', f2', f3', f4, f5⟩, -⟩ := id h
    have hg : g' = g := (nI_inj (by omega) (by omega)).mp (f1'.symm.trans f1)
    subst hg
    rw [gCall_eq (lineT hl x).1, if_pos rfl, gCall_eq (lineT hl m).2, if_pos rfl, gCall_eq p1, gCall_eq p2]
    cases hs : stF (x 40 0) (nI l) g' with
    | some j =>
      have hj : ∀ n j, n ≤ 32 → stF (x 40 0) (nI l) n = some j → j < n := by
        intro n
        induction n with
        | zero => intro j _ z; cases z
        | succ n ih =>
          intro j hn z
          simp only [stF] at z
          cases q : stF (x 40 0) (nI l) n with
          | some i => rw [q] at z; cases z; have := ih j (by omega) q; omega
          | none =>
            rw [q] at z
            dsimp only at z
            by_cases y : x 40 0 n = nI l
            · rw [if_pos y] at z; cases z; omega
            · rw [if_neg y] at z; cases z
      have hjl := hj g' j f3 hs
      rw [show oI (some j) = nI j from rfl, if_neg (nI_nm1 (by omega)), if_neg (nI_nm1 (by omega))]
      exact Ag.same h _ rfl rfl
    | none =>
      have hno := stF_non _ hs
      rw [if_pos (show oI none = -1 from rfl), if_pos (show oI none = -1 from rfl), f1, show (3 : Int32) = nI 3 from rfl, gAt_nI (show 3 < 30843 by omega) (by omega), f2]
      by_cases h32 : g' = 32
      · rw [if_neg (by rw [show (32 : Int32) = nI 32 from rfl, nI_ltt (by omega) (by omega)]; omega), if_pos (by rw [h32]; rfl)]
        exact Ag.same h _ rfl rfl
      · unfold X6_addToSet
        rw [if_pos (by rw [show (32 : Int32) = nI 32 from rfl, nI_ltt (by omega) (by omega)]; omega), f1, if_neg (by rw [show (32 : Int32) = nI 32 from rfl, nI_leq (by omega) (by omega)]; omega), gPut_nI (show g' < 32 by omega) (by omega), gup_t (by omega), f1, gLet, nI_1]
        simp only [gSet]
        rw [gCall_some, gup_at, if_pos rfl, if_neg (by rw [show (32 : Int32) = nI 32 from rfl, nI_inj (by omega) (by omega)]; exact h32), gAt_nI (show 3 < 30843 by omega) (by omega), f2, show (4 : Int32) = nI 4 from rfl, nI_add, gPut_nI (show 4 + g' < 30843 by omega) (by omega), gAt_nI (show 3 < 30843 by omega) (by omega), gup_at, if_neg (by omega), f2, gPut_nI (show 3 < 30843 by omega) (by omega), gAt_nI (show 3 < 30843 by omega) (by omega), gup_at, if_pos rfl, nI_1]
        refine ⟨_, _, _, rfl, rfl, INV_set h ((Eqv.up (by unfold pXs; omega)).tr (Eqv.up (by unfold pXs; omega))) ((Eqv.up (by unfold pMs; omega)).tr (Eqv.up (by unfold pMs; omega))) ⟨g' + 1, by rw [gup_at, if_pos rfl], by rw [gup_at, if_pos rfl], by omega, fun i hi => ?_, fun i j hij hj => ?_⟩⟩
        · rw [gup_t (show 40 ≠ 6 by omega), gup_at, gup_at, if_neg (show ¬ 4 + i = 3 by omega), gup_at]
          by_cases e : i = g'
          · rw [if_pos e, if_pos (by omega)]; exact ⟨l, hl, rfl, rfl⟩
          · rw [if_neg e, if_neg (by omega)]; exact f4 i (by omega)
        · rw [gup_t (show 40 ≠ 6 by omega), gup_at, gup_at, if_neg (show ¬ i = g' by omega)]
          by_cases e : j = g'
          · rw [if_pos e]; exact hno i (by omega)
          · rw [if_neg e]; exact f5 i j hij (by omega)
  · rw [gCall_eq (h1 x), gCall_eq (h2 m)]
    exact Ag.same h _ rfl rfl
