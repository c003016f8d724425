/-! LAYER 2: the set. -/
def pXs (t k i : Nat) : Prop := pX t k i ∨ t = 40 ∧ k = 0 ∨ t = 6 ∧ k = 0 ∧ i = 7
def pMs (t k i : Nat) : Prop := pM t k i ∨ t = 47 ∧ k = 0 ∧ 3 ≤ i ∧ i < 36
theorem INV_set {x m x' m' : gM} {N : Nat} (h : INV x m N) (ex : Eqv pXs x x') (em : Eqv pMs m m') (hs : ∃ g, x' 6 0 7 = nI g ∧ m' 47 0 3 = nI g ∧ g ≤ 32 ∧ (∀ i, i < g → ∃ l, l < 1024 ∧ x' 40 0 i = nI l ∧ m' 47 0 (4 + i) = nI l) ∧ ∀ i j, i < j → j < g → x' 40 0 i ≠ x' 40 0 j) : INV x' m' N := by
  obtain ⟨⟨⟨r1, r2⟩, ⟨c, e0, f, b1, b2, b3, b4, b5, b6, b7, b8⟩, ⟨tr, d1, d2, d3, d4⟩, -⟩, h2, h3, ⟨tp, h4, h5, h6, h7⟩, h8, h9, h10⟩ := h
  have r48 : m' 48 0 = m 48 0 := funext fun i => em 48 0 i (by unfold pMs pM; omega)
  have r49 : m' 49 0 = m 49 0 := funext fun i => em 49 0 i (by unfold pMs pM; omega)
  have r50 : m' 50 0 = m 50 0 := funext fun i => em 50 0 i (by unfold pMs pM; omega)
  have q := fun i (hi : i = 4 ∨ i = 5 ∨ i = 6) => em 9 0 i (by unfold pMs pM; omega)
  have ea := fun i (hi : i < 3 ∨ 36 ≤ i) => em 47 0 i (by unfold pMs pM; omega)
  have e6 := fun w i (hi : w ≠ 0 ∨ i ≠ 7) => ex 6 w i (by unfold pXs pX; omega)
  have e8 := fun i => ex 8 0 i (by unfold pXs pX; omega)
  have e46 := fun i => ex 46 0 i (by unfold pXs pX; omega)
  have e40 := fun w i (hw : w ≠ 0) => ex 40 w i (by unfold pXs pX; omega)
  have eS : ∀ k t i, k < 42 → t = 3 ∨ (25 ≤ t ∧ t ≤ 33) → x' t k i = x t k i := fun k t i hk ht => ex t k i (by unfold pXs pX; omega)
  have eB : ∀ j, (fun i => m' 47 0 (1503 + 1467 * j + i)) = (fun i => m 47 0 (1503 + 1467 * j + i)) := fun j => funext fun i => ea _ (by omega)
  have eC : (fun i => m' 47 0 (36 + i)) = (fun i => m 47 0 (36 + i)) := funext fun i => ea _ (by omega)
  refine ⟨⟨⟨?_, ?_⟩, ⟨c, e0, f, by rw [e6 _ _ (by omega)]; exact b1, by rw [ea 1 (by omega)]; exact b2, b3, by rw [e6 _ _ (by omega)]; exact b4, b5, by rw [ea 2 (by omega)]; exact b6, b7, fun j hj => ?_⟩, ⟨tr, by rw [e6 _ _ (by omega)]; exact d1, by rw [ea 0 (by omega)]; exact d2, d3, fun t ht => ?_⟩, hs⟩, ?_, by rw [e6 _ _ (by omega), e6 _ _ (by omega)]; exact h3, ⟨tp, h4, by rw [e8]; exact h5, by rw [q 4 (by omega)]; exact h6, fun i hi => by rw [e46, r50]; exact h7 i hi⟩, by rw [e8, q 5 (by omega)]; exact h8, by rw [e8, q 6 (by omega)]; exact h9, h10⟩
  · rw [eC]; exact RS_congr r1 (fun t i ht => eS _ t i (by omega) ht)
  · rw [eC]; exact r2
  · rw [eB]
    exact ⟨RS_congr (b8 j hj).1 (fun t i ht => eS _ t i (by omega) ht), (b8 j hj).2⟩
  · rw [r49]
    exact RT_congr (d4 t ht) (fun t' i ht' => ex t' _ i (by unfold pXs pX; omega))
  · rw [r48, r49]
    obtain ⟨⟨a1, a2⟩, ⟨c, e0, f, b1, b2, b3, b4, b5, b6, b7, b8⟩, ⟨tr, d1, d2, d3, d4⟩, g, f1, f2, f3, f4, f5⟩ := h2
    exact ⟨⟨RS_congr a1 (fun t i ht => eS _ t i (by omega) ht), a2⟩, ⟨c, e0, f, by rw [e6 _ _ (by omega)]; exact b1, b2, b3, by rw [e6 _ _ (by omega)]; exact b4, b5, b6, b7, fun j hj => ⟨RS_congr (b8 j hj).1 (fun t i ht => eS _ t i (by omega) ht), (b8 j hj).2⟩⟩, ⟨tr, by rw [e6 _ _ (by omega)]; exact d1, d2, d3, fun t ht => RT_congr (d4 t ht) (fun t' i ht' => ex t' _ i (by unfold pXs pX; omega))⟩, g, by rw [e6 _ _ (by omega)]; exact f1, f2, f3, fun i hi => by rw [e40 _ _ (by omega)]; exact f4 i hi, fun i j hi hj => by rw [e40 _ _ (by omega), e40 _ _ (by omega)]; exact f5 i j hi hj⟩
