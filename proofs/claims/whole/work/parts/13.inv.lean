/-! LAYER 2: the relation of the two sides, and what leaves it. -/
def RT (m : gM) (k : Nat) (TX : Nat → Int32) (t : Nat) : Prop :=
  ∃ s, m 5 k 2 = nI s ∧ TX (1201 * t) = nI s ∧ s ≤ 600 ∧ ∀ i, i < s → (∃ l, l < 1024 ∧ m 38 k i = nI l ∧ TX (1201 * t + 1 + 2 * i) = nI l) ∧ m 39 k i = TX (1201 * t + 2 + 2 * i) ∧ (m 39 k i = nM ∨ ∃ v, v ≤ 9999 ∧ m 39 k i = nI v)
def WR (m : gM) (w : Nat) (A TX : Nat → Int32) (N : Nat) : Prop :=
  (RS m (21 * w) (fun i => A (36 + i)) N ∧ BI (fun i => A (36 + i)) N) ∧
  (∃ c e f, m 6 w 5 = nI c ∧ A 1 = nI c ∧ c ≤ 20 ∧ m 6 w 4 = nI e ∧ e < 20 ∧ A 2 = nI f ∧ f < 20 ∧ ∀ j, j < c → RS m (21 * w + 1 + (e + j) % 20) (fun i => A (1503 + 1467 * ((f + j) % 20) + i)) N ∧ BI (fun i => A (1503 + 1467 * ((f + j) % 20) + i)) N) ∧
  (∃ tr, m 6 w 6 = nI tr ∧ A 0 = nI tr ∧ tr ≤ 4 ∧ ∀ t, t < tr → RT m (4 * w + t) TX t) ∧
  (∃ g, m 6 w 7 = nI g ∧ A 3 = nI g ∧ g ≤ 32 ∧ (∀ i, i < g → ∃ l, l < 1024 ∧ m 40 w i = nI l ∧ A (4 + i) = nI l) ∧ ∀ i j, i < j → j < g → m 40 w i ≠ m 40 w j)
def INV (x m : gM) (N : Nat) : Prop :=
  WR x 0 (m 47 0) (m 49 0) N ∧ WR x 1 (m 48 0) (m 49 0) N ∧ (x 6 1 6).toNatClampNeg ≤ (x 6 0 6).toNatClampNeg ∧
  (∃ tp, tp ≤ 300 ∧ x 8 0 11 = nI tp ∧ m 9 0 4 = nI tp ∧ ∀ i, i < tp → ∃ b, b < 256 ∧ x 46 0 i = nI b ∧ m 50 0 i = nI b) ∧
  x 8 0 12 = m 9 0 5 ∧ x 8 0 13 = m 9 0 6 ∧ N ≤ 1000000000
/-- what a call may use and leave behind: rooms for reckoning -/
def pX (t k _i : Nat) : Prop := t ≤ 2 ∨ t = 4 ∨ t = 7 ∨ (16 ≤ t ∧ t ≤ 24) ∨ (34 ≤ t ∧ t ≤ 37) ∨ (43 ≤ t ∧ t ≤ 45) ∨ ((t = 3 ∨ (25 ≤ t ∧ t ≤ 33)) ∧ k = 42) ∨ ((t = 5 ∨ t = 38 ∨ t = 39) ∧ k = 8)
def pM (t _k i : Nat) : Prop := ¬ (t = 47 ∨ t = 48 ∨ t = 49 ∨ t = 50 ∨ (t = 9 ∧ (i = 4 ∨ i = 5 ∨ i = 6)))
theorem RS_congr {m m' : gM} {k N : Nat} {B : Nat → Int32} (h : RS m k B N) (e : ∀ t i, t = 3 ∨ (25 ≤ t ∧ t ≤ 33) → m' t k i = m t k i) : RS m' k B N := by
  obtain ⟨⟨a1, a2, a3, a4⟩, ⟨b1, b2, b3, b4, b5, b6⟩, c1, c2, c3, c4, c5, c6, c7, nb, d1, d2, d3, d4⟩ := h
  have e3 := fun i => e 3 i (Or.inl rfl)
  have e25 := fun i => e 25 i (Or.inr (by omega))
  have e26 := fun i => e 26 i (Or.inr (by omega))
  have e27 := fun i => e 27 i (Or.inr (by omega))
  have e28 := fun i => e 28 i (Or.inr (by omega))
  have e29 := fun i => e 29 i (Or.inr (by omega))
  have e30 := fun i => e 30 i (Or.inr (by omega))
  have e31 := fun i => e 31 i (Or.inr (by omega))
  have e32 := fun i => e 32 i (Or.inr (by omega))
  have e33 := fun i => e 33 i (Or.inr (by omega))
  refine ⟨⟨by rw [e3]; exact a1, by rw [e3]; exact a2, by rw [e3]; exact a3, by rw [e3]; exact a4⟩, ⟨by rw [e26]; exact b1, by rw [e26]; exact b2, by rw [e26]; exact b3, by rw [e26]; exact b4, by rw [e26]; exact b5, by rw [e26]; exact b6⟩, fun i hi => by rw [e25]; exact c1 i hi, fun i hi => by rw [e28]; exact c2 i hi, fun i hi => by rw [e29]; exact c3 i hi, fun i hi => by rw [e30]; exact c4 i hi, fun i hi => by rw [e31]; exact c5 i hi, fun i hi => by rw [e32]; exact c6 i hi, fun i hi => by rw [e33]; exact c7 i hi, nb, by rw [e3]; exact d1, d2, d3, fun i j hi hj => by rw [e27]; exact d4 i j hi hj⟩
theorem RS_mono {m : gM} {k N N' : Nat} {B : Nat → Int32} (h : RS m k B N) (hN : N ≤ N') : RS m k B N' := by
  obtain ⟨a, b, c1, c2, c3, c4, c5, c6, c7, nb, d1, d2, d3, d4⟩ := h
  exact ⟨a, b, c1, c2, c3, c4, c5, c6, c7, nb, d1, by omega, d3, d4⟩
theorem BI_mono {N N' : Nat} {B : Nat → Int32} (h : BI B N) (hN : N ≤ N') : BI B N' := by
  obtain ⟨a, b, c, ⟨x, y, d1, d2, d3⟩, e⟩ := h
  exact ⟨a, b, c, ⟨x, y, d1, d2, by omega⟩, e⟩
theorem RT_congr {m m' : gM} {k t : Nat} {TX : Nat → Int32} (h : RT m k TX t) (e : ∀ t i, t = 5 ∨ t = 38 ∨ t = 39 → m' t k i = m t k i) : RT m' k TX t := by
  obtain ⟨s, h1, h2, h3, h4⟩ := h
  have e5 := fun i => e 5 i (Or.inl rfl)
  have e38 := fun i => e 38 i (Or.inr (Or.inl rfl))
  have e39 := fun i => e 39 i (Or.inr (Or.inr rfl))
  refine ⟨s, by rw [e5]; exact h1, h2, h3, fun i hi => ?_⟩
  rw [e38, e39]
  exact h4 i hi
theorem WR_congr {m m' : gM} {w N : Nat} {A TX : Nat → Int32} (hw : w < 2) (h : WR m w A TX N) (e : Eqv pX m m') : WR m' w A TX N := by
  obtain ⟨⟨a1, a2⟩, ⟨c, e0, f, b1, b2, b3, b4, b5, b6, b7, b8⟩, ⟨tr, d1, d2, d3, d4⟩, g, f1, f2, f3, f4, f5⟩ := h
  have e6 := fun i => e 6 w i (by unfold pX; omega)
  have e40 := fun i => e 40 w i (by unfold pX; omega)
  refine ⟨⟨RS_congr a1 (fun t i ht => e t _ i (by unfold pX; omega)), a2⟩, ⟨c, e0, f, by rw [e6]; exact b1, b2, b3, by rw [e6]; exact b4, b5, b6, b7, fun j hj => ⟨RS_congr (b8 j hj).1 (fun t i ht => e t _ i (by unfold pX; omega)), (b8 j hj).2⟩⟩, ⟨tr, by rw [e6]; exact d1, d2, d3, fun t ht => RT_congr (d4 t ht) (fun t' i ht' => e t' _ i (by unfold pX; omega))⟩, g, by rw [e6]; exact f1, f2, f3, fun i hi => by rw [e40]; exact f4 i hi, fun i j hi hj => by rw [e40, e40]; exact f5 i j hi hj⟩
theorem WR_mono {m : gM} {w N N' : Nat} {A TX : Nat → Int32} (h : WR m w A TX N) (hN : N ≤ N') : WR m w A TX N' := by
  obtain ⟨⟨a1, a2⟩, ⟨c, e0, f, b1, b2, b3, b4, b5, b6, b7, b8⟩, d⟩ := h
  exact ⟨⟨RS_mono a1 hN, BI_mono a2 hN⟩, ⟨c, e0, f, b1, b2, b3, b4, b5, b6, b7, fun j hj => ⟨RS_mono (b8 j hj).1 hN, BI_mono (b8 j hj).2 hN⟩⟩, d⟩
theorem row_eq {m m' : gM} (e : Eqv pM m m') {t : Nat} (ht : t = 47 ∨ t = 48 ∨ t = 49 ∨ t = 50) : m' t 0 = m t 0 := funext fun i => e t 0 i (by unfold pM; omega)
theorem INV_congr {x m x' m' : gM} {N : Nat} (h : INV x m N) (ex : Eqv pX x x') (em : Eqv pM m m') : INV x' m' N := by
  obtain ⟨h1, h2, h3, ⟨tp, h4, h5, h6, h7⟩, h8, h9, h10⟩ := h
  have r47 := row_eq em (t := 47) (by omega)
  have r48 := row_eq em (t := 48) (by omega)
  have r49 := row_eq em (t := 49) (by omega)
  have r50 := row_eq em (t := 50) (by omega)
  have q := fun i (hi : i = 4 ∨ i = 5 ∨ i = 6) => em 9 0 i (by unfold pM; omega)
  have e6 := fun w i => ex 6 w i (by unfold pX; omega)
  have e8 := fun i => ex 8 0 i (by unfold pX; omega)
  have e46 := fun i => ex 46 0 i (by unfold pX; omega)
  unfold INV
  rw [r47, r48, r49, r50, q 4 (by omega), q 5 (by omega), q 6 (by omega), e6, e6, e8, e8, e8]
  exact ⟨WR_congr (by omega) h1 ex, WR_congr (by omega) h2 ex, h3, ⟨tp, h4, h5, h6, fun i hi => by rw [e46]; exact h7 i hi⟩, h8, h9, h10⟩
theorem INV_mono {x m : gM} {N N' : Nat} (h : INV x m N) (hN : N ≤ N') (h2 : N' ≤ 1000000000) : INV x m N' := by
  obtain ⟨a, b, c, d, e, f, g⟩ := h
  exact ⟨WR_mono a hN, WR_mono b hN, c, d, e, f, h2⟩
/-- two calls that answer alike, and keep what is -/
def Ag {ρ : Type} (ox om : Option (ρ × gM)) (N : Nat) : Prop := ∃ r x' m', ox = some (r, x') ∧ om = some (r, m') ∧ INV x' m' N
theorem Ag.same {ρ : Type} {ox om : Option (ρ × gM)} {x m : gM} {N : Nat} (h : INV x m N) (r : ρ) (h1 : ox = some (r, x)) (h2 : om = some (r, m)) : Ag ox om N := ⟨r, x, m, h1, h2, h⟩
