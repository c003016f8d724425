/-! LAYER 2: one number of a block changes. -/
def bup (B : Nat → Int32) (i : Nat) (v : Int32) : Nat → Int32 := fun j => if j = i then v else B j
theorem bup_at {B : Nat → Int32} {i j : Nat} {v : Int32} : bup B i v j = if j = i then v else B j := rfl
theorem bup_ne {B : Nat → Int32} {i j : Nat} {v : Int32} (h : j ≠ i) : bup B i v j = B j := if_neg h
theorem bup_eq {B : Nat → Int32} {i : Nat} {v : Int32} : bup B i v i = v := if_pos rfl
theorem mB_up {m : gM} {i : Nat} {v : Int32} : mB (gup m 47 0 (36 + i) v) = bup (mB m) i v := by
  funext j
  show gup m 47 0 (36 + i) v 47 0 (36 + j) = _
  rw [gup_at, bup_at]
  by_cases e : j = i
  · rw [if_pos (by omega), if_pos e]
  · rw [if_neg (by omega), if_neg e]; rfl
theorem mB_t {m : gM} {t k i : Nat} {v : Int32} (h : t ≠ 47) : mB (gup m t k i v) = mB m := by
  funext j
  show gup m t k i v 47 0 (36 + j) = _
  rw [gup_t (by omega)]; rfl
theorem RS_u29 {m : gM} {k N p : Nat} {B : Nat → Int32} (h : RS m k B N) (hp : p < 64) (w : Int32) : RS (gup m 29 k p (w - 1)) k (bup B (27 + 5 * p) w) N := by
  obtain ⟨⟨a1, a2, a3, a4⟩, ⟨b1, b2, b3, b4, b5, b6⟩, c1, c2, c3, c4, c5, c6, c7, nb, d1, d2, d3, d4⟩ := h
  have em : ∀ t i, t ≠ 29 → gup m 29 k p (w - 1) t k i = m t k i := fun t i ht => by rw [gup_t ht]
  have eB : ∀ i, i ≠ 27 + 5 * p → bup B (27 + 5 * p) w i = B i := fun i hi => bup_ne hi
  refine ⟨⟨by rw [em _ _ (by omega), eB _ (by omega)]; exact a1, by rw [em _ _ (by omega), eB _ (by omega)]; exact a2, by rw [em _ _ (by omega), eB _ (by omega)]; exact a3, by rw [em _ _ (by omega), eB _ (by omega)]; exact a4⟩, ⟨by rw [em _ _ (by omega), eB _ (by omega)]; exact b1, by rw [em _ _ (by omega), eB _ (by omega)]; exact b2, by rw [em _ _ (by omega), eB _ (by omega)]; exact b3, by rw [em _ _ (by omega), eB _ (by omega)]; exact b4, by rw [em _ _ (by omega), eB _ (by omega)]; exact b5, by rw [em _ _ (by omega), eB _ (by omega)]; exact b6⟩, fun q hq => by rw [em _ _ (by omega), eB (11 + q) (by omega), mB_w (eB 0 (by omega)), mB_n (eB 1 (by omega))]; exact c1 q hq, fun q hq => by rw [em _ _ (by omega), eB _ (by omega)]; exact c2 q hq, ?_, fun q hq => by rw [em _ _ (by omega), eB _ (by omega)]; exact c4 q hq, fun q hq => by rw [em _ _ (by omega), eB _ (by omega)]; exact c5 q hq, fun q hq => by rw [em _ _ (by omega), eB _ (by omega)]; exact c6 q hq, fun q hq => by rw [em _ _ (by omega), eB _ (by omega)]; exact c7 q hq, ⟨nb, by rw [em _ _ (by omega)]; exact d1, d2, by rw [eB _ (by omega)]; exact d3, fun q j hq hj => by rw [em _ _ (by omega), eB _ (by omega)]; exact d4 q j hq hj⟩⟩
  intro q hq
  rw [gup_at]
  by_cases e : q = p
  · subst e
    rw [if_pos rfl, bup_eq]
  · rw [if_neg e, eB _ (by omega)]
    exact c3 q hq
theorem RS_u30 {m : gM} {k N p : Nat} {B : Nat → Int32} (h : RS m k B N) (hp : p < 64) (w : Int32) : RS (gup m 30 k p w) k (bup B (28 + 5 * p) w) N := by
  obtain ⟨⟨a1, a2, a3, a4⟩, ⟨b1, b2, b3, b4, b5, b6⟩, c1, c2, c3, c4, c5, c6, c7, nb, d1, d2, d3, d4⟩ := h
  have em : ∀ t i, t ≠ 30 → gup m 30 k p w t k i = m t k i := fun t i ht => by rw [gup_t ht]
  have eB : ∀ i, i ≠ 28 + 5 * p → bup B (28 + 5 * p) w i = B i := fun i hi => bup_ne hi
  refine ⟨⟨by rw [em _ _ (by omega), eB _ (by omega)]; exact a1, by rw [em _ _ (by omega), eB _ (by omega)]; exact a2, by rw [em _ _ (by omega), eB _ (by omega)]; exact a3, by rw [em _ _ (by omega), eB _ (by omega)]; exact a4⟩, ⟨by rw [em _ _ (by omega), eB _ (by omega)]; exact b1, by rw [em _ _ (by omega), eB _ (by omega)]; exact b2, by rw [em _ _ (by omega), eB _ (by omega)]; exact b3, by rw [em _ _ (by omega), eB _ (by omega)]; exact b4, by rw [em _ _ (by omega), eB _ (by omega)]; exact b5, by rw [em _ _ (by omega), eB _ (by omega)]; exact b6⟩, fun q hq => by rw [em _ _ (by omega), eB (11 + q) (by omega), mB_w (eB 0 (by omega)), mB_n (eB 1 (by omega))]; exact c1 q hq, fun q hq => by rw [em _ _ (by omega), eB _ (by omega)]; exact c2 q hq, fun q hq => by rw [em _ _ (by omega), eB _ (by omega)]; exact c3 q hq, ?_, fun q hq => by rw [em _ _ (by omega), eB _ (by omega)]; exact c5 q hq, fun q hq => by rw [em _ _ (by omega), eB _ (by omega)]; exact c6 q hq, fun q hq => by rw [em _ _ (by omega), eB _ (by omega)]; exact c7 q hq, ⟨nb, by rw [em _ _ (by omega)]; exact d1, d2, by rw [eB _ (by omega)]; exact d3, fun q j hq hj => by rw [em _ _ (by omega), eB _ (by omega)]; exact d4 q j hq hj⟩⟩
  intro q hq
  rw [gup_at]
  by_cases e : q = p
  · subst e
    rw [if_pos rfl, bup_eq]
  · rw [if_neg e, eB _ (by omega)]
    exact c4 q hq
theorem RS_u31 {m : gM} {k N p : Nat} {B : Nat → Int32} (h : RS m k B N) (hp : p < 64) (w : Int32) : RS (gup m 31 k p w) k (bup B (29 + 5 * p) w) N := by
  obtain ⟨⟨a1, a2, a3, a4⟩, ⟨b1, b2, b3, b4, b5, b6⟩, c1, c2, c3, c4, c5, c6, c7, nb, d1, d2, d3, d4⟩ := h
  have em : ∀ t i, t ≠ 31 → gup m 31 k p w t k i = m t k i := fun t i ht => by rw [gup_t ht]
  have eB : ∀ i, i ≠ 29 + 5 * p → bup B (29 + 5 * p) w i = B i := fun i hi => bup_ne hi
  refine ⟨⟨by rw [em _ _ (by omega), eB _ (by omega)]; exact a1, by rw [em _ _ (by omega), eB _ (by omega)]; exact a2, by rw [em _ _ (by omega), eB _ (by omega)]; exact a3, by rw [em _ _ (by omega), eB _ (by omega)]; exact a4⟩, ⟨by rw [em _ _ (by omega), eB _ (by omega)]; exact b1, by rw [em _ _ (by omega), eB _ (by omega)]; exact b2, by rw [em _ _ (by omega), eB _ (by omega)]; exact b3, by rw [em _ _ (by omega), eB _ (by omega)]; exact b4, by rw [em _ _ (by omega), eB _ (by omega)]; exact b5, by rw [em _ _ (by omega), eB _ (by omega)]; exact b6⟩, fun q hq => by rw [em _ _ (by omega), eB (11 + q) (by omega), mB_w (eB 0 (by omega)), mB_n (eB 1 (by omega))]; exact c1 q hq, fun q hq => by rw [em _ _ (by omega), eB _ (by omega)]; exact c2 q hq, fun q hq => by rw [em _ _ (by omega), eB _ (by omega)]; exact c3 q hq, fun q hq => by rw [em _ _ (by omega), eB _ (by omega)]; exact c4 q hq, ?_, fun q hq => by rw [em _ _ (by omega), eB _ (by omega)]; exact c6 q hq, fun q hq => by rw [em _ _ (by omega), eB _ (by omega)]; exact c7 q hq, ⟨nb, by rw [em _ _ (by omega)]; exact d1, d2, by rw [eB _ (by omega)]; exact d3, fun q j hq hj => by rw [em _ _ (by omega), eB _ (by omega)]; exact d4 q j hq hj⟩⟩
  intro q hq
  rw [gup_at]
  by_cases e : q = p
  · subst e
    rw [if_pos rfl, bup_eq]
  · rw [if_neg e, eB _ (by omega)]
    exact c5 q hq
theorem RS_u32 {m : gM} {k N p : Nat} {B : Nat → Int32} (h : RS m k B N) (hp : p < 64) (w : Int32) : RS (gup m 32 k p w) k (bup B (30 + 5 * p) w) N := by
  obtain ⟨⟨a1, a2, a3, a4⟩, ⟨b1, b2, b3, b4, b5, b6⟩, c1, c2, c3, c4, c5, c6, c7, nb, d1, d2, d3, d4⟩ := h
  have em : ∀ t i, t ≠ 32 → gup m 32 k p w t k i = m t k i := fun t i ht => by rw [gup_t ht]
  have eB : ∀ i, i ≠ 30 + 5 * p → bup B (30 + 5 * p) w i = B i := fun i hi => bup_ne hi
  refine ⟨⟨by rw [em _ _ (by omega), eB _ (by omega)]; exact a1, by rw [em _ _ (by omega), eB _ (by omega)]; exact a2, by rw [em _ _ (by omega), eB _ (by omega)]; exact a3, by rw [em _ _ (by omega), eB _ (by omega)]; exact a4⟩, ⟨by rw [em _ _ (by omega), eB _ (by omega)]; exact b1, by rw [em _ _ (by omega), eB _ (by omega)]; exact b2, by rw [em _ _ (by omega), eB _ (by omega)]; exact b3, by rw [em _ _ (by omega), eB _ (by omega)]; exact b4, by rw [em _ _ (by omega), eB _ (by omega)]; exact b5, by rw [em _ _ (by omega), eB _ (by omega)]; exact b6⟩, fun q hq => by rw [em _ _ (by omega), eB (11 + q) (by omega), mB_w (eB 0 (by omega)), mB_n (eB 1 (by omega))]; exact c1 q hq, fun q hq => by rw [em _ _ (by omega), eB _ (by omega)]; exact c2 q hq, fun q hq => by rw [em _ _ (by omega), eB _ (by omega)]; exact c3 q hq, fun q hq => by rw [em _ _ (by omega), eB _ (by omega)]; exact c4 q hq, fun q hq => by rw [em _ _ (by omega), eB _ (by omega)]; exact c5 q hq, ?_, fun q hq => by rw [em _ _ (by omega), eB _ (by omega)]; exact c7 q hq, ⟨nb, by rw [em _ _ (by omega)]; exact d1, d2, by rw [eB _ (by omega)]; exact d3, fun q j hq hj => by rw [em _ _ (by omega), eB _ (by omega)]; exact d4 q j hq hj⟩⟩
  intro q hq
  rw [gup_at]
  by_cases e : q = p
  · subst e
    rw [if_pos rfl, bup_eq]
  · rw [if_neg e, eB _ (by omega)]
    exact c6 q hq
theorem RS_u33 {m : gM} {k N p : Nat} {B : Nat → Int32} (h : RS m k B N) (hp : p < 64) (w : Int32) : RS (gup m 33 k p w) k (bup B (31 + 5 * p) w) N := by
  obtain ⟨⟨a1, a2, a3, a4⟩, ⟨b1, b2, b3, b4, b5, b6⟩, c1, c2, c3, c4, c5, c6, c7, nb, d1, d2, d3, d4⟩ := h
  have em : ∀ t i, t ≠ 33 → gup m 33 k p w t k i = m t k i := fun t i ht => by rw [gup_t ht]
  have eB : ∀ i, i ≠ 31 + 5 * p → bup B (31 + 5 * p) w i = B i := fun i hi => bup_ne hi
  refine ⟨⟨by rw [em _ _ (by omega), eB _ (by omega)]; exact a1, by rw [em _ _ (by omega), eB _ (by omega)]; exact a2, by rw [em _ _ (by omega), eB _ (by omega)]; exact a3, by rw [em _ _ (by omega), eB _ (by omega)]; exact a4⟩, ⟨by rw [em _ _ (by omega), eB _ (by omega)]; exact b1, by rw [em _ _ (by omega), eB _ (by omega)]; exact b2, by rw [em _ _ (by omega), eB _ (by omega)]; exact b3, by rw [em _ _ (by omega), eB _ (by omega)]; exact b4, by rw [em _ _ (by omega), eB _ (by omega)]; exact b5, by rw [em _ _ (by omega), eB _ (by omega)]; exact b6⟩, fun q hq => by rw [em _ _ (by omega), eB (11 + q) (by omega), mB_w (eB 0 (by omega)), mB_n (eB 1 (by omega))]; exact c1 q hq, fun q hq => by rw [em _ _ (by omega), eB _ (by omega)]; exact c2 q hq, fun q hq => by rw [em _ _ (by omega), eB _ (by omega)]; exact c3 q hq, fun q hq => by rw [em _ _ (by omega), eB _ (by omega)]; exact c4 q hq, fun q hq => by rw [em _ _ (by omega), eB _ (by omega)]; exact c5 q hq, fun q hq => by rw [em _ _ (by omega), eB _ (by omega)]; exact c6 q hq, ?_, ⟨nb, by rw [em _ _ (by omega)]; exact d1, d2, by rw [eB _ (by omega)]; exact d3, fun q j hq hj => by rw [em _ _ (by omega), eB _ (by omega)]; exact d4 q j hq hj⟩⟩
  intro q hq
  rw [gup_at]
  by_cases e : q = p
  · subst e
    rw [if_pos rfl, bup_eq]
  · rw [if_neg e, eB _ (by omega)]
    exact c7 q hq
theorem RS_u28 {m : gM} {k N p : Nat} {B : Nat → Int32} (h : RS m k B N) (hp : p < 1024) (w : Int32) : RS (gup m 28 k p w) k (bup B (347 + p) w) N := by
  obtain ⟨⟨a1, a2, a3, a4⟩, ⟨b1, b2, b3, b4, b5, b6⟩, c1, c2, c3, c4, c5, c6, c7, nb, d1, d2, d3, d4⟩ := h
  have em : ∀ t i, t ≠ 28 → gup m 28 k p w t k i = m t k i := fun t i ht => by rw [gup_t ht]
  have eB : ∀ i, i ≠ 347 + p → bup B (347 + p) w i = B i := fun i hi => bup_ne hi
  refine ⟨⟨by rw [em _ _ (by omega), eB _ (by omega)]; exact a1, by rw [em _ _ (by omega), eB _ (by omega)]; exact a2, by rw [em _ _ (by omega), eB _ (by omega)]; exact a3, by rw [em _ _ (by omega), eB _ (by omega)]; exact a4⟩, ⟨by rw [em _ _ (by omega), eB _ (by omega)]; exact b1, by rw [em _ _ (by omega), eB _ (by omega)]; exact b2, by rw [em _ _ (by omega), eB _ (by omega)]; exact b3, by rw [em _ _ (by omega), eB _ (by omega)]; exact b4, by rw [em _ _ (by omega), eB _ (by omega)]; exact b5, by rw [em _ _ (by omega), eB _ (by omega)]; exact b6⟩, fun q hq => by rw [em _ _ (by omega), eB (11 + q) (by omega), mB_w (eB 0 (by omega)), mB_n (eB 1 (by omega))]; exact c1 q hq, ?_, fun q hq => by rw [em _ _ (by omega), eB _ (by omega)]; exact c3 q hq, fun q hq => by rw [em _ _ (by omega), eB _ (by omega)]; exact c4 q hq, fun q hq => by rw [em _ _ (by omega), eB _ (by omega)]; exact c5 q hq, fun q hq => by rw [em _ _ (by omega), eB _ (by omega)]; exact c6 q hq, fun q hq => by rw [em _ _ (by omega), eB _ (by omega)]; exact c7 q hq, ⟨nb, by rw [em _ _ (by omega)]; exact d1, d2, by rw [eB _ (by omega)]; exact d3, fun q j hq hj => by rw [em _ _ (by omega), eB _ (by omega)]; exact d4 q j hq hj⟩⟩
  intro q hq
  rw [gup_at]
  by_cases e : q = p
  · subst e
    rw [if_pos rfl, bup_eq]
  · rw [if_neg e, eB _ (by omega)]
    exact c2 q hq
theorem RS_k0 {m : gM} {k N : Nat} {B : Nat → Int32} (h : RS m k B N) (w : Int32) : RS (gup m 26 k 0 w) k (bup B 3 w) N := by
  obtain ⟨⟨a1, a2, a3, a4⟩, ⟨b1, b2, b3, b4, b5, b6⟩, c1, c2, c3, c4, c5, c6, c7, nb, d1, d2, d3, d4⟩ := h
  have em : ∀ t i, t ≠ 26 → gup m 26 k 0 w t k i = m t k i := fun t i ht => by rw [gup_t ht]
  have eB : ∀ i, i ≠ 3 → bup B 3 w i = B i := fun i hi => bup_ne hi
  exact ⟨⟨by rw [em _ _ (by omega), eB _ (by omega)]; exact a1, by rw [em _ _ (by omega), eB _ (by omega)]; exact a2, by rw [em _ _ (by omega), eB _ (by omega)]; exact a3, by rw [em _ _ (by omega), eB _ (by omega)]; exact a4⟩, ⟨by rw [gup_at, if_pos rfl, bup_eq], by rw [gup_at, if_neg (by omega), eB _ (by omega)]; exact b2, by rw [gup_at, if_neg (by omega), eB _ (by omega)]; exact b3, by rw [gup_at, if_neg (by omega), eB _ (by omega)]; exact b4, by rw [gup_at, if_neg (by omega), eB _ (by omega)]; exact b5, by rw [gup_at, if_neg (by omega), eB _ (by omega)]; exact b6⟩, fun q hq => by rw [em _ _ (by omega), eB (11 + q) (by omega), mB_w (eB 0 (by omega)), mB_n (eB 1 (by omega))]; exact c1 q hq, fun q hq => by rw [em _ _ (by omega), eB _ (by omega)]; exact c2 q hq, fun q hq => by rw [em _ _ (by omega), eB _ (by omega)]; exact c3 q hq, fun q hq => by rw [em _ _ (by omega), eB _ (by omega)]; exact c4 q hq, fun q hq => by rw [em _ _ (by omega), eB _ (by omega)]; exact c5 q hq, fun q hq => by rw [em _ _ (by omega), eB _ (by omega)]; exact c6 q hq, fun q hq => by rw [em _ _ (by omega), eB _ (by omega)]; exact c7 q hq, nb, by rw [em _ _ (by omega)]; exact d1, d2, by rw [eB _ (by omega)]; exact d3, fun q j hq hj => by rw [em _ _ (by omega), eB _ (by omega)]; exact d4 q j hq hj⟩
theorem RS_k1 {m : gM} {k N : Nat} {B : Nat → Int32} (h : RS m k B N) (w : Int32) : RS (gup m 26 k 1 w) k (bup B 4 w) N := by
  obtain ⟨⟨a1, a2, a3, a4⟩, ⟨b1, b2, b3, b4, b5, b6⟩, c1, c2, c3, c4, c5, c6, c7, nb, d1, d2, d3, d4⟩ := h
  have em : ∀ t i, t ≠ 26 → gup m 26 k 1 w t k i = m t k i := fun t i ht => by rw [gup_t ht]
  have eB : ∀ i, i ≠ 4 → bup B 4 w i = B i := fun i hi => bup_ne hi
  exact ⟨⟨by rw [em _ _ (by omega), eB _ (by omega)]; exact a1, by rw [em _ _ (by omega), eB _ (by omega)]; exact a2, by rw [em _ _ (by omega), eB _ (by omega)]; exact a3, by rw [em _ _ (by omega), eB _ (by omega)]; exact a4⟩, ⟨by rw [gup_at, if_neg (by omega), eB _ (by omega)]; exact b1, by rw [gup_at, if_pos rfl, bup_eq], by rw [gup_at, if_neg (by omega), eB _ (by omega)]; exact b3, by rw [gup_at, if_neg (by omega), eB _ (by omega)]; exact b4, by rw [gup_at, if_neg (by omega), eB _ (by omega)]; exact b5, by rw [gup_at, if_neg (by omega), eB _ (by omega)]; exact b6⟩, fun q hq => by rw [em _ _ (by omega), eB (11 + q) (by omega), mB_w (eB 0 (by omega)), mB_n (eB 1 (by omega))]; exact c1 q hq, fun q hq => by rw [em _ _ (by omega), eB _ (by omega)]; exact c2 q hq, fun q hq => by rw [em _ _ (by omega), eB _ (by omega)]; exact c3 q hq, fun q hq => by rw [em _ _ (by omega), eB _ (by omega)]; exact c4 q hq, fun q hq => by rw [em _ _ (by omega), eB _ (by omega)]; exact c5 q hq, fun q hq => by rw [em _ _ (by omega), eB _ (by omega)]; exact c6 q hq, fun q hq => by rw [em _ _ (by omega), eB _ (by omega)]; exact c7 q hq, nb, by rw [em _ _ (by omega)]; exact d1, d2, by rw [eB _ (by omega)]; exact d3, fun q j hq hj => by rw [em _ _ (by omega), eB _ (by omega)]; exact d4 q j hq hj⟩
theorem RS_k2 {m : gM} {k N : Nat} {B : Nat → Int32} (h : RS m k B N) (w : Int32) : RS (gup m 26 k 2 w) k (bup B 5 w) N := by
  obtain ⟨⟨a1, a2, a3, a4⟩, ⟨b1, b2, b3, b4, b5, b6⟩, c1, c2, c3, c4, c5, c6, c7, nb, d1, d2, d3, d4⟩ := h
  have em : ∀ t i, t ≠ 26 → gup m 26 k 2 w t k i = m t k i := fun t i ht => by rw [gup_t ht]
  have eB : ∀ i, i ≠ 5 → bup B 5 w i = B i := fun i hi => bup_ne hi
  exact ⟨⟨by rw [em _ _ (by omega), eB _ (by omega)]; exact a1, by rw [em _ _ (by omega), eB _ (by omega)]; exact a2, by rw [em _ _ (by omega), eB _ (by omega)]; exact a3, by rw [em _ _ (by omega), eB _ (by omega)]; exact a4⟩, ⟨by rw [gup_at, if_neg (by omega), eB _ (by omega)]; exact b1, by rw [gup_at, if_neg (by omega), eB _ (by omega)]; exact b2, by rw [gup_at, if_pos rfl, bup_eq], by rw [gup_at, if_neg (by omega), eB _ (by omega)]; exact b4, by rw [gup_at, if_neg (by omega), eB _ (by omega)]; exact b5, by rw [gup_at, if_neg (by omega), eB _ (by omega)]; exact b6⟩, fun q hq => by rw [em _ _ (by omega), eB (11 + q) (by omega), mB_w (eB 0 (by omega)), mB_n (eB 1 (by omega))]; exact c1 q hq, fun q hq => by rw [em _ _ (by omega), eB _ (by omega)]; exact c2 q hq, fun q hq => by rw [em _ _ (by omega), eB _ (by omega)]; exact c3 q hq, fun q hq => by rw [em _ _ (by omega), eB _ (by omega)]; exact c4 q hq, fun q hq => by rw [em _ _ (by omega), eB _ (by omega)]; exact c5 q hq, fun q hq => by rw [em _ _ (by omega), eB _ (by omega)]; exact c6 q hq, fun q hq => by rw [em _ _ (by omega), eB _ (by omega)]; exact c7 q hq, nb, by rw [em _ _ (by omega)]; exact d1, d2, by rw [eB _ (by omega)]; exact d3, fun q j hq hj => by rw [em _ _ (by omega), eB _ (by omega)]; exact d4 q j hq hj⟩
theorem RS_k3 {m : gM} {k N : Nat} {B : Nat → Int32} (h : RS m k B N) (w : Int32) : RS (gup m 26 k 3 w) k (bup B 6 w) N := by
  obtain ⟨⟨a1, a2, a3, a4⟩, ⟨b1, b2, b3, b4, b5, b6⟩, c1, c2, c3, c4, c5, c6, c7, nb, d1, d2, d3, d4⟩ := h
  have em : ∀ t i, t ≠ 26 → gup m 26 k 3 w t k i = m t k i := fun t i ht => by rw [gup_t ht]
  have eB : ∀ i, i ≠ 6 → bup B 6 w i = B i := fun i hi => bup_ne hi
  exact ⟨⟨by rw [em _ _ (by omega), eB _ (by omega)]; exact a1, by rw [em _ _ (by omega), eB _ (by omega)]; exact a2, by rw [em _ _ (by omega), eB _ (by omega)]; exact a3, by rw [em _ _ (by omega), eB _ (by omega)]; exact a4⟩, ⟨by rw [gup_at, if_neg (by omega), eB _ (by omega)]; exact b1, by rw [gup_at, if_neg (by omega), eB _ (by omega)]; exact b2, by rw [gup_at, if_neg (by omega), eB _ (by omega)]; exact b3, by rw [gup_at, if_pos rfl, bup_eq], by rw [gup_at, if_neg (by omega), eB _ (by omega)]; exact b5, by rw [gup_at, if_neg (by omega), eB _ (by omega)]; exact b6⟩, fun q hq => by rw [em _ _ (by omega), eB (11 + q) (by omega), mB_w (eB 0 (by omega)), mB_n (eB 1 (by omega))]; exact c1 q hq, fun q hq => by rw [em _ _ (by omega), eB _ (by omega)]; exact c2 q hq, fun q hq => by rw [em _ _ (by omega), eB _ (by omega)]; exact c3 q hq, fun q hq => by rw [em _ _ (by omega), eB _ (by omega)]; exact c4 q hq, fun q hq => by rw [em _ _ (by omega), eB _ (by omega)]; exact c5 q hq, fun q hq => by rw [em _ _ (by omega), eB _ (by omega)]; exact c6 q hq, fun q hq => by rw [em _ _ (by omega), eB _ (by omega)]; exact c7 q hq, nb, by rw [em _ _ (by omega)]; exact d1, d2, by rw [eB _ (by omega)]; exact d3, fun q j hq hj => by rw [em _ _ (by omega), eB _ (by omega)]; exact d4 q j hq hj⟩
theorem RS_k4 {m : gM} {k N : Nat} {B : Nat → Int32} (h : RS m k B N) (w : Int32) : RS (gup m 26 k 4 w) k (bup B 7 w) N := by
  obtain ⟨⟨a1, a2, a3, a4⟩, ⟨b1, b2, b3, b4, b5, b6⟩, c1, c2, c3, c4, c5, c6, c7, nb, d1, d2, d3, d4⟩ := h
  have em : ∀ t i, t ≠ 26 → gup m 26 k 4 w t k i = m t k i := fun t i ht => by rw [gup_t ht]
  have eB : ∀ i, i ≠ 7 → bup B 7 w i = B i := fun i hi => bup_ne hi
  exact ⟨⟨by rw [em _ _ (by omega), eB _ (by omega)]; exact a1, by rw [em _ _ (by omega), eB _ (by omega)]; exact a2, by rw [em _ _ (by omega), eB _ (by omega)]; exact a3, by rw [em _ _ (by omega), eB _ (by omega)]; exact a4⟩, ⟨by rw [gup_at, if_neg (by omega), eB _ (by omega)]; exact b1, by rw [gup_at, if_neg (by omega), eB _ (by omega)]; exact b2, by rw [gup_at, if_neg (by omega), eB _ (by omega)]; exact b3, by rw [gup_at, if_neg (by omega), eB _ (by omega)]; exact b4, by rw [gup_at, if_pos rfl, bup_eq], by rw [gup_at, if_neg (by omega), eB _ (by omega)]; exact b6⟩, fun q hq => by rw [em _ _ (by omega), eB (11 + q) (by omega), mB_w (eB 0 (by omega)), mB_n (eB 1 (by omega))]; exact c1 q hq, fun q hq => by rw [em _ _ (by omega), eB _ (by omega)]; exact c2 q hq, fun q hq => by rw [em _ _ (by omega), eB _ (by omega)]; exact c3 q hq, fun q hq => by rw [em _ _ (by omega), eB _ (by omega)]; exact c4 q hq, fun q hq => by rw [em _ _ (by omega), eB _ (by omega)]; exact c5 q hq, fun q hq => by rw [em _ _ (by omega), eB _ (by omega)]; exact c6 q hq, fun q hq => by rw [em _ _ (by omega), eB _ (by omega)]; exact c7 q hq, nb, by rw [em _ _ (by omega)]; exact d1, d2, by rw [eB _ (by omega)]; exact d3, fun q j hq hj => by rw [em _ _ (by omega), eB _ (by omega)]; exact d4 q j hq hj⟩
theorem RS_k5 {m : gM} {k N : Nat} {B : Nat → Int32} (h : RS m k B N) (w : Int32) : RS (gup m 26 k 5 w) k (bup B 9 w) N := by
  obtain ⟨⟨a1, a2, a3, a4⟩, ⟨b1, b2, b3, b4, b5, b6⟩, c1, c2, c3, c4, c5, c6, c7, nb, d1, d2, d3, d4⟩ := h
  have em : ∀ t i, t ≠ 26 → gup m 26 k 5 w t k i = m t k i := fun t i ht => by rw [gup_t ht]
  have eB : ∀ i, i ≠ 9 → bup B 9 w i = B i := fun i hi => bup_ne hi
  exact ⟨⟨by rw [em _ _ (by omega), eB _ (by omega)]; exact a1, by rw [em _ _ (by omega), eB _ (by omega)]; exact a2, by rw [em _ _ (by omega), eB _ (by omega)]; exact a3, by rw [em _ _ (by omega), eB _ (by omega)]; exact a4⟩, ⟨by rw [gup_at, if_neg (by omega), eB _ (by omega)]; exact b1, by rw [gup_at, if_neg (by omega), eB _ (by omega)]; exact b2, by rw [gup_at, if_neg (by omega), eB _ (by omega)]; exact b3, by rw [gup_at, if_neg (by omega), eB _ (by omega)]; exact b4, by rw [gup_at, if_neg (by omega), eB _ (by omega)]; exact b5, by rw [gup_at, if_pos rfl, bup_eq]⟩, fun q hq => by rw [em _ _ (by omega), eB (11 + q) (by omega), mB_w (eB 0 (by omega)), mB_n (eB 1 (by omega))]; exact c1 q hq, fun q hq => by rw [em _ _ (by omega), eB _ (by omega)]; exact c2 q hq, fun q hq => by rw [em _ _ (by omega), eB _ (by omega)]; exact c3 q hq, fun q hq => by rw [em _ _ (by omega), eB _ (by omega)]; exact c4 q hq, fun q hq => by rw [em _ _ (by omega), eB _ (by omega)]; exact c5 q hq, fun q hq => by rw [em _ _ (by omega), eB _ (by omega)]; exact c6 q hq, fun q hq => by rw [em _ _ (by omega), eB _ (by omega)]; exact c7 q hq, nb, by rw [em _ _ (by omega)]; exact d1, d2, by rw [eB _ (by omega)]; exact d3, fun q j hq hj => by rw [em _ _ (by omega), eB _ (by omega)]; exact d4 q j hq hj⟩
/-- the slots of a block have changed -/
theorem BI_sl {B B' : Nat → Int32} {N : Nat} (h : BI B N) (e : ∀ i, i < 27 → B' i = B i) (ln ag : Nat → Nat) (hs : ∀ p, p < 64 → B' (27 + 5 * p) = nI (ln p) ∧ ln p ≤ 1024 ∧ (B' (29 + 5 * p) = 0 ∨ B' (29 + 5 * p) = 1) ∧ (B' (30 + 5 * p) = nI (ag p) ∧ ag p ≤ 3) ∧ (B' (31 + 5 * p) = 0 ∨ B' (31 + 5 * p) = 1)) (hx : ∀ p, p < 64 → ln p ≠ 0 → p / 16 < bW B ∧ p % 16 = bIx B (ln p - 1) (p / 16)) (hz : ∀ p, p < 64 → ln p = 0 → B' (28 + 5 * p) = 0 ∧ B' (29 + 5 * p) = 0 ∧ B' (30 + 5 * p) = 0 ∧ B' (31 + 5 * p) = 0) : BI B' N ∧ ∀ p, p < 64 → bL B' p = ln p ∧ bAg B' p = ag p := by
  obtain ⟨⟨a1, a2⟩, ⟨b1, b2⟩, ⟨c1, c2⟩, ⟨x1, x2, d1, d2, d3⟩, ⟨y, e1, e2⟩, f1, f2, f3⟩ := h
  have g := BI_mk (B := B') (N := N) (bW B) (bN B) (bD B) (bMk B) ln ag (by rw [e 0 (by omega)]; exact a1) a2 (by rw [e 1 (by omega)]; exact b1) b2 (by rw [e 2 (by omega)]; exact c1) c2 ⟨x1, x2, by rw [e 3 (by omega)]; exact d1, by rw [e 4 (by omega)]; exact d2, d3⟩ ⟨y, by rw [e 8 (by omega)]; exact e1, e2⟩ (fun w j hw hj => by rw [e _ (by omega)]; exact f1 w j hw hj) hs hx hz
  exact ⟨g.1, g.2.2.2.2.2⟩
/-- the masks, ways and bits have stayed: indices too -/
theorem bIx_cg {B B' : Nat → Int32} (e : ∀ i, i < 27 → B' i = B i) {w : Nat} (hw : w < 4) (line : Nat) (hn : bN B ≤ 4) : bIx B' line w = bIx B line w := by
  have hN : bN B' = bN B := by unfold bN; rw [e 1 (by omega)]
  unfold bIx
  rw [hN]
  exact ixR_congr (bN B) (fun j hj => by unfold bMk; rw [e _ (by omega)])
/-- what is not in the slots and not in front may change -/
theorem BI_hi {B B' : Nat → Int32} {N : Nat} (h : BI B N) (e : ∀ i, i < 347 → i < 5 ∨ i = 8 ∨ 11 ≤ i → B' i = B i) : BI B' N := by
  obtain ⟨⟨a1, a2⟩, ⟨b1, b2⟩, ⟨c1, c2⟩, ⟨x1, x2, d1, d2, d3⟩, ⟨y, e1, e2⟩, f1, f2, f3⟩ := h
  exact (BI_mk (bW B) (bN B) (bD B) (bMk B) (bL B) (bAg B) (by rw [e 0 (by omega) (by omega)]; exact a1) a2 (by rw [e 1 (by omega) (by omega)]; exact b1) b2 (by rw [e 2 (by omega) (by omega)]; exact c1) c2 ⟨x1, x2, by rw [e 3 (by omega) (by omega)]; exact d1, by rw [e 4 (by omega) (by omega)]; exact d2, d3⟩ ⟨y, by rw [e 8 (by omega) (by omega)]; exact e1, e2⟩ (fun w j hw hj => by rw [e _ (by omega) (by omega)]; exact f1 w j hw hj) (fun p hp => by rw [e _ (by omega) (by omega), e _ (by omega) (by omega), e _ (by omega) (by omega), e _ (by omega) (by omega)]; exact f2 p hp) (fun p hp hne => f3.1 p hp hne) (fun p hp h0 => by rw [e _ (by omega) (by omega), e _ (by omega) (by omega), e _ (by omega) (by omega), e _ (by omega) (by omega)]; exact f3.2 p hp h0)).1
/-- a value, or whether it is dirty -/
theorem BI_dv {B : Nat → Int32} {N p : Nat} (h : BI B N) (hp : p < 64) (w : Int32) (hw : w = 0 ∨ w = 1 ∧ bL B p ≠ 0) : BI (bup B (29 + 5 * p) w) N := by
  obtain ⟨a, b, c, d, e, f1, f2, f3⟩ := h
  refine (BI_sl ⟨a, b, c, d, e, f1, f2, f3⟩ (fun i hi => bup_ne (by omega)) (bL B) (bAg B) (fun q hq => ?_) f3.1 (fun q hq h0 => ?_)).1
  · rw [bup_ne (by omega), bup_ne (show 30 + 5 * q ≠ 29 + 5 * p by omega), bup_ne (show 31 + 5 * q ≠ 29 + 5 * p by omega), bup_at]
    have g := f2 q hq
    refine ⟨g.1, g.2.1, ?_, g.2.2.2⟩
    split
    · exact hw.elim Or.inl (fun z => Or.inr z.1)
    · exact g.2.2.1
  · obtain ⟨z1, z2, z3, z4⟩ := f3.2 q hq h0
    rw [bup_ne (by omega), bup_ne (show 30 + 5 * q ≠ 29 + 5 * p by omega), bup_ne (show 31 + 5 * q ≠ 29 + 5 * p by omega), bup_at]
    refine ⟨z1, ?_, z3, z4⟩
    split
    · rename_i e5
      rcases hw with z | ⟨-, z⟩
      · exact z
      · exact absurd (by rw [show p = q by omega]; exact h0) z
    · exact z2
theorem BI_va {B : Nat → Int32} {N p : Nat} (h : BI B N) (hp : p < 64) (hl : bL B p ≠ 0) (w : Int32) : BI (bup B (28 + 5 * p) w) N := by
  obtain ⟨a, b, c, d, e, f1, f2, f3⟩ := h
  refine (BI_sl ⟨a, b, c, d, e, f1, f2, f3⟩ (fun i hi => bup_ne (by omega)) (bL B) (bAg B) (fun q hq => ?_) f3.1 (fun q hq h0 => ?_)).1
  · rw [bup_ne (by omega), bup_ne (show 30 + 5 * q ≠ 28 + 5 * p by omega), bup_ne (show 31 + 5 * q ≠ 28 + 5 * p by omega), bup_ne (show 29 + 5 * q ≠ 28 + 5 * p by omega)]
    exact f2 q hq
  · have hne : q ≠ p := fun z => hl (by rw [← z]; exact h0)
    rw [bup_ne (by omega), bup_ne (by omega), bup_ne (by omega), bup_ne (by omega)]
    exact f3.2 q hq h0
theorem BI_pn {B : Nat → Int32} {N p : Nat} (h : BI B N) (hp : p < 64) (hl : bL B p ≠ 0) (w : Int32) (hw : w = 0 ∨ w = 1) : BI (bup B (31 + 5 * p) w) N := by
  obtain ⟨a, b, c, d, e, f1, f2, f3⟩ := h
  refine (BI_sl ⟨a, b, c, d, e, f1, f2, f3⟩ (fun i hi => bup_ne (by omega)) (bL B) (bAg B) (fun q hq => ?_) f3.1 (fun q hq h0 => ?_)).1
  · rw [bup_ne (by omega), bup_ne (show 30 + 5 * q ≠ 31 + 5 * p by omega), bup_ne (show 29 + 5 * q ≠ 31 + 5 * p by omega), bup_at]
    have g := f2 q hq
    refine ⟨g.1, g.2.1, g.2.2.1, g.2.2.2.1, ?_⟩
    split
    · exact hw
    · exact g.2.2.2.2
  · have hne : q ≠ p := fun z => hl (by rw [← z]; exact h0)
    rw [bup_ne (by omega), bup_ne (by omega), bup_ne (by omega), bup_ne (by omega)]
    exact f3.2 q hq h0
theorem BI_ag {B : Nat → Int32} {N p a : Nat} (h : BI B N) (hp : p < 64) (hl : bL B p ≠ 0) (ha : a ≤ 3) : BI (bup B (30 + 5 * p) (nI a)) N ∧ ∀ q, q < 64 → bL (bup B (30 + 5 * p) (nI a)) q = bL B q ∧ bAg (bup B (30 + 5 * p) (nI a)) q = if q = p then a else bAg B q := by
  obtain ⟨aa, b, c, d, e, f1, f2, f3⟩ := h
  refine BI_sl ⟨aa, b, c, d, e, f1, f2, f3⟩ (fun i hi => bup_ne (by omega)) (bL B) (fun q => if q = p then a else bAg B q) (fun q hq => ?_) f3.1 (fun q hq h0 => ?_)
  · rw [bup_ne (by omega), bup_ne (show 29 + 5 * q ≠ 30 + 5 * p by omega), bup_ne (show 31 + 5 * q ≠ 30 + 5 * p by omega), bup_at]
    have g := f2 q hq
    refine ⟨g.1, g.2.1, g.2.2.1, ?_, g.2.2.2.2⟩
    by_cases e : q = p
    · subst e
      rw [if_pos rfl, if_pos rfl]; exact ⟨rfl, ha⟩
    · rw [if_neg (by omega), if_neg e]; exact g.2.2.2.1
  · have hne : q ≠ p := fun z => hl (by rw [← z]; exact h0)
    rw [bup_ne (by omega), bup_ne (by omega), bup_ne (by omega), bup_ne (by omega)]
    exact f3.2 q hq h0
theorem BI_me {B : Nat → Int32} {N i : Nat} (h : BI B N) (w : Int32) : BI (bup B (347 + i) w) N := BI_hi h (fun j hj _ => bup_ne (by omega))
/-- a slot is as another's: the line moves -/
def bmov (B : Nat → Int32) (f t : Nat) : Nat → Int32 := fun i => if 27 + 5 * t ≤ i ∧ i < 32 + 5 * t then B (27 + 5 * f + (i - (27 + 5 * t))) else B i
theorem bmov_in {B : Nat → Int32} {f t j : Nat} (hj : j < 5) : bmov B f t (27 + 5 * t + j) = B (27 + 5 * f + j) := by
  unfold bmov
  rw [if_pos (by omega), show 27 + 5 * t + j - (27 + 5 * t) = j by omega]
theorem bmov_out {B : Nat → Int32} {f t i : Nat} (h : ¬ (27 + 5 * t ≤ i ∧ i < 32 + 5 * t)) : bmov B f t i = B i := if_neg h
theorem mB_mov {m : gM} {f t : Nat} : mB (gblk m 47 0 (63 + 5 * f) 47 0 (63 + 5 * t) 5) = bmov (mB m) f t := by
  funext i
  show gblk m 47 0 (63 + 5 * f) 47 0 (63 + 5 * t) 5 47 0 (36 + i) = _
  unfold gblk bmov mB
  by_cases e : 27 + 5 * t ≤ i ∧ i < 32 + 5 * t
  · rw [if_pos ⟨rfl, rfl, by omega, by omega⟩, if_pos e, show 63 + 5 * f + (36 + i - (63 + 5 * t)) = 36 + (27 + 5 * f + (i - (27 + 5 * t))) by omega]
  · rw [if_neg (by omega), if_neg e]
theorem bmov_slot {B : Nat → Int32} {f t q j : Nat} (hj : j < 5) : bmov B f t (27 + j + 5 * q) = if q = t then B (27 + j + 5 * f) else B (27 + j + 5 * q) := by
  by_cases e : q = t
  · subst e
    rw [if_pos rfl, show 27 + j + 5 * q = 27 + 5 * q + j by omega, bmov_in hj, show 27 + 5 * f + j = 27 + j + 5 * f by omega]
  · rw [if_neg e, bmov_out (by omega)]
theorem BI_mov {B : Nat → Int32} {N f t : Nat} (h : BI B N) (hf : f < 64) (hl : bL B f ≠ 0) (hw : t / 16 < bW B) (hi : t % 16 = bIx B (bL B f - 1) (t / 16)) : BI (bmov B f t) N ∧ ∀ q, q < 64 → bL (bmov B f t) q = if q = t then bL B f else bL B q := by
  obtain ⟨aa, b, c, d, e, f1, f2, f3⟩ := h
  have g := BI_sl (B' := bmov B f t) ⟨aa, b, c, d, e, f1, f2, f3⟩ (fun i hi => bmov_out (by omega)) (fun q => if q = t then bL B f else bL B q) (fun q => if q = t then bAg B f else bAg B q) (fun q hq => ?_) (fun q hq hne => ?_) (fun q hq h0 => ?_)
  · exact ⟨g.1, fun q hq => (g.2 q hq).1⟩
  · have s := fun j (hj : j < 5) => bmov_slot (B := B) (f := f) (t := t) (q := q) hj
    have s0 := s 0 (by omega)
    have s2 := s 2 (by omega)
    have s3 := s 3 (by omega)
    have s4 := s 4 (by omega)
    simp only [Nat.add_zero, Nat.reduceAdd] at s0 s2 s3 s4
    rw [s0, s2, s3, s4]
    by_cases e : q = t
    · simp only [if_pos e]; exact f2 f hf
    · simp only [if_neg e]; exact f2 q hq
  · by_cases e : q = t
    · simp only [if_pos e]
      rw [e]; exact ⟨hw, hi⟩
    · simp only [if_neg e] at hne ⊢
      exact f3.1 q hq hne
  · by_cases e : q = t
    · simp only [if_pos e] at h0
      exact absurd h0 hl
    · simp only [if_neg e] at h0
      rw [bmov_out (by omega), bmov_out (by omega), bmov_out (by omega), bmov_out (by omega)]
      exact f3.2 q hq h0
/-- a line comes to a place -/
def bset (B : Nat → Int32) (line p : Nat) : Nat → Int32 := bup (bup (bup (bup (bup B (27 + 5 * p) (nI (line + 1))) (28 + 5 * p) (B (347 + line))) (29 + 5 * p) 0) (30 + 5 * p) 2) (31 + 5 * p) 0
theorem bset_out {B : Nat → Int32} {line p i : Nat} (h : ¬ (27 + 5 * p ≤ i ∧ i < 32 + 5 * p)) : bset B line p i = B i := by
  unfold bset
  rw [bup_ne (by omega), bup_ne (by omega), bup_ne (by omega), bup_ne (by omega), bup_ne (by omega)]
theorem BI_set {B : Nat → Int32} {N line p : Nat} (h : BI B N) (hl : line < 1024) (hw : p / 16 < bW B) (hi : p % 16 = bIx B line (p / 16)) : BI (bset B line p) N := by
  obtain ⟨aa, b, c, d, e, f1, f2, f3⟩ := h
  refine (BI_sl (B' := bset B line p) ⟨aa, b, c, d, e, f1, f2, f3⟩ (fun i hi => bset_out (by omega)) (fun q => if q = p then line + 1 else bL B q) (fun q => if q = p then 2 else bAg B q) (fun q hq => ?_) (fun q hq hne => ?_) (fun q hq h0 => ?_)).1
  · by_cases e : q = p
    · subst e
      simp only [↓reduceIte]
      unfold bset
      rw [bup_ne (show 27 + 5 * q ≠ 31 + 5 * q by omega), bup_ne (show 27 + 5 * q ≠ 30 + 5 * q by omega), bup_ne (show 27 + 5 * q ≠ 29 + 5 * q by omega), bup_ne (show 27 + 5 * q ≠ 28 + 5 * q by omega), bup_eq, bup_ne (show 29 + 5 * q ≠ 31 + 5 * q by omega), bup_ne (show 29 + 5 * q ≠ 30 + 5 * q by omega), bup_eq, bup_ne (show 30 + 5 * q ≠ 31 + 5 * q by omega), bup_eq, bup_eq]
      exact ⟨rfl, by omega, Or.inl rfl, ⟨rfl, by omega⟩, Or.inl rfl⟩
    · simp only [if_neg e]
      rw [bset_out (by omega), bset_out (by omega), bset_out (by omega), bset_out (by omega)]
      exact f2 q hq
  · by_cases e : q = p
    · simp only [if_pos e] at hne ⊢
      rw [e]
      exact ⟨hw, hi⟩
    · simp only [if_neg e] at hne ⊢
      exact f3.1 q hq hne
  · by_cases e : q = p
    · simp only [if_pos e] at h0
      omega
    · simp only [if_neg e] at h0
      rw [bset_out (by omega), bset_out (by omega), bset_out (by omega), bset_out (by omega)]
      exact f3.2 q hq h0
