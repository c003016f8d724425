/-! LAYER 2: a line comes, all together. -/
theorem bIx_cg2 {B B' : Nat → Int32} (e : ∀ i, i < 2 ∨ (11 ≤ i ∧ i < 27) → B' i = B i) {w : Nat} (hw : w < 4) (line : Nat) (hn : bN B ≤ 4) : bIx B' line w = bIx B line w := by
  have hN : bN B' = bN B := mB_n (e 1 (by omega))
  unfold bIx
  rw [hN]
  exact ixR_congr (bN B) (fun j hj => by unfold bMk; rw [e _ (by omega)])
theorem bFind_cg {B B' : Nat → Int32} {line : Nat} (hn : bN B ≤ 4) (e : ∀ i, i < 2 ∨ (11 ≤ i ∧ i < 27) → B' i = B i) (l : ∀ q, q < 64 → bL B' q = bL B q) (hi : ∀ w, w < 4 → bIx B line w < 16) : ∀ n, n ≤ 4 → bFind B' line n = bFind B line n := by
  intro n
  induction n with
  | zero => intro _; rfl
  | succ n ih =>
    intro h
    have := hi n (by omega)
    simp only [bFind, ih (by omega), bIx_cg2 e (show n < 4 by omega) line hn, l (16 * n + bIx B line n) (by omega)]
theorem bAt_cg {B B' : Nat → Int32} {N line : Nat} (hB : BI B N) (e : ∀ i, i < 2 ∨ (11 ≤ i ∧ i < 27) → B' i = B i) (l : ∀ q, q < 64 → bL B' q = bL B q) : bAt B' line = bAt B line := by
  unfold bAt
  rw [mB_w (e 0 (by omega))]
  exact bFind_cg hB.2.1.2.2 e l (fun w _ => bIx_lt hB line w) _ hB.1.2.2
theorem bFind_uni {B : Nat → Int32} {N line p : Nat} (hB : BI B N) (hp : p < 64) (hl : bL B p = line + 1) (hi : p % 16 = bIx B line (p / 16)) (hu : ∀ q, q < 64 → q ≠ p → bL B q ≠ line + 1) : ∀ n, n ≤ 4 → bFind B line n = if p / 16 < n then some p else none := by
  intro n
  induction n with
  | zero => intro _; rw [if_neg (by omega)]; rfl
  | succ n ih =>
    intro h
    have hx := bIx_lt hB line n
    simp only [bFind, ih (by omega)]
    by_cases e : p / 16 < n
    · rw [if_pos e, if_pos (show p / 16 < n + 1 by omega)]
    · rw [if_neg e]
      dsimp only
      by_cases e2 : p / 16 = n
      · rw [← e2, ← hi, show 16 * (p / 16) + p % 16 = p by omega, if_pos hl, if_pos (by omega)]
      · rw [if_neg (show ¬ p / 16 < n + 1 by omega), if_neg (hu _ (by omega) (by omega))]
theorem bAt_uni {B : Nat → Int32} {N line p : Nat} (hB : BI B N) (hp : p < 64) (hl : bL B p = line + 1) (hu : ∀ q, q < 64 → q ≠ p → bL B q ≠ line + 1) : bAt B line = some p := by
  obtain ⟨h1, h2⟩ := hB.2.2.2.2.2.2.2.1 p hp (by omega)
  rw [hl, Nat.add_sub_cancel] at h2
  unfold bAt
  rw [bFind_uni hB hp hl h2 hu _ hB.1.2.2, if_pos h1]
theorem bFind_non {B : Nat → Int32} {line : Nat} : ∀ n, bFind B line n = none → ∀ w, w < n → bL B (16 * w + bIx B line w) ≠ line + 1 := by
  intro n
  induction n with
  | zero => intro _ w h; omega
  | succ n ih =>
    intro h w hw
    simp only [bFind] at h
    cases e : bFind B line n with
    | some p => rw [e] at h; cases h
    | none =>
      rw [e] at h
      dsimp only at h
      rcases Nat.lt_or_ge w n with q | q
      · exact ih e w q
      · have : w = n := by omega
        subst this
        intro z
        rw [if_pos z] at h
        cases h
theorem bAt_non {B : Nat → Int32} {N line : Nat} (hB : BI B N) (h : bAt B line = none) : ∀ q, q < 64 → bL B q ≠ line + 1 := by
  intro q hq z
  obtain ⟨h1, h2⟩ := hB.2.2.2.2.2.2.2.1 q hq (by omega)
  rw [z, Nat.add_sub_cancel] at h2
  have g := bFind_non _ h (q / 16) h1
  rw [← h2, show 16 * (q / 16) + q % 16 = q by omega] at g
  exact g z
theorem LQ_cg {B B' : Nat → Int32} {N line : Nat} {L : gCL} (hB : BI B N) (hL : LW L) (h : LQ B line L) (e : ∀ i, i < 2 ∨ (11 ≤ i ∧ i < 27) → B' i = B i) (l : ∀ q, q < 64 → bL B' q = bL B q) (pn : ∀ q, q < 64 → B' (31 + 5 * q) = B (31 + 5 * q)) : LQ B' line L := by
  intro i hi
  obtain ⟨q1, q2, q3, q4⟩ := h i hi
  have hp := hL.1 i hi
  have hw := hB.1.2.2
  have hix := fun x => bIx_cg2 (line := x) e (show lp L i / 16 < 4 by omega) hB.2.1.2.2
  refine ⟨by rw [mB_w (e 0 (by omega))]; exact q1, by rw [pn _ hp]; exact q2, fun hn => by rw [hix]; exact q3 hn, fun j hj => ?_⟩
  have hjt := hL.2.2 i j hi hj
  rw [l _ (hL.1 j (by omega)), hix]
  exact q4 j hj
theorem mv_all {B : Nat → Int32} {N line : Nat} {L : gCL} (hL : LW L) (hQ : LQ B line L) (z : Nat) : ∀ d t B', chn L d t → MV B N L B' t → (∀ q, q < 64 → bL B' q ≠ z) → MV B N L (mvB d B' L t) (mvT L d t) ∧ lo L (mvT L d t) = none ∧ ∀ q, q < 64 → bL (mvB d B' L t) q ≠ z := by
  intro d
  induction d with
  | zero => intro t B' hc hM hz; exact ⟨hM, hc, hz⟩
  | succ d ih =>
    intro t B' hc hM hz
    cases hlo : lo L t with
    | none =>
      obtain ⟨f1, f2, -⟩ := mv_end hlo (d + 1) B'
      rw [f1, f2]
      exact ⟨hM, hlo, hz⟩
    | some j =>
      obtain ⟨hM2, hjt⟩ := MV_step hL hQ hM hlo
      obtain ⟨f1, f2, -⟩ := mv_go hlo d B'
      rw [f1, f2]
      refine ih j _ (hc j hlo) hM2 (fun q hq => ?_)
      obtain ⟨h1, h2, h3, h4, h5⟩ := hM
      obtain ⟨q1, q2, q3, q4⟩ := hQ t h5
      obtain ⟨q5, q6⟩ := q4 j hlo
      have hw4 := h1.1.2.2
      have hpj := hL.1 j (by omega)
      have hw := mB_w (h2 0 (by omega))
      have hn : bN B ≤ 4 := by rw [← mB_n (h2 1 (by omega))]; exact h1.2.1.2.2
      have b3 := h3 j (by omega)
      obtain ⟨g1, g2⟩ := BI_mov h1 hpj (by rw [b3]; exact q5) (by rw [hw]; exact q1) (by rw [b3, bIx_cg h2 (by omega) _ hn]; exact q6)
      rw [g2 q hq]
      split
      · exact hz _ hpj
      · exact hz q hq
/-- the dirty bit of the place that is taken does not matter -/
theorem mv_dc {B : Nat → Int32} {L : gCL} {d t : Nat} (hL : LW L) (ht : t < L.length) (hc : chn L d t) : (lo L t = none ∧ mvT L d t = t ∧ mvB d (bup B (29 + 5 * lp L t) 0) L t = bup B (29 + 5 * lp L t) 0 ∧ mvB d B L t = B) ∨ mvB d (bup B (29 + 5 * lp L t) 0) L t = mvB d B L t := by
  cases hlo : lo L t with
  | none =>
    refine Or.inl ⟨rfl, (mv_end hlo d B).2.1, (mv_end hlo d _).1, (mv_end hlo d B).1⟩
  | some j =>
    cases d with
    | zero => rw [chn] at hc; rw [hc] at hlo; cases hlo
    | succ d =>
      refine Or.inr ?_
      rw [(mv_go hlo d _).1, (mv_go hlo d B).1]
      have hjt := hL.2.2 t j ht hlo
      have hne := hL.2.1 j t hjt ht
      congr 1
      funext i
      unfold bmov
      split
      · rw [bup_ne (by omega)]
      · rw [bup_ne (by omega)]
theorem bset_dc {B : Nat → Int32} {line p : Nat} {w : Int32} (hp : p < 64) : bset (bup (bup B (29 + 5 * p) 0) 7 w) line p = bset (bup B 7 w) line p := by
  funext i
  unfold bset
  rw [bup_ne (show 347 + line ≠ 7 by omega), bup_ne (show 347 + line ≠ 7 by omega)]
  simp only [bup_at]
  by_cases e0 : i = 31 + 5 * p
  · rw [if_pos e0, if_pos e0]
  · rw [if_neg e0, if_neg e0]
    by_cases e1 : i = 30 + 5 * p
    · rw [if_pos e1, if_pos e1]
    · rw [if_neg e1, if_neg e1]
      by_cases e2 : i = 29 + 5 * p
      · rw [if_pos e2, if_pos e2]
      · rw [if_neg e2, if_neg e2, if_neg e2]
        rw [if_neg (show ¬ 347 + line = 29 + 5 * p by omega)]
theorem bset_L {B : Nat → Int32} {line p q : Nat} (hl : line < 1024) : bL (bset B line p) q = if q = p then line + 1 else bL B q := by
  unfold bL bset
  rw [bup_ne (by omega), bup_ne (by omega), bup_ne (by omega), bup_ne (by omega), bup_at]
  by_cases e : q = p
  · rw [if_pos (by omega), if_pos e, nI_cl (by omega)]
  · rw [if_neg (by omega), if_neg e]
theorem bL_up {B : Nat → Int32} {i q : Nat} {v : Int32} (h : ∀ q, i ≠ 27 + 5 * q) : bL (bup B i v) q = bL B q := by
  unfold bL
  rw [bup_ne (fun z => h q z.symm)]
