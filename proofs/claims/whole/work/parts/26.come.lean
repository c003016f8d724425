/-! LAYER 2: a line comes: the component's come and the reference's askNow. -/
theorem x_settle {m : gM} {k N line p : Nat} {B : Nat → Int32} (hR : RS m k B N) (hl : line < 1024) (hp : p < 64) (h1 : B (31 + 5 * p) = 0) : ∃ m', X3_settle k (nI line) (nI p) m = some ((), m') ∧ RS m' k (bset B line p) N ∧ Eqv (pSl k) m m' := by
  unfold X3_settle
  have r1 := RS_u29 hR hp (nI (line + 1))
  have r2 := RS_u30 r1 hp (B (347 + line))
  have r3 := RS_u31 r2 hp 0
  have r4 := RS_u32 r3 hp 2
  have e : nI (line + 1) - 1 = nI line := by rw [nI_sub1 (by omega)]; rfl
  rw [e] at r1 r2 r3 r4
  rw [gPut_nI (show p < 64 from hp) (by omega), gAt_nI (show line < 1024 from hl) (by omega), r1.2.2.2.1 _ hl, bup_ne (by omega), gPut_nI (show p < 64 from hp) (by omega), gPut_nI (show p < 64 from hp) (by omega), gPut_nI (show p < 64 from hp) (by omega)]
  refine ⟨_, rfl, RS_congrB r4 (fun i hi => ?_), (((Eqv.up (by unfold pSl; omega)).tr (Eqv.up (by unfold pSl; omega))).tr (Eqv.up (by unfold pSl; omega))).tr (Eqv.up (by unfold pSl; omega))⟩
  unfold bset
  by_cases e0 : i = 31 + 5 * p
  · rw [e0, bup_eq, bup_ne (by omega), bup_ne (by omega), bup_ne (by omega), bup_ne (by omega), h1]
  · rw [bup_ne e0]
theorem m_lay {m : gM} {line p : Nat} (hl : line < 1024) (hp : p < 64) : ∃ m', X9_layLine (nI p) (nI line) m = some ((), m') ∧ mB m' = bset (mB m) line p ∧ Eqv pBk m m' := by
  unfold X9_layLine
  have i0 : (63 + 5 * nI p + 0 : Int32) = nI (36 + (27 + 5 * p)) := m_ix (j := 0)
  have i1 : (63 + 5 * nI p + 1 : Int32) = nI (36 + (28 + 5 * p)) := by rw [show 28 + 5 * p = 27 + 5 * p + 1 by omega]; exact m_ix
  have i2 : (63 + 5 * nI p + 2 : Int32) = nI (36 + (29 + 5 * p)) := by rw [show 29 + 5 * p = 27 + 5 * p + 2 by omega]; exact m_ix
  have i3 : (63 + 5 * nI p + 3 : Int32) = nI (36 + (30 + 5 * p)) := by rw [show 30 + 5 * p = 27 + 5 * p + 3 by omega]; exact m_ix
  have i4 : (63 + 5 * nI p + 4 : Int32) = nI (36 + (31 + 5 * p)) := by rw [show 31 + 5 * p = 27 + 5 * p + 4 by omega]; exact m_ix
  have i5 : (383 + nI line : Int32) = nI (36 + (347 + line)) := by rw [li383, nI_add]; congr 1; omega
  rw [m_at, i0, i1, i2, i3, i4, i5, m_put (by omega), m_get (by omega), m_put (by omega), m_put (by omega), m_put (by omega), m_put (by omega), mB_up, bup_ne (by omega), nI_1]
  refine ⟨_, rfl, ?_, ((((Eqv_bk (by omega)).tr (Eqv_bk (by omega))).tr (Eqv_bk (by omega))).tr (Eqv_bk (by omega))).tr (Eqv_bk (by omega))⟩
  rw [mB_up, mB_up, mB_up, mB_up, mB_up]
  rfl
/-- the book: one line more, the first one gone if it was full -/
def shB (B : Nat → Int32) : Nat → Int32 := fun i => if 1371 ≤ i ∧ i < 1463 then B (i + 4) else B i
def wrB (B : Nat → Int32) (e : Nat) (a b c d : Int32) : Nat → Int32 := bup (bup (bup (bup (bup B (1371 + 4 * e) a) (1371 + 4 * e + 1) b) (1371 + 4 * e + 2) c) (1371 + 4 * e + 3) d) 10 (nI (e + 1))
def wbk (B : Nat → Int32) (n : Nat) (a b c d : Int32) : Nat → Int32 := if n = 24 then wrB (shB B) 23 a b c d else wrB B n a b c d
theorem wbk_lo {B : Nat → Int32} {n : Nat} {a b c d : Int32} {i : Nat} (hi : i < 1371) (h10 : i ≠ 10) : wbk B n a b c d i = B i := by
  unfold wbk wrB shB
  split
  · rw [bup_ne h10, bup_ne (by omega), bup_ne (by omega), bup_ne (by omega), bup_ne (by omega), if_neg (by omega)]
  · rw [bup_ne h10, bup_ne (by omega), bup_ne (by omega), bup_ne (by omega), bup_ne (by omega)]
theorem wbk_BI {B : Nat → Int32} {N n : Nat} {a b c d : Int32} (h : BI B N) : BI (wbk B n a b c d) N := BI_hi h (fun i hi _ => wbk_lo (by omega) (by omega))
theorem wbk_10 {B : Nat → Int32} {n : Nat} {a b c d : Int32} (hn : n ≤ 24) : wbk B n a b c d 10 = nI (min (n + 1) 24) := by
  unfold wbk wrB
  split
  · rw [bup_eq, show min (n + 1) 24 = 24 by omega]
  · rw [bup_eq, show min (n + 1) 24 = n + 1 by omega]
def sel4 (a b c d : Int32) (j : Nat) : Int32 := if j = 0 then a else if j = 1 then b else if j = 2 then c else d
theorem wrB_at {B : Nat → Int32} {e i j : Nat} {a b c d : Int32} (hj : j < 4) : wrB B e a b c d (1371 + 4 * i + j) = if i = e then sel4 a b c d j else B (1371 + 4 * i + j) := by
  unfold wrB sel4
  rw [bup_ne (by omega)]
  by_cases h : i = e
  · subst h
    rw [if_pos rfl]
    rcases (show j = 0 ∨ j = 1 ∨ j = 2 ∨ j = 3 by omega) with rfl | rfl | rfl | rfl
    · rw [bup_ne (by omega), bup_ne (by omega), bup_ne (by omega)]; exact bup_eq
    · rw [bup_ne (by omega), bup_ne (by omega)]; exact bup_eq
    · rw [bup_ne (by omega)]; exact bup_eq
    · exact bup_eq
  · rw [if_neg h, bup_ne (by omega), bup_ne (by omega), bup_ne (by omega), bup_ne (by omega)]
theorem wbk_at {B : Nat → Int32} {n i j : Nat} {a b c d : Int32} (hn : n ≤ 24) (hi : i < min (n + 1) 24) (hj : j < 4) : wbk B n a b c d (1371 + 4 * i + j) = if i = min n 23 then sel4 a b c d j else B (1371 + 4 * (if n = 24 then i + 1 else i) + j) := by
  unfold wbk
  by_cases h : n = 24
  · rw [if_pos h, if_pos h, wrB_at hj]
    by_cases e : i = 23
    · rw [if_pos e, if_pos (by omega)]
    · rw [if_neg e, if_neg (by omega)]
      unfold shB
      rw [if_pos (by omega)]
      congr 1; omega
  · rw [if_neg h, if_neg h, wrB_at hj]
    by_cases e : i = n
    · rw [if_pos e, if_pos (by omega)]
    · rw [if_neg e, if_neg (by omega)]
def pNo (k t k' _i : Nat) : Prop := (t = 3 ∨ t = 27) ∧ k' = k
theorem x_note {m : gM} {k N : Nat} {B : Nat → Int32} (hR : RS m k B N) (hN : N + 1 ≤ 1000000000) (a b c d : Int32) : ∃ n m', n ≤ 24 ∧ B 10 = nI n ∧ X3_note k a b c d m = some ((), m') ∧ RS m' k (wbk B n a b c d) (N + 1) ∧ Eqv (pNo k) m m' := by
  obtain ⟨⟨a1, a2, a3, a4⟩, ⟨b1, b2, b3, b4, b5, b6⟩, c1, c2, c3, c4, c5, c6, c7, nb, d1, d2, d3, d4⟩ := hR
  unfold X3_note
  have hlt : nb % 24 < 24 := Nat.mod_lt _ (by omega)
  rw [d1, li24, nI_rem (by omega) (by omega) (by omega), li4, pk_mul]
  simp only [gLet]
  rw [gPut_nI (show nb % 24 * 4 < 96 by omega) (by omega), li1, nI_add, gPut_nI (show nb % 24 * 4 + 1 < 96 by omega) (by omega), li2, nI_add, gPut_nI (show nb % 24 * 4 + 2 < 96 by omega) (by omega), li3, nI_add, gPut_nI (show nb % 24 * 4 + 3 < 96 by omega) (by omega)]
  simp only [gSet]
  have e0 : gup (gup (gup (gup m 27 k (nb % 24 * 4) a) 27 k (nb % 24 * 4 + 1) b) 27 k (nb % 24 * 4 + 2) c) 27 k (nb % 24 * 4 + 3) d 3 k 4 = nI nb := by
    rw [gup_t (by omega), gup_t (by omega), gup_t (by omega), gup_t (by omega)]; exact d1
  rw [e0, nI_add]
  refine ⟨min nb 24, _, by omega, d3, rfl, ?_, ((((Eqv.up (by unfold pNo; omega)).tr (Eqv.up (by unfold pNo; omega))).tr (Eqv.up (by unfold pNo; omega))).tr (Eqv.up (by unfold pNo; omega))).tr (Eqv.up (by unfold pNo; omega))⟩
  generalize hm1 : gup (gup (gup (gup m 27 k (nb % 24 * 4) a) 27 k (nb % 24 * 4 + 1) b) 27 k (nb % 24 * 4 + 2) c) 27 k (nb % 24 * 4 + 3) d = m1
  have q3 : ∀ i, i ≠ 4 → gup m1 3 k 4 (nI (nb + 1)) 3 k i = m 3 k i := fun i hi => by
    rw [gup_at, if_neg hi, ← hm1, gup_t (by omega), gup_t (by omega), gup_t (by omega), gup_t (by omega)]
  have qt : ∀ t i, t ≠ 3 → t ≠ 27 → gup m1 3 k 4 (nI (nb + 1)) t k i = m t k i := fun t i h1 h2 => by
    rw [gup_t h1, ← hm1, gup_t h2, gup_t h2, gup_t h2, gup_t h2]
  have lo : ∀ i, i < 1371 → i ≠ 10 → wbk B (min nb 24) a b c d i = B i := fun i h1 h2 => wbk_lo h1 h2
  refine ⟨⟨by rw [q3 _ (by omega), lo _ (by omega) (by omega)]; exact a1, by rw [q3 _ (by omega), lo _ (by omega) (by omega)]; exact a2, by rw [q3 _ (by omega), lo _ (by omega) (by omega)]; exact a3, by rw [q3 _ (by omega), lo _ (by omega) (by omega)]; exact a4⟩, ⟨by rw [qt _ _ (by omega) (by omega), lo _ (by omega) (by omega)]; exact b1, by rw [qt _ _ (by omega) (by omega), lo _ (by omega) (by omega)]; exact b2, by rw [qt _ _ (by omega) (by omega), lo _ (by omega) (by omega)]; exact b3, by rw [qt _ _ (by omega) (by omega), lo _ (by omega) (by omega)]; exact b4, by rw [qt _ _ (by omega) (by omega), lo _ (by omega) (by omega)]; exact b5, by rw [qt _ _ (by omega) (by omega), lo _ (by omega) (by omega)]; exact b6⟩, fun i hi => by rw [qt _ _ (by omega) (by omega), lo (11 + i) (by omega) (by omega), mB_w (lo 0 (by omega) (by omega)), mB_n (lo 1 (by omega) (by omega))]; exact c1 i hi, fun i hi => by rw [qt _ _ (by omega) (by omega), lo _ (by omega) (by omega)]; exact c2 i hi, fun i hi => by rw [qt _ _ (by omega) (by omega), lo _ (by omega) (by omega)]; exact c3 i hi, fun i hi => by rw [qt _ _ (by omega) (by omega), lo _ (by omega) (by omega)]; exact c4 i hi, fun i hi => by rw [qt _ _ (by omega) (by omega), lo _ (by omega) (by omega)]; exact c5 i hi, fun i hi => by rw [qt _ _ (by omega) (by omega), lo _ (by omega) (by omega)]; exact c6 i hi, fun i hi => by rw [qt _ _ (by omega) (by omega), lo _ (by omega) (by omega)]; exact c7 i hi, nb + 1, by rw [gup_at, if_pos rfl], by omega, by rw [wbk_10 (by omega), show min (min nb 24 + 1) 24 = min (nb + 1) 24 by omega], fun i j hi hj => ?_⟩
  rw [wbk_at (by omega) (by omega) hj, gup_t (by omega), ← hm1, gup_at, gup_at, gup_at, gup_at]
  by_cases hl : i = min (min nb 24) 23
  · have h24 : (nb + 1 - min (nb + 1) 24 + i) % 24 = nb % 24 := by congr 1; omega
    rw [if_pos hl, h24]
    unfold sel4
    rcases (show j = 0 ∨ j = 1 ∨ j = 2 ∨ j = 3 by omega) with rfl | rfl | rfl | rfl
    · rw [if_neg (by omega), if_neg (by omega), if_neg (by omega), if_pos (by omega), if_pos rfl]
    · rw [if_neg (by omega), if_neg (by omega), if_pos (by omega), if_neg (by omega), if_pos rfl]
    · rw [if_neg (by omega), if_pos (by omega), if_neg (by omega), if_neg (by omega), if_pos rfl]
    · rw [if_pos (by omega), if_neg (by omega), if_neg (by omega), if_neg (by omega)]
  · rw [if_neg hl]
    have hq : (nb + 1 - min (nb + 1) 24 + i) % 24 ≠ nb % 24 := by omega
    rw [if_neg (by omega), if_neg (by omega), if_neg (by omega), if_neg (by omega)]
    have h5 := d4 (if min nb 24 = 24 then i + 1 else i) j (by split <;> omega) hj
    rw [← h5]
    congr 1
    split
    · congr 2; omega
    · congr 2; omega
theorem m_note {m : gM} {n : Nat} {B : Nat → Int32} (hm : mB m = B) (hn : n ≤ 24) (h10 : B 10 = nI n) (a b c d : Int32) : ∃ m', X9_writeDown a b c d m = some ((), m') ∧ mB m' = wbk B n a b c d ∧ Eqv pBk m m' := by
  subst hm
  have hw : ∀ (m1 : gM) (e : Nat), e < 24 → mB m1 10 = nI e → ∃ m', (gAt m1 47 0 46 (fun x3 => gLet (1407 + (4 * x3)) (fun x4 => gPut m1 47 0 x4 a (fun m5 => gPut m5 47 0 (x4 + 1) b (fun m6 => gPut m6 47 0 (x4 + 2) c (fun m7 => gPut m7 47 0 (x4 + 3) d (fun m8 => gAt m8 47 0 46 (fun x9 => gPut m8 47 0 46 (x9 + 1) (fun m10 => some ((), m10)))))))))) = some ((), m') ∧ mB m' = wrB (mB m1) e a b c d ∧ Eqv pBk m1 m' := by
    intro m1 e he h1
    have i0 : (1407 + 4 * nI e : Int32) = nI (36 + (1371 + 4 * e)) := by rw [li1407, li4, pk_mul, nI_add]; congr 1; omega
    have i1 : nI (36 + (1371 + 4 * e)) + 1 = nI (36 + (1371 + 4 * e + 1)) := nI_add _ 1
    have i2 : nI (36 + (1371 + 4 * e)) + 2 = nI (36 + (1371 + 4 * e + 2)) := nI_add _ 2
    have i3 : nI (36 + (1371 + 4 * e)) + 3 = nI (36 + (1371 + 4 * e + 3)) := nI_add _ 3
    rw [show (46 : Int32) = nI (36 + 10) from rfl, m_get (by omega), h1, i0]
    simp only [gLet]
    rw [i1, i2, i3, m_put (by omega), m_put (by omega), m_put (by omega), m_put (by omega), m_get (by omega), m_put (by omega), mB_up, bup_ne (by omega), mB_up, bup_ne (by omega), mB_up, bup_ne (by omega), mB_up, bup_ne (by omega), h1, nI_1]
    refine ⟨_, rfl, ?_, ((((Eqv_bk (by omega)).tr (Eqv_bk (by omega))).tr (Eqv_bk (by omega))).tr (Eqv_bk (by omega))).tr (Eqv_bk (by omega))⟩
    rw [mB_up, mB_up, mB_up, mB_up, mB_up]
    rfl
  unfold X9_writeDown
  rw [show (46 : Int32) = nI (36 + 10) from rfl, m_get (by omega), h10, gJ0_e]
  by_cases h : n = 24
  · rw [if_pos (by rw [h]; rfl), gJ0_e]
    refine gL1_rec (fun j x σ => ∃ i, j = 1463 - i ∧ 1371 ≤ i ∧ i ≤ 1463 ∧ x = nI (36 + i) ∧ mB σ = (fun q => if 1371 ≤ q ∧ q < i then mB m (q + 4) else mB m q) ∧ Eqv pBk m σ) (fun r => ∃ m', r = some ((), m') ∧ mB m' = wbk (mB m) n a b c d ∧ Eqv pBk m m') ?_ FU 92 1407 m (by rw [FU_eq]; omega) ⟨1371, by omega, by omega, by omega, rfl, ?_, Eqv.rf⟩
    · rintro j x σ K ⟨i, rfl, h1, h2, rfl, h3, h4⟩ hK
      unfold X9_writeDown_b17
      by_cases hi : i = 1463
      · rw [if_pos (by rw [li1499, nI_leq (by omega) (by omega)]; omega)]
        have hsh : mB σ = shB (mB m) := by rw [h3, hi]; rfl
        have h10' : mB σ 10 = nI 24 := by rw [hsh]; unfold shB; rw [if_neg (by omega), h10, h]
        dsimp only
        rw [m_get (by omega), h10', m_put (by omega)]
        have e23 : nI 24 - 1 = nI 23 := rfl
        rw [e23]
        obtain ⟨m', w1, w2, w3⟩ := hw (gup σ 47 0 (36 + 10) (nI 23)) 23 (by omega) (by rw [mB_up, bup_eq])
        refine ⟨m', w1, ?_, (h4.tr (Eqv_bk (by omega))).tr w3⟩
        rw [w2, mB_up, hsh]
        unfold wbk
        rw [if_pos h]
        funext q
        unfold wrB
        by_cases e1 : q = 10
        · rw [e1, bup_eq, bup_eq]
        · rw [bup_ne e1, bup_ne e1]
          simp only [bup_at]
          rw [if_neg e1]
      · rw [if_neg (by rw [li1499, nI_leq (by omega) (by omega)]; omega), li4, nI_add, show 36 + i + 4 = 36 + (i + 4) by omega, m_get (by omega), m_put (by omega)]
        simp only [gLet]
        rw [nI_1]
        refine hK _ _ _ (by omega) ⟨i + 1, rfl, by omega, by omega, rfl, ?_, h4.tr (Eqv_bk (by omega))⟩
        rw [mB_up, h3]
        funext q
        rw [bup_at]
        by_cases e1 : q = i
        · rw [if_pos e1, if_pos (by omega)]
          dsimp only
          rw [if_neg (by omega), e1]
        · rw [if_neg e1]
          by_cases e2 : 1371 ≤ q ∧ q < i
          · rw [if_pos e2, if_pos (by omega)]
          · rw [if_neg e2, if_neg (by omega)]
    · funext q
      rw [if_neg (by omega)]
  · rw [if_neg (by rw [li24, nI_inj (by omega) (by omega)]; exact h)]
    obtain ⟨m', w1, w2, w3⟩ := hw m n (by omega) h10
    refine ⟨m', w1, ?_, w3⟩
    rw [w2]
    unfold wbk
    rw [if_neg h]
