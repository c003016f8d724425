/-! LAYER 2: what changes a store: frames; copies; keep. -/
/-- the kinds that a whole is made of -/
def wT (t : Nat) : Prop := t = 3 ∨ (25 ≤ t ∧ t ≤ 33) ∨ t = 5 ∨ t = 38 ∨ t = 39 ∨ t = 6 ∨ t = 40
def sT (t : Nat) : Prop := t = 3 ∨ (25 ≤ t ∧ t ≤ 33)
theorem WR_cg {m m' : gM} {w N : Nat} {A TX : Nat → Int32} (h : WR m w A TX N) (e : ∀ t k i, wT t → m' t k i = m t k i) : WR m' w A TX N := by
  obtain ⟨⟨a1, a2⟩, ⟨c, e0, f, b1, b2, b3, b4, b5, b6, b7, b8⟩, ⟨tr, d1, d2, d3, d4⟩, g, f1, f2, f3, f4, f5⟩ := h
  have e6 := fun i => e 6 w i (by unfold wT; omega)
  have e40 := fun i => e 40 w i (by unfold wT; omega)
  refine ⟨⟨RS_congr a1 (fun t i ht => e t _ i (by unfold wT; omega)), a2⟩, ⟨c, e0, f, by rw [e6]; exact b1, b2, b3, by rw [e6]; exact b4, b5, b6, b7, fun j hj => ⟨RS_congr (b8 j hj).1 (fun t i ht => e t _ i (by unfold wT; omega)), (b8 j hj).2⟩⟩, ⟨tr, by rw [e6]; exact d1, d2, d3, fun t ht => RT_congr (d4 t ht) (fun t' i ht' => e t' _ i (by unfold wT; omega))⟩, g, by rw [e6]; exact f1, f2, f3, fun i hi => by rw [e40]; exact f4 i hi, fun i j hi hj => by rw [e40, e40]; exact f5 i j hi hj⟩
/-- the store of the whole 0 has changed, and the block with it -/
def pXS (t k i : Nat) : Prop := pX t k i ∨ (sT t ∧ k = 0)
def pMS (t k i : Nat) : Prop := pM t k i ∨ (t = 47 ∧ 36 ≤ i ∧ i < 1503)
theorem INV_store {x m x' m' : gM} {N N' : Nat} (h : INV x m N) (ex : Eqv pXS x x') (em : Eqv pMS m m') (hR : RS x' 0 (mB m') N') (hB : BI (mB m') N') (hN : N ≤ N') (hN' : N' ≤ 1000000000) : INV x' m' N' := by
  obtain ⟨⟨-, ⟨c, e0, f, b1, b2, b3, b4, b5, b6, b7, b8⟩, ⟨tr, d1, d2, d3, d4⟩, g, f1, f2, f3, f4, f5⟩, h2, h3, ⟨tp, h4, h5, h6, h7⟩, h8, h9, h10⟩ := h
  have r48 : m' 48 0 = m 48 0 := funext fun i => em 48 0 i (by unfold pMS pM; omega)
  have r49 : m' 49 0 = m 49 0 := funext fun i => em 49 0 i (by unfold pMS pM; omega)
  have r50 : m' 50 0 = m 50 0 := funext fun i => em 50 0 i (by unfold pMS pM; omega)
  have q := fun i (hi : i = 4 ∨ i = 5 ∨ i = 6) => em 9 0 i (by unfold pMS pM; omega)
  have ea := fun i (hi : i < 36 ∨ 1503 ≤ i) => em 47 0 i (by unfold pMS pM; omega)
  have e6 := fun w i => ex 6 w i (by unfold pXS pX sT; omega)
  have e8 := fun i => ex 8 0 i (by unfold pXS pX sT; omega)
  have e46 := fun i => ex 46 0 i (by unfold pXS pX sT; omega)
  have e40 := fun w i => ex 40 w i (by unfold pXS pX sT; omega)
  have eB : ∀ j, j < 20 → (fun i => m' 47 0 (1503 + 1467 * j + i)) = (fun i => m 47 0 (1503 + 1467 * j + i)) := fun j _ => funext fun i => ea _ (by omega)
  refine ⟨⟨⟨hR, hB⟩, ⟨c, e0, f, by rw [e6]; exact b1, by rw [ea 1 (by omega)]; exact b2, b3, by rw [e6]; exact b4, b5, by rw [ea 2 (by omega)]; exact b6, b7, fun j hj => ?_⟩, ⟨tr, by rw [e6]; exact d1, by rw [ea 0 (by omega)]; exact d2, d3, fun t ht => ?_⟩, g, by rw [e6]; exact f1, by rw [ea 3 (by omega)]; exact f2, f3, fun i hi => ?_, fun i j hi hj => by rw [e40, e40]; exact f5 i j hi hj⟩, ?_, ?_, ⟨tp, h4, by rw [e8]; exact h5, by rw [q 4 (by omega)]; exact h6, fun i hi => by rw [e46, r50]; exact h7 i hi⟩, by rw [e8, q 5 (by omega)]; exact h8, by rw [e8, q 6 (by omega)]; exact h9, hN'⟩
  · rw [eB ((f + j) % 20) (by omega)]
    exact ⟨RS_mono (RS_congr (b8 j hj).1 (fun t i ht => ex t _ i (by unfold pXS pX sT; omega))) hN, BI_mono (b8 j hj).2 hN⟩
  · rw [r49]
    exact RT_congr (d4 t ht) (fun t' i ht' => ex t' _ i (by unfold pXS pX sT; omega))
  · rw [e40, ea (4 + i) (by omega)]
    exact f4 i hi
  · rw [r48, r49]
    obtain ⟨⟨a1, a2⟩, ⟨c, e0, f, b1, b2, b3, b4, b5, b6, b7, b8⟩, ⟨tr, d1, d2, d3, d4⟩, g, f1, f2, f3, f4, f5⟩ := h2
    refine ⟨⟨RS_mono (RS_congr a1 (fun t i ht => ex t _ i (by unfold pXS pX sT; omega))) hN, BI_mono a2 hN⟩, ⟨c, e0, f, by rw [e6]; exact b1, b2, b3, by rw [e6]; exact b4, b5, b6, b7, fun j hj => ⟨RS_mono (RS_congr (b8 j hj).1 (fun t i ht => ex t _ i (by unfold pXS pX sT; omega))) hN, BI_mono (b8 j hj).2 hN⟩⟩, ⟨tr, by rw [e6]; exact d1, d2, d3, fun t ht => RT_congr (d4 t ht) (fun t' i ht' => ex t' _ i (by unfold pXS pX sT; omega))⟩, g, by rw [e6]; exact f1, f2, f3, fun i hi => by rw [e40]; exact f4 i hi, fun i j hi hj => by rw [e40, e40]; exact f5 i j hi hj⟩
  · rw [e6, e6]; exact h3
/-- a block made of known numbers -/
theorem BI_mk {B : Nat → Int32} {N : Nat} (w b d : Nat) (mk : Nat → Nat → Nat) (ln ag : Nat → Nat) (h0 : B 0 = nI w) (hw : 1 ≤ w ∧ w ≤ 4) (h1 : B 1 = nI b) (hb : 1 ≤ b ∧ b ≤ 4) (h2 : B 2 = nI d) (hd : d ≤ 3)
    (hc : ∃ h ms, B 3 = nI h ∧ B 4 = nI ms ∧ h + ms ≤ N) (h8 : ∃ x, B 8 = nI x ∧ x < 30047) (hm : ∀ w j, w < 4 → j < 4 → B (11 + 4 * w + j) = nI (mk w j) ∧ mk w j < 1024)
    (hs : ∀ p, p < 64 → B (27 + 5 * p) = nI (ln p) ∧ ln p ≤ 1024 ∧ (B (29 + 5 * p) = 0 ∨ B (29 + 5 * p) = 1) ∧ (B (30 + 5 * p) = nI (ag p) ∧ ag p ≤ 3) ∧ (B (31 + 5 * p) = 0 ∨ B (31 + 5 * p) = 1))
    (hx : ∀ p, p < 64 → ln p ≠ 0 → p / 16 < w ∧ p % 16 = ixR (mk (p / 16)) (ln p - 1) b) (hz : ∀ p, p < 64 → ln p = 0 → B (28 + 5 * p) = 0 ∧ B (29 + 5 * p) = 0 ∧ B (30 + 5 * p) = 0 ∧ B (31 + 5 * p) = 0) :
    BI B N ∧ bW B = w ∧ bN B = b ∧ bD B = d ∧ (∀ w j, w < 4 → j < 4 → bMk B w j = mk w j) ∧ ∀ p, p < 64 → bL B p = ln p ∧ bAg B p = ag p := by
  have ew : bW B = w := by unfold bW; rw [h0, nI_cl (by omega)]
  have eb : bN B = b := by unfold bN; rw [h1, nI_cl (by omega)]
  have ed : bD B = d := by unfold bD; rw [h2, nI_cl (by omega)]
  have em : ∀ w j, w < 4 → j < 4 → bMk B w j = mk w j := fun w j hw hj => by unfold bMk; rw [(hm w j hw hj).1, nI_cl (by have := (hm w j hw hj).2; omega)]
  have el : ∀ p, p < 64 → bL B p = ln p := fun p hp => by unfold bL; rw [(hs p hp).1, nI_cl (by have := (hs p hp).2.1; omega)]
  have ea : ∀ p, p < 64 → bAg B p = ag p := fun p hp => by unfold bAg; rw [(hs p hp).2.2.2.1.1, nI_cl (by have := (hs p hp).2.2.2.1.2; omega)]
  refine ⟨⟨⟨by rw [ew]; exact h0, by omega, by omega⟩, ⟨by rw [eb]; exact h1, by omega, by omega⟩, ⟨by rw [ed]; exact h2, by omega⟩, hc, h8, fun w j hw hj => by rw [em w j hw hj]; exact hm w j hw hj, fun p hp => ?_, ⟨fun p hp hne => ?_, fun p hp h0 => hz p hp (by rw [← el p hp]; exact h0)⟩⟩, ew, eb, ed, em, fun p hp => ⟨el p hp, ea p hp⟩⟩
  · rw [el p hp, ea p hp]; exact hs p hp
  · rw [el p hp] at hne ⊢
    obtain ⟨g1, g2⟩ := hx p hp hne
    refine ⟨by omega, ?_⟩
    rw [g2]
    unfold bIx
    rw [eb]
    exact ixR_congr b (fun j hj => (em (p / 16) j (by omega) (by omega)).symm)
/-- an equal block is alike -/
theorem BI_congr {B B' : Nat → Int32} {N : Nat} (h : BI B N) (e : ∀ i, i < 1467 → B' i = B i) : BI B' N := by
  have : B' = fun i => B' i := rfl
  obtain ⟨⟨a1, a2⟩, ⟨b1, b2⟩, ⟨c1, c2⟩, ⟨x1, x2, d1, d2, d3⟩, ⟨y, e1, e2⟩, f1, f2, f3⟩ := h
  refine (BI_mk (bW B) (bN B) (bD B) (bMk B) (bL B) (bAg B) (by rw [e 0 (by omega)]; exact a1) a2 (by rw [e 1 (by omega)]; exact b1) b2 (by rw [e 2 (by omega)]; exact c1) c2 ⟨x1, x2, by rw [e 3 (by omega)]; exact d1, by rw [e 4 (by omega)]; exact d2, d3⟩ ⟨y, by rw [e 8 (by omega)]; exact e1, e2⟩ (fun w j hw hj => by rw [e _ (by omega)]; exact f1 w j hw hj) (fun p hp => by rw [e _ (by omega), e _ (by omega), e _ (by omega), e _ (by omega)]; exact f2 p hp) (fun p hp hne => f3.1 p hp hne) (fun p hp h0 => by rw [e _ (by omega), e _ (by omega), e _ (by omega), e _ (by omega)]; exact f3.2 p hp h0)).1
theorem RS_congrB {m : gM} {k N : Nat} {B B' : Nat → Int32} (h : RS m k B N) (e : ∀ i, i < 1467 → B' i = B i) : RS m k B' N := by
  obtain ⟨⟨a1, a2, a3, a4⟩, ⟨b1, b2, b3, b4, b5, b6⟩, c1, c2, c3, c4, c5, c6, c7, nb, d1, d2, d3, d4⟩ := h
  refine ⟨⟨by rw [e _ (by omega)]; exact a1, by rw [e _ (by omega)]; exact a2, by rw [e _ (by omega)]; exact a3, by rw [e _ (by omega)]; exact a4⟩, ⟨by rw [e _ (by omega)]; exact b1, by rw [e _ (by omega)]; exact b2, by rw [e _ (by omega)]; exact b3, by rw [e _ (by omega)]; exact b4, by rw [e _ (by omega)]; exact b5, by rw [e _ (by omega)]; exact b6⟩, fun i hi => by rw [e (11 + i) (by omega), mB_w (e 0 (by omega)), mB_n (e 1 (by omega))]; exact c1 i hi, fun i hi => by rw [e _ (by omega)]; exact c2 i hi, fun i hi => by rw [e _ (by omega)]; exact c3 i hi, fun i hi => by rw [e _ (by omega)]; exact c4 i hi, fun i hi => by rw [e _ (by omega)]; exact c5 i hi, fun i hi => by rw [e _ (by omega)]; exact c6 i hi, fun i hi => by rw [e _ (by omega)]; exact c7 i hi, nb, d1, d2, by rw [e _ (by omega)]; exact d3, fun i j hi hj => by rw [e _ (by omega)]; exact d4 i j hi hj⟩
/-- a stretch of a row is copied -/
def gblk (m : gM) (t0 k0 s t1 k1 d n : Nat) : gM := fun t k i => if t = t1 ∧ k = k1 ∧ d ≤ i ∧ i < d + n then m t0 k0 (s + (i - d)) else m t k i
theorem copy_loop {β : Type} {m : gM} (t0 k0 s t1 k1 d n : Nat) {R : gM → Option β} {f : Int32 → gM → (Int32 → gM → Option β) → Option β}
    (hs : ∀ i σ K, i < n → f (nI i) σ K = K (nI (i + 1)) (gup σ t1 k1 (d + i) (σ t0 k0 (s + i)))) (hx : ∀ σ K, f (nI n) σ K = R σ) (hd : ∀ i j, i < n → j < n → ¬ (t0 = t1 ∧ k0 = k1 ∧ s + i = d + j)) (hn : n < FU) : gL1 FU f 0 m = R (gblk m t0 k0 s t1 k1 d n) := by
  refine gL1_for (fun i σ => σ = gblk m t0 k0 s t1 k1 d i) (fun o => o = R (gblk m t0 k0 s t1 k1 d n)) n ?_ ?_ FU 0 m (Nat.zero_le _) (by omega) ?_
  · rintro i σ K hi rfl hK
    rw [hs i _ K hi]
    refine hK _ ?_
    funext t k q
    have h0 : gblk m t0 k0 s t1 k1 d i t0 k0 (s + i) = m t0 k0 (s + i) := by
      unfold gblk
      rw [if_neg (fun z => hd i (s + i - d) hi (by omega) ⟨z.1, z.2.1, by omega⟩)]
    rw [h0]
    unfold gup gblk
    by_cases e : t = t1 ∧ k = k1 ∧ q = d + i
    · rw [if_pos e, if_pos ⟨e.1, e.2.1, by omega, by omega⟩, show s + (q - d) = s + i by omega]
    · rw [if_neg e]
      by_cases e2 : t = t1 ∧ k = k1 ∧ d ≤ q ∧ q < d + i
      · rw [if_pos e2, if_pos ⟨e2.1, e2.2.1, e2.2.2.1, by omega⟩]
      · rw [if_neg e2, if_neg (fun z => e2 ⟨z.1, z.2.1, z.2.2.1, by
          have : q ≠ d + i := fun y => e ⟨z.1, z.2.1, y⟩
          omega⟩)]
  · rintro σ K rfl
    exact hx _ K
  · funext t k q
    unfold gblk
    rw [if_neg (by omega)]
theorem takeRow_ok {m : gM} {t o k : Nat} (ht : glen t < 2147483648) : X3_takeRow t o t k m = some ((), gcp m t o t k 0 0 (glen t)) := by
  unfold X3_takeRow
  rw [show Int32.ofNat (glen t) = nI (glen t) from rfl, gMin_nI ht ht, Nat.min_self]
  unfold gCopy
  rw [if_neg, nI_cl ht]
  · rfl
  · rw [nI_cl ht]
    rintro ((h | h | h) | (h | h))
    · exact absurd h (by decide)
    · exact absurd h (by decide)
    · exact nI_neg ht h
    · rw [show (0 : Int32).toNatClampNeg = 0 from rfl] at h; omega
    · rw [show (0 : Int32).toNatClampNeg = 0 from rfl] at h; omega
/-- a store is taken over: all that counts is as the other's, all else stays -/
theorem takeStore_ok {m : gM} {k o : Nat} (hko : k ≠ o) : ∃ m', X3_takeStore k o m = some ((), m') ∧ (∀ i, i < 5 → m' 3 k i = m 3 o i) ∧ (∀ t i, 25 ≤ t → t ≤ 33 → i < glen t → m' t k i = m t o i) ∧ ∀ t k' i, ¬ (sT t ∧ k' = k) → m' t k' i = m t k' i := by
  unfold X3_takeStore
  simp only [gSet]
  rw [gCall_eq (takeRow_ok (by rw [ge25]; omega)), gCall_eq (takeRow_ok (by rw [ge26]; omega)), gCall_eq (takeRow_ok (by rw [ge27]; omega)), gCall_eq (takeRow_ok (by rw [ge28]; omega)), gCall_eq (takeRow_ok (by rw [ge29]; omega)), gCall_eq (takeRow_ok (by rw [ge30]; omega)), gCall_eq (takeRow_ok (by rw [ge31]; omega)), gCall_eq (takeRow_ok (by rw [ge32]; omega)), gCall_eq (takeRow_ok (by rw [ge33]; omega))]
  have hok : ¬ o = k := fun q => hko q.symm
  refine ⟨_, rfl, fun i hi => ?_, fun t i h1 h2 hi => ?_, fun t k' i hn => ?_⟩
  · rcases (show i = 0 ∨ i = 1 ∨ i = 2 ∨ i = 3 ∨ i = 4 by omega) with rfl | rfl | rfl | rfl | rfl <;> simp [gcp, gup, hok]
  · rcases (show t = 25 ∨ t = 26 ∨ t = 27 ∨ t = 28 ∨ t = 29 ∨ t = 30 ∨ t = 31 ∨ t = 32 ∨ t = 33 by omega) with rfl | rfl | rfl | rfl | rfl | rfl | rfl | rfl | rfl <;> simp [gcp, gup, va_cpy, hi]
  · unfold sT at hn
    by_cases hk : k' = k
    · have h3 : ∀ j, (25 ≤ j ∧ j ≤ 33) ∨ j = 3 → ¬ t = j := fun j hj q => hn ⟨by omega, hk⟩
      simp only [gcp, gup, h3 25 (by omega), h3 26 (by omega), h3 27 (by omega), h3 28 (by omega), h3 29 (by omega), h3 30 (by omega), h3 31 (by omega), h3 32 (by omega), h3 33 (by omega), h3 3 (by omega), false_and, if_false]
    · simp only [gcp, gup, hk, and_false, false_and, if_false]
theorem RS_take {m m' : gM} {k o N : Nat} {B : Nat → Int32} (h : RS m o B N) (h3 : ∀ i, i < 5 → m' 3 k i = m 3 o i) (hr : ∀ t i, 25 ≤ t → t ≤ 33 → i < glen t → m' t k i = m t o i) : RS m' k B N := by
  obtain ⟨⟨a1, a2, a3, a4⟩, ⟨b1, b2, b3, b4, b5, b6⟩, c1, c2, c3, c4, c5, c6, c7, nb, d1, d2, d3, d4⟩ := h
  have r26 := fun i (hi : i < 6) => hr 26 i (by omega) (by omega) hi
  refine ⟨⟨by rw [h3 _ (by omega)]; exact a1, by rw [h3 _ (by omega)]; exact a2, by rw [h3 _ (by omega)]; exact a3, by rw [h3 _ (by omega)]; exact a4⟩, ⟨by rw [r26 _ (by omega)]; exact b1, by rw [r26 _ (by omega)]; exact b2, by rw [r26 _ (by omega)]; exact b3, by rw [r26 _ (by omega)]; exact b4, by rw [r26 _ (by omega)]; exact b5, by rw [r26 _ (by omega)]; exact b6⟩, fun i hi => by rw [hr 25 i (by omega) (by omega) hi]; exact c1 i hi, fun i hi => by rw [hr 28 i (by omega) (by omega) hi]; exact c2 i hi, fun i hi => by rw [hr 29 i (by omega) (by omega) hi]; exact c3 i hi, fun i hi => by rw [hr 30 i (by omega) (by omega) hi]; exact c4 i hi, fun i hi => by rw [hr 31 i (by omega) (by omega) hi]; exact c5 i hi, fun i hi => by rw [hr 32 i (by omega) (by omega) hi]; exact c6 i hi, fun i hi => by rw [hr 33 i (by omega) (by omega) hi]; exact c7 i hi, nb, by rw [h3 _ (by omega)]; exact d1, d2, d3, fun i j hi hj => ?_⟩
  rw [hr 27 _ (by omega) (by omega) (show _ < 96 by omega)]
  exact d4 i j hi hj
