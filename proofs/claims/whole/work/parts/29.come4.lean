/-! LAYER 2: come and askNow agree. -/
theorem sX {m m' : gM} {L : gCL} (h : SX m L) (e : ∀ t i, t = 1 ∨ (17 ≤ t ∧ t ≤ 19) → m' t 0 i = m t 0 i) : SX m' L := by
  obtain ⟨a, b, c⟩ := h
  exact ⟨by rw [e 1 _ (by omega)]; exact a, fun i hi => by rw [e 17 _ (by omega), e 18 _ (by omega)]; exact b i hi, fun p hp => by rw [e 19 _ (by omega)]; exact c p hp⟩
theorem gbk_up5 {B : Nat → Int32} {p : Nat} {v : Int32} (hp : p < 64) : gbk (bup B 5 v) p = bup (gbk B p) 5 v := by
  unfold gbk
  rw [bup_ne (show 29 + 5 * p ≠ 5 by omega), bL_up (fun q => by omega), bup_ne (show 28 + 5 * p ≠ 5 by omega), bup_ne (show 6 ≠ 5 by omega)]
  split
  · rfl
  · funext i
    simp only [bup_at]
    by_cases e : i = 5
    · rw [if_neg (show ¬ i = 6 by omega), if_neg (show ¬ i = 347 + (bL B p - 1) by omega), if_pos e, if_pos e]
    · rw [if_neg e, if_neg e]
theorem gbk_L {B : Nat → Int32} {p q : Nat} (hq : q < 64) : bL (gbk B p) q = bL B q := by
  unfold bL
  rw [gbk_at (by omega) (by omega)]
def preB (B : Nat → Int32) (L : gCL) : Nat → Int32 := bup (gbk (grw B L (3 - bAg B (lp L (tk B L))) L.length) (lp L (tk B L))) 5 (grw B L (3 - bAg B (lp L (tk B L))) L.length 5 + 1)
theorem pre_ok {B : Nat → Int32} {N line : Nat} {L : gCL} (hB : BI B N) (hL : LW L) (h0 : 0 < L.length) (hQ : LQ B line L) (hn : fE B L L.length = none) : BI (preB B L) N ∧ LQ (preB B L) line L ∧ (∀ q, q < 64 → bL (preB B L) q = bL B q) ∧ (∀ i, i < L.length → bAg B (lp L i) + (3 - bAg B (lp L (tk B L))) ≤ 3) ∧ BI (grw B L (3 - bAg B (lp L (tk B L))) L.length) N ∧ (∀ q, q < 64 → bL (grw B L (3 - bAg B (lp L (tk B L))) L.length) q = bL B q) ∧ (∀ i, L.length ≤ i → i < L.length → bAg (grw B L (3 - bAg B (lp L (tk B L))) L.length) (lp L i) = bAg B (lp L i)) ∧ ∀ i, (∀ q, q < 64 → i ≠ 30 + 5 * q) → grw B L (3 - bAg B (lp L (tk B L))) L.length i = B i := by
  have htk : tk B L = pck B L L.length := by unfold tk; rw [hn]
  have he : ∀ i, i < L.length → bAg B (lp L i) + (3 - bAg B (lp L (tk B L))) ≤ 3 := fun i hi => by
    have h1 := pck_max (B := B) (L := L) L.length i hi
    rw [← htk] at h1
    have h2 := (hB.2.2.2.2.2.2.1 _ (hL.1 _ (tk_lt (B := B) h0))).2.2.2.1.2
    omega
  have hg := grw_ok hB hL (fE_non _ hn) he L.length (Nat.le_refl _)
  obtain ⟨c1, c2, c3, c4⟩ := hg
  have hLs : ∀ q, q < 64 → bL (preB B L) q = bL B q := fun q hq => by
    unfold preB
    rw [bL_up (fun q => by omega), gbk_L hq, c2 q hq]
  refine ⟨BI_hi (gbk_BI c1) (fun i _ hi => bup_ne (by omega)), LQ_cg hB hL hQ (fun i hi => ?_) hLs (fun q hq => ?_), hLs, he, c1, c2, c3, c4⟩
  · unfold preB
    rw [bup_ne (by omega), gbk_at (by omega) (by omega), c4 i (by omega)]
  · unfold preB
    rw [bup_ne (by omega), gbk_at (by omega) (by omega), c4 _ (by omega)]
theorem m_growP {m : gM} {N e : Nat} {B : Nat → Int32} {L : gCL} {R : gM → Option (Unit × gM)} (P : Option (Unit × gM) → Prop) (hm : mB m = B) (hB : BI B N) (hL : LW L) (hS : SM m L) (hne : ∀ i, i < L.length → bL B (lp L i) ≠ 0) (he : ∀ i, i < L.length → bAg B (lp L i) + e ≤ 3) (h : ∀ m', mB m' = grw B L e L.length → Eqv pBk m m' → P (R m')) : P (gL1 FU (X9_comeIn_b44 R (nI e)) 0 m) := by
  obtain ⟨m', h1, h2, h3⟩ := m_grow (R := R) hm hB hL hS hne he
  rw [h1]
  exact h m' h2 h3
theorem m_comeIn1 {m : gM} {N line d n : Nat} {B : Nat → Int32} {L : gCL} (hl : line < 1024) (hL : LW L) (hm : mB m = B) (hB : BI B N) (hQ : LQ B line L) (h0 : 0 < L.length) (hn : fE B L L.length = none) (hg : bL B (lp L (tk B L)) ≠ 0) (hS : SM m L) (hc : chn L d (tk B L)) (hd : d ≤ 3) (hn24 : n ≤ 24) (h10 : aft (preB B L) L d (tk B L) line 10 = nI n) :
    ∃ m', X9_comeIn (nI line) m = some ((), m') ∧ mB m' = wbk (aft (preB B L) L d (tk B L) line) n (nI line) (nI (bL B (lp L (tk B L))) - 1) (nI (mvN L d (tk B L))) 0 ∧ Eqv pBk m m' := by
  have hlen := LW_len hL
  have ht := tk_lt (B := B) h0
  have hp := hL.1 _ ht
  have hs := hB.2.2.2.2.2.2.1 _ hp
  obtain ⟨o1, o2, o3, o4, c1, c2, c3, c4⟩ := pre_ok hB hL h0 hQ hn
  unfold X9_comeIn
  rw [gCall_eq (m_taken (by rw [hm]; exact hB) hL h0 hS), hm, gAt_nI (show tk B L < 64 by omega) (by omega), (hS.2.1 _ ht).1, gCall_eq (X9_la (by rw [hm]; exact hB) hp), hm, gJ0_e, if_neg (fun q => hg ((line_none hs.2.1).mp q))]
  rw [gAt_nI (show tk B L < 64 by omega) (by omega), (hS.2.1 _ ht).1, m_at, m_ag (by rw [hm]; exact hB) hp, gLet, hm, li3, nI_sub hs.2.2.2.1.2 (by omega), gJ0_e]
  refine m_growP (fun r => ∃ m', r = some ((), m') ∧ mB m' = wbk (aft (preB B L) L d (tk B L) line) n (nI line) (nI (bL B (lp L (tk B L))) - 1) (nI (mvN L d (tk B L))) 0 ∧ Eqv pBk m m') hm hB hL hS (fE_non _ hn) o4 (fun m1 k1 k2 => ?_)
  dsimp only
  have hS1 := SM_bk hS k2
  obtain ⟨m2, q1, q2, q3⟩ := m_goes k1 c1 hp (by rw [c2 _ hp]; exact hg)
  rw [gAt_nI (show tk B L < 64 by omega) (by omega), (hS1.2.1 _ ht).1, gCall_eq q1, show (41 : Int32) = nI (36 + 5) from rfl, m_get (by omega), m_put (by omega), q2, gbk_at (by omega) (by omega)]
  have em : mB (gup m2 47 0 (36 + 5) (grw B L (3 - bAg B (lp L (tk B L))) L.length 5 + 1)) = preB B L := by
    rw [mB_up, q2]; rfl
  have hS2 := SM_bk (SM_bk hS1 q3) (Eqv_bk (m := m2) (i := 5) (v := grw B L (3 - bAg B (lp L (tk B L))) L.length 5 + 1) (by omega))
  obtain ⟨m3, v1, v2, v3⟩ := m_tail (g := nI (bL B (lp L (tk B L))) - 1) hl hL em o1 o2 ht hS2 hc hd hn24 h10
  exact ⟨m3, v1, v2, ((k2.tr q3).tr (Eqv_bk (by omega))).tr v3⟩
theorem gA0 {m : gM} {k : Nat} {β : Type} {kk : Int32 → Option β} : gAt m 26 k 0 kk = kk (m 26 k 0) := gAt_nI (t := 26) (i := 0) (show 0 < 6 by omega) (by omega)
theorem gP0 {m : gM} {k : Nat} {β : Type} {v : Int32} {kk : gM → Option β} : gPut m 26 k 0 v kk = kk (gup m 26 k 0 v) := gPut_nI (t := 26) (i := 0) (show 0 < 6 by omega) (by omega)
theorem gA1 {m : gM} {k : Nat} {β : Type} {kk : Int32 → Option β} : gAt m 26 k 1 kk = kk (m 26 k 1) := gAt_nI (t := 26) (i := 1) (show 1 < 6 by omega) (by omega)
theorem gP1 {m : gM} {k : Nat} {β : Type} {v : Int32} {kk : gM → Option β} : gPut m 26 k 1 v kk = kk (gup m 26 k 1 v) := gPut_nI (t := 26) (i := 1) (show 1 < 6 by omega) (by omega)
theorem gA2 {m : gM} {k : Nat} {β : Type} {kk : Int32 → Option β} : gAt m 26 k 2 kk = kk (m 26 k 2) := gAt_nI (t := 26) (i := 2) (show 2 < 6 by omega) (by omega)
theorem gP2 {m : gM} {k : Nat} {β : Type} {v : Int32} {kk : gM → Option β} : gPut m 26 k 2 v kk = kk (gup m 26 k 2 v) := gPut_nI (t := 26) (i := 2) (show 2 < 6 by omega) (by omega)
theorem gA3 {m : gM} {k : Nat} {β : Type} {kk : Int32 → Option β} : gAt m 26 k 3 kk = kk (m 26 k 3) := gAt_nI (t := 26) (i := 3) (show 3 < 6 by omega) (by omega)
theorem gP3 {m : gM} {k : Nat} {β : Type} {v : Int32} {kk : gM → Option β} : gPut m 26 k 3 v kk = kk (gup m 26 k 3 v) := gPut_nI (t := 26) (i := 3) (show 3 < 6 by omega) (by omega)
theorem gA4 {m : gM} {k : Nat} {β : Type} {kk : Int32 → Option β} : gAt m 26 k 4 kk = kk (m 26 k 4) := gAt_nI (t := 26) (i := 4) (show 4 < 6 by omega) (by omega)
theorem gP4 {m : gM} {k : Nat} {β : Type} {v : Int32} {kk : gM → Option β} : gPut m 26 k 4 v kk = kk (gup m 26 k 4 v) := gPut_nI (t := 26) (i := 4) (show 4 < 6 by omega) (by omega)
theorem gA5 {m : gM} {k : Nat} {β : Type} {kk : Int32 → Option β} : gAt m 26 k 5 kk = kk (m 26 k 5) := gAt_nI (t := 26) (i := 5) (show 5 < 6 by omega) (by omega)
theorem gP5 {m : gM} {k : Nat} {β : Type} {v : Int32} {kk : gM → Option β} : gPut m 26 k 5 v kk = kk (gup m 26 k 5 v) := gPut_nI (t := 26) (i := 5) (show 5 < 6 by omega) (by omega)
theorem come_ok {x m : gM} {k N line : Nat} (hR : RS x k (mB m) N) (hB : BI (mB m) N) (hl : line < 1024) (hN : N + 2 ≤ 1000000000) :
    ∃ x' m', X3_come k (nI line) x = some (oI (bAt (mB m') line), x') ∧ X9_askNow (nI line) m = some ((bAt (mB m) line).isSome, m') ∧ RS x' k (mB m') (N + 2) ∧ BI (mB m') (N + 2) ∧ Eqv (pCo k) x x' ∧ Eqv pCm m m' ∧ (bAt (mB m) line ≠ none → bAt (mB m') line ≠ none) := by
  unfold X3_come X9_askNow
  rw [gCall_eq (X3_po hR hB hl), gCall_eq (X9_pw hB hl)]
  obtain ⟨h0, s0, k3, k4, hsum⟩ := hB.2.2.2.1
  cases hb : bAt (mB m) line with
  | some p =>
    obtain ⟨hp, hpl, -, -⟩ := bAt_lt hB hb
    rw [show oI (some p) = nI p from rfl, if_neg (nI_nm1 (by omega)), if_neg (nI_nm1 (by omega)), gA0, gP0, gPut_nI (show p < 64 from hp) (by omega), hR.2.1.1]
    rw [show (39 : Int32) = nI (36 + 3) from rfl, m_get (by omega), m_put (by omega), m_at, li3, m_ix, m_put (by omega), show 27 + 5 * p + 3 = 30 + 5 * p by omega]
    have r1 := RS_u32 (RS_k0 hR (mB m 3 + 1)) hp 0
    have b1 : BI (bup (mB m) 3 (mB m 3 + 1)) (N + 1) := BI_sc hB (fun i _ hi => bup_ne (by omega)) ⟨bD (mB m), hB.2.2.1.2, by rw [bup_ne (by omega)]; exact hB.2.2.1.1⟩ (by obtain ⟨y, e1, e2⟩ := hB.2.2.2.2.1; exact ⟨y, by rw [bup_ne (by omega)]; exact e1, e2⟩) ⟨h0 + 1, s0, by rw [bup_eq, k3, nI_1], by rw [bup_ne (by omega)]; exact k4, by omega⟩
    obtain ⟨b2, b3⟩ := BI_ag b1 hp (by rw [bL_up (fun q => by omega)]; omega) (show 0 ≤ 3 by omega)
    rw [show nI 0 = (0 : Int32) from rfl] at b2 b3
    have hbk : bAt (bup (bup (mB m) 3 (mB m 3 + 1)) (30 + 5 * p) 0) line = some p := by
      rw [← hb]
      exact bAt_cg hB (fun i hi => by rw [bup_ne (by omega), bup_ne (by omega)]) (fun q hq => by rw [(b3 q hq).1, bL_up (fun q => by omega)])
    refine ⟨gup (gup x 26 k 0 (mB m 3 + 1)) 32 k p 0, gup (gup m 47 0 (36 + 3) (mB m 3 + 1)) 47 0 (36 + (30 + 5 * p)) 0, ?_, rfl, ?_, ?_, (Eqv.up (by unfold pCo; omega)).tr (Eqv.up (by unfold pCo; omega)), ((Eqv_bk (by omega)).tr (Eqv_bk (by omega))).mono (fun t k i q => by unfold pBk at q; unfold pCm; omega), fun _ => by rw [mB_up, mB_up, hbk]; exact Option.some_ne_none p⟩
    · rw [mB_up, mB_up, hbk]; rfl
    · rw [mB_up, mB_up]; exact RS_mono r1 (by omega)
    · rw [mB_up, mB_up]; exact BI_mono b2 (by omega)
  | none =>
    rw [show oI none = -1 from rfl, if_pos rfl, if_pos rfl, gA1, gP1, hR.2.1.2.1]
    rw [show (40 : Int32) = nI (36 + 4) from rfl, m_get (by omega), m_put (by omega), show (38 : Int32) = nI (36 + 2) from rfl, m_get (by omega), mB_up]
    have r1 := RS_mono (RS_k1 hR (mB m 4 + 1)) (show N ≤ N + 1 by omega)
    have b1 : BI (bup (mB m) 4 (mB m 4 + 1)) (N + 1) := BI_sc hB (fun i _ hi => bup_ne (by omega)) ⟨bD (mB m), hB.2.2.1.2, by rw [bup_ne (by omega)]; exact hB.2.2.1.1⟩ (by obtain ⟨y, e1, e2⟩ := hB.2.2.2.2.1; exact ⟨y, by rw [bup_ne (by omega)]; exact e1, e2⟩) ⟨h0, s0 + 1, by rw [bup_ne (by omega)]; exact k3, by rw [bup_eq, k4, nI_1], by omega⟩
    have n1 : bAt (bup (mB m) 4 (mB m 4 + 1)) line = none := by
      rw [← hb]
      exact bAt_cg hB (fun i hi => bup_ne (by omega)) (fun q hq => bL_up (fun q => by omega))
    have em : mB (gup m 47 0 (36 + 4) (mB m 4 + 1)) = bup (mB m) 4 (mB m 4 + 1) := mB_up
    have Em : Eqv pCm m (gup m 47 0 (36 + 4) (mB m 4 + 1)) := Eqv.up (by unfold pCm; omega)
    have Ex : Eqv (pCo k) x (gup x 26 k 1 (mB m 4 + 1)) := Eqv.up (by unfold pCo; omega)
    revert r1 b1 n1 em Em Ex
    generalize bup (mB m) 4 (mB m 4 + 1) = B
    generalize gup m 47 0 (36 + 4) (mB m 4 + 1) = m1
    generalize gup x 26 k 1 (mB m 4 + 1) = x1
    intro r1 b1 n1 em Em Ex
    have hd := b1.2.2.1.2
    obtain ⟨x2, y1, y2, y3⟩ := x_look r1 b1 hl hd
    obtain ⟨m2, z1, z2, z3⟩ := m_look (m := m1) (N := N + 1) (line := line) (d := bD B) (by rw [em]; exact b1) hl hd (by rw [em]; exact n1)
    rw [em] at z2
    have em2 : mB m2 = B := (mB_fi z3).trans em
    have hL := cand_LW (line := line) b1 (bD B)
    obtain ⟨hQ, hch⟩ := cand_Q (line := line) b1 (bD B)
    have r2 := RS_se r1 y3
    have Em2 := Em.tr (z3.mono (fun t k i q => by unfold pFi at q; unfold pCm; omega))
    have Ex2 := Ex.tr (y3.mono (Q := pCo k) (fun t k i q => by unfold pSe at q; unfold pCo; omega))
    rw [r1.1.2.2.1, b1.2.2.1.1, gCall_eq y1, gCall_eq (x_choose r2 b1 hL ⟨y2.1, y2.2.1⟩), gCall_eq z1, z2.1]
    revert y2 z2 hL hQ hch
    generalize cand B line (bD B) = L
    intro y2 z2 hL hQ hch
    have hlen := LW_len hL
    by_cases hz : L.length = 0
    · rw [if_pos hz, if_pos (show oI none = -1 from rfl), if_pos (by rw [hz]; decide)]
      rw [gA5, gP5, r2.2.1.2.2.2.2.2]
      rw [show (45 : Int32) = nI (36 + 9) from rfl, m_get (by omega), m_put (by omega), em2]
      obtain ⟨n, x3, w1, w2, w3, w4, w5⟩ := x_note (N := N + 1) (RS_k5 r2 (B 9 + 1)) hN (nI line) (-1) 0 1
      have em3 : mB (gup m2 47 0 (36 + 9) (B 9 + 1)) = bup B 9 (B 9 + 1) := by rw [mB_up, em2]
      obtain ⟨m3, v1, v2, v3⟩ := m_note em3 w1 w2 (nI line) (-1) 0 1
      rw [gCall_eq w3, gCall_eq v1]
      refine ⟨x3, m3, ?_, rfl, by rw [v2]; exact w4, by rw [v2]; exact wbk_BI (BI_mono (BI_hi b1 (fun i _ hi => bup_ne (by omega))) (by omega)), (Ex2.tr (Eqv.up (by unfold pCo; omega))).tr (w5.mono (fun t k' i q => by unfold pNo at q; unfold pCo; omega)), (Em2.tr (Eqv.up (by unfold pCm; omega))).tr (v3.mono (fun t k i q => by unfold pBk at q; unfold pCm; omega)), fun z => absurd rfl z⟩
      have : bAt (mB m3) line = none := by
        rw [v2, ← n1]
        exact bAt_cg b1 (fun i hi => by rw [wbk_lo (by omega) (by omega), bup_ne (by omega)]) (fun q hq => by unfold bL; rw [wbk_lo (by omega) (by omega), bup_ne (by omega)])
      rw [this]; rfl
    · have h0L : 0 < L.length := by omega
      have ht := tk_lt (B := B) h0L
      have hp := hL.1 _ ht
      have hs := b1.2.2.2.2.2.2.1 _ hp
      have hno := bAt_non b1 n1
      rw [if_neg hz, show oI (some (tk B L)) = nI (tk B L) from rfl, if_neg (nI_nm1 (by omega)), if_neg (by rw [show (0 : Int32) = nI 0 from rfl, nI_leq (by omega) (by omega)]; omega)]
      rw [gAt_nI (show tk B L < 64 by omega) (by omega), (y2.2.1 _ ht).1, gAt_nI (show lp L (tk B L) < 64 from hp) (by omega), r2.2.2.2.2.1 _ hp, hs.1, gJ0_e]
      by_cases hg : bL B (lp L (tk B L)) = 0
      · unfold X9_comeIn
        rw [gCall_eq (m_taken (by rw [em2]; exact b1) hL h0L z2), em2, gAt_nI (show tk B L < 64 by omega) (by omega), (z2.2.1 _ ht).1, gCall_eq (X9_la (by rw [em2]; exact b1) hp), em2, gJ0_e]
        rw [if_pos ((line_none hs.2.1).mpr hg), if_pos ((line_none hs.2.1).mpr hg)]
        obtain ⟨n, x3, w1, w2, w3, w4, w5⟩ := x_tail (g := nI (bL B (lp L (tk B L))) - 1) hl hL b1 hQ ht (Or.inl rfl) r2 y2 (hch _ ht) hd hN
        obtain ⟨m3, v1, v2, v3⟩ := m_tail (g := nI (bL B (lp L (tk B L))) - 1) hl hL em2 b1 hQ ht z2 (hch _ ht) hd w1 w2
        obtain ⟨u1, u2⟩ := aft_ok (n := n) (a := nI line) (b := nI (bL B (lp L (tk B L))) - 1) (c := nI (mvN L (bD B) (tk B L))) (e := 0) hl hL b1 hQ ht (hch _ ht) hno
        refine ⟨x3, m3, ?_, ?_, by rw [v2]; exact w4, by rw [v2]; exact BI_mono u1 (by omega), Ex2.tr w5, Em2.tr (v3.mono (fun t k i q => by unfold pBk at q; unfold pCm; omega)), fun z => absurd rfl z⟩
        · refine w3.trans ?_
          rw [v2, u2]; rfl
        · rw [gCall_eq v1]; rfl
      · rw [if_neg (fun q => hg ((line_none hs.2.1).mp q))]
        have hn : fE B L L.length = none := by
          cases e : fE B L L.length with
          | none => rfl
          | some j =>
            have h1 := fE_lt _ _ e
            have h2 : tk B L = j := by unfold tk; rw [e]
            rw [h2] at hg
            exact absurd h1.2 hg
        obtain ⟨o1, o2, o3, o4, o5⟩ := pre_ok b1 hL h0L hQ hn
        obtain ⟨x3, g1, g2, g3⟩ := x_grow r2 b1 hL h0L y2 hn
        have S3 : SX x3 L := sX y2 (fun t i h => g3 t 0 i (by unfold pAg; omega))
        have r4 := RS_k2 g2 (grw B L (3 - bAg B (lp L (tk B L))) L.length 5 + 1)
        obtain ⟨c1, c2, c3, c4⟩ := o5
        have b4 : BI (bup (grw B L (3 - bAg B (lp L (tk B L))) L.length) 5 (grw B L (3 - bAg B (lp L (tk B L))) L.length 5 + 1)) (N + 1) := BI_hi c1 (fun i _ hi => bup_ne (by omega))
        obtain ⟨x5, f1, f2, f3⟩ := x_bring r4 b4 hp (by rw [bL_up (fun q => by omega), c2 _ hp]; exact hg)
        rw [gbk_up5 hp] at f2
        have S4 : SX (gup x3 26 k 2 (grw B L (3 - bAg B (lp L (tk B L))) L.length 5 + 1)) L := sX S3 (fun t i h => by rw [gup_t (by omega)])
        have S5 : SX x5 L := sX S4 (fun t i h => f3 t 0 i (by unfold pBr; omega))
        rw [gCall_eq g1, gA2, gP2, g2.2.1.2.2.1, gAt_nI (show tk B L < 64 by omega) (by omega), (S4.2.1 _ ht).1, gCall_eq f1]
        obtain ⟨n, x6, w1, w2, w3, w4, w5⟩ := x_tail (g := nI (bL B (lp L (tk B L))) - 1) hl hL o1 o2 ht (Or.inr rfl) f2 S5 (hch _ ht) hd hN
        obtain ⟨m3, v1, v2, v3⟩ := m_comeIn1 hl hL em2 b1 hQ h0L hn hg z2 (hch _ ht) hd w1 w2
        obtain ⟨u1, u2⟩ := aft_ok (n := n) (a := nI line) (b := nI (bL B (lp L (tk B L))) - 1) (c := nI (mvN L (bD B) (tk B L))) (e := 0) hl hL o1 o2 ht (hch _ ht) (fun q hq => by rw [o3 q hq]; exact hno q hq)
        refine ⟨x6, m3, ?_, ?_, by rw [v2]; exact w4, by rw [v2]; exact BI_mono u1 (by omega), (((Ex2.tr (g3.mono ?_)).tr (Eqv.up (by unfold pCo; omega))).tr (f3.mono ?_)).tr w5, Em2.tr (v3.mono (fun t k i q => by unfold pBk at q; unfold pCm; omega)), fun z => absurd rfl z⟩
        · refine w3.trans ?_
          rw [v2, u2]; rfl
        · rw [gCall_eq v1]; rfl
        · intro a b c q; unfold pAg at q; unfold pCo; omega
        · intro a b c q; unfold pBr at q; unfold pCo; omega
