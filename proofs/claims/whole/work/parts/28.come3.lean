/-! LAYER 2: a line comes. -/
def pCo (k t k' _i : Nat) : Prop := t = 1 ∨ (17 ≤ t ∧ t ≤ 19) ∨ ((t = 3 ∨ (25 ≤ t ∧ t ≤ 33)) ∧ k' = k)
def pCm (t k i : Nat) : Prop := (t = 9 ∧ i = 18) ∨ (52 ≤ t ∧ t ≤ 54) ∨ (t = 47 ∧ k = 0 ∧ 36 ≤ i ∧ i < 1503)
def aft (B : Nat → Int32) (L : gCL) (d t line : Nat) : Nat → Int32 := bset (bup (mvB d B L t) 7 (mvB d B L t 7 + nI (mvN L d t))) line (lp L (mvT L d t))
theorem MV_self {B : Nat → Int32} {N line t : Nat} {L : gCL} (hB : BI B N) (hL : LW L) (hQ : LQ B line L) (ht : t < L.length) : MV B N L B t := by
  refine ⟨hB, fun _ _ => rfl, fun _ _ => rfl, fun i hi => ?_, ht⟩
  rcases (hB.2.2.2.2.2.2.1 _ (hL.1 i hi)).2.2.2.2 with h | h
  · exact h
  · exact absurd h (hQ i hi).2.1
theorem MV_dc {B : Nat → Int32} {N t p : Nat} {L : gCL} (hp : p < 64) (h : MV B N L B t) : MV B N L (bup B (29 + 5 * p) 0) t := by
  obtain ⟨h1, h2, h3, h4, h5⟩ := h
  exact ⟨BI_dv h1 hp 0 (Or.inl rfl), fun i hi => bup_ne (by omega), fun i hi => bL_up (fun q => by omega), fun i hi => by rw [bup_ne (by omega)]; exact h4 i hi, h5⟩
theorem x_tail {m : gM} {k N line d t : Nat} {B B0 : Nat → Int32} {L : gCL} {g : Int32} (hl : line < 1024) (hL : LW L) (hB : BI B N) (hQ : LQ B line L) (ht : t < L.length) (hC : B0 = B ∨ B0 = bup B (29 + 5 * lp L t) 0) (hR : RS m k B0 N) (hS : SX m L) (hc : chn L d t) (hd : d ≤ 3) (hN : N + 1 ≤ 1000000000) :
    ∃ n m', n ≤ 24 ∧ aft B L d t line 10 = nI n ∧ gCall (X3_moveOn k (nI t) m) (fun (r13 : Int32) (m12 : gM) => gCall (X1_topOf (nI t) m12) (fun (r15 : Int32) (m14 : gM) => gAt m14 17 0 r15 (fun (x16 : Int32) => gCall (X3_settle k (nI line) x16 m14) (fun (r18 : Unit) (m17 : gM) => gCall (X3_note k (nI line) g r13 0 m17) (fun (r20 : Unit) (m19 : gM) => some (x16, m19)))))) = some (nI (lp L (mvT L d t)), m') ∧ RS m' k (wbk (aft B L d t line) n (nI line) g (nI (mvN L d t)) 0) (N + 1) ∧ Eqv (pCo k) m m' := by
  have hlen := LW_len hL
  have hp := hL.1 t ht
  have hM0 : MV B N L B0 t := by
    rcases hC with rfl | rfl
    · exact MV_self hB hL hQ ht
    · exact MV_dc hp (MV_self hB hL hQ ht)
  obtain ⟨m1, y1, y2, y3⟩ := x_moves hL hQ hR hM0 hS hc hd
  obtain ⟨g1, g2, -⟩ := mv_all hL hQ 1025 d t B0 hc hM0 (fun q hq => by have := (hM0.1.2.2.2.2.2.2.1 q hq).2.1; omega)
  have hT := g1.2.2.2.2
  have hS1 := SX_mo hS y3
  have hpT := hL.1 _ hT
  obtain ⟨m2, z1, z2, z3⟩ := x_settle y2 hl hpT (by rw [bup_ne (by omega)]; exact g1.2.2.2.1 _ hT)
  have hS2 : aft B L d t line = bset (bup (mvB d B0 L t) 7 (mvB d B0 L t 7 + nI (mvN L d t))) line (lp L (mvT L d t)) := by
    unfold aft
    rcases hC with rfl | rfl
    · rfl
    · rcases mv_dc (B := B) hL ht hc with ⟨e1, e2, e3, e4⟩ | e
      · rw [e2, e3, e4, bup_ne (show 7 ≠ 29 + 5 * lp L t by omega), bset_dc hp]
      · rw [e]
  rw [← hS2] at z2
  obtain ⟨n, m3, w1, w2, w3, w4, w5⟩ := x_note z2 hN (nI line) g (nI (mvN L d t)) 0
  rw [gCall_eq y1, gCall_eq (x_top hL ht hS1 hc hd), gAt_nI (show mvT L d t < 64 by omega) (by omega), (hS1.2.1 _ hT).1, gCall_eq z1, gCall_eq w3]
  refine ⟨n, m3, w1, w2, rfl, w4, ((y3.mono ?_).tr (z3.mono ?_)).tr (w5.mono ?_)⟩
  · intro a b c q; unfold pMo at q; unfold pCo; omega
  · intro a b c q; unfold pSl at q; unfold pCo; omega
  · intro a b c q; unfold pNo at q; unfold pCo; omega
theorem gJ1_e {β : Type} {K : Int32 → gM → β} {F : (Int32 → gM → β) → β} : gJ1 K F = F K := by unfold gJ1; exact Eq.refl _
theorem gJ2_e {β : Type} {K : Int32 → Int32 → gM → β} {F : (Int32 → Int32 → gM → β) → β} : gJ2 K F = F K := by unfold gJ2; exact Eq.refl _
theorem m_tail {m : gM} {N line d t n : Nat} {B : Nat → Int32} {L : gCL} {g : Int32} (hl : line < 1024) (hL : LW L) (hm : mB m = B) (hB : BI B N) (hQ : LQ B line L) (ht : t < L.length) (hS : SM m L) (hc : chn L d t) (hd : d ≤ 3) (hn : n ≤ 24) (h10 : aft B L d t line 10 = nI n) :
    ∃ m', gJ2 (fun (v7 v8 : Int32) (m9 : gM) => gAt m9 47 0 43 (fun (x10 : Int32) => gPut m9 47 0 43 (x10 + v8) (fun (m11 : gM) => gAt m11 52 0 v7 (fun (x12 : Int32) => gCall (X9_layLine x12 (nI line) m11) (fun (r14 : Unit) (m13 : gM) => gCall (X9_writeDown (nI line) g v8 0 m13) (fun (r16 : Unit) (m15 : gM) => some ((), m15))))))) (fun (j183 : Int32 → Int32 → gM → Option (Unit × gM)) => gL2 FU (X9_comeIn_b106 j183) (nI t) 0 m) = some ((), m') ∧ mB m' = wbk (aft B L d t line) n (nI line) g (nI (mvN L d t)) 0 ∧ Eqv pBk m m' := by
  have hlen := LW_len hL
  have hM0 := MV_self hB hL hQ ht
  obtain ⟨g1, g2, -⟩ := mv_all hL hQ 1025 d t B hc hM0 (fun q hq => by have := (hB.2.2.2.2.2.2.1 q hq).2.1; omega)
  have hT := g1.2.2.2.2
  have hpT := hL.1 _ hT
  obtain ⟨m1, y1, y2, y3⟩ := m_moves (R := fun (v7 v8 : Int32) (m9 : gM) => gAt m9 47 0 43 (fun (x10 : Int32) => gPut m9 47 0 43 (x10 + v8) (fun (m11 : gM) => gAt m11 52 0 v7 (fun (x12 : Int32) => gCall (X9_layLine x12 (nI line) m11) (fun (r14 : Unit) (m13 : gM) => gCall (X9_writeDown (nI line) g v8 0 m13) (fun (r16 : Unit) (m15 : gM) => some ((), m15))))))) hL hQ hm hM0 hS hc hd
  rw [gJ2_e, y1]
  have hS1 := (SM_bk hS y3).2.1 _ hT
  have hS2 := SM_bk (SM_bk hS y3) (Eqv_bk (m := m1) (i := 7) (v := mB m1 7 + nI (mvN L d t)) (by omega))
  obtain ⟨m2, z1, z2, z3⟩ := m_lay (m := gup m1 47 0 (36 + 7) (mB m1 7 + nI (mvN L d t))) hl hpT
  rw [mB_up, y2] at z2
  obtain ⟨m3, w1, w2, w3⟩ := m_note (m := m2) z2 hn h10 (nI line) g (nI (mvN L d t)) 0
  refine ⟨m3, ?_, w2, (y3.tr (Eqv_bk (by omega))).tr (z3.tr w3)⟩
  rw [show (43 : Int32) = nI (36 + 7) from rfl, m_get (by omega), m_put (by omega), gAt_nI (show mvT L d t < 64 by omega) (by omega), (hS2.2.1 _ hT).1, gCall_eq z1, gCall_eq w1]
theorem aft_ok {B : Nat → Int32} {N line d t n : Nat} {L : gCL} {a b c e : Int32} (hl : line < 1024) (hL : LW L) (hB : BI B N) (hQ : LQ B line L) (ht : t < L.length) (hc : chn L d t) (hno : ∀ q, q < 64 → bL B q ≠ line + 1) : BI (wbk (aft B L d t line) n a b c e) N ∧ bAt (wbk (aft B L d t line) n a b c e) line = some (lp L (mvT L d t)) := by
  have hM0 := MV_self hB hL hQ ht
  obtain ⟨g1, g2, g3⟩ := mv_all hL hQ (line + 1) d t B hc hM0 hno
  have hT := g1.2.2.2.2
  have hpT := hL.1 _ hT
  obtain ⟨q1, q2, q3, q4⟩ := hQ _ hT
  have hw4 := hB.1.2.2
  have e7 : ∀ i, i < 5 ∨ 11 ≤ i → bup (mvB d B L t) 7 (mvB d B L t 7 + nI (mvN L d t)) i = mvB d B L t i := fun i hi => bup_ne (by omega)
  have b7 : BI (bup (mvB d B L t) 7 (mvB d B L t 7 + nI (mvN L d t))) N := BI_hi g1.1 (fun i _ hi => bup_ne (by omega))
  have ew : bW (bup (mvB d B L t) 7 (mvB d B L t 7 + nI (mvN L d t))) = bW B := mB_w (by rw [e7 _ (by omega)]; exact g1.2.1 0 (by omega))
  have bA : BI (aft B L d t line) N := by
    refine BI_set b7 hl (by rw [ew]; exact q1) ?_
    rw [q3 g2]
    refine (bIx_cg2 (fun i hi => ?_) (by omega) line hB.2.1.2.2).symm
    rw [e7 _ (by omega)]; exact g1.2.1 i (by omega)
  have bF : BI (wbk (aft B L d t line) n a b c e) N := wbk_BI bA
  have hLs : ∀ q, q < 64 → bL (wbk (aft B L d t line) n a b c e) q = if q = lp L (mvT L d t) then line + 1 else bL (mvB d B L t) q := by
    intro q hq
    have h1 : bL (wbk (aft B L d t line) n a b c e) q = bL (aft B L d t line) q := by
      unfold bL
      rw [wbk_lo (by omega) (by omega)]
    rw [h1]
    unfold aft
    rw [bset_L hl, bL_up (fun q => by omega)]
  refine ⟨bF, bAt_uni bF hpT (by rw [hLs _ hpT, if_pos rfl]) (fun q hq hne => ?_)⟩
  rw [hLs q hq, if_neg hne]
  exact g3 q hq
