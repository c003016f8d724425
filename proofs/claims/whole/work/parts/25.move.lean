/-! LAYER 2: lines move on. -/
def mvB : Nat → (Nat → Int32) → gCL → Nat → Nat → Int32
  | 0, B, _, _ => B
  | n + 1, B, L, t => match lo L t with
    | none => B
    | some j => mvB n (bmov B (lp L j) (lp L t)) L j
def mvT (L : gCL) : Nat → Nat → Nat
  | 0, t => t
  | n + 1, t => match lo L t with
    | none => t
    | some j => mvT L n j
def mvN (L : gCL) : Nat → Nat → Nat
  | 0, _ => 0
  | n + 1, t => match lo L t with
    | none => 0
    | some j => mvN L n j + 1
theorem mv_end {L : gCL} {t : Nat} (h : lo L t = none) (n : Nat) (B : Nat → Int32) : mvB n B L t = B ∧ mvT L n t = t ∧ mvN L n t = 0 := by
  cases n with
  | zero => exact ⟨rfl, rfl, rfl⟩
  | succ n => simp only [mvB, mvT, mvN, h]; exact ⟨trivial, trivial, trivial⟩
theorem mv_go {L : gCL} {t j : Nat} (h : lo L t = some j) (n : Nat) (B : Nat → Int32) : mvB (n + 1) B L t = mvB n (bmov B (lp L j) (lp L t)) L j ∧ mvT L (n + 1) t = mvT L n j ∧ mvN L (n + 1) t = mvN L n j + 1 := by
  simp only [mvB, mvT, mvN, h]
  exact ⟨trivial, trivial, trivial⟩
def MV (B : Nat → Int32) (N : Nat) (L : gCL) (B' : Nat → Int32) (t : Nat) : Prop :=
  BI B' N ∧ (∀ i, i < 27 → B' i = B i) ∧ (∀ i, i ≤ t → bL B' (lp L i) = bL B (lp L i)) ∧ (∀ i, i < L.length → B' (31 + 5 * lp L i) = 0) ∧ t < L.length
theorem MV_step {B B' : Nat → Int32} {N line t j : Nat} {L : gCL} (hL : LW L) (hQ : LQ B line L) (h : MV B N L B' t) (hj : lo L t = some j) : MV B N L (bmov B' (lp L j) (lp L t)) j ∧ j < t := by
  obtain ⟨h1, h2, h3, h4, h5⟩ := h
  have hjt := hL.2.2 t j h5 hj
  obtain ⟨q1, q2, q3, q4⟩ := hQ t h5
  obtain ⟨q5, q6⟩ := q4 j hj
  have hpj := hL.1 j (by omega)
  have hpt := hL.1 t h5
  have hw := mB_w (h2 0 (by omega))
  have hn : bN B ≤ 4 := by rw [← mB_n (h2 1 (by omega))]; exact h1.2.1.2.2
  have b3 := h3 j (by omega)
  have hw4 := h1.1.2.2
  obtain ⟨g1, g2⟩ := BI_mov h1 hpj (by rw [b3]; exact q5) (by rw [hw]; exact q1) (by rw [b3, bIx_cg h2 (by omega) _ hn]; exact q6)
  refine ⟨⟨g1, fun i hi => by rw [bmov_out (by omega)]; exact h2 i hi, fun i hi => ?_, fun i hi => ?_, by omega⟩, hjt⟩
  · rw [g2 _ (hL.1 i (by omega)), if_neg (hL.2.1 i t (by omega) h5)]
    exact h3 i (by omega)
  · have s4 := bmov_slot (B := B') (f := lp L j) (t := lp L t) (q := lp L i) (show 4 < 5 by omega)
    rw [show 27 + 4 + 5 * lp L i = 31 + 5 * lp L i by omega, show 27 + 4 + 5 * lp L j = 31 + 5 * lp L j by omega] at s4
    rw [s4, h4 j (by omega), h4 i hi]
    split <;> rfl
def pSl (k t k' _i : Nat) : Prop := (29 ≤ t ∧ t ≤ 33) ∧ k' = k
theorem x_move {m : gM} {k N f t : Nat} {B : Nat → Int32} (hR : RS m k B N) (hf : f < 64) (ht : t < 64) (h1 : B (31 + 5 * f) = 0) (h2 : B (31 + 5 * t) = 0) : ∃ m', X3_moveLine k (nI f) (nI t) m = some ((), m') ∧ RS m' k (bmov B f t) N ∧ Eqv (pSl k) m m' := by
  unfold X3_moveLine
  have r1 := RS_u29 hR ht (B (27 + 5 * f))
  have r2 := RS_u30 r1 ht (B (28 + 5 * f))
  have r3 := RS_u31 r2 ht (B (29 + 5 * f))
  have r4 := RS_u32 r3 ht (B (30 + 5 * f))
  rw [gAt_nI (show f < 64 from hf) (by omega), gPut_nI (show t < 64 from ht) (by omega), hR.2.2.2.2.1 _ hf]
  rw [gAt_nI (show f < 64 from hf) (by omega), gPut_nI (show t < 64 from ht) (by omega), r1.2.2.2.2.2.1 _ hf, bup_ne (show 28 + 5 * f ≠ 27 + 5 * t by omega)]
  rw [gAt_nI (show f < 64 from hf) (by omega), gPut_nI (show t < 64 from ht) (by omega), r2.2.2.2.2.2.2.1 _ hf, bup_ne (show 29 + 5 * f ≠ 28 + 5 * t by omega), bup_ne (show 29 + 5 * f ≠ 27 + 5 * t by omega)]
  rw [gAt_nI (show f < 64 from hf) (by omega), gPut_nI (show t < 64 from ht) (by omega), r3.2.2.2.2.2.2.2.1 _ hf, bup_ne (show 30 + 5 * f ≠ 29 + 5 * t by omega), bup_ne (show 30 + 5 * f ≠ 28 + 5 * t by omega), bup_ne (show 30 + 5 * f ≠ 27 + 5 * t by omega)]
  refine ⟨_, rfl, RS_congrB r4 (fun i hi => ?_), (((Eqv.up (by unfold pSl; omega)).tr (Eqv.up (by unfold pSl; omega))).tr (Eqv.up (by unfold pSl; omega))).tr (Eqv.up (by unfold pSl; omega))⟩
  unfold bmov bup
  by_cases e4 : i = 30 + 5 * t
  · rw [if_pos (by omega), if_pos e4]; congr 1; omega
  · rw [if_neg e4]
    by_cases e3 : i = 29 + 5 * t
    · rw [if_pos (by omega), if_pos e3]; congr 1; omega
    · rw [if_neg e3]
      by_cases e2 : i = 28 + 5 * t
      · rw [if_pos (by omega), if_pos e2]; congr 1; omega
      · rw [if_neg e2]
        by_cases e1 : i = 27 + 5 * t
        · rw [if_pos (by omega), if_pos e1]; congr 1; omega
        · rw [if_neg e1]
          by_cases e0 : i = 31 + 5 * t
          · rw [if_pos (by omega), e0, h2, show 27 + 5 * f + (31 + 5 * t - (27 + 5 * t)) = 31 + 5 * f by omega, h1]
          · rw [if_neg (by omega)]
def pMo (k t k' _i : Nat) : Prop := (26 ≤ t ∧ t ≤ 33) ∧ k' = k
theorem SX_mo {m m' : gM} {k : Nat} {L : gCL} (h : SX m L) (e : Eqv (pMo k) m m') : SX m' L := by
  obtain ⟨a, b, c⟩ := h
  have q := fun t i (ht : t < 26) => e t 0 i (by unfold pMo; omega)
  exact ⟨by rw [q 1 _ (by omega)]; exact a, fun i hi => by rw [q 17 _ (by omega), q 18 _ (by omega)]; exact b i hi, fun p hp => by rw [q 19 _ (by omega)]; exact c p hp⟩
theorem x_moves {m : gM} {k N line d t : Nat} {B B0 : Nat → Int32} {L : gCL} (hL : LW L) (hQ : LQ B line L) (hR : RS m k B0 N) (hM : MV B N L B0 t) (hS : SX m L) (hc : chn L d t) (hd : d ≤ 3) : ∃ m', X3_moveOn k (nI t) m = some (nI (mvN L d t), m') ∧ RS m' k (bup (mvB d B0 L t) 7 (mvB d B0 L t 7 + nI (mvN L d t))) N ∧ Eqv (pMo k) m m' := by
  have hlen := LW_len hL
  have ht := hM.2.2.2.2
  unfold X3_moveOn
  rw [gAt_nI (show t < 64 by omega) (by omega), (hS.2.1 t ht).2, show gJ1 _ _ = _ from rfl]
  refine gL3_rec (fun n a b c σ => ∃ c0 t' B', a = nI c0 ∧ b = nI t' ∧ c = oI (lo L t') ∧ RS σ k B' N ∧ Eqv (pMo k) m σ ∧ MV B N L B' t' ∧ chn L n t' ∧ c0 + n ≤ 3 ∧ mvB n B' L t' = mvB d B0 L t ∧ mvN L n t' + c0 = mvN L d t) (fun r => ∃ m', r = some (nI (mvN L d t), m') ∧ RS m' k (bup (mvB d B0 L t) 7 (mvB d B0 L t 7 + nI (mvN L d t))) N ∧ Eqv (pMo k) m m') ?_ FU d 0 (nI t) _ m (by rw [FU_eq]; omega) ⟨0, t, B0, rfl, rfl, rfl, hR, Eqv.rf, hM, hc, by omega, rfl, rfl⟩
  rintro n a b c σ K ⟨c0, t', B', rfl, rfl, rfl, hR', hE, hM', hc', hb, e1, e2⟩ hK
  have ht' := hM'.2.2.2.2
  unfold X3_moveOn_b14
  have hend : lo L t' = none → ∃ m', (gAt σ 26 k 4 (fun x4 => gPut σ 26 k 4 (x4 + nI c0) (fun m5 => some (nI c0, m5)))) = some (nI (mvN L d t), m') ∧ RS m' k (bup (mvB d B0 L t) 7 (mvB d B0 L t 7 + nI (mvN L d t))) N ∧ Eqv (pMo k) m m' := by
    intro hn
    obtain ⟨f1, -, f3⟩ := mv_end hn n B'
    rw [f1] at e1
    rw [f3] at e2
    have e3 : c0 = mvN L d t := by omega
    rw [← e1, ← e3, li4, gAt_nI (show 4 < 6 by omega) (by omega), gPut_nI (show 4 < 6 by omega) (by omega), hR'.2.1.2.2.2.2.1]
    exact ⟨_, rfl, RS_k4 hR' _, hE.tr (Eqv.up (by unfold pMo; omega))⟩
  cases hlo : lo L t' with
  | none =>
    rw [if_pos (show oI none = -1 from rfl)]
    exact hend hlo
  | some j =>
    obtain ⟨hM2, hjt⟩ := MV_step hL hQ hM' hlo
    rw [if_neg (show oI (some j) ≠ -1 from nI_nm1 (by omega))]
    cases n with
    | zero => rw [chn] at hc'; rw [hc'] at hlo; cases hlo
    | succ n =>
      rw [if_neg (by rw [li3, nI_leq (by omega) (by omega)]; omega)]
      have hS2 := SX_mo hS hE
      have hpj := hL.1 j (by omega)
      have hpt := hL.1 t' ht'
      obtain ⟨m2, y1, y2, y3⟩ := x_move hR' hpj hpt (hM'.2.2.2.1 j (by omega)) (hM'.2.2.2.1 t' ht')
      obtain ⟨f1, -, f3⟩ := mv_go hlo n B'
      have hE2 := hE.tr (y3.mono (fun t k' i q => by unfold pSl at q; unfold pMo; omega))
      rw [show oI (some j) = nI j from rfl, gAt_nI (show j < 64 by omega) (by omega), (hS2.2.1 j (by omega)).1, gAt_nI (show t' < 64 by omega) (by omega), (hS2.2.1 t' ht').1, gCall_eq y1]
      simp only [gLet, nI_1]
      rw [gAt_nI (show j < 64 by omega) (by omega), ((SX_mo hS hE2).2.1 j (by omega)).2]
      exact hK n _ _ _ _ (by omega) ⟨c0 + 1, j, _, rfl, rfl, rfl, y2, hE2, hM2, hc' j hlo, by omega, by rw [← f1]; exact e1, by omega⟩
theorem x_top {m : gM} {d t : Nat} {L : gCL} (hL : LW L) (ht : t < L.length) (hS : SX m L) (hc : chn L d t) (hd : d ≤ 3) : X1_topOf (nI t) m = some (nI (mvT L d t), m) := by
  have hlen := LW_len hL
  unfold X1_topOf
  refine gL2_rec (fun n a b σ => σ = m ∧ ∃ c0 t', a = nI t' ∧ b = nI c0 ∧ t' < L.length ∧ chn L n t' ∧ c0 + n ≤ 3 ∧ mvT L n t' = mvT L d t) (fun r => r = some (nI (mvT L d t), m)) ?_ FU d (nI t) 0 m (by rw [FU_eq]; omega) ⟨rfl, 0, t, rfl, rfl, ht, hc, by omega, rfl⟩
  rintro n a b σ K ⟨rfl, c0, t', rfl, rfl, ht', hc', hb, e1⟩ hK
  unfold X1_topOf_b4
  cases hlo : lo L t' with
  | none =>
    rw [(mv_end hlo n (fun _ => 0)).2.1] at e1
    rw [← e1]
    split
    · rfl
    · rw [gAt_nI (show t' < 64 by omega) (by omega), (hS.2.1 t' ht').2, hlo, if_pos (show oI none = -1 from rfl)]
  | some j =>
    have hjt := hL.2.2 t' j ht' hlo
    cases n with
    | zero => rw [chn] at hc'; rw [hc'] at hlo; cases hlo
    | succ n =>
      rw [if_neg (by rw [li3, nI_leq (by omega) (by omega)]; omega), gAt_nI (show t' < 64 by omega) (by omega), (hS.2.1 t' ht').2, hlo, if_neg (show oI (some j) ≠ -1 from nI_nm1 (by omega)), gAt_nI (show t' < 64 by omega) (by omega), (hS.2.1 t' ht').2, hlo]
      simp only [gLet, nI_1]
      exact hK n _ _ _ (by omega) ⟨rfl, c0 + 1, j, rfl, rfl, by omega, hc' j hlo, by omega, by rw [← (mv_go hlo n (fun _ => 0)).2.1]; exact e1⟩
/-- one line moves: the reference -/
theorem m_move {m : gM} {t j : Nat} {L : gCL} {R : gM → Option (Unit × gM)} (hL : LW L) (hS : SM m L) (ht : t < L.length) (hj : lo L t = some j) : gL1 FU (X9_comeIn_b119 R (nI t)) 0 m = R (gblk m 47 0 (63 + 5 * lp L j) 47 0 (63 + 5 * lp L t) 5) := by
  have hlen := LW_len hL
  have hjt := hL.2.2 t j ht hj
  have hpj := hL.1 j (by omega)
  have hpt := hL.1 t ht
  have hne := hL.2.1 j t hjt ht
  refine gL1_for (fun i σ => σ = gblk m 47 0 (63 + 5 * lp L j) 47 0 (63 + 5 * lp L t) i) (fun o => o = R (gblk m 47 0 (63 + 5 * lp L j) 47 0 (63 + 5 * lp L t) 5)) 5 ?_ ?_ FU 0 m (Nat.zero_le _) (by rw [FU_eq]; omega) ?_
  · rintro i σ K hi rfl hK
    unfold X9_comeIn_b119
    have ek : ∀ t' q, t' ≠ 47 → gblk m 47 0 (63 + 5 * lp L j) 47 0 (63 + 5 * lp L t) i t' 0 q = m t' 0 q := fun t' q h => by unfold gblk; rw [if_neg (by omega)]
    rw [if_neg (by rw [li5, nI_leq (by omega) (by omega)]; omega), gAt_nI (show t < 64 by omega) (by omega), ek 52 _ (by omega), (hS.2.1 t ht).1, m_at, gAt_nI (show t < 64 by omega) (by omega), ek 53 _ (by omega), (hS.2.1 t ht).2, hj, show oI (some j) = nI j from rfl, gAt_nI (show j < 64 by omega) (by omega), ek 52 _ (by omega), (hS.2.1 j (by omega)).1, m_at, m_ix, m_get (by omega), m_ix, m_put (by omega)]
    simp only [gLet, nI_1]
    refine hK _ ?_
    have hsrc : mB (gblk m 47 0 (63 + 5 * lp L j) 47 0 (63 + 5 * lp L t) i) (27 + 5 * lp L j + i) = m 47 0 (63 + 5 * lp L j + i) := by
      unfold mB gblk
      rw [if_neg (by omega)]
      congr 1; omega
    rw [hsrc]
    funext t' k' q
    unfold gup gblk
    rw [show (36 + (27 + 5 * lp L t + i)) = 63 + 5 * lp L t + i by omega]
    by_cases e : t' = 47 ∧ k' = 0 ∧ q = 63 + 5 * lp L t + i
    · rw [if_pos e, if_pos ⟨e.1, e.2.1, by omega, by omega⟩, show 63 + 5 * lp L j + (q - (63 + 5 * lp L t)) = 63 + 5 * lp L j + i by omega]
    · rw [if_neg e]
      by_cases e2 : t' = 47 ∧ k' = 0 ∧ 63 + 5 * lp L t ≤ q ∧ q < 63 + 5 * lp L t + i
      · rw [if_pos e2, if_pos ⟨e2.1, e2.2.1, e2.2.2.1, by omega⟩]
      · rw [if_neg e2, if_neg (fun z => e2 ⟨z.1, z.2.1, z.2.2.1, by
          have : q ≠ 63 + 5 * lp L t + i := fun y => e ⟨z.1, z.2.1, y⟩
          omega⟩)]
  · rintro σ K rfl
    unfold X9_comeIn_b119
    rw [if_pos (by rw [li5, nI_leq (by omega) (by omega)]; omega)]
  · funext t' k' q
    unfold gblk
    rw [if_neg (by omega)]
theorem Eqv_gblk {m : gM} {s t : Nat} (ht : t < 64) : Eqv pBk m (gblk m 47 0 s 47 0 (63 + 5 * t) 5) := by
  intro t' k' i q
  unfold gblk
  unfold pBk at q
  rw [if_neg (by omega)]
theorem m_moves {m : gM} {N line d t : Nat} {B B0 : Nat → Int32} {L : gCL} {R : Int32 → Int32 → gM → Option (Unit × gM)} (hL : LW L) (hQ : LQ B line L) (hm : mB m = B0) (hM : MV B N L B0 t) (hS : SM m L) (hc : chn L d t) (hd : d ≤ 3) : ∃ m', gL2 FU (X9_comeIn_b106 R) (nI t) 0 m = R (nI (mvT L d t)) (nI (mvN L d t)) m' ∧ mB m' = mvB d B0 L t ∧ Eqv pBk m m' := by
  have hlen := LW_len hL
  refine gL2_rec (fun n a b σ => ∃ c0 t' B', a = nI t' ∧ b = nI c0 ∧ mB σ = B' ∧ Eqv pBk m σ ∧ MV B N L B' t' ∧ chn L n t' ∧ c0 + n ≤ 3 ∧ mvB n B' L t' = mvB d B0 L t ∧ mvN L n t' + c0 = mvN L d t ∧ mvT L n t' = mvT L d t) (fun r => ∃ m', r = R (nI (mvT L d t)) (nI (mvN L d t)) m' ∧ mB m' = mvB d B0 L t ∧ Eqv pBk m m') ?_ FU d (nI t) 0 m (by rw [FU_eq]; omega) ⟨0, t, B0, rfl, rfl, hm, Eqv.rf, hM, hc, by omega, rfl, rfl, rfl⟩
  rintro n a b σ K ⟨c0, t', B', rfl, rfl, hm', hE, hM', hc', hb, e1, e2, e3⟩ hK
  have ht' := hM'.2.2.2.2
  have hS2 := SM_bk hS hE
  unfold X9_comeIn_b106
  rw [gAt_nI (show t' < 64 by omega) (by omega), (hS2.2.1 t' ht').2]
  cases hlo : lo L t' with
  | none =>
    obtain ⟨f1, f2, f3⟩ := mv_end hlo n B'
    rw [if_pos (show oI none = -1 from rfl)]
    rw [f1] at e1
    rw [f2] at e3
    rw [f3] at e2
    rw [← e1, ← e3, ← e2, Nat.zero_add]
    exact ⟨σ, rfl, hm', hE⟩
  | some j =>
    obtain ⟨hM2, hjt⟩ := MV_step hL hQ hM' hlo
    rw [if_neg (show oI (some j) ≠ -1 from nI_nm1 (by omega))]
    cases n with
    | zero => rw [chn] at hc'; rw [hc'] at hlo; cases hlo
    | succ n =>
      obtain ⟨f1, f2, f3⟩ := mv_go hlo n B'
      rw [gJ0_e, m_move hL hS2 ht' hlo]
      have hE2 := hE.tr (Eqv_gblk (s := 63 + 5 * lp L j) (m := σ) (hL.1 t' ht'))
      rw [gLet, nI_1, gAt_nI (show t' < 64 by omega) (by omega), ((SM_bk hS hE2).2.1 t' ht').2, hlo]
      exact hK n _ _ _ (by omega) ⟨c0 + 1, j, _, rfl, rfl, by rw [mB_mov, hm'], hE2, hM2, hc' j hlo, by omega, by rw [← f1]; exact e1, by omega, by rw [← f2]; exact e3⟩
