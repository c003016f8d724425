/-! LAYER 2: reach, candidate, victim, moved. -/
def SY (x : gM) (L : gCL) : Prop := x 1 0 3 = nI L.length ∧ ∀ i, i < L.length → x 17 0 i = nI (lp L i) ∧ x 18 0 i = oI (lo L i)
theorem m_lookH {m : gM} {N line d p : Nat} (hB : BI (mB m) N) (hl : line < 1024) (hno : bAt (mB m) line = some p) : ∃ m', X9_layFound (nI line) (nI d) m = some ((), m') ∧ SM m' [] ∧ Eqv pFi m m' := by
  obtain ⟨hp, -⟩ := bAt_lt hB hno
  have e0 : Eqv pFi m (gfil (gup m 9 0 18 0) 54 0 0 64) := (Eqv.up (by unfold pFi; omega)).tr (Eqv_fil (fun _ => by unfold pFi; omega))
  have s0 : SM (gfil (gup m 9 0 18 0) 54 0 0 64) [] := by
    refine ⟨?_, fun i hi => by simp at hi, fun p hp => ?_⟩
    · unfold gfil
      rw [if_neg (by omega), gup_at, if_pos rfl]; rfl
    · unfold gfil
      rw [if_pos (by omega)]; rfl
  have hB1 : mB (gfil (gup m 9 0 18 0) 54 0 0 64) = mB m := mB_fi e0
  unfold X9_layFound
  simp only [gSet]
  rw [gJ0_e, m_pre, gCall_eq (X9_pw (by rw [hB1]; exact hB) hl), hB1, hno, if_neg (show oI (some p) ≠ -1 from nI_nm1 (by omega))]
  exact ⟨_, rfl, s0, e0⟩
theorem pSe_X {x x' : gM} (h : Eqv pSe x x') : Eqv pX x x' := h.mono (fun t k i q => by unfold pSe at q; unfold pX; omega)
theorem pFi_M {m m' : gM} (h : Eqv pFi m m') : Eqv pM m m' := h.mono (fun t k i q => by unfold pFi at q; unfold pM; omega)
theorem look_both {x m : gM} {N line d : Nat} (h : INV x m N) (hl : line < 1024) (hd : d ≤ 3) : ∃ L x' m', X1_lookUnlessHeld 0 (nI line) (nI d) x = some ((), x') ∧ X9_layFound (nI line) (nI d) m = some ((), m') ∧ LW L ∧ SY x' L ∧ SM m' L ∧ (∀ i, i < L.length → chn L d i) ∧ INV x' m' N ∧ mB m' = mB m := by
  unfold X1_lookUnlessHeld
  rw [gCall_eq (X3_po h.rs h.bi hl)]
  cases hb : bAt (mB m) line with
  | none =>
    obtain ⟨x1, y1, y2, y3⟩ := x_look h.rs h.bi hl hd
    obtain ⟨m1, z1, z2, z3⟩ := m_look h.bi hl hd hb
    rw [if_pos (show oI none = -1 from rfl), gCall_eq y1]
    exact ⟨_, x1, m1, rfl, z1, cand_LW h.bi d, ⟨y2.1, y2.2.1⟩, z2, (cand_Q h.bi d).2, INV_congr h (pSe_X y3) (pFi_M z3), mB_fi z3⟩
  | some p =>
    obtain ⟨hp, -⟩ := bAt_lt h.bi hb
    obtain ⟨m1, z1, z2, z3⟩ := m_lookH (d := d) h.bi hl hb
    rw [if_neg (show oI (some p) ≠ -1 from nI_nm1 (by omega))]
    simp only [gSet]
    exact ⟨[], _, m1, rfl, z1, LW_nil, ⟨by rw [gup_at, if_pos rfl]; rfl, fun i hi => by simp at hi⟩, z2, fun i hi => by simp at hi, INV_congr h (Eqv.up (by unfold pX; omega)) (pFi_M z3), mB_fi z3⟩
theorem q_reach {x m : gM} {N : Nat} (h : INV x m N) (a b : Int32) : Ag (X8_reach a b x) (X9_reach a b m) N := by
  unfold X8_reach X9_reach
  rcases line_cases a with ⟨l, hl, rfl⟩ | ⟨h1, h2⟩
  · rcases depth_cases b with ⟨d, hd, rfl⟩ | ⟨g1, g2⟩
    · obtain ⟨L, x1, m1, y1, y2, y3, y4, y5, -, y6, -⟩ := look_both h hl hd
      rw [gCall_eq (lineT hl x).1, if_pos rfl, gCall_eq (lineT hl m).2, if_pos rfl, gCall_eq (depthT hd x).1, if_pos rfl, gCall_eq (depthT hd m).2, if_pos rfl, gCall_eq y1, gCall_eq y2, y4.1, y5.1]
      exact ⟨_, x1, m1, rfl, rfl, y6⟩
    · rw [gCall_eq (lineT hl x).1, if_pos rfl, gCall_eq (lineT hl m).2, if_pos rfl, gCall_eq (g1 x), gCall_eq (g2 m)]
      exact Ag.same h _ rfl rfl
  · rw [gCall_eq (h1 x), gCall_eq (h2 m)]
    exact Ag.same h _ rfl rfl
theorem dep_x {x m : gM} {N : Nat} (h : INV x m N) : x 3 0 2 = nI (bD (mB m)) ∧ bD (mB m) ≤ 3 := ⟨h.rs.1.2.2.1.trans h.bi.2.2.1.1, h.bi.2.2.1.2⟩
theorem dep_m {m : gM} {N : Nat} {β : Type} {kk : Int32 → Option β} (hB : BI (mB m) N) : gAt m 47 0 38 kk = kk (nI (bD (mB m))) := by
  rw [show (38 : Int32) = nI (36 + 2) from rfl, m_get (by omega), hB.2.2.1.1]
theorem q_candidate {x m : gM} {N : Nat} (h : INV x m N) (a b : Int32) : Ag (X8_candidate a b x) (X9_candidate a b m) N := by
  unfold X8_candidate X9_candidate
  rcases line_cases a with ⟨l, hl, rfl⟩ | ⟨h1, h2⟩
  · obtain ⟨L, x1, m1, y1, y2, y3, y4, y5, -, y6, -⟩ := look_both h hl (dep_x h).2
    have hlen := LW_len y3
    rw [gCall_eq (lineT hl x).1, if_pos rfl, gCall_eq (lineT hl m).2, if_pos rfl, (dep_x h).1, dep_m h.bi, gCall_eq y1, gCall_eq y2, y4.1, y5.1]
    by_cases hb : b = -1
    · rw [if_pos hb, if_pos hb]
      exact ⟨_, x1, m1, rfl, rfl, y6⟩
    · rw [if_neg hb, if_neg hb]
      rcases isIn_n b (n := L.length) (by omega) m1 with ⟨j, g1, rfl, g3⟩ | ⟨g1, g2⟩
      · rw [gCall_eq g3, if_pos rfl, if_neg (nI_neg (by omega)), if_neg (by rw [nI_leq (by omega) (by omega)]; omega), gAt_nI (show j < 64 by omega) (by omega), gAt_nI (show j < 64 by omega) (by omega), (y4.2 j g1).1, (y5.2.1 j g1).1]
        exact ⟨_, x1, m1, rfl, rfl, y6⟩
      · rw [gCall_eq g2]
        refine ⟨-1, x1, m1, ?_, rfl, y6⟩
        rcases g1 with g1 | ⟨j, hj, rfl, g1⟩
        · rw [if_pos g1]
        · rw [if_neg (nI_neg hj), if_pos (by rw [nI_leq (by omega) hj]; omega)]
  · rw [gCall_eq (h1 x), gCall_eq (h2 m)]
    exact Ag.same h _ rfl rfl
theorem q_victim {x m : gM} {N : Nat} (h : INV x m N) (a : Int32) : Ag (X8_victim a x) (X9_victim a m) N := by
  unfold X8_victim X9_victim
  rcases line_cases a with ⟨l, hl, rfl⟩ | ⟨h1, h2⟩
  · obtain ⟨L, x1, m1, y1, y2, y3, y4, y5, -, y6, -⟩ := look_both h hl (dep_x h).2
    have hlen := LW_len y3
    rw [gCall_eq (lineT hl x).1, if_pos rfl, gCall_eq (lineT hl m).2, if_pos rfl, (dep_x h).1, dep_m h.bi, gCall_eq y1, gCall_eq y2, y5.1, gCall_eq (x_choose y6.rs y6.bi y3 y4)]
    by_cases hz : L.length = 0
    · rw [if_pos hz, if_pos (show oI none = -1 from rfl), if_pos (by rw [hz]; rfl)]
      exact ⟨_, x1, m1, rfl, rfl, y6⟩
    · have ht := tk_lt (B := mB m1) (show 0 < L.length by omega)
      have hp := y3.1 _ ht
      rw [if_neg hz, show oI (some (tk (mB m1) L)) = nI (tk (mB m1) L) from rfl, if_neg (nI_nm1 (by omega)), if_neg (fun z => hz ((nI_z (by omega)).mp z)), gAt_nI (show tk (mB m1) L < 64 by omega) (by omega), (y4.2 _ ht).1, gAt_nI (show lp L (tk (mB m1) L) < 64 from hp) (by omega), y6.rs.2.2.2.2.1 _ hp]
      rw [gCall_eq (m_taken y6.bi y3 (by omega) y5), gAt_nI (show tk (mB m1) L < 64 by omega) (by omega), (y5.2.1 _ ht).1, gCall_eq (X9_la y6.bi hp), (y6.bi.2.2.2.2.2.2.1 _ hp).1]
      exact ⟨_, x1, m1, rfl, rfl, y6⟩
  · rw [gCall_eq (h1 x), gCall_eq (h2 m)]
    exact Ag.same h _ rfl rfl
def mvR (B : Nat → Int32) (L : gCL) (b : Int32) : Nat → Nat → Nat → Int32
  | 0, _, c => if b = -1 then nI c else -1
  | n + 1, t, c => match lo L t with
    | none => if b = -1 then nI c else -1
    | some j => if nI c = b then nI (bL B (lp L j)) - 1 else mvR B L b n j (c + 1)
theorem mvR_end {B : Nat → Int32} {L : gCL} {b : Int32} {t c : Nat} (h : lo L t = none) (n : Nat) : mvR B L b n t c = if b = -1 then nI c else -1 := by
  cases n with
  | zero => rfl
  | succ n => simp only [mvR, h]
theorem q_moved {x m : gM} {N : Nat} (h : INV x m N) (a b : Int32) : Ag (X8_moved a b x) (X9_moved a b m) N := by
  unfold X8_moved X9_moved
  rcases line_cases a with ⟨l, hl, rfl⟩ | ⟨h1, h2⟩
  · obtain ⟨L, x1, m1, y1, y2, y3, y4, y5, yc, y6, ye⟩ := look_both h hl (dep_x h).2
    have hlen := LW_len y3
    have hd := (dep_x h).2
    rw [gCall_eq (lineT hl x).1, if_pos rfl, gCall_eq (lineT hl m).2, if_pos rfl, (dep_x h).1, gCall_eq y1, gCall_eq (x_choose y6.rs y6.bi y3 y4), gJ1_e, gJ1_e]
    have hx : ∀ t, t < L.length → gL3 FU (X8_moved_b55 b (fun v7 m8 => gAt m8 17 0 v7 (fun x9 => gAt m8 29 0 x9 (fun x10 => some (x10, m8)))) (fun v11 m12 => if b = -1 then some (v11, m12) else some (-1, m12))) (nI t) 0 0 x1 = some (mvR (mB m1) L b (bD (mB m)) t 0, x1) := by
      intro t ht
      refine gL3_rec (fun j p q r σ => σ = x1 ∧ ∃ c, q = nI c ∧ r = nI c ∧ ((p = -1 ∧ j = 0 ∧ mvR (mB m1) L b (bD (mB m)) t 0 = if b = -1 then nI c else -1) ∨ ∃ n t', j = n + 1 ∧ p = nI t' ∧ t' < L.length ∧ chn L n t' ∧ c + n ≤ 3 ∧ mvR (mB m1) L b n t' c = mvR (mB m1) L b (bD (mB m)) t 0)) (fun r => r = some (mvR (mB m1) L b (bD (mB m)) t 0, x1)) ?_ FU (bD (mB m) + 1) (nI t) 0 0 x1 (by rw [FU_eq]; omega) ⟨rfl, 0, rfl, rfl, Or.inr ⟨bD (mB m), t, rfl, rfl, ht, yc t ht, by omega, rfl⟩⟩
      rintro j p q r σ K ⟨rfl, c, rfl, rfl, hc⟩ hK
      sorry
    sorry
  · rw [gCall_eq (h1 x), gCall_eq (h2 m)]
    exact Ag.same h _ rfl rfl
