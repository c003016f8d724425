/-! LAYER 2: reach, candidate, victim, moved. -/
def SY (x : gM) (L : gCL) : Prop := x 1 0 3 = nI L.length ∧ ∀ i, i < L.length → x 17 0 i = nI (lp L i) ∧ x 18 0 i = oI (lo L i)
theorem m_lookH {m : gM} {N line d p : Nat} (hB : BI (mB m) N) (hl : line < 1024) (hno : bAt (mB m) line = some p) : ∃ m', X9_layFound (nI line) (nI d) m = some ((), m') ∧ SM m' [] ∧ Eqv pFi m m' := by
  obtain ⟨hp, -⟩ := bAt_lt hB hno
  have e0 : Eqv pFi m (gfil (gup m 9 0 18 0) 54 0 0 64) := (Eqv.up (by unfold pFi; omega)).tr (Eqv_fil (fun _ => by unfold pFi; omega))
  have s0 : SM (gfil (gup m 9 0 18 0) 54 0 0 64) [] := by
    refine ⟨?_, fun i hi => by simp at hi, fun p hp => ?_⟩
    · unfold gfil
      rw [if_neg (by omega), gup_at, if_pos rfl]; rfl
    · unfold gfil
      rw [if_pos (by omega)]; rfl
  have hB1 : mB (gfil (gup m 9 0 18 0) 54 0 0 64) = mB m := mB_fi e0
  unfold X9_layFound
  simp only [gSet]
  rw [gJ0_e, m_pre, gCall_eq (X9_pw (by rw [hB1]; exact hB) hl), hB1, hno, if_neg (show oI (some p) ≠ -1 from nI_nm1 (by omega))]
  exact ⟨_, rfl, s0, e0⟩
theorem pSe_X {x x' : gM} (h : Eqv pSe x x') : Eqv pX x x' := h.mono (fun t k i q => by unfold pSe at q; unfold pX; omega)
theorem pFi_M {m m' : gM} (h : Eqv pFi m m') : Eqv pM m m' := h.mono (fun t k i q => by unfold pFi at q; unfold pM; omega)
theorem look_both {x m : gM} {N line d : Nat} (h : INV x m N) (hl : line < 1024) (hd : d ≤ 3) : ∃ L x' m', X1_lookUnlessHeld 0 (nI line) (nI d) x = some ((), x') ∧ X9_layFound (nI line) (nI d) m = some ((), m') ∧ LW L ∧ SY x' L ∧ SM m' L ∧ (∀ i, i < L.length → chn L d i) ∧ INV x' m' N ∧ mB m' = mB m ∧ Eqv pX x x' := by
  unfold X1_lookUnlessHeld
  rw [gCall_eq (X3_po h.rs h.bi hl)]
  cases hb : bAt (mB m) line with
  | none =>
    obtain ⟨x1, y1, y2, y3⟩ := x_look h.rs h.bi hl hd
    obtain ⟨m1, z1, z2, z3⟩ := m_look h.bi hl hd hb
    rw [if_pos (show oI none = -1 from rfl), gCall_eq y1]
    exact ⟨_, x1, m1, rfl, z1, cand_LW h.bi d, ⟨y2.1, y2.2.1⟩, z2, (cand_Q h.bi d).2, INV_congr h (pSe_X y3) (pFi_M z3), mB_fi z3, pSe_X y3⟩
  | some p =>
    obtain ⟨hp, -⟩ := bAt_lt h.bi hb
    obtain ⟨m1, z1, z2, z3⟩ := m_lookH (d := d) h.bi hl hb
    rw [if_neg (show oI (some p) ≠ -1 from nI_nm1 (by omega))]
    simp only [gSet]
    exact ⟨[], _, m1, rfl, z1, LW_nil, ⟨by rw [gup_at, if_pos rfl]; rfl, fun i hi => by simp at hi⟩, z2, fun i hi => by simp at hi, INV_congr h (Eqv.up (by unfold pX; omega)) (pFi_M z3), mB_fi z3, Eqv.up (by unfold pX; omega)⟩
theorem q_reach {x m : gM} {N : Nat} (h : INV x m N) (a b : Int32) : Ag (X8_reach a b x) (X9_reach a b m) N := by
  unfold X8_reach X9_reach
  rcases line_cases a with ⟨l, hl, rfl⟩ | ⟨h1, h2⟩
  · rcases depth_cases b with ⟨d, hd, rfl⟩ | ⟨g1, g2⟩
    · obtain ⟨L, x1, m1, y1, y2, y3, y4, y5, -, y6, -⟩ := look_both h hl hd
      rw [gCall_eq (lineT hl x).1, if_pos rfl, gCall_eq (lineT hl m).2, if_pos rfl, gCall_eq (depthT hd x).1, if_pos rfl, gCall_eq (depthT hd m).2, if_pos rfl, gCall_eq y1, gCall_eq y2, y4.1, y5.1]
      exact ⟨_, x1, m1, rfl, rfl, y6⟩
    · rw [gCall_eq (lineT hl x).1, if_pos rfl, gCall_eq (lineT hl m).2, if_pos rfl, gCall_eq (g1 x), gCall_eq (g2 m)]
      exact Ag.same h _ rfl rfl
  · rw [gCall_eq (h1 x), gCall_eq (h2 m)]
    exact Ag.same h _ rfl rfl
theorem dep_x {x m : gM} {N : Nat} (h : INV x m N) : x 3 0 2 = nI (bD (mB m)) ∧ bD (mB m) ≤ 3 := ⟨h.rs.1.2.2.1.trans h.bi.2.2.1.1, h.bi.2.2.1.2⟩
theorem dep_m {m : gM} {N : Nat} {β : Type} {kk : Int32 → Option β} (hB : BI (mB m) N) : gAt m 47 0 38 kk = kk (nI (bD (mB m))) := by
  rw [show (38 : Int32) = nI (36 + 2) from rfl, m_get (by omega), hB.2.2.1.1]
theorem q_candidate {x m : gM} {N : Nat} (h : INV x m N) (a b : Int32) : Ag (X8_candidate a b x) (X9_candidate a b m) N := by
  unfold X8_candidate X9_candidate
  rcases line_cases a with ⟨l, hl, rfl⟩ | ⟨h1, h2⟩
  · obtain ⟨L, x1, m1, y1, y2, y3, y4, y5, -, y6, -⟩ := look_both h hl (dep_x h).2
    have hlen := LW_len y3
    rw [gCall_eq (lineT hl x).1, if_pos rfl, gCall_eq (lineT hl m).2, if_pos rfl, (dep_x h).1, dep_m h.bi, gCall_eq y1, gCall_eq y2, y4.1, y5.1]
    by_cases hb : b = -1
    · rw [if_pos hb, if_pos hb]
      exact ⟨_, x1, m1, rfl, rfl, y6⟩
    · rw [if_neg hb, if_neg hb]
      rcases isIn_n b (n := L.length) (by omega) m1 with ⟨j, g1, rfl, g3⟩ | ⟨g1, g2⟩
      · rw [gCall_eq g3, if_pos rfl, if_neg (nI_neg (by omega)), if_neg (by rw [nI_leq (by omega) (by omega)]; omega), gAt_nI (show j < 64 by omega) (by omega), gAt_nI (show j < 64 by omega) (by omega), (y4.2 j g1).1, (y5.2.1 j g1).1]
        exact ⟨_, x1, m1, rfl, rfl, y6⟩
      · rw [gCall_eq g2]
        refine ⟨-1, x1, m1, ?_, rfl, y6⟩
        rcases g1 with g1 | ⟨j, hj, rfl, g1⟩
        · rw [if_pos g1]
        · rw [if_neg (nI_neg hj), if_pos (by rw [nI_leq (by omega) hj]; omega)]
  · rw [gCall_eq (h1 x), gCall_eq (h2 m)]
    exact Ag.same h _ rfl rfl
theorem q_victim {x m : gM} {N : Nat} (h : INV x m N) (a : Int32) : Ag (X8_victim a x) (X9_victim a m) N := by
  unfold X8_victim X9_victim
  rcases line_cases a with ⟨l, hl, rfl⟩ | ⟨h1, h2⟩
  · obtain ⟨L, x1, m1, y1, y2, y3, y4, y5, -, y6, -⟩ := look_both h hl (dep_x h).2
    have hlen := LW_len y3
    rw [gCall_eq (lineT hl x).1, if_pos rfl, gCall_eq (lineT hl m).2, if_pos rfl, (dep_x h).1, dep_m h.bi, gCall_eq y1, gCall_eq y2, y5.1, gCall_eq (x_choose y6.rs y6.bi y3 y4)]
    by_cases hz : L.length = 0
    · rw [if_pos hz, if_pos (show oI none = -1 from rfl), if_pos (by rw [hz]; rfl)]
      exact ⟨_, x1, m1, rfl, rfl, y6⟩
    · have ht := tk_lt (B := mB m1) (show 0 < L.length by omega)
      have hp := y3.1 _ ht
      rw [if_neg hz, show oI (some (tk (mB m1) L)) = nI (tk (mB m1) L) from rfl, if_neg (nI_nm1 (by omega)), if_neg (fun z => hz ((nI_z (by omega)).mp z)), gAt_nI (show tk (mB m1) L < 64 by omega) (by omega), (y4.2 _ ht).1, gAt_nI (show lp L (tk (mB m1) L) < 64 from hp) (by omega), y6.rs.2.2.2.2.1 _ hp]
      rw [gCall_eq (m_taken y6.bi y3 (by omega) y5), gAt_nI (show tk (mB m1) L < 64 by omega) (by omega), (y5.2.1 _ ht).1, gCall_eq (X9_la y6.bi hp), (y6.bi.2.2.2.2.2.2.1 _ hp).1]
      exact ⟨_, x1, m1, rfl, rfl, y6⟩
  · rw [gCall_eq (h1 x), gCall_eq (h2 m)]
    exact Ag.same h _ rfl rfl
def mvR (B : Nat → Int32) (L : gCL) (b : Int32) : Nat → Nat → Nat → Int32
  | 0, _, c => if b = -1 then nI c else -1
  | n + 1, t, c => match lo L t with
    | none => if b = -1 then nI c else -1
    | some j => if nI c = b then nI (bL B (lp L j)) - 1 else mvR B L b n j (c + 1)
theorem mvR_end {B : Nat → Int32} {L : gCL} {b : Int32} {t c : Nat} (h : lo L t = none) (n : Nat) : mvR B L b n t c = if b = -1 then nI c else -1 := by
  cases n with
  | zero => rfl
  | succ n => simp only [mvR, h]
theorem mvR_neg {B : Nat → Int32} {L : gCL} {b : Int32} (hb : b < -1) : ∀ n t c, c + n ≤ 3 → mvR B L b n t c = -1 := by
  have h1 : b ≠ -1 := fun z => by rw [z] at hb; exact absurd hb (by decide)
  have h2 : b < 0 := Int32.lt_trans hb (by decide)
  intro n
  induction n with
  | zero => intro t c _; simp only [mvR]; rw [if_neg h1]
  | succ n ih =>
    intro t c hc
    simp only [mvR]
    cases lo L t with
    | none => dsimp only; rw [if_neg h1]
    | some j => dsimp only; rw [if_neg (fun z => neg_ne h2 (show c < 2147483648 by omega) z.symm)]; exact ih j (c + 1) (by omega)
theorem q_moved {x m : gM} {N : Nat} (h : INV x m N) (a b : Int32) : Ag (X8_moved a b x) (X9_moved a b m) N := by
  unfold X8_moved X9_moved
  rcases line_cases a with ⟨l, hl, rfl⟩ | ⟨h1, h2⟩
  · obtain ⟨L, x1, m1, y1, y2, y3, y4, y5, yc, y6, ye⟩ := look_both h hl (dep_x h).2
    have hlen := LW_len y3
    have hd := (dep_x h).2
    have hS := y5.2.1
    have hx : ∀ R0, (0 < L.length → mvR (mB m1) L b (bD (mB m)) (tk (mB m1) L) 0 = R0) → (L.length = 0 → (if b = -1 then nI 0 else -1) = R0) → gL3 FU (X8_moved_b55 b (fun v7 m8 => gAt m8 17 0 v7 (fun x9 => gAt m8 29 0 x9 (fun x10 => some (x10, m8)))) (fun v11 m12 => if b = -1 then some (v11, m12) else some (-1, m12))) (oI (if L.length = 0 then none else some (tk (mB m1) L))) 0 0 x1 = some (R0, x1) := by
      intro R0 hR1 hR0
      have he : ∀ c : Nat, (if b = -1 then nI c else -1) = R0 → (if b = -1 then some (nI c, x1) else some (-1, x1)) = some (R0, x1) := by
        intro c hc
        rw [← hc]
        split <;> rfl
      refine gL3_rec (fun j p q r σ => σ = x1 ∧ ∃ c, q = nI c ∧ ((p = -1 ∧ (if b = -1 then nI c else -1) = R0) ∨ ∃ n t', j = n + 1 ∧ r = nI c ∧ p = nI t' ∧ t' < L.length ∧ chn L n t' ∧ c + n ≤ 3 ∧ mvR (mB m1) L b n t' c = R0)) (fun r => r = some (R0, x1)) ?_ FU (bD (mB m) + 1) _ 0 0 x1 (by rw [FU_eq]; omega) ⟨rfl, 0, rfl, ?_⟩
      · rintro j p q r σ K ⟨rfl, c, rfl, hc⟩ hK
        unfold X8_moved_b55
        rcases hc with ⟨rfl, hc⟩ | ⟨n, t', rfl, rfl, rfl, ht, hch, hcn, hr⟩
        · rw [if_pos (show (-1 : Int32) = -1 from rfl)]
          dsimp only
          rw [he c hc]
          split <;> rfl
        · by_cases h3 : 3 ≤ c
          · rw [if_pos (by rw [li3, nI_leq (by omega) (by omega)]; exact h3)]
            have : n = 0 := by omega
            subst this
            rw [chn] at hch
            rw [mvR_end hch] at hr
            exact he c hr
          · rw [if_neg (by rw [li3, nI_leq (by omega) (by omega)]; exact h3), if_neg (nI_nm1 (by omega)), gAt_nI (show t' < 64 by omega) (by omega), (y4.2 t' ht).2]
            cases hlo : lo L t' with
            | none =>
              rw [mvR_end hlo] at hr
              rw [if_pos (show oI none = -1 from rfl), gLet]
              exact hK 0 _ _ _ _ (by omega) ⟨rfl, c, rfl, Or.inl ⟨rfl, hr⟩⟩
            | some j =>
              have hjt := y3.2.2 t' j ht hlo
              cases n with
              | zero => rw [chn] at hch; rw [hch] at hlo; cases hlo
              | succ n =>
                have hpj := y3.1 j (by omega)
                simp only [mvR, hlo] at hr
                rw [show oI (some j) = nI j from rfl, if_neg (nI_nm1 (by omega))]
                by_cases hcb : nI c = b
                · rw [if_pos hcb] at hr
                  rw [if_pos hcb]
                  dsimp only
                  rw [gAt_nI (show j < 64 by omega) (by omega), (y4.2 j (by omega)).1, gAt_nI (show lp L j < 64 from hpj) (by omega), y6.rs.2.2.2.2.1 _ hpj, (y6.bi.2.2.2.2.2.2.1 _ hpj).1, hr]
                · rw [if_neg hcb] at hr
                  rw [if_neg hcb, gLet, gLet, nI_1]
                  exact hK (n + 1) _ _ _ _ (by omega) ⟨rfl, c + 1, rfl, Or.inr ⟨n, j, rfl, rfl, rfl, by omega, hch j hlo, by omega, hr⟩⟩
      · by_cases hz : L.length = 0
        · rw [if_pos hz]; exact Or.inl ⟨rfl, hR0 hz⟩
        · rw [if_neg hz]
          have ht := tk_lt (B := mB m1) (show 0 < L.length by omega)
          exact Or.inr ⟨bD (mB m), _, rfl, rfl, rfl, ht, yc _ ht, by omega, hR1 (by omega)⟩
    have hm : ∀ R0, (0 < L.length → mvR (mB m1) L b (bD (mB m)) (tk (mB m1) L) 0 = R0) → (L.length = 0 → (if b = -1 then nI 0 else -1) = R0) → gL2 FU (X9_moved_b45 b (fun v8 m9 => gAt m9 53 0 v8 (fun x10 => gAt m9 52 0 x10 (fun x11 => gCall (X9_lineAt x11 m9) (fun r13 m12 => some (r13, m12))))) (fun v14 m15 => if b = -1 then some (v14, m15) else some (-1, m15))) 0 (oI (if L.length = 0 then none else some (tk (mB m1) L))) m1 = some (R0, m1) := by
      intro R0 hR1 hR0
      have he : ∀ c : Nat, (if b = -1 then nI c else -1) = R0 → (if b = -1 then some (nI c, m1) else some (-1, m1)) = some (R0, m1) := by
        intro c hc
        rw [← hc]
        split <;> rfl
      refine gL2_rec (fun j q p σ => σ = m1 ∧ ∃ c, q = nI c ∧ ((p = -1 ∧ (if b = -1 then nI c else -1) = R0) ∨ ∃ n t', j = n + 1 ∧ p = nI t' ∧ t' < L.length ∧ chn L n t' ∧ c + n ≤ 3 ∧ mvR (mB m1) L b n t' c = R0)) (fun r => r = some (R0, m1)) ?_ FU (bD (mB m) + 1) 0 _ m1 (by rw [FU_eq]; omega) ⟨rfl, 0, rfl, ?_⟩
      · rintro j q p σ K ⟨rfl, c, rfl, hc⟩ hK
        unfold X9_moved_b45
        rcases hc with ⟨rfl, hc⟩ | ⟨n, t', rfl, rfl, ht, hch, hcn, hr⟩
        · rw [if_pos (show (-1 : Int32) = -1 from rfl)]
          exact he c hc
        · rw [if_neg (nI_nm1 (by omega)), gAt_nI (show t' < 64 by omega) (by omega), (hS t' ht).2]
          cases hlo : lo L t' with
          | none =>
            rw [mvR_end hlo] at hr
            rw [if_pos (show oI none = -1 from rfl)]
            exact he c hr
          | some j =>
            have hjt := y3.2.2 t' j ht hlo
            cases n with
            | zero => rw [chn] at hch; rw [hch] at hlo; cases hlo
            | succ n =>
              have hpj := y3.1 j (by omega)
              simp only [mvR, hlo] at hr
              rw [show oI (some j) = nI j from rfl, if_neg (nI_nm1 (by omega))]
              by_cases hcb : nI c = b
              · rw [if_pos hcb] at hr
                rw [if_pos hcb]
                dsimp only
                rw [gAt_nI (show t' < 64 by omega) (by omega), (hS t' ht).2, hlo, show oI (some j) = nI j from rfl, gAt_nI (show j < 64 by omega) (by omega), (hS j (by omega)).1, gCall_eq (X9_la y6.bi hpj), hr]
              · rw [if_neg hcb] at hr
                rw [if_neg hcb, gLet, nI_1, gAt_nI (show t' < 64 by omega) (by omega), (hS t' ht).2, hlo]
                exact hK (n + 1) _ _ _ (by omega) ⟨rfl, c + 1, rfl, Or.inr ⟨n, j, rfl, rfl, by omega, hch j hlo, by omega, hr⟩⟩
      · by_cases hz : L.length = 0
        · rw [if_pos hz]; exact Or.inl ⟨rfl, hR0 hz⟩
        · rw [if_neg hz]
          have ht := tk_lt (B := mB m1) (show 0 < L.length by omega)
          exact Or.inr ⟨bD (mB m), _, rfl, rfl, ht, yc _ ht, by omega, hR1 (by omega)⟩
    have hR : ∃ R0, (0 < L.length → mvR (mB m1) L b (bD (mB m)) (tk (mB m1) L) 0 = R0) ∧ (L.length = 0 → (if b = -1 then nI 0 else -1) = R0) := by
      by_cases hz : L.length = 0
      · exact ⟨_, fun z => by omega, fun _ => rfl⟩
      · exact ⟨_, fun _ => rfl, fun z => absurd z hz⟩
    obtain ⟨R0, hR1, hR0⟩ := hR
    rw [gCall_eq (lineT hl x).1, if_pos rfl, gCall_eq (lineT hl m).2, if_pos rfl, (dep_x h).1, gCall_eq y1, gCall_eq (x_choose y6.rs y6.bi y3 y4), gJ1_e, gJ1_e, hx R0 hR1 hR0]
    by_cases hb : -1 ≤ b
    · rw [if_pos hb, dep_m h.bi, gCall_eq y2, gJ1_e, y5.1]
      have hm' := hm R0 hR1 hR0
      by_cases hz : L.length = 0
      · rw [if_pos hz] at hm'
        rw [if_pos (by rw [hz]; rfl)]
        dsimp only
        rw [gJ1_e, gJ1_e]
        exact ⟨R0, x1, m1, rfl, hm', y6⟩
      · rw [if_neg hz] at hm'
        rw [if_neg (fun z => hz ((nI_z (by omega)).mp z)), gCall_eq (m_taken y6.bi y3 (by omega) y5)]
        dsimp only
        rw [gJ1_e, gJ1_e]
        exact ⟨R0, x1, m1, rfl, hm', y6⟩
    · have hb2 : b < -1 := by rw [← Int32.not_le]; exact hb
      have hb3 : b ≠ -1 := fun z => hb (by rw [z]; decide)
      have hR9 : R0 = -1 := by
        by_cases hz : L.length = 0
        · rw [← hR0 hz, if_neg hb3]
        · rw [← hR1 (by omega)]; exact mvR_neg hb2 _ _ _ (by omega)
      rw [if_neg hb, hR9]
      exact ⟨-1, x1, m, rfl, rfl, INV_congr h ye.2 Eqv.rf⟩
  · rw [gCall_eq (h1 x), gCall_eq (h2 m)]
    exact Ag.same h _ rfl rfl
