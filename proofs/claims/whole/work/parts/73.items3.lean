/-! LAYER 2: texts: asks. -/
theorem it_ask {n p d o T : Nat} {b : Nat → Nat} {x y σ τ : gM} {S : gT} (hT4 : T < 4) (hT : TPx n b x) (hy : TPm n b y) (Y : SYN n b x y T p d o S σ τ) (hp : p < n) (hb : b p = 114) : ITM n b x y T p σ (X9_askItem τ) := by
  obtain ⟨R, Y2, bg, t1, t2, ok, tk, h8, h14, e, hpn⟩ := Y
  have hd : d = 0 ∨ d = 2 := by omega
  have hn := hT.1
  have hbb : ∀ i, i < n → b i < 256 := fun i hi => (hT.2 i hi).1
  have ho := R.2.2.2.2.2.2.2
  unfold X9_askItem
  have hs := sign_eq (a := nI p) (hT.2 p hp).1 (by unfold ws; omega) R.2.2.2.2.1 R.2.2.2.2.2.1 R.2.2.2.2.2.2.1 ho
  rw [if_neg (by omega), if_neg (by omega), if_pos ⟨hb, hd⟩] at hs
  have K1 : ∀ Q, CP n (p + 1) (gup σ 0 0 2 1) Q → CP n p σ Q := fun Q hQ => CP_sg hT R hp (by unfold dg; omega) hs hQ
  have R1 : RTS x 1 o (gup σ 0 0 2 1) := RTS_up R (by omega)
  obtain ⟨q1, τ1, n1, n2, n3, n4, n5, n6, n7⟩ := nt_ok (TPm_e hy e) (tok_nx tk hp (by unfold dg; omega)) (show p + 1 ≤ n by omega)
  rw [gCall_eq n1]
  have e1 : Eqv (pRm T) y τ1 := e.tr (n5.mono pNT_R)
  rcases num (lo := 0) (hi := 1023) hT R1 (by unfold due; omega) n2 n3 n4 n7 with ⟨f, g1, g2, g3, g4⟩ | ⟨v, k, g1, g2, g3, g4, g5, g6, g7, g8, g9⟩
  · rw [gCall_eq (show X9_numberIn 0 1023 τ1 = _ from g1), if_neg (by rw [nI_z (by omega)]; exact g2)]
    exact it_fail n6 n3 e1 ⟨g2, g3⟩ (K1 _ g4)
  rw [gCall_eq (show X9_numberIn 0 1023 τ1 = _ from g1), if_pos rfl]
  obtain ⟨σ1, x1, x2, x3, x4, x5, x6⟩ := en_1 (v := v) (q := q1) (S := S) (σ := nS (gup σ 0 0 2 1) q1 v) (by omega) ok (tRx_nS (tRx_up t1 (by omega))) nS_4 (by rw [nS_o (by omega), gup_at, if_pos rfl]; rfl) nS_3 g3
  have ok1 : SOK (em S v nM) := e1_ok ok (show v < 1024 by omega) (Or.inl rfl)
  have R2 : RTS x 2 o σ1 := RTS_N R1 (x6.mono pF_E) x4 x3 (by omega) ((pF_nS (t := 0) (k := 0) (i := 1) x6 (by unfold pF pTx; omega) (by omega)).trans R1.2.2.2.2.2.2.1) ho
  have K2 : ∀ Q, CP n (q1 + k) σ1 Q → CP n p σ Q := fun Q hQ => K1 _ (g9 _ (CP_fl hT R1 g6 g8 x1 R2 hQ))
  obtain ⟨q2, τ2, m1, m2, m3, m4, m5, m6, m7⟩ := nt_ok (TPm_e hy e1) g7 g6
  rw [gCall_eq m1]
  have e2 : Eqv (pRm T) y τ2 := e1.tr (m5.mono pNT_R)
  have K2b : ∀ Q, CP n q2 σ1 Q → CP n p σ Q := fun Q hQ => K2 _ (CP_ws (TPx_e hT R2.1) R2.2.1 R2.2.2.2.1 m3 hQ (q2 - (q1 + k)) (q1 + k) (by omega) m4)
  have h162 : ∀ i, i < o → σ1 16 0 i = σ 16 0 i := fun i hi => by
    rw [pF_nS x6 (by unfold pF pTx; omega) (by omega), gup_t (by omega)]
  have h512 : ∀ i, i < o → τ2 51 0 i = τ 51 0 i := fun i hi => by
    rw [m5 51 0 i (by unfold pNT; omega), n5 51 0 i (by unfold pNT; omega)]
  have h142 : τ2 9 0 14 = nI o := by
    rw [m5 9 0 14 (by unfold pNT; omega), n5 9 0 14 (by unfold pNT; omega)]; exact h14
  have t22 : tRm T S τ2 := tRm_nt (tRm_nt t2 n5) m5
  by_cases c : q2 < n ∧ b q2 = 43
  · have c1 := c.1
    have c2 := c.2
    rw [if_pos (show τ2 9 0 9 = 43 from (tok_sg (c := 43) hbb (by unfold sgn; omega) m7).mpr c)]
    have hs2 := sign_eq (a := nI q2) (hT.2 q2 c1).1 (by unfold ws; omega) R2.2.2.2.2.1 R2.2.2.2.2.2.1 R2.2.2.2.2.2.2.1 ho
    rw [if_neg (by omega), if_neg (by omega), if_neg (by omega), if_neg (by omega), if_pos ⟨c2, rfl⟩] at hs2
    have R3 : RTS x 3 o (gup σ1 0 0 2 3) := RTS_up R2 (by omega)
    have K3 : ∀ Q, CP n (q2 + 1) (gup σ1 0 0 2 3) Q → CP n p σ Q := fun Q hQ => K2b _ (CP_sg hT R2 c1 (by unfold dg; omega) hs2 hQ)
    obtain ⟨q3, τ3, l1, l2, l3, l4, l5, l6, l7⟩ := nt_ok (TPm_e hy e2) (tok_nx m7 c1 (by unfold dg; omega)) (show q2 + 1 ≤ n by omega)
    rw [gCall_eq l1]
    have e3 : Eqv (pRm T) y τ3 := e2.tr (l5.mono pNT_R)
    rcases num (lo := 0) (hi := 1023) hT R3 (by unfold due; omega) l2 l3 l4 l7 with ⟨f, j1, j2, j3, j4⟩ | ⟨u, r, j1, j2, j3, j4, j5, j6, j7, j8, j9⟩
    · rw [gCall_eq (show X9_numberIn 0 1023 τ3 = _ from j1), if_neg (by rw [nI_z (by omega)]; exact j2)]
      exact it_fail l6 l3 e3 ⟨j2, j3⟩ (K3 _ j4)
    rw [gCall_eq (show X9_numberIn 0 1023 τ3 = _ from j1), if_pos rfl]
    obtain ⟨σ2, y1, y2, y3, y4, y5, y6, y7⟩ := en_3 (v := u) (q := q3) (S := em S v nM) (σ := nS (gup σ1 0 0 2 3) q3 u) (by omega) (tRx_nS (tRx_up x2 (by omega))) nS_4 (by rw [nS_o (by omega), gup_at, if_pos rfl]; rfl) nS_3 j3
    have R4 : RTS x 4 o σ2 := RTS_N R3 (y7.mono pF_E) y4 y3 (by omega) ((pF_nS (t := 0) (k := 0) (i := 1) y7 (by unfold pF pTx; omega) (by omega)).trans R3.2.2.2.2.2.2.1) ho
    have K4 : ∀ Q, CP n (q3 + r) σ2 Q → CP n p σ Q := fun Q hQ => K3 _ (j9 _ (CP_fl hT R3 j6 j8 y1 R4 hQ))
    have h5 : σ2 0 0 5 = nI v := by
      rw [y5, nS_o (by omega), gup_at, if_neg (by omega)]; exact x5
    obtain ⟨q4, τ4, a1, a2, a3, a4, a5, a6, a7⟩ := nt_ok (TPm_e hy e3) j7 j6
    rw [gCall_eq a1]
    have e4 : Eqv (pRm T) y τ4 := e3.tr (a5.mono pNT_R)
    by_cases c4 : q4 < n ∧ b q4 = 42
    · have c41 := c4.1
      have c42 := c4.2
      rw [if_pos (show τ4 9 0 9 = 42 from (tok_sg (c := 42) hbb (by unfold sgn; omega) a7).mpr c4)]
      have hs4 := sign_eq (a := nI q4) (hT.2 q4 c41).1 (by unfold ws; omega) R4.2.2.2.2.1 R4.2.2.2.2.2.1 R4.2.2.2.2.2.2.1 ho
      rw [if_neg (by omega), if_neg (by omega), if_neg (by omega), if_neg (by omega), if_neg (by omega), if_pos ⟨c42, rfl⟩] at hs4
      have R5 : RTS x 5 o (gup σ2 0 0 2 5) := RTS_up R4 (by omega)
      have K5 : ∀ Q, CP n (q4 + 1) (gup σ2 0 0 2 5) Q → CP n p σ Q := fun Q hQ => K4 _ (CP_ws (TPx_e hT R4.1) R4.2.1 R4.2.2.2.1 a3 (CP_sg hT R4 c41 (by unfold dg; omega) hs4 hQ) (q4 - (q3 + r)) (q3 + r) (by omega) a4)
      obtain ⟨q5, τ5, f1, f2, f3, f4, f5, f6, f7⟩ := nt_ok (TPm_e hy e4) (tok_nx a7 c41 (by unfold dg; omega)) (show q4 + 1 ≤ n by omega)
      rw [gCall_eq f1]
      have e5 : Eqv (pRm T) y τ5 := e4.tr (f5.mono pNT_R)
      rcases num (lo := 1) (hi := 99) hT R5 (by unfold due; omega) f2 f3 f4 f7 with ⟨f, d1, d2, d3, d4⟩ | ⟨w, s, d1, d2, d3, d4, d5, d6, d7, d8, d9⟩
      · rw [gCall_eq (show X9_numberIn 1 99 τ5 = _ from d1), if_neg (by rw [nI_z (by omega)]; exact d2)]
        exact it_fail f6 f3 e5 ⟨d2, d3⟩ (K5 _ d4)
      rw [gCall_eq (show X9_numberIn 1 99 τ5 = _ from d1), if_pos rfl]
      obtain ⟨σ3, z1, z2, z3, z4, z5⟩ := en_5 (v := w) (q := q5) (line := v) (st := u) (S := em S v nM) (σ := nS (gup σ2 0 0 2 5) q5 w) (by omega) ok1 (tRx_nS (tRx_up y2 (by omega))) nS_4 (by rw [nS_o (by omega), gup_at, if_pos rfl]; rfl) nS_3 ⟨d2, d3⟩ (by rw [nS_o (by omega), gup_at, if_neg (by omega)]; exact h5) (by rw [nS_o (by omega), gup_at, if_neg (by omega)]; exact y6) (by omega) (by omega)
      rw [strides_eq (by omega) d2] at z2
      have R6 : RTS x 0 o σ3 := RTS_N R5 (z5.mono pF_E) z4 z3 (by omega) ((pF_nS (t := 0) (k := 0) (i := 1) z5 (by unfold pF pTx; omega) (by omega)).trans R5.2.2.2.2.2.2.1) ho
      have t25 : tRm T S τ5 := tRm_nt (tRm_nt (tRm_nt t22 l5) a5) f5
      rw [gJ0_e]
      refine m_strides (S := S) (line := v) (st := u) (c := w) hT4 ok t25 g4 j4 d4 (by omega) (by omega) d3 (fun τ6 b1 b2 => ?_)
      refine fin0 (a := q5 + s) hT hy R6 (BGS_cg (o := o) (σ := σ) (τ := τ) bg (eN_pre _).1 (fun i hi => ?_) (fun i hi => ?_)) z2 b1 (eN_ok ok (fun j => ⟨Nat.mod_lt _ (by omega), Or.inl rfl⟩) _) ?_ ?_ ?_ d6 (by omega) (fun Q hQ => K5 _ (d9 _ (CP_fl hT R5 d6 d8 z1 R6 hQ)))
      · rw [pF_nS z5 (by unfold pF pTx; omega) (by omega), gup_t (by omega), pF_nS y7 (by unfold pF pTx; omega) (by omega), gup_t (by omega)]; exact h162 i hi
      · rw [b2 51 0 i (by unfold pTm; omega), f5 51 0 i (by unfold pNT; omega), a5 51 0 i (by unfold pNT; omega), l5 51 0 i (by unfold pNT; omega)]; exact h512 i hi
      · rw [b2 9 0 14 (by unfold pTm; omega), f5 9 0 14 (by unfold pNT; omega), a5 9 0 14 (by unfold pNT; omega), l5 9 0 14 (by unfold pNT; omega)]; exact h142
      · exact e5.tr (b2.mono pTm_R)
      · rw [b2 9 0 7 (by unfold pTm; omega)]; exact d7
    · rw [if_neg (show ¬ τ4 9 0 9 = 42 from fun z => c4 ((tok_sg (c := 42) hbb (by unfold sgn; omega) a7).mp z))]
      refine it_fail (f := 1) a6 a3 e4 (by omega) (K4 _ ?_)
      exact CP_bad hT R4 a2 a3 a4 a7 (fun _ _ => by omega) (fun h => ⟨fun _ => by omega, fun _ => by omega, fun _ => by omega, fun h2 => absurd ⟨h, h2⟩ c4, fun _ => by omega⟩) (fun _ => by omega)
  · rw [if_neg (show ¬ τ2 9 0 9 = 43 from fun z => c ((tok_sg (c := 43) hbb (by unfold sgn; omega) m7).mp z))]
    obtain ⟨τ3, z1, z2, z3⟩ := m_lay1 (l := v) (v := -1) hT4 ok t22
    rw [g4, gCall_eq z1]
    right
    refine ⟨q2, 2, o, em S v nM, σ1, τ3, rfl, by omega, ⟨R2, Or.inr ⟨rfl, fun h h2 => c ⟨h, h2⟩⟩, BGS_cg (o := o) (σ := σ) (τ := τ) bg (eN_pre (S := S) (w := fun _ => (v, nM)) 1).1 h162 (fun i hi => ?_), x2, z2, ok1, TOK_cg m7 ?_ ?_ ?_, ?_, ?_, e2.tr (z3.mono pTm_R), m3⟩, K2b⟩
    · rw [z3 51 0 i (by unfold pTm; omega)]; exact h512 i hi
    · rw [z3 9 0 7 (by unfold pTm; omega)]
    · rw [z3 9 0 9 (by unfold pTm; omega)]
    · rw [z3 9 0 10 (by unfold pTm; omega)]
    · rw [z3 9 0 8 (by unfold pTm; omega)]; exact m6
    · rw [z3 9 0 14 (by unfold pTm; omega)]; exact h142
/-- any item -/
theorem item {n p d o T : Nat} {b : Nat → Nat} {x y σ τ : gM} {S : gT} (hT4 : T < 4) (hT : TPx n b x) (hy : TPm n b y) (Y : SYN n b x y T p d o S σ τ) (hp : p < n) : ITM n b x y T p σ (X9_item τ) := by
  have hbb : ∀ i, i < n → b i < 256 := fun i hi => (hT.2 i hi).1
  have tk := Y.2.2.2.2.2.2.1
  have ts : ∀ c, sgn c → (τ 9 0 9 = nI c ↔ p < n ∧ b p = c) := fun c hc => tok_sg hbb hc tk
  unfold X9_item
  simp only [gCall_id]
  by_cases c1 : b p = 40
  · rw [if_pos (show τ 9 0 9 = 40 from (ts 40 (by unfold sgn; omega)).mpr ⟨hp, c1⟩)]
    exact it_open hT4 hT hy Y hp c1
  rw [if_neg (show ¬ τ 9 0 9 = 40 from fun z => c1 ((ts 40 (by unfold sgn; omega)).mp z).2)]
  by_cases c2 : b p = 41
  · rw [if_pos (show τ 9 0 9 = 41 from (ts 41 (by unfold sgn; omega)).mpr ⟨hp, c2⟩)]
    exact it_shut hT4 hT hy Y hp c2
  rw [if_neg (show ¬ τ 9 0 9 = 41 from fun z => c2 ((ts 41 (by unfold sgn; omega)).mp z).2)]
  by_cases c3 : b p = 114
  · rw [if_pos (show τ 9 0 9 = 114 from (ts 114 (by unfold sgn; omega)).mpr ⟨hp, c3⟩)]
    exact it_ask hT4 hT hy Y hp c3
  rw [if_neg (show ¬ τ 9 0 9 = 114 from fun z => c3 ((ts 114 (by unfold sgn; omega)).mp z).2)]
  by_cases c4 : b p = 119
  · rw [if_pos (show τ 9 0 9 = 119 from (ts 119 (by unfold sgn; omega)).mpr ⟨hp, c4⟩)]
    exact it_write hT4 hT hy Y hp c4
  rw [if_neg (show ¬ τ 9 0 9 = 119 from fun z => c4 ((ts 119 (by unfold sgn; omega)).mp z).2)]
  refine it_bad (f := 1) Y (by omega) ?_
  have hd := Y.2.1
  exact CP_bad hT Y.1 (Nat.le_refl _) (Nat.le_of_lt hp) (fun i h1 h2 => by omega) tk (fun _ _ => by omega) (fun _ => ⟨fun h => by omega, fun h => by omega, fun h => by omega, fun _ => by omega, fun _ => by omega⟩) (fun h => by omega)
