/-! LAYER 2: texts: loops that close, writes, asks. -/
theorem tok_nx {n q : Nat} {b : Nat → Nat} {τ : gM} (tk : TOK n b q τ) (hq : q < n) (hd : ¬ dg (b q)) : τ 9 0 7 = nI (q + 1) := by
  rcases tk with ⟨z1, z2, z3⟩ | ⟨z1, z2, z3, _⟩ | ⟨z1, z2, z3, z4, z5, z6⟩
  · omega
  · exact absurd z2 hd
  · exact z6
theorem tRx_nS {S : gT} {σ : gM} {q v : Nat} (h : tRx S σ) : tRx S (nS σ q v) := tRx_up (tRx_up h (by omega)) (by omega)
theorem pF_nS {σ σ1 : gM} {q v t k i : Nat} (h : Eqv pF (nS σ q v) σ1) (hp : ¬ pF t k i) (hq : ¬ (t = 0 ∧ k = 0 ∧ (i = 3 ∨ i = 4))) : σ1 t k i = σ t k i := (h t k i hp).trans (nS_o hq)
theorem pE_nS {σ σ1 : gM} {q v t k i : Nat} (h : Eqv pE (nS σ q v) σ1) (hp : ¬ pE t k i) (hq : ¬ (t = 0 ∧ k = 0 ∧ (i = 3 ∨ i = 4))) : σ1 t k i = σ t k i := (h t k i hp).trans (nS_o hq)
theorem RTS_N {x σ σ1 : gM} {d d1 o q v : Nat} (R : RTS x d o σ) (h : Eqv pE (nS σ q v) σ1) (h4 : σ1 0 0 4 = -1) (h2 : σ1 0 0 2 = nI d1) (hd : d1 ≤ 9) {o1 : Nat} (h1 : σ1 0 0 1 = nI o1) (ho : o1 ≤ 4) : RTS x d1 o1 σ1 := by
  obtain ⟨a1, a2, a3, a4, a5, a6, a7, a8⟩ := R
  exact ⟨pE_R (nS_e a1) h, (pE_nS h (by unfold pE pTo pTx; omega) (by omega)).trans a2, (pE_nS h (by unfold pE pTo pTx; omega) (by omega)).trans a3, h4, h2, hd, h1, ho⟩
theorem it_fail {n p q f T : Nat} {b : Nat → Nat} {x y σ τ : gM} (h8 : τ 9 0 8 = nI q) (hq : q ≤ n) (e : Eqv (pRm T) y τ) (hf : f ≠ 0 ∧ f ≤ 4) (h : CP n p σ (FX x f q)) : ITM n b x y T p σ (some (nI f, τ)) := Or.inl ⟨f, q, τ, rfl, hf.1, hf.2, h8, hq, e, h⟩
theorem it_shut {n p d o T : Nat} {b : Nat → Nat} {x y σ τ : gM} {S : gT} (hT4 : T < 4) (hT : TPx n b x) (hy : TPm n b y) (Y : SYN n b x y T p d o S σ τ) (hp : p < n) (hb : b p = 41) : ITM n b x y T p σ (X9_shutItem τ) := by
  have Y' := Y
  obtain ⟨R, Y2, bg, t1, t2, ok, tk, h8, h14, e, hpn⟩ := Y
  have hd : d = 0 ∨ d = 2 := by omega
  have hsz := ok.1
  unfold X9_shutItem
  rw [h14]
  rcases Nat.eq_zero_or_pos o with z | z
  · rw [if_pos (by rw [z]; rfl)]
    refine it_bad (f := 1) Y' (by omega) ?_
    exact CP_bad hT R (Nat.le_refl _) hpn (fun i h1 h2 => by omega) tk (fun _ h => by unfold dg at h; omega) (fun _ => by omega) (fun h => by omega)
  · have ho := R.2.2.2.2.2.2.2
    rw [if_neg (by rw [nI_z (by omega)]; omega)]
    have hs := sign_eq (a := nI p) (hT.2 p hp).1 (by unfold ws; omega) R.2.2.2.2.1 R.2.2.2.2.2.1 R.2.2.2.2.2.2.1 ho
    rw [if_neg (by omega), if_pos ⟨hb, hd, z⟩] at hs
    have K1 : ∀ Q, CP n (p + 1) (gup σ 0 0 2 9) Q → CP n p σ Q := fun Q hQ => CP_sg hT R hp (by unfold dg; omega) hs hQ
    have R1 : RTS x 9 o (gup σ 0 0 2 9) := RTS_up R (by omega)
    obtain ⟨q1, τ1, n1, n2, n3, n4, n5, n6, n7⟩ := nt_ok (TPm_e hy e) (tok_nx tk hp (by unfold dg; omega)) (show p + 1 ≤ n by omega)
    rw [gCall_eq n1]
    have e1 : Eqv (pRm T) y τ1 := e.tr (n5.mono pNT_R)
    rcases num (lo := 1) (hi := 9) hT R1 (by unfold due; omega) n2 n3 n4 n7 with ⟨f, g1, g2, g3, g4⟩ | ⟨v, k, g1, g2, g3, g4, g5, g6, g7, g8, g9⟩
    · rw [gCall_eq (show X9_numberIn 1 9 τ1 = _ from g1), if_neg (by rw [nI_z (by omega)]; exact g2)]
      exact it_fail n6 n3 e1 ⟨g2, g3⟩ (K1 _ g4)
    · rw [gCall_eq (show X9_numberIn 1 9 τ1 = _ from g1), if_pos rfl]
      obtain ⟨fr, b1, b2, b3⟩ := bg (o - 1) (by omega)
      have t2' := tRm_nt t2 n5
      obtain ⟨σ1, x1, x2, x3, x4, x5, x6⟩ := en_9 (v := v) (q := q1) (fr := fr) (S := S) (σ := nS (gup σ 0 0 2 9) q1 v) (by have := hT.1; omega) ok (tRx_nS (tRx_up t1 (by omega))) nS_4 (by rw [nS_o (by omega), gup_at, if_pos rfl]; rfl) nS_3 ⟨g2, g3⟩ ⟨z, ho⟩ (by rw [nS_o (by omega), gup_at, if_neg (by omega)]; exact R.2.2.2.2.2.2.1) (by rw [nS_o (by omega), gup_t (by omega)]; exact b2) b1
      have R2 : RTS x 0 (o - 1) σ1 := RTS_N R1 x6 x4 x3 (by omega) x5 (by omega)
      have h14' : τ1 9 0 14 = nI o := (n5 9 0 14 (by unfold pNT; omega)).trans h14
      rw [gLet, h14', li1, pk_sub (by omega), gSet, gup_at, if_neg (by decide), t2'.1, gAt_nI (show 1201 * T < 4804 by omega) (by omega), gup_t (by omega), t2'.2.1, gJ0_e]
      refine m_close (o := o - 1) (fr := fr) (c := v) (S := S) hT4 ok ?_ (by omega) (by rw [gup_at, if_pos rfl]) ?_ b1 (by rw [gup_at, if_neg (by omega)]; exact g4) ⟨g2, g3⟩ (fun τ5 w1 w2 => ?_)
      · obtain ⟨a0, a1, a2, a3⟩ := t2'
        exact ⟨by simp [gup]; exact a0, by simp [gup]; exact a1, by simp [gup]; exact a2, fun i hi => ⟨by simp [gup]; exact (a3 i hi).1, by simp [gup]; exact (a3 i hi).2⟩⟩
      · rw [gup_t (by omega), n5 51 0 _ (by unfold pNT; omega)]; exact b3
      · have ok2 := eN_okC (fr := fr) (L := S.1 - fr) (n := v - 1) ok (by omega) _ (Nat.le_refl _)
        refine fin0 (a := q1 + k) hT hy R2 (BGS_cg (o := o - 1) (σ := σ) (τ := τ) (fun i hi => bg i (by omega)) (eN_pre _).1 (fun i hi => ?_) (fun i hi => ?_)) x2 w1 ok2 ?_ ?_ ?_ g6 (by omega) (fun Q hQ => K1 _ (g9 _ (CP_fl hT R1 g6 g8 x1 R2 hQ)))
        · rw [pE_nS x6 (by unfold pE pTo pTx; omega) (by omega), gup_t (by omega)]
        · rw [w2 51 0 i (by unfold pTm; omega), gup_t (by omega), n5 51 0 i (by unfold pNT; omega)]
        · rw [w2 9 0 14 (by unfold pTm; omega), gup_at, if_pos rfl]
        · exact (e1.tr (Eqv.up (by unfold pRm; omega))).tr (w2.mono pTm_R)
        · rw [w2 9 0 7 (by unfold pTm; omega), gup_at, if_neg (by omega)]; exact g7
theorem it_write {n p d o T : Nat} {b : Nat → Nat} {x y σ τ : gM} {S : gT} (hT4 : T < 4) (hT : TPx n b x) (hy : TPm n b y) (Y : SYN n b x y T p d o S σ τ) (hp : p < n) (hb : b p = 119) : ITM n b x y T p σ (X9_writeItem τ) := by
  obtain ⟨R, Y2, bg, t1, t2, ok, tk, h8, h14, e, hpn⟩ := Y
  have hd : d = 0 ∨ d = 2 := by omega
  have hn := hT.1
  have hbb : ∀ i, i < n → b i < 256 := fun i hi => (hT.2 i hi).1
  have ho := R.2.2.2.2.2.2.2
  unfold X9_writeItem
  have hs := sign_eq (a := nI p) (hT.2 p hp).1 (by unfold ws; omega) R.2.2.2.2.1 R.2.2.2.2.2.1 R.2.2.2.2.2.2.1 ho
  rw [if_neg (by omega), if_neg (by omega), if_neg (by omega), if_pos ⟨hb, hd⟩] at hs
  have K1 : ∀ Q, CP n (p + 1) (gup σ 0 0 2 6) Q → CP n p σ Q := fun Q hQ => CP_sg hT R hp (by unfold dg; omega) hs hQ
  have R1 : RTS x 6 o (gup σ 0 0 2 6) := RTS_up R (by omega)
  obtain ⟨q1, τ1, n1, n2, n3, n4, n5, n6, n7⟩ := nt_ok (TPm_e hy e) (tok_nx tk hp (by unfold dg; omega)) (show p + 1 ≤ n by omega)
  rw [gCall_eq n1]
  have e1 : Eqv (pRm T) y τ1 := e.tr (n5.mono pNT_R)
  rcases num (lo := 0) (hi := 1023) hT R1 (by unfold due; omega) n2 n3 n4 n7 with ⟨f, g1, g2, g3, g4⟩ | ⟨v, k, g1, g2, g3, g4, g5, g6, g7, g8, g9⟩
  · rw [gCall_eq (show X9_numberIn 0 1023 τ1 = _ from g1), if_neg (by rw [nI_z (by omega)]; exact g2)]
    exact it_fail n6 n3 e1 ⟨g2, g3⟩ (K1 _ g4)
  rw [gCall_eq (show X9_numberIn 0 1023 τ1 = _ from g1), if_pos rfl]
  obtain ⟨σ1, x1, x2, x3, x4, x5, x6⟩ := en_6 (v := v) (q := q1) (S := S) (σ := nS (gup σ 0 0 2 6) q1 v) (by omega) (tRx_nS (tRx_up t1 (by omega))) nS_4 (by rw [nS_o (by omega), gup_at, if_pos rfl]; rfl) nS_3 g3
  have R2 : RTS x 7 o σ1 := RTS_N R1 (x6.mono pF_E) x4 x3 (by omega) ((pF_nS (t := 0) (k := 0) (i := 1) x6 (by unfold pF pTx; omega) (by omega)).trans R1.2.2.2.2.2.2.1) ho
  have K2 : ∀ Q, CP n (q1 + k) σ1 Q → CP n p σ Q := fun Q hQ => K1 _ (g9 _ (CP_fl hT R1 g6 g8 x1 R2 hQ))
  obtain ⟨q2, τ2, m1, m2, m3, m4, m5, m6, m7⟩ := nt_ok (TPm_e hy e1) g7 g6
  rw [gCall_eq m1]
  have e2 : Eqv (pRm T) y τ2 := e1.tr (m5.mono pNT_R)
  by_cases c : q2 < n ∧ b q2 = 58
  · have c1 := c.1
    have c2 := c.2
    rw [if_pos (show τ2 9 0 9 = 58 from (tok_sg (c := 58) hbb (by unfold sgn; omega) m7).mpr c)]
    have hs2 := sign_eq (a := nI q2) (hT.2 q2 c1).1 (by unfold ws; omega) R2.2.2.2.2.1 R2.2.2.2.2.2.1 R2.2.2.2.2.2.2.1 ho
    rw [if_neg (by omega), if_neg (by omega), if_neg (by omega), if_neg (by omega), if_neg (by omega), if_neg (by omega), if_pos ⟨c2, rfl⟩] at hs2
    have R3 : RTS x 8 o (gup σ1 0 0 2 8) := RTS_up R2 (by omega)
    have K3 : ∀ Q, CP n (q2 + 1) (gup σ1 0 0 2 8) Q → CP n p σ Q := fun Q hQ => K2 _ (CP_ws (TPx_e hT R2.1) R2.2.1 R2.2.2.2.1 m3 (CP_sg hT R2 c1 (by unfold dg; omega) hs2 hQ) (q2 - (q1 + k)) (q1 + k) (by omega) m4)
    obtain ⟨q3, τ3, l1, l2, l3, l4, l5, l6, l7⟩ := nt_ok (TPm_e hy e2) (tok_nx m7 c1 (by unfold dg; omega)) (show q2 + 1 ≤ n by omega)
    rw [gCall_eq l1]
    have e3 : Eqv (pRm T) y τ3 := e2.tr (l5.mono pNT_R)
    rcases num (lo := 0) (hi := 9999) hT R3 (by unfold due; omega) l2 l3 l4 l7 with ⟨f, j1, j2, j3, j4⟩ | ⟨u, r, j1, j2, j3, j4, j5, j6, j7, j8, j9⟩
    · rw [gCall_eq (show X9_numberIn 0 9999 τ3 = _ from j1), if_neg (by rw [nI_z (by omega)]; exact j2)]
      exact it_fail l6 l3 e3 ⟨j2, j3⟩ (K3 _ j4)
    · rw [gCall_eq (show X9_numberIn 0 9999 τ3 = _ from j1), if_pos rfl]
      obtain ⟨σ2, y1, y2, y3, y4, y5⟩ := en_8 (v := u) (q := q3) (line := v) (S := S) (σ := nS (gup σ1 0 0 2 8) q3 u) (by omega) ok (tRx_nS (tRx_up x2 (by omega))) nS_4 (by rw [nS_o (by omega), gup_at, if_pos rfl]; rfl) nS_3 j3 (by rw [nS_o (by omega), gup_at, if_neg (by omega)]; exact x5)
      have R4 : RTS x 0 o σ2 := RTS_N R3 (y5.mono pF_E) y4 y3 (by omega) ((pF_nS (t := 0) (k := 0) (i := 1) y5 (by unfold pF pTx; omega) (by omega)).trans R3.2.2.2.2.2.2.1) ho
      obtain ⟨τ4, z1, z2, z3⟩ := m_lay1 (l := v) (v := nI u) hT4 ok (tRm_nt (tRm_nt (tRm_nt t2 n5) m5) l5)
      rw [g4, j4, gCall_eq z1]
      refine fin0 (a := q3 + r) hT hy R4 (BGS_cg (o := o) (σ := σ) (τ := τ) bg (eN_pre (S := S) (w := fun _ => (v, nI u)) 1).1 (fun i hi => ?_) (fun i hi => ?_)) y2 z2 (e1_ok ok (show v < 1024 by omega) (Or.inr ⟨u, j3, rfl⟩)) ?_ ?_ ?_ j6 (by omega) (fun Q hQ => K3 _ (j9 _ (CP_fl hT R3 j6 j8 y1 R4 hQ)))
      · rw [pF_nS y5 (by unfold pF pTx; omega) (by omega), gup_t (by omega), pF_nS x6 (by unfold pF pTx; omega) (by omega), gup_t (by omega)]
      · rw [z3 51 0 i (by unfold pTm; omega), l5 51 0 i (by unfold pNT; omega), m5 51 0 i (by unfold pNT; omega), n5 51 0 i (by unfold pNT; omega)]
      · rw [z3 9 0 14 (by unfold pTm; omega), l5 9 0 14 (by unfold pNT; omega), m5 9 0 14 (by unfold pNT; omega), n5 9 0 14 (by unfold pNT; omega)]; exact h14
      · exact e3.tr (z3.mono pTm_R)
      · rw [z3 9 0 7 (by unfold pTm; omega)]; exact j7
  · rw [if_neg (show ¬ τ2 9 0 9 = 58 from fun z => c ((tok_sg (c := 58) hbb (by unfold sgn; omega) m7).mp z))]
    refine it_fail (f := 1) m6 m3 e2 (by omega) (K2 _ ?_)
    exact CP_bad hT R2 m2 m3 m4 m7 (fun _ _ => by omega) (fun h => ⟨fun _ => by omega, fun _ => by omega, fun _ => by omega, fun _ => by omega, fun h2 => absurd ⟨h, h2⟩ c⟩) (fun _ => by omega)
