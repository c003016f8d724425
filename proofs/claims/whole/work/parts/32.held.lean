/-! LAYER 2: clean, leave, pin, cool. -/
theorem q_leave {x m : gM} {N : Nat} (h : INV x m N) (a : Int32) : Ag (X8_leave a x) (X9_leave a m) N := by
  unfold X8_leave X9_leave
  have hN := h.2.2.2.2.2.2
  rcases held_ok h a with ⟨l, hl, rfl, c1⟩ | ⟨c2, c1⟩
  · rw [gCall_eq c1, gCall_eq (lineT hl m).2, if_pos rfl, gCall_eq (X9_pw h.bi hl)]
    cases hb : bAt (mB m) l with
    | none =>
      rw [if_pos (show oI none = -1 from rfl), if_pos (show oI none = -1 from rfl)]
      exact Ag.same h _ rfl rfl
    | some p =>
      obtain ⟨hp, hpl, -⟩ := bAt_lt h.bi hb
      obtain ⟨x1, m1, k1, k2, h', e1, -⟩ := keep_ok h
      have hb1 : bAt (mB m1) l = some p := by rw [keep_cg h h' e1]; exact hb
      obtain ⟨-, hpl1, -⟩ := bAt_lt h'.bi hb1
      obtain ⟨x2, y1, y2, y3⟩ := x_bring h'.rs h'.bi hp (by rw [hpl1]; omega)
      obtain ⟨x3, z1, z2, z3⟩ := x_mkE y2 hp
      obtain ⟨m2, w1, w2, w3⟩ := m_goes rfl h'.bi hp (by rw [hpl1]; omega)
      rw [clr_eq (B := gbk (mB m1) p) (fun j hj => bup_ne (by omega))] at z2
      rw [show oI (some p) = nI p from rfl, if_neg (nI_nm1 (by omega)), if_neg (nI_nm1 (by omega)), gCall_eq k1, gCall_eq k2, gAt_nI (show p < 64 from hp) (by omega), gCall_eq y1, gCall_eq z1]
      rw [gCall_eq (X9_pw h'.bi hl), hb1, show oI (some p) = nI p from rfl, m_at, li1, m_row hp (by omega), gCall_eq w1, show 27 + 5 * p + 1 = 28 + 5 * p by omega, h'.rs.2.2.2.2.2.1 p hp]
      rw [clr_loop (m := m2) (p := p) (f := X9_leave_b51 (nI p) (mB m1 (28 + 5 * p))) (R := fun σ => some (mB m1 (28 + 5 * p), σ)) (fun j σ K2 hj => ?_) (fun σ K2 => ?_)]
      · refine ⟨_, x3, gz m2 p 5, rfl, rfl, INV_store h' (pCo_XS ((y3.mono (fun t k' i q => by unfold pBr at q; unfold pCo; omega)).tr z3)) (pBk_MS (w3.tr (gz_bk hp))) (by rw [gz_mB, w2]; exact z2) (by rw [gz_mB, w2]; exact (clr_BI (gbk_BI h'.bi)).1) (Nat.le_refl _) hN⟩
      · unfold X9_leave_b51
        rw [if_neg (by rw [li5, nI_leq (by omega) (by omega)]; omega), m_at, m_ix, m_put (by omega), gLet, nI_1]
      · unfold X9_leave_b51
        rw [if_pos (by rw [li5, nI_leq (by omega) (by omega)]; omega)]
  · rw [gCall_eq c1, if_pos rfl, gCall_eq (c2 m)]
    exact Ag.same h _ rfl rfl
theorem q_clean {x m : gM} {N : Nat} (h : INV x m N) (a : Int32) : Ag (X8_clean a x) (X9_clean a m) N := by
  unfold X8_clean X9_clean X9_isDirty
  have hN := h.2.2.2.2.2.2
  rcases held_ok h a with ⟨l, hl, rfl, c1⟩ | ⟨c2, c1⟩
  · rw [gCall_eq c1, gCall_eq (lineT hl m).2, if_pos rfl, gCall_eq (X9_pw h.bi hl)]
    cases hb : bAt (mB m) l with
    | none =>
      rw [if_pos (show oI none = -1 from rfl), if_pos (show oI none = -1 from rfl)]
      exact Ag.same h _ rfl rfl
    | some p =>
      obtain ⟨hp, hpl, -⟩ := bAt_lt h.bi hb
      rw [show oI (some p) = nI p from rfl, if_neg (nI_nm1 (by omega)), if_neg (nI_nm1 (by omega)), gAt_nI (show p < 64 from hp) (by omega), h.rs.2.2.2.2.2.2.1 p hp, gCall_eq (X9_pw h.bi hl), hb, show oI (some p) = nI p from rfl, m_at, li2, m_row hp (by omega), show 27 + 5 * p + 2 = 29 + 5 * p by omega]
      rcases (h.bi.2.2.2.2.2.2.1 p hp).2.2.1 with hd | hd
      · rw [hd, if_pos rfl, if_neg (by decide)]
        exact Ag.same h _ rfl rfl
      · obtain ⟨x1, m1, k1, k2, h', e1, -⟩ := keep_ok h
        have hb1 : bAt (mB m1) l = some p := by rw [keep_cg h h' e1]; exact hb
        obtain ⟨-, hpl1, -⟩ := bAt_lt h'.bi hb1
        have hd1 : mB m1 (29 + 5 * p) ≠ 0 := by rw [e1 _ (by omega), hd]; decide
        obtain ⟨x2, y1, y2, y3⟩ := x_bring h'.rs h'.bi hp (by rw [hpl1]; omega)
        obtain ⟨m2, w1, w2, w3⟩ := m_goes rfl h'.bi hp (by rw [hpl1]; omega)
        rw [if_neg hd1] at w1 y1
        rw [hd, if_neg (by decide), if_pos rfl, gCall_some, if_pos rfl, gCall_eq k1, gCall_eq k2, gCall_eq y1, gAt_nI (show p < 64 from hp) (by omega), y2.2.2.2.2.2.1 p hp]
        rw [gCall_eq (X9_pw h'.bi hl), hb1, show oI (some p) = nI p from rfl, gCall_eq w1, gJ0_e, if_pos rfl, m_at, m_ix, m_put (by omega)]
        dsimp only
        have em : mB (gup m2 47 0 (36 + (27 + 5 * p + 2)) 0) = bup (gbk (mB m1) p) (29 + 5 * p) 0 := by
          rw [mB_up, w2, show 27 + 5 * p + 2 = 29 + 5 * p by omega]
        rw [m_at, li1, m_row hp (by omega), em, show 27 + 5 * p + 1 = 28 + 5 * p by omega]
        exact ⟨_, x2, gup m2 47 0 (36 + (27 + 5 * p + 2)) 0, rfl, rfl, INV_store h' (pCo_XS (y3.mono (fun t k' i q => by unfold pBr at q; unfold pCo; omega))) (pBk_MS (w3.tr (Eqv_bk (by omega)))) (by rw [em]; exact y2) (by rw [em]; exact BI_dv (gbk_BI h'.bi) hp 0 (Or.inl rfl)) (Nat.le_refl _) hN⟩
  · rw [gCall_eq c1, if_pos rfl, gCall_eq (c2 m), if_neg (by decide), gCall_some, if_neg (by decide)]
    exact Ag.same h _ rfl rfl
theorem gJ1_b {β : Type} {K : Int32 → gM → Option β} {b : Int32} {m : gM} (h : b = 0 ∨ b = 1) : gJ1 K (fun j => if b = 0 then j 0 m else j 1 m) = K b m := by
  rw [gJ1_e]
  rcases h with rfl | rfl
  · rw [if_pos rfl]
  · rw [if_neg (by decide)]
theorem gJ1_p {β : Type} {K : Int32 → gM → Option β} {b : Int32} {m : gM} (h : b = 0 ∨ b = 1) : gJ1 K (fun j => if b = 1 then j 1 m else j 0 m) = K b m := by
  rw [gJ1_e]
  rcases h with rfl | rfl
  · rw [if_neg (by decide)]
  · rw [if_pos rfl]
theorem q_pin {x m : gM} {N : Nat} (h : INV x m N) (a b : Int32) (hb01 : b = 0 ∨ b = 1) : Ag (X8_pin a b x) (X9_pin a b m) N := by
  unfold X8_pin X9_pin
  have hN := h.2.2.2.2.2.2
  rcases held_ok h a with ⟨l, hl, rfl, c1⟩ | ⟨c2, c1⟩
  · rw [gCall_eq c1, gCall_eq (lineT hl m).2, if_pos rfl, gCall_eq (X9_pw h.bi hl), gJ1_b hb01]
    cases hb : bAt (mB m) l with
    | none =>
      rw [if_pos (show oI none = -1 from rfl), if_pos (show oI none = -1 from rfl)]
      exact Ag.same h _ rfl rfl
    | some p =>
      obtain ⟨hp, hpl, -⟩ := bAt_lt h.bi hb
      have hpv := (h.bi.2.2.2.2.2.2.1 p hp).2.2.2.2
      rw [show oI (some p) = nI p from rfl, if_neg (nI_nm1 (by omega)), if_neg (nI_nm1 (by omega)), gAt_nI (show p < 64 from hp) (by omega), h.rs.2.2.2.2.2.2.2.2.1 p hp, gCall_eq (X9_pw h.bi hl), hb, show oI (some p) = nI p from rfl, m_at, li4, m_row hp (by omega), show 27 + 5 * p + 4 = 31 + 5 * p by omega, gJ1_p hpv]
      by_cases hq : mB m (31 + 5 * p) = b
      · rw [if_pos hq, if_pos hq]
        exact Ag.same h _ rfl rfl
      · obtain ⟨x1, m1, k1, k2, h', e1, -⟩ := keep_ok h
        have hb1 : bAt (mB m1) l = some p := by rw [keep_cg h h' e1]; exact hb
        obtain ⟨-, hpl1, -⟩ := bAt_lt h'.bi hb1
        rw [if_neg hq, if_neg hq, gCall_eq k1, gCall_eq k2, gPut_nI (show p < 64 from hp) (by omega), gCall_eq (X9_pw h'.bi hl), hb1, show oI (some p) = nI p from rfl, m_at, gJ1_b hb01]
        rw [m_ix, m_put (by omega)]
        have em : mB (gup m1 47 0 (36 + (27 + 5 * p + 4)) b) = bup (mB m1) (31 + 5 * p) b := by
          rw [mB_up, show 27 + 5 * p + 4 = 31 + 5 * p by omega]
        exact ⟨_, _, _, rfl, rfl, INV_store h' (Eqv.up (by unfold pXS sT; omega)) (Eqv.up (by unfold pMS; omega)) (by rw [em]; exact RS_u33 h'.rs hp b) (by rw [em]; exact BI_pn h'.bi hp (by rw [hpl1]; omega) b hb01) (Nat.le_refl _) hN⟩
  · rw [gCall_eq c1, gJ1_b hb01]
    rw [if_pos rfl, gCall_eq (c2 m)]
    exact Ag.same h _ rfl rfl
def coB (B : Nat → Int32) : Nat → Nat → Int32
  | 0 => B
  | n + 1 => if bL (coB B n) n = 0 ∨ bAg (coB B n) n = 3 then coB B n else bup (coB B n) (30 + 5 * n) (nI (bAg (coB B n) n + 1))
def coN (B : Nat → Int32) : Nat → Nat
  | 0 => 0
  | n + 1 => coN B n + if bL (coB B n) n = 0 ∨ bAg (coB B n) n = 3 then 0 else 1
theorem coB_ok {B : Nat → Int32} {N : Nat} (hB : BI B N) : ∀ n, n ≤ 64 → BI (coB B n) N := by
  intro n
  induction n with
  | zero => intro _; exact hB
  | succ n ih =>
    intro hn
    have i1 := ih (by omega)
    have ha := (i1.2.2.2.2.2.2.1 n (by omega)).2.2.2.1.2
    simp only [coB]
    split
    · exact i1
    · rename_i e
      exact (BI_ag i1 (by omega) (fun z => e (Or.inl z)) (by omega)).1
theorem q_cool {x m : gM} {N : Nat} (h : INV x m N) : Ag (X8_cool x) (X9_cool m) N := by
  unfold X8_cool X9_cool
  have hN := h.2.2.2.2.2.2
  obtain ⟨x1, m1, k1, k2, h', -⟩ := keep_ok h
  have hc := coB_ok h'.bi
  have hx : ∃ x2, X3_coolAll 0 x1 = some (nI (coN (mB m1) 64), x2) ∧ RS x2 0 (coB (mB m1) 64) N ∧ Eqv (pCo 0) x1 x2 := by
    unfold X3_coolAll
    refine gL2_for (fun i y σ => y = nI (coN (mB m1) i) ∧ RS σ 0 (coB (mB m1) i) N ∧ Eqv (pCo 0) x1 σ) (fun r => ∃ x2, r = some (nI (coN (mB m1) 64), x2) ∧ RS x2 0 (coB (mB m1) 64) N ∧ Eqv (pCo 0) x1 x2) 64 ?_ ?_ FU 0 0 x1 (Nat.zero_le _) (by rw [FU_eq]; omega) ⟨rfl, h'.rs, Eqv.rf⟩
    · rintro i y σ K hi ⟨rfl, h1, h2⟩ hK
      have i1 := hc i (by omega)
      have hs := i1.2.2.2.2.2.2.1 i hi
      have ag := hs.2.2.2.1
      unfold X3_coolAll_b4
      rw [if_neg (by rw [li64, nI_leq (by omega) (by omega)]; omega), gAt_nI (show i < 64 from hi) (by omega), h1.2.2.2.2.1 i hi, hs.1]
      by_cases h0 : bL (coB (mB m1) i) i = 0
      · rw [if_pos ((line_none hs.2.1).mpr h0), gLet, nI_1]
        refine hK _ _ ⟨?_, ?_, h2⟩
        · simp only [coN]; rw [if_pos (Or.inl h0)]; rfl
        · simp only [coB]; rw [if_pos (Or.inl h0)]; exact h1
      · rw [if_neg (fun q => h0 ((line_none hs.2.1).mp q)), gAt_nI (show i < 64 from hi) (by omega), h1.2.2.2.2.2.2.2.1 i hi, ag.1]
        by_cases h3 : bAg (coB (mB m1) i) i = 3
        · rw [if_pos (by rw [h3]; decide), gLet, nI_1]
          refine hK _ _ ⟨?_, ?_, h2⟩
          · simp only [coN]; rw [if_pos (Or.inr h3)]; rfl
          · simp only [coB]; rw [if_pos (Or.inr h3)]; exact h1
        · rw [if_neg (by rw [li3, nI_leq (by omega) (by omega)]; omega), gAt_nI (show i < 64 from hi) (by omega), h1.2.2.2.2.2.2.2.1 i hi, ag.1, gPut_nI (show i < 64 from hi) (by omega), gLet, gLet, nI_1, nI_1, nI_1]
          refine hK _ _ ⟨?_, ?_, h2.tr (Eqv.up (by unfold pCo; omega))⟩
          · simp only [coN]; rw [if_neg (fun z => z.elim h0 h3)]
          · simp only [coB]; rw [if_neg (fun z => z.elim h0 h3)]; exact RS_u32 h1 hi _
    · rintro y σ K ⟨rfl, h1, h2⟩
      unfold X3_coolAll_b4
      rw [if_pos (by rw [li64, nI_leq (by omega) (by omega)]; omega)]
      exact ⟨σ, rfl, h1, h2⟩
  have hm : ∃ m2, gL2 FU X9_cool_b8 0 0 m1 = some (nI (coN (mB m1) 64), m2) ∧ mB m2 = coB (mB m1) 64 ∧ Eqv pBk m1 m2 := by
    refine gL2_for (fun i y σ => y = nI (coN (mB m1) i) ∧ mB σ = coB (mB m1) i ∧ Eqv pBk m1 σ) (fun r => ∃ m2, r = some (nI (coN (mB m1) 64), m2) ∧ mB m2 = coB (mB m1) 64 ∧ Eqv pBk m1 m2) 64 ?_ ?_ FU 0 0 m1 (Nat.zero_le _) (by rw [FU_eq]; omega) ⟨rfl, rfl, Eqv.rf⟩
    · rintro i y σ K hi ⟨rfl, h1, h2⟩ hK
      have i1 := hc i (by omega)
      have hs := i1.2.2.2.2.2.2.1 i hi
      have ag := hs.2.2.2.1
      have i1' : BI (mB σ) N := by rw [h1]; exact i1
      unfold X9_cool_b8
      rw [if_neg (by rw [li64, nI_leq (by omega) (by omega)]; omega), gCall_eq (X9_la i1' hi), h1]
      by_cases h0 : bL (coB (mB m1) i) i = 0
      · rw [if_pos ((line_none hs.2.1).mpr h0), gLet, nI_1]
        refine hK _ _ ⟨?_, ?_, h2⟩
        · simp only [coN]; rw [if_pos (Or.inl h0)]; rfl
        · simp only [coB]; rw [if_pos (Or.inl h0)]; exact h1
      · rw [if_neg (fun q => h0 ((line_none hs.2.1).mp q)), m_at, m_ag i1' hi, h1]
        by_cases h3 : bAg (coB (mB m1) i) i = 3
        · rw [if_pos (by rw [h3]; rfl), gLet, nI_1]
          refine hK _ _ ⟨?_, ?_, h2⟩
          · simp only [coN]; rw [if_pos (Or.inr h3)]; rfl
          · simp only [coB]; rw [if_pos (Or.inr h3)]; exact h1
        · rw [if_neg (by rw [li3, nI_inj (by omega) (by omega)]; exact h3), m_at, gLet, m_ag i1' hi, h1, li3, m_ix, m_put (by omega), gLet, gLet, nI_1, nI_1, nI_1]
          refine hK _ _ ⟨?_, ?_, h2.tr (Eqv_bk (by omega))⟩
          · simp only [coN]; rw [if_neg (fun z => z.elim h0 h3)]
          · simp only [coB]; rw [if_neg (fun z => z.elim h0 h3), mB_up, h1, show 27 + 5 * i + 3 = 30 + 5 * i by omega]
    · rintro y σ K ⟨rfl, h1, h2⟩
      unfold X9_cool_b8
      rw [if_pos (by rw [li64, nI_leq (by omega) (by omega)]; omega)]
      exact ⟨σ, rfl, h1, h2⟩
  obtain ⟨x2, y1, y2, y3⟩ := hx
  obtain ⟨m2, z1, z2, z3⟩ := hm
  rw [gCall_eq k1, gCall_eq k2, gCall_eq y1, z1]
  exact ⟨_, _, _, rfl, rfl, INV_store h' (pCo_XS y3) (pBk_MS z3) (by rw [z2]; exact y2) (by rw [z2]; exact hc 64 (by omega)) (Nat.le_refl _) hN⟩
