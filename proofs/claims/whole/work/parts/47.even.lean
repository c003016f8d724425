/-! LAYER 2: even strides; scattered; worst; flips; crowd. -/
def evB (f : Nat → Nat) (n : Nat) : Bool := decide (∀ k, k < n → tyN f k (f k) = 0)
theorem us_cnt {f : Nat → Nat} : ∀ n, (∀ k, k < n → f k < 16) → usN (tyN f n) = cntP (fun k => decide (tyN f k (f k) = 0)) n := by
  intro n
  induction n with
  | zero => intro _; exact cntP_none _ (fun _ _ => rfl)
  | succ n ih =>
    intro h
    have h1 := usN_s (T := tyN f n) (a := f n) (h n (by omega))
    rw [show (fun q => tyN f n q + if f n = q then 1 else 0) = tyN f (n + 1) from funext fun q => (tyN_s f n q).symm, ih (fun k hk => h k (by omega))] at h1
    rw [h1]
    simp only [cntP, decide_eq_true_eq]
theorem us_ev {f : Nat → Nat} {n : Nat} (h : ∀ k, k < n → f k < 16) : usN (tyN f n) = n ↔ evB f n = true := by
  rw [us_cnt n h]
  unfold evB
  rw [decide_eq_true_iff]
  constructor
  · intro z k hk
    exact of_decide_eq_true (cntP_full n z k hk)
  · intro z
    exact cntP_all n (fun k hk => decide_eq_true (z k hk))
/-- the slots that are seen, as bits -/
def snN (f : Nat → Nat) : Nat → Nat
  | 0 => 0
  | k + 1 => snN f k ||| 2 ^ f k
theorem snN_bit (f : Nat → Nat) (s : Nat) : ∀ k, (snN f k).testBit s = decide (0 < tyN f k s) := by
  intro k
  induction k with
  | zero => simp [snN, tyN, cntP]
  | succ k ih =>
    simp only [snN]
    rw [Nat.testBit_or, ih, Nat.testBit_two_pow, tyN_s]
    by_cases e : f k = s
    · rw [if_pos e, decide_eq_true e, Bool.or_true]
      exact (decide_eq_true (by omega)).symm
    · rw [if_neg e, decide_eq_false e, Bool.or_false, Nat.add_zero]
theorem snN_lt {f : Nat → Nat} : ∀ k, (∀ i, i < k → f i < 16) → snN f k < 65536 := by
  intro k
  induction k with
  | zero => intro _; exact (by decide : 0 < 65536)
  | succ k ih =>
    intro h
    simp only [snN]
    exact Nat.or_lt_two_pow (n := 16) (ih (fun i hi => h i (by omega))) (Nat.pow_lt_pow_right (by omega) (h k (by omega)))
theorem spF_16 {mk : Nat → Nat → Nat} {b w s i : Nat} (hb : b ≤ 4) : spF mk b w s i < 16 := ixR_16 hb
theorem XK_sl {x : gM} {W b : Nat} {mk : Nat → Nat → Nat} (h : XK x W b mk) : X3_slotsOfWay 0 x = some (nI (2 ^ b), x) := by
  unfold X3_slotsOfWay
  have h4 := h.1.2.2.2
  have : 2 ^ b ≤ 2 ^ 4 := Nat.pow_le_pow_right (by omega) h4
  rw [h.1.2.1, li1, nI_shl (by omega) (by omega), Nat.one_mul]
theorem MK_sl {m : gM} {W b : Nat} {mk : Nat → Nat → Nat} (h : MK m W b mk) : X9_slotsOf m = some (nI (2 ^ b), m) := by
  unfold X9_slotsOf
  have h4 := h.1.2.2.2
  have : 2 ^ b ≤ 2 ^ 4 := Nat.pow_le_pow_right (by omega) h4
  rw [show gAt m 47 0 37 _ = _ from gAt_nI (i := 37) (show 37 < 30843 by omega) (by omega), h.1.2.1, li1, nI_shl (by omega) (by omega), Nat.one_mul]
theorem x_even {x : gM} {W b w s : Nat} {mk : Nat → Nat → Nat} (h : XK x W b mk) (hw : w < W) (hs : s ≤ 1023) : X7_isEven 0 (nI w) (nI s) x = some (evB (spF mk b w s) (2 ^ b), x) := by
  unfold X7_isEven
  have h4 := h.1.2.2.2
  have hp : 2 ^ b ≤ 2 ^ 4 := Nat.pow_le_pow_right (by omega) h4
  refine gL2_for (fun i v σ => σ = x ∧ v = nI (snN (spF mk b w s) i) ∧ ∀ k, k < i → tyN (spF mk b w s) k (spF mk b w s k) = 0) (fun o => o = some (evB (spF mk b w s) (2 ^ b), x)) (2 ^ b) ?_ ?_ FU 0 0 x (Nat.zero_le _) (by rw [FU_eq]; omega) ⟨rfl, rfl, fun k hk => by omega⟩
  · rintro i v σ K hi ⟨rfl, rfl, hn⟩ hK
    unfold X7_isEven_b6
    have his : i * s ≤ 16 * 1023 := Nat.mul_le_mul (by omega) hs
    have hf : spF mk b w s i < 16 := spF_16 h4
    have hsn := snN_lt (f := spF mk b w s) i (fun k _ => spF_16 h4)
    have hbit := snN_bit (spF mk b w s) (spF mk b w s i) i
    rw [gCall_eq (XK_sl h), if_neg (by rw [nI_leq (by omega) (by omega)]; omega), li1024, pk_mul, nI_rem (by omega) (by omega) (by omega), gCall_eq (XK_ix h (Nat.mod_lt _ (by omega)) hw), gLet, show ixR (mk w) (i * s % 1024) b = spF mk b w s i from rfl, two_shl (by omega)]
    by_cases e : tyN (spF mk b w s) i (spF mk b w s i) = 0
    · rw [if_pos ((and_bit (by omega) (by omega)).mpr (by rw [hbit]; exact decide_eq_false (by omega))), gLet, gLet, nI_1, nI_or]
      refine hK _ _ ⟨rfl, rfl, fun k hk => ?_⟩
      by_cases ek : k = i
      · rw [ek]; exact e
      · exact hn k (by omega)
    · rw [if_neg (fun z => by
        have := (and_bit (by omega) (by omega)).mp z
        rw [hbit] at this
        exact of_decide_eq_false this (by omega))]
      rw [show evB (spF mk b w s) (2 ^ b) = false from decide_eq_false (fun z => e (z i hi))]
  · rintro v σ K ⟨rfl, rfl, hn⟩
    unfold X7_isEven_b6
    rw [gCall_eq (XK_sl h), if_pos (by rw [nI_leq (by omega) (by omega)]; omega)]
    rw [show evB (spF mk b w s) (2 ^ b) = true from decide_eq_true hn]
theorem m_even {m : gM} {W b w s : Nat} {mk : Nat → Nat → Nat} (h : MK m W b mk) (hw : w < W) (hs : s ≤ 1023) : ∃ m', X9_isEven (nI w) (nI s) m = some (evB (spF mk b w s) (2 ^ b), m') ∧ Eqv pSp m m' := by
  unfold X9_isEven
  have h4 := h.1.2.2.2
  have hp : 2 ^ b ≤ 2 ^ 4 := Nat.pow_le_pow_right (by omega) h4
  obtain ⟨m1, e1, e2, e3, e4⟩ := m_spr (n := 2 ^ b) h hw hs (by omega)
  have hx := MK_cg h (fun j => e4 47 0 j (by unfold pSp; omega))
  have hu : usN (tyN (spF mk b w s) (2 ^ b)) ≤ 16 := cntP_le _ _
  have hev := us_ev (f := spF mk b w s) (n := 2 ^ b) (fun k _ => spF_16 h4)
  rw [gCall_eq (MK_sl h), gCall_eq e1, gCall_eq (MK_sl hx), e2]
  by_cases e : evB (spF mk b w s) (2 ^ b) = true
  · rw [if_pos (by rw [hev.mpr e]), e]; exact ⟨m1, rfl, e4⟩
  · rw [if_neg (fun z => e (hev.mp ((nI_inj (by omega) (by omega)).mp z))), Bool.eq_false_iff.mpr e]; exact ⟨m1, rfl, e4⟩
def evN (mk : Nat → Nat → Nat) (b w : Nat) : Nat := cntP (fun s => decide (1 ≤ s) && evB (spF mk b w s) (2 ^ b)) 64
theorem x_evens {x : gM} {W b w : Nat} {mk : Nat → Nat → Nat} (h : XK x W b mk) (hw : w < W) : X7_evenStrides 0 (nI w) x = some (nI (evN mk b w), x) := by
  unfold X7_evenStrides
  refine gL2_cntI (fun σ => σ = x) (fun o => o = some (nI (evN mk b w), x)) (fun s => decide (1 ≤ s) && evB (spF mk b w s) (2 ^ b)) 1 64 (fun i hi => by rw [decide_eq_false (by omega)]; rfl) (fun i c σ K hs hi hc hI => ?_) (fun σ K hI => ?_) (by rw [FU_eq]; omega) (by omega) rfl
  · subst hI
    refine ⟨σ, rfl, ?_⟩
    unfold X7_evenStrides_b5
    rw [if_neg (by rw [li63, nI_ltt (by omega) (by omega)]; omega), gCall_eq (x_even h hw (by omega))]
    by_cases e : evB (spF mk b w i) (2 ^ b) = true
    · rw [if_pos e, if_pos (by rw [decide_eq_true hs, e]; rfl), gLet, gLet, nI_1, nI_1]
    · rw [if_neg e, if_neg (fun z => e (Bool.and_eq_true _ _ ▸ z).2), gLet, nI_1] <;> rfl
  · subst hI
    unfold X7_evenStrides_b5
    rw [if_pos (by rw [li63, nI_ltt (by omega) (by omega)]; omega)]
    rfl
theorem m_evens {m : gM} {W b w : Nat} {mk : Nat → Nat → Nat} (h : MK m W b mk) (hw : w < W) : ∃ m', X9_evenOf (nI w) m = some (nI (evN mk b w), m') ∧ Eqv pSp m m' := by
  unfold X9_evenOf
  refine gL2_cntI (fun σ => Eqv pSp m σ) (fun o => ∃ m', o = some (nI (evN mk b w), m') ∧ Eqv pSp m m') (fun s => decide (1 ≤ s) && evB (spF mk b w s) (2 ^ b)) 1 64 (fun i hi => by rw [decide_eq_false (by omega)]; rfl) (fun i c σ K hs hi hc hI => ?_) (fun σ K hI => ?_) (by rw [FU_eq]; omega) (by omega) Eqv.rf
  · obtain ⟨m1, e1, e2⟩ := m_even (s := i) (MK_cg h (fun j => hI 47 0 j (by unfold pSp; omega))) hw (by omega)
    refine ⟨m1, hI.tr e2, ?_⟩
    unfold X9_evenOf_b4
    rw [if_neg (by rw [li63, nI_ltt (by omega) (by omega)]; omega), gCall_eq e1]
    by_cases e : evB (spF mk b w i) (2 ^ b) = true
    · rw [if_pos e, if_pos (by rw [decide_eq_true hs, e]; rfl), gLet, gLet, nI_1, nI_1]
    · rw [if_neg e, if_neg (fun z => e (Bool.and_eq_true _ _ ▸ z).2), gLet, gLet, nI_1, nI_p0] <;> rfl
  · unfold X9_evenOf_b4
    rw [if_pos (by rw [li63, nI_ltt (by omega) (by omega)]; omega)]
    exact ⟨σ, rfl, hI⟩
theorem q_even {x m : gM} {N : Nat} (h : INV x m N) (a : Int32) : Ag (X8_even a x) (X9_even a m) N := by
  unfold X8_even X9_even
  rcases way_cases h a with ⟨w, hw, rfl⟩ | ⟨h1, h2⟩
  · obtain ⟨m1, e1, e2⟩ := m_evens (MK_of h.bi) hw
    rw [gCall_eq (wayT h hw).1, if_pos rfl, gCall_eq (wayT h hw).2, if_pos rfl, gCall_eq (x_evens (XK_of h.rs h.bi) hw), gCall_eq e1]
    exact ⟨_, _, _, rfl, rfl, INV_congr h Eqv.rf (pSp_M e2)⟩
  · rw [gCall_eq h1, gCall_eq h2]
    exact Ag.same h _ rfl rfl
def eaB (mk : Nat → Nat → Nat) (b s W : Nat) : Bool := decide (∀ w, w < W → evB (spF mk b w s) (2 ^ b) = true)
theorem x_evAll {x : gM} {W b s : Nat} {mk : Nat → Nat → Nat} (h : XK x W b mk) (hs : s ≤ 1023) : X7_isEvenInAll 0 (nI s) x = some (eaB mk b s W, x) := by
  unfold X7_isEvenInAll
  have hW := h.1.2.2.1
  refine gL1_for (fun i σ => σ = x ∧ ∀ w, w < i → evB (spF mk b w s) (2 ^ b) = true) (fun o => o = some (eaB mk b s W, x)) W ?_ ?_ FU 0 x (Nat.zero_le _) (by rw [FU_eq]; omega) ⟨rfl, fun w hw => by omega⟩
  · rintro i σ K hi ⟨rfl, hn⟩ hK
    unfold X7_isEvenInAll_b2
    rw [h.1.1, if_neg (by rw [nI_leq (by omega) (by omega)]; omega), gCall_eq (x_even h hi hs)]
    by_cases e : evB (spF mk b i s) (2 ^ b) = true
    · rw [if_pos e, gLet, nI_1]
      refine hK _ ⟨rfl, fun w hw => ?_⟩
      by_cases ew : w = i
      · rw [ew]; exact e
      · exact hn w (by omega)
    · rw [if_neg e, show eaB mk b s W = false from decide_eq_false (fun z => e (z i hi))]
  · rintro σ K ⟨rfl, hn⟩
    unfold X7_isEvenInAll_b2
    rw [h.1.1, if_pos (by rw [nI_leq (by omega) (by omega)]; omega), show eaB mk b s W = true from decide_eq_true hn]
theorem q_evenAll {x m : gM} {N : Nat} (h : INV x m N) : Ag (X8_evenAll x) (X9_evenAll m) N := by
  unfold X8_evenAll X9_evenAll
  have hx := XK_of h.rs h.bi
  have hm := MK_of h.bi
  revert hx hm
  generalize bMk (mB m) = mk
  generalize bW (mB m) = W
  generalize bN (mB m) = b
  intro hx hm
  have hW := hx.1.2.2.1
  have e1 : gL2 FU X8_evenAll_b4 0 (nI 1) x = some (nI (cntP (fun s => decide (1 ≤ s) && eaB mk b s W) 64), x) := by
    refine gL2_cntI (fun σ => σ = x) (fun o => o = some (nI (cntP (fun s => decide (1 ≤ s) && eaB mk b s W) 64), x)) (fun s => decide (1 ≤ s) && eaB mk b s W) 1 64 (fun i hi => by rw [decide_eq_false (by omega)]; rfl) (fun i c σ K hs hi hc hI => ?_) (fun σ K hI => ?_) (by rw [FU_eq]; omega) (by omega) rfl
    · subst hI
      refine ⟨σ, rfl, ?_⟩
      unfold X8_evenAll_b4
      rw [if_neg (by rw [li63, nI_ltt (by omega) (by omega)]; omega), gCall_eq (x_evAll hx (by omega))]
      by_cases e : eaB mk b i W = true
      · rw [if_pos e, if_pos (by rw [decide_eq_true hs, e]; rfl), gLet, gLet, nI_1, nI_1]
      · rw [if_neg e, if_neg (fun z => e (Bool.and_eq_true _ _ ▸ z).2), gLet, nI_1] <;> rfl
    · subst hI
      unfold X8_evenAll_b4
      rw [if_pos (by rw [li63, nI_ltt (by omega) (by omega)]; omega)]
  have e2 : ∃ m', gL2 FU X9_evenAll_b4 0 (nI 1) m = some (nI (cntP (fun s => decide (1 ≤ s) && eaB mk b s W) 64), m') ∧ Eqv pSp m m' := by
    refine gL2_for (fun i v σ => 1 ≤ i ∧ v = nI (cntP (fun s => decide (1 ≤ s) && eaB mk b s W) i) ∧ Eqv pSp m σ) (fun o => ∃ m', o = some (nI (cntP (fun s => decide (1 ≤ s) && eaB mk b s W) 64), m') ∧ Eqv pSp m m') 64 ?_ ?_ FU 1 0 m (by omega) (by rw [FU_eq]; omega) ⟨Nat.le_refl _, rfl, Eqv.rf⟩
    · rintro i v σ K hi ⟨hs, rfl, hI⟩ hK
      unfold X9_evenAll_b4
      rw [if_neg (by rw [li63, nI_ltt (by omega) (by omega)]; omega), gJ1_e]
      refine gL2_for (fun w v σ' => v = nI (if eaB mk b i w = true then 1 else 0) ∧ Eqv pSp m σ') (fun o => ∃ m', o = some (nI (cntP (fun s => decide (1 ≤ s) && eaB mk b s W) 64), m') ∧ Eqv pSp m m') W ?_ ?_ FU 0 1 σ (Nat.zero_le _) (by rw [FU_eq]; omega) ⟨by rw [show eaB mk b i 0 = true from decide_eq_true (fun w hw => by omega)]; rfl, hI⟩
      · rintro w v σ' K2 hw ⟨rfl, g2⟩ hK2
        unfold X9_evenAll_b15
        have hm' := MK_cg hm (fun j => g2 47 0 j (by unfold pSp; omega))
        rw [show gAt σ' 47 0 36 _ = _ from gAt_nI (i := 36) (show 36 < 30843 by omega) (by omega), hm'.1.1, if_neg (by rw [nI_leq (by omega) (by omega)]; omega)]
        by_cases e : eaB mk b i w = true
        · obtain ⟨m1, e1, e2⟩ := m_even (s := i) hm' hw (by omega)
          rw [if_pos e, if_neg (show ¬ nI 1 = 0 by decide), gCall_eq e1]
          by_cases e3 : evB (spF mk b w i) (2 ^ b) = true
          · rw [if_pos e3, gLet, nI_1]
            refine hK2 _ _ ⟨?_, g2.tr e2⟩
            rw [show eaB mk b i (w + 1) = true from decide_eq_true (fun u hu => by
              by_cases eu : u = w
              · rw [eu]; exact e3
              · exact of_decide_eq_true e u (by omega))]
            rfl
          · rw [if_neg e3, gLet, nI_1]
            refine hK2 _ _ ⟨?_, g2.tr e2⟩
            rw [show eaB mk b i (w + 1) = false from decide_eq_false (fun z => e3 (z w (by omega)))]
            rfl
        · rw [if_neg e, if_pos (show nI 0 = 0 from rfl), gLet, nI_1]
          refine hK2 _ _ ⟨?_, g2⟩
          rw [show eaB mk b i (w + 1) = false from decide_eq_false (fun z => e (decide_eq_true (fun u hu => z u (by omega))))]
          rfl
      · rintro v σ' K2 ⟨rfl, g2⟩
        unfold X9_evenAll_b15
        have hm' := MK_cg hm (fun j => g2 47 0 j (by unfold pSp; omega))
        rw [show gAt σ' 47 0 36 _ = _ from gAt_nI (i := 36) (show 36 < 30843 by omega) (by omega), hm'.1.1, if_pos (by rw [nI_leq (by omega) (by omega)]; omega)]
        dsimp only
        have hc : cntP (fun s => decide (1 ≤ s) && eaB mk b s W) (i + 1) = cntP (fun s => decide (1 ≤ s) && eaB mk b s W) i + if eaB mk b i W = true then 1 else 0 := by
          simp only [cntP]
          simp only [decide_eq_true hs, Bool.true_and]
        by_cases e : eaB mk b i W = true
        · rw [if_pos e, if_neg (show ¬ nI 1 = 0 by decide), gLet, gLet, nI_1, nI_1]
          exact hK _ _ ⟨by omega, by rw [hc, if_pos e], g2⟩
        · rw [if_neg e, if_pos (show nI 0 = 0 from rfl), gLet, gLet, nI_1, nI_p0]
          exact hK _ _ ⟨by omega, by rw [hc, if_neg e]; rfl, g2⟩
    · rintro v σ K ⟨hs, rfl, hI⟩
      unfold X9_evenAll_b4
      rw [if_pos (by rw [li63, nI_ltt (by omega) (by omega)]; omega)]
      exact ⟨σ, rfl, hI⟩
  obtain ⟨m1, e2, e3⟩ := e2
  exact ⟨_, x, m1, e1, e2, INV_congr h Eqv.rf (pSp_M e3)⟩
