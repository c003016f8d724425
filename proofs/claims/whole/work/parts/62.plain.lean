/-! LAYER 2: fittingPlainly. -/
def plF (_w j : Nat) : Nat := 2 ^ j
theorem par_bit {l j : Nat} (hj : j < 10) : par (l &&& 2 ^ j) = if l.testBit j then 1 else 0 := by
  unfold par
  rw [popF_cnt]
  by_cases e : l.testBit j = true
  · rw [if_pos e, cntP_new (p := fun _ => false) (a := j) (fun i => ?_) rfl 10, if_pos hj, cntP_none _ (fun _ _ => rfl)]
    rw [Nat.testBit_and, Nat.testBit_two_pow, Bool.false_or]
    by_cases z : i = j
    · subst z; rw [e]; simp
    · have z' : ¬ j = i := fun y => z y.symm
      simp [z, z']
  · rw [if_neg e, cntP_none 10 (fun i _ => ?_)]
    rw [Nat.testBit_and, Nat.testBit_two_pow]
    by_cases z : j = i
    · subst z; rw [Bool.eq_false_iff.mpr e]; rfl
    · simp [z]
theorem ix_plain (l w : Nat) : ∀ b, b ≤ 10 → ixR (plF w) l b = l % 2 ^ b := by
  intro b
  induction b with
  | zero => intro _; simp [ixR, Nat.mod_one]
  | succ b ih =>
    intro hb
    rw [ixR_s, ih (by omega), show plF w b = 2 ^ b from rfl, par_bit (by omega), Nat.mod_pow_succ, Nat.testBit_eq_decide_div_mod_eq]
    rcases Nat.mod_two_eq_zero_or_one (l / 2 ^ b) with z | z <;> simp [z]
theorem pl_lt {l b : Nat} (hb : b ≤ 4) : l % 2 ^ b < 16 := by
  have h1 := Nat.mod_lt l (Nat.two_pow_pos b)
  have h2 : 2 ^ b ≤ 2 ^ 4 := Nat.pow_le_pow_right (by omega) hb
  omega
theorem m_goOn1 {m : gM} {p root : Nat} (hp : p < 64) (hr : root < 64) (h60 : m 60 0 p = nI root) (h61 : m 61 0 root = -1) : X9_goOn (nI p) m = some ((), gup m 59 0 p (nI root)) := by
  unfold X9_goOn
  refine gL1_rec (fun q a σ => (q = 1 ∧ a = nI p ∧ σ = m) ∨ (q = 0 ∧ a = -1 ∧ σ = gup m 59 0 p (nI root))) (fun o => o = some ((), gup m 59 0 p (nI root))) ?_ FU 1 _ m (by rw [FU_eq]; omega) (Or.inl ⟨rfl, rfl, rfl⟩)
  rintro q a σ K (⟨rfl, rfl, rfl⟩ | ⟨rfl, rfl, rfl⟩) hK
  · unfold X9_goOn_b2
    rw [if_neg (nI_nm1 (by omega)), gAt_nI (show p < 64 from hp) (by omega), h60, gPut_nI (show p < 64 from hp) (by omega), gAt_nI (show root < 64 from hr) (by omega), gup_t (show 61 ≠ 59 by omega), h61]
    exact hK 0 _ _ (by omega) (Or.inr ⟨rfl, rfl, rfl⟩)
  · unfold X9_goOn_b2
    rw [if_pos rfl]
def oth62 (m τ : gM) : Prop := ∀ t k i, ¬ ((t = 60 ∨ t = 61 ∨ t = 62) ∧ k = 0) → τ t k i = m t k i
theorem fits_pl {m : gM} {W b root line k : Nat} (hM : MK m W b plF) (hr : root < 64) (hl : line < 1024) (hm : m 58 0 root = nI line) (hk : k ≤ W) (hheld : ∀ w, w < k → ∃ h l, h < root ∧ m 59 0 (16 * w + line % 2 ^ b) = nI h ∧ l < 1024 ∧ m 58 0 h = nI l ∧ l % 2 ^ b = line % 2 ^ b) (hfree : k < W → m 59 0 (16 * k + line % 2 ^ b) = -1) : ∃ m', X9_fits (nI root) m = some (decide (k < W), m') ∧ (∀ p, p < 64 → m' 59 0 p = if k < W ∧ p = 16 * k + line % 2 ^ b then nI root else m 59 0 p) ∧ Eqv pSM m m' := by
  unfold X9_fits
  have hW := hM.1.2.2.1
  have hb4 := hM.1.2.2.2
  have hv : line % 2 ^ b < 16 := pl_lt hb4
  rw [gJ0_e]
  have e60 := fil_loop (m := m) (R := fun (m1 : gM) => gPut m1 62 0 0 (nI root) (fun (m2 : gM) => gPut m2 61 0 (nI root) (-1) (fun (m3 : gM) => gJ1 (fun (v4 : Int32) (m5 : gM) => gCall (X9_goOn v4 m5) (fun (r7 : Unit) (m6 : gM) => some (true, m6))) (fun (j116 : Int32 → gM → Option (Bool × gM)) => gL2 FU (X9_fits_b39 j116) 1 0 m3)))) (f := X9_fits_b2 (fun (m1 : gM) => gPut m1 62 0 0 (nI root) (fun (m2 : gM) => gPut m2 61 0 (nI root) (-1) (fun (m3 : gM) => gJ1 (fun (v4 : Int32) (m5 : gM) => gCall (X9_goOn v4 m5) (fun (r7 : Unit) (m6 : gM) => some (true, m6))) (fun (j116 : Int32 → gM → Option (Bool × gM)) => gL2 FU (X9_fits_b39 j116) 1 0 m3))))) 60 0 (-1) 64 (fun i σ K hi => by
    unfold X9_fits_b2
    rw [if_neg (by rw [li64, nI_leq (by omega) (by omega)]; omega), gPut_nI (show i < 64 from hi) (by omega), gLet, nI_1]) (fun σ K => by
    unfold X9_fits_b2
    rw [if_pos (by rw [li64, nI_leq (by omega) (by omega)]; omega)]) (by rw [FU_eq]; omega)
  rw [e60, show gPut _ 62 0 0 _ _ = _ from gPut_nI (i := 0) (show 0 < 64 by omega) (by omega), gPut_nI (show root < 64 from hr) (by omega), gJ1_e]
  generalize hm1 : gup (gup (gfil m 60 0 (-1) 64) 62 0 0 (nI root)) 61 0 root (-1) = m1
  have om : oth62 m m1 := by
    intro t k i z
    rw [← hm1]
    unfold gup
    rw [if_neg (by omega), if_neg (by omega)]
    unfold gfil
    rw [if_neg (by omega)]
  have m60 : ∀ p, p < 64 → m1 60 0 p = -1 := fun p hp => by
    rw [← hm1, gup_t (by omega), gup_t (by omega)]; unfold gfil; rw [if_pos ⟨rfl, rfl, hp⟩]
  have m61 : m1 61 0 root = -1 := by rw [← hm1, gup_at, if_pos rfl]
  have m62 : m1 62 0 0 = nI root := by rw [← hm1, gup_t (by omega), gup_at, if_pos rfl]
  have hpi : ∀ (τ : gM) w l, oth62 m τ → w < W → l < 1024 → l % 2 ^ b = line % 2 ^ b → X9_placeOf (nI l) (nI w) τ = some (nI (16 * w + line % 2 ^ b), τ) := by
    intro τ w l hτ hw hl' he
    rw [MK_pi (MK_cg hM (fun j => hτ 47 0 j (by omega))) hl' hw, ix_plain l w b (by omega), he]
  have h36 : ∀ τ : gM, oth62 m τ → τ 47 0 36 = nI W := fun τ hτ => by rw [hτ 47 0 36 (by omega)]; exact hM.1.1
  refine gL2_for (fun i v τ => (i = 0 ∧ v = nI 1 ∧ τ = m1) ∨ (1 ≤ i ∧ v = nI (W + 1) ∧ k = W ∧ oth62 m τ ∧ (∀ w, w < W → τ 60 0 (16 * w + line % 2 ^ b) = nI root) ∧ ∀ w, w < W → ∃ h l, h < root ∧ τ 62 0 (1 + w) = nI h ∧ l < 1024 ∧ m 58 0 h = nI l ∧ l % 2 ^ b = line % 2 ^ b)) (fun o => ∃ m', o = some (decide (k < W), m') ∧ (∀ p, p < 64 → m' 59 0 p = if k < W ∧ p = 16 * k + line % 2 ^ b then nI root else m 59 0 p) ∧ Eqv pSM m m') (W + 1) ?_ ?_ FU 0 1 m1 (Nat.zero_le _) (by rw [FU_eq]; omega) (Or.inl ⟨rfl, rfl, rfl⟩)
  · rintro i v τ K hi hh hK
    unfold X9_fits_b39
    rcases hh with ⟨rfl, rfl, rfl⟩ | ⟨i1, rfl, hkW, oτ, t60, t62⟩
    · rw [if_neg (show ¬ nI 1 ≤ nI 0 by decide), gAt_nI (show 0 < 64 by omega) (by omega), m62]
      refine gL2_for (fun w a σ => a = nI (w + 1) ∧ w ≤ k ∧ oth62 m σ ∧ σ 61 0 root = -1 ∧ (∀ w', w' < W → σ 60 0 (16 * w' + line % 2 ^ b) = if w' < w then nI root else -1) ∧ ∀ w', w' < w → ∃ h l, h < root ∧ σ 62 0 (1 + w') = nI h ∧ l < 1024 ∧ m 58 0 h = nI l ∧ l % 2 ^ b = line % 2 ^ b) (fun o => ∃ m', o = some (decide (k < W), m') ∧ (∀ p, p < 64 → m' 59 0 p = if k < W ∧ p = 16 * k + line % 2 ^ b then nI root else m 59 0 p) ∧ Eqv pSM m m') W ?_ ?_ FU 0 _ τ (Nat.zero_le _) (by rw [FU_eq]; omega) ⟨rfl, Nat.zero_le _, om, m61, fun w' hw' => by rw [if_neg (by omega)]; exact m60 _ (by omega), fun w' hw' => absurd hw' (Nat.not_lt_zero _)⟩
      · rintro w a σ K2 hw ⟨rfl, hwk, oσ, s61, s60, s62⟩ hK2
        unfold X9_fits_b55
        have hp64 : 16 * w + line % 2 ^ b < 64 := by omega
        have q60 := s60 w hw
        rw [if_neg (Nat.lt_irrefl _)] at q60
        rw [show gAt σ 47 0 36 _ = _ from gAt_nI (i := 36) (show 36 < 30843 by omega) (by omega), h36 σ oσ, if_neg (by rw [nI_leq (by omega) (by omega)]; omega), gAt_nI (show root < 64 from hr) (by omega), oσ 58 0 root (by omega), hm, gCall_eq (hpi σ w line oσ hw hl rfl), gAt_nI (show 16 * w + line % 2 ^ b < 64 from hp64) (by omega), q60, if_pos rfl, gPut_nI (show 16 * w + line % 2 ^ b < 64 from hp64) (by omega), gAt_nI (show 16 * w + line % 2 ^ b < 64 from hp64) (by omega), gup_t (show 59 ≠ 60 by omega), oσ 59 0 _ (by omega)]
        rcases Nat.lt_or_ge w k with z | z
        · obtain ⟨h, l, k1, k2, k3, k4, k5⟩ := hheld w z
          rw [k2, if_neg (nI_nm1 (by omega)), gAt_nI (show 16 * w + line % 2 ^ b < 64 from hp64) (by omega), gup_t (show 59 ≠ 60 by omega), oσ 59 0 _ (by omega), k2, gPut_nI (show h < 64 by omega) (by omega), gAt_nI (show 16 * w + line % 2 ^ b < 64 from hp64) (by omega), gup_t (show 59 ≠ 61 by omega), gup_t (show 59 ≠ 60 by omega), oσ 59 0 _ (by omega), k2, gPut_nI (show w + 1 < 64 by omega) (by omega), gLet, gLet, nI_1, nI_1]
          refine hK2 _ _ ⟨rfl, by omega, fun t q j y => ?_, ?_, fun w' hw' => ?_, fun w' hw' => ?_⟩
          · unfold gup
            rw [if_neg (by omega), if_neg (by omega), if_neg (by omega)]
            exact oσ t q j y
          · rw [gup_t (by omega), gup_at, if_neg (by omega), gup_t (by omega)]; exact s61
          · rw [gup_t (by omega), gup_t (by omega), gup_at]
            by_cases ew : w' = w
            · rw [if_pos (by rw [ew]), if_pos (by omega)]
            · rw [if_neg (by omega), s60 w' hw']
              by_cases lw : w' < w
              · rw [if_pos lw, if_pos (by omega)]
              · rw [if_neg lw, if_neg (by omega)]
          · rw [gup_at]
            by_cases ew : w' = w
            · rw [if_pos (by omega)]; exact ⟨h, l, k1, rfl, k3, k4, k5⟩
            · rw [if_neg (by omega), gup_t (by omega), gup_t (by omega)]; exact s62 w' (by omega)
        · have hkw : k = w := by omega
          subst hkw
          rw [hfree hw, if_pos rfl]
          dsimp only
          rw [gCall_eq (m_goOn1 (root := root) hp64 hr (by rw [gup_at, if_pos rfl]) (by rw [gup_t (by omega)]; exact s61)), decide_eq_true hw]
          refine ⟨_, rfl, fun p hp => ?_, fun t q j y => ?_⟩
          · rw [gup_at]
            by_cases ep : p = 16 * k + line % 2 ^ b
            · rw [if_pos ep, if_pos ⟨hw, ep⟩]
            · rw [if_neg ep, if_neg (fun y => ep y.2), gup_t (by omega)]
              exact oσ 59 0 p (by omega)
          · unfold pSM at y
            unfold gup
            rw [if_neg (by omega), if_neg (by omega)]
            exact oσ t q j (by omega)
      · rintro a σ K2 ⟨rfl, hwk, oσ, s61, s60, s62⟩
        unfold X9_fits_b55
        rw [show gAt σ 47 0 36 _ = _ from gAt_nI (i := 36) (show 36 < 30843 by omega) (by omega), h36 σ oσ, if_pos (by rw [nI_leq (by omega) (by omega)]; omega), gLet, nI_1]
        exact hK _ _ (Or.inr ⟨Nat.le_refl _, rfl, by omega, oσ, fun w hw => by rw [s60 w hw, if_pos hw], s62⟩)
    · obtain ⟨h, l, k1, k2, k3, k4, k5⟩ := t62 (i - 1) (by omega)
      rw [show 1 + (i - 1) = i by omega] at k2
      rw [if_neg (show ¬ nI (W + 1) ≤ nI i by rw [nI_leq (by omega) (by omega)]; omega), gAt_nI (show i < 64 by omega) (by omega), k2]
      refine gL2_for (fun w a σ => a = nI (W + 1) ∧ σ = τ) (fun o => ∃ m', o = some (decide (k < W), m') ∧ (∀ p, p < 64 → m' 59 0 p = if k < W ∧ p = 16 * k + line % 2 ^ b then nI root else m 59 0 p) ∧ Eqv pSM m m') W ?_ ?_ FU 0 _ τ (Nat.zero_le _) (by rw [FU_eq]; omega) ⟨rfl, rfl⟩
      · rintro w a σ K2 hw ⟨rfl, rfl⟩ hK2
        unfold X9_fits_b55
        rw [show gAt σ 47 0 36 _ = _ from gAt_nI (i := 36) (show 36 < 30843 by omega) (by omega), h36 σ oτ, if_neg (by rw [nI_leq (by omega) (by omega)]; omega), gAt_nI (show h < 64 by omega) (by omega), oτ 58 0 h (by omega), k4, gCall_eq (hpi σ w l oτ hw k3 k5), gAt_nI (show 16 * w + line % 2 ^ b < 64 by omega) (by omega), t60 w hw, if_neg (nI_nm1 (by omega)), gLet, nI_1]
        exact hK2 _ _ ⟨rfl, rfl⟩
      · rintro a σ K2 ⟨rfl, rfl⟩
        unfold X9_fits_b55
        rw [show gAt σ 47 0 36 _ = _ from gAt_nI (i := 36) (show 36 < 30843 by omega) (by omega), h36 σ oτ, if_pos (by rw [nI_leq (by omega) (by omega)]; omega), gLet, nI_1]
        exact hK _ _ (Or.inr ⟨by omega, rfl, hkW, oτ, t60, t62⟩)
  · rintro v τ K (⟨h0, -, -⟩ | ⟨i1, rfl, hkW, oτ, t60, t62⟩)
    · omega
    · unfold X9_fits_b39
      rw [if_pos (by rw [nI_leq (by omega) (by omega)]; omega), decide_eq_false (by omega)]
      refine ⟨τ, rfl, fun p hp => ?_, fun t q j y => ?_⟩
      · rw [if_neg (fun z => by omega)]; exact oτ 59 0 p (by omega)
      · unfold pSM at y; exact oτ t q j (by omega)
def plS (T : Nat → Nat) (W n : Nat) : Nat := sumN (fun v => min (T v) W) n
theorem plS_s {T : Nat → Nat} {W a : Nat} : ∀ n, plS (fun q => T q + if a = q then 1 else 0) W n = plS T W n + if a < n ∧ T a < W then 1 else 0 := by
  intro n
  induction n with
  | zero => rfl
  | succ n ih =>
    unfold plS at ih ⊢
    simp only [sumN]
    rw [ih]
    by_cases e : a = n
    · subst e
      simp only [↓reduceIte, Nat.lt_irrefl, false_and, Nat.lt_succ_self, true_and]
      by_cases c : T a < W
      · rw [if_pos c]; omega
      · rw [if_neg c]; omega
    · rw [if_neg e]
      by_cases c : a < n ∧ T a < W
      · rw [if_pos c, if_pos ⟨by omega, c.2⟩]; omega
      · rw [if_neg c, if_neg (fun z => c ⟨by omega, z.2⟩)]; omega
theorem plS_le {T : Nat → Nat} {W : Nat} : ∀ n, plS T W n ≤ n * W := by
  intro n
  induction n with
  | zero => simp [plS, sumN]
  | succ n ih =>
    unfold plS at ih ⊢
    simp only [sumN]
    rw [Nat.succ_mul]
    omega
theorem m_fitP {m : gM} {W b g : Nat} {s : Nat → Nat} (hM : MK m W b plF) (hg : g ≤ 32) (h3 : m 47 0 3 = nI g) (hs : ∀ i, i < g → s i < 1024 ∧ m 47 0 (4 + i) = nI (s i)) : ∃ m', X9_fitting m = some (nI (plS (tyN (fun i => s i % 2 ^ b) g) W 16), m') ∧ Eqv pRM m m' := by
  unfold X9_fitting
  obtain ⟨m1, d1, d2, d3⟩ := m_clr (m := m)
  have hW := hM.1.2.2.1
  have hb4 := hM.1.2.2.2
  rw [gCall_eq d1]
  refine gL2_for (fun i v τ => v = nI (plS (tyN (fun i => s i % 2 ^ b) i) W 16) ∧ Eqv pRM m τ ∧ (∀ h, h < i → τ 58 0 h = nI (s h)) ∧ ∀ v w, v < 16 → w < W → (w < min (tyN (fun i => s i % 2 ^ b) i v) W → ∃ h, h < i ∧ τ 59 0 (16 * w + v) = nI h ∧ s h % 2 ^ b = v) ∧ (min (tyN (fun i => s i % 2 ^ b) i v) W ≤ w → τ 59 0 (16 * w + v) = -1)) (fun o => ∃ m', o = some (nI (plS (tyN (fun i => s i % 2 ^ b) g) W 16), m') ∧ Eqv pRM m m') g ?_ ?_ FU 0 0 m1 (Nat.zero_le _) (by rw [FU_eq]; omega) ⟨?_, pSM_R d3, fun h hh => absurd hh (Nat.not_lt_zero _), fun v w hv hw => ⟨fun z => ?_, fun _ => d2 _ (by omega)⟩⟩
  · rintro i v τ K hi ⟨rfl, eM, t58, t59⟩ hK
    unfold X9_fitting_b8
    obtain ⟨k1, k2⟩ := hs i hi
    have hv0 : s i % 2 ^ b < 16 := pl_lt hb4
    have hM' : MK (gup τ 58 0 i (nI (s i))) W b plF := MK_cg hM (fun j => by rw [gup_t (by omega)]; exact eM 47 0 j (by unfold pRM; omega))
    have hsum := plS_s (T := tyN (fun i => s i % 2 ^ b) i) (W := W) (a := s i % 2 ^ b) 16
    rw [show (fun q => tyN (fun i => s i % 2 ^ b) i q + if s i % 2 ^ b = q then 1 else 0) = tyN (fun i => s i % 2 ^ b) (i + 1) from funext fun q => (tyN_s (fun i => s i % 2 ^ b) i q).symm] at hsum
    have hT : ∀ v, tyN (fun i => s i % 2 ^ b) (i + 1) v = tyN (fun i => s i % 2 ^ b) i v + if s i % 2 ^ b = v then 1 else 0 := fun v => tyN_s _ _ _
    revert hsum hT hK t59
    generalize tyN (fun i => s i % 2 ^ b) (i + 1) = T'
    generalize tyN (fun i => s i % 2 ^ b) i = T
    intro t59 hK hsum hT
    obtain ⟨m', a1, a2, a3⟩ := fits_pl (k := min (T (s i % 2 ^ b)) W) hM' (show i < 64 by omega) k1 (by rw [gup_at, if_pos rfl]) (Nat.min_le_right _ _) (fun w hw => by
      obtain ⟨h, h1, h2, h3⟩ := (t59 (s i % 2 ^ b) w hv0 (by omega)).1 hw
      exact ⟨h, s h, h1, by rw [gup_t (by omega)]; exact h2, (hs h (by omega)).1, by rw [gup_at, if_neg (by omega)]; exact t58 h h1, h3⟩) (fun hlt => by rw [gup_t (by omega)]; exact (t59 (s i % 2 ^ b) _ hv0 hlt).2 (Nat.le_refl _))
    have eM' : Eqv pRM m m' := (eM.tr (Eqv.up (by unfold pRM; omega))).tr (pSM_R a3)
    have n58 : ∀ h, h < i + 1 → m' 58 0 h = nI (s h) := fun h hh => by
      rw [a3 58 0 h (by unfold pSM; omega), gup_at]
      by_cases e : h = i
      · rw [if_pos e, e]
      · rw [if_neg e]; exact t58 h (by omega)
    have n59 : ∀ v w, v < 16 → w < W → (w < min (T' v) W → ∃ h, h < i + 1 ∧ m' 59 0 (16 * w + v) = nI h ∧ s h % 2 ^ b = v) ∧ (min (T' v) W ≤ w → m' 59 0 (16 * w + v) = -1) := by
      intro v w hv hw
      obtain ⟨o1, o2⟩ := t59 v w hv hw
      rw [hT v, a2 (16 * w + v) (by omega), gup_t (show 59 ≠ 58 by omega)]
      by_cases ev : s i % 2 ^ b = v
      · subst ev
        rw [if_pos rfl]
        by_cases c : min (T (s i % 2 ^ b)) W < W ∧ 16 * w + s i % 2 ^ b = 16 * min (T (s i % 2 ^ b)) W + s i % 2 ^ b
        · rw [if_pos c]
          exact ⟨fun _ => ⟨i, by omega, rfl, rfl⟩, fun z => by omega⟩
        · rw [if_neg c]
          refine ⟨fun z => ?_, fun z => o2 (by omega)⟩
          obtain ⟨h, h1, h2, h3⟩ := o1 (by omega)
          exact ⟨h, by omega, h2, h3⟩
      · rw [if_neg ev, Nat.add_zero (T v), if_neg (fun z => ev (by omega))]
        refine ⟨fun z => ?_, o2⟩
        obtain ⟨h, h1, h2, h3⟩ := o1 z
        exact ⟨h, by omega, h2, h3⟩
    rw [show gAt τ 47 0 3 _ = _ from gAt_nI (i := 3) (show 3 < 30843 by omega) (by omega), eM 47 0 3 (by unfold pRM; omega), h3, if_neg (by rw [nI_leq (by omega) (by omega)]; omega), li4, nI_add, gAt_nI (show 4 + i < 30843 by omega) (by omega), eM 47 0 _ (by unfold pRM; omega), k2, gPut_nI (show i < 64 by omega) (by omega), gCall_eq a1]
    by_cases c : T (s i % 2 ^ b) < W
    · rw [decide_eq_true (by omega), if_pos rfl, gLet, gLet, nI_1, nI_1]
      exact hK _ _ ⟨by rw [hsum, if_pos ⟨hv0, c⟩], eM', n58, n59⟩
    · rw [decide_eq_false (by omega), if_neg (by decide), gLet, gLet, nI_p0, nI_1]
      exact hK _ _ ⟨by rw [hsum, if_neg (fun z => c z.2)]; rfl, eM', n58, n59⟩
  · rintro v τ K ⟨rfl, eM, t58, t59⟩
    unfold X9_fitting_b8
    rw [show gAt τ 47 0 3 _ = _ from gAt_nI (i := 3) (show 3 < 30843 by omega) (by omega), eM 47 0 3 (by unfold pRM; omega), h3, if_pos (by rw [nI_leq (by omega) (by omega)]; omega)]
    exact ⟨τ, rfl, eM⟩
  · rw [show plS (tyN (fun i => s i % 2 ^ b) 0) W 16 = 0 by
      unfold plS
      rw [sumN_congr (f := fun v => min (tyN (fun i => s i % 2 ^ b) 0 v) W) (g := fun _ => 0) 16 (fun v _ => Nat.zero_min _)]
      rfl]
    rfl
  · have : tyN (fun i => s i % 2 ^ b) 0 v = 0 := rfl
    omega
theorem x_fitP {x : gM} {W b g : Nat} {mk : Nat → Nat → Nat} {s : Nat → Nat} (h : XK x W b mk) (hg : g ≤ 32) (hs : ∀ i, i < g → s i < 1024 ∧ x 40 0 i = nI (s i)) : ∃ x', X7_fitPlainly 0 40 0 (nI g) x = some (nI (plS (tyN (fun i => s i % 2 ^ b) g) W 16), x') ∧ Eqv p44 x x' := by
  unfold X7_fitPlainly
  obtain ⟨x1, a1, a2, a3⟩ := x_zero44 (x := x)
  have hW := h.1.2.2.1
  have h4 := h.1.2.2.2
  have hp : 2 ^ b ≤ 2 ^ 4 := Nat.pow_le_pow_right (by omega) h4
  have hp1 := Nat.two_pow_pos b
  rw [gCall_eq a1, gJ0_e]
  refine gL1_for (fun i σ => (∀ q, q < 16 → σ 44 0 q = nI (tyN (fun i => s i % 2 ^ b) i q)) ∧ Eqv p44 x σ) (fun o => ∃ x', o = some (nI (plS (tyN (fun i => s i % 2 ^ b) g) W 16), x') ∧ Eqv p44 x x') g ?_ ?_ FU 0 x1 (Nat.zero_le _) (by rw [FU_eq]; omega) ⟨a2, a3⟩
  · rintro i σ K hi ⟨g1, g2⟩ hK
    unfold X7_fitPlainly_b11
    have hx := XK_cg h (fun t j ht => g2 t 0 j (by unfold p44; omega))
    have hf : s i % 2 ^ b < 16 := pl_lt h4
    rw [if_neg (by rw [nI_leq (by omega) (by omega)]; omega), show Int32.ofNat (glen 40) = nI 32 from rfl, if_neg (by rw [nI_leq (by omega) (by omega)]; omega), gAt_nI (show i < 32 by omega) (by omega), g2 40 0 i (by unfold p44; omega), (hs i hi).2, gCall_eq (XK_sl hx), nI_sub1 hp1, nI_and, Nat.and_two_pow_sub_one_eq_mod, gLet, gAt_nI (show s i % 2 ^ b < 16 from hf) (by omega), g1 _ hf, nI_1, gPut_nI (show s i % 2 ^ b < 16 from hf) (by omega), gLet, nI_1]
    refine hK _ ⟨fun q hq => ?_, g2.tr (Eqv.up ⟨rfl, rfl⟩)⟩
    rw [gup_at, tyN_s]
    by_cases e : q = s i % 2 ^ b
    · rw [if_pos e, if_pos e.symm, e]
    · rw [if_neg e, if_neg (fun z => e z.symm), g1 q hq]; rfl
  · rintro σ K ⟨g1, g2⟩
    unfold X7_fitPlainly_b11
    rw [if_pos (by rw [nI_leq (by omega) (by omega)]; omega)]
    have hl := tyN_le (fun i => s i % 2 ^ b) g
    have hx := XK_cg h (fun t j ht => g2 t 0 j (by unfold p44; omega))
    dsimp only
    revert g1 hl
    generalize tyN (fun i => s i % 2 ^ b) g = T
    intro g1 hl
    refine gL2_for (fun i v τ => τ = σ ∧ v = nI (plS T W i)) (fun o => ∃ x', o = some (nI (plS T W 16), x') ∧ Eqv p44 x x') 16 ?_ ?_ FU 0 0 σ (Nat.zero_le _) (by rw [FU_eq]; omega) ⟨rfl, rfl⟩
    · rintro i v τ K2 hi ⟨rfl, rfl⟩ hK2
      unfold X7_fitPlainly_b56
      have := hl i
      rw [if_neg (by rw [li16, nI_leq (by omega) (by omega)]; omega), gAt_nI (show i < 16 from hi) (by omega), g1 i hi, hx.1.1, gMin_nI (by omega) (by omega), nI_add, gLet, gLet, nI_1]
      exact hK2 _ _ ⟨rfl, rfl⟩
    · rintro v τ K2 ⟨rfl, rfl⟩
      unfold X7_fitPlainly_b56
      rw [if_pos (by rw [li16, nI_leq (by omega) (by omega)]; omega)]
      exact ⟨τ, rfl, g2⟩
def pFm (t k i : Nat) : Prop := pCm t k i ∨ (58 ≤ t ∧ t ≤ 62)
theorem back_pM2 {m m' : gM} (e : Eqv pFm (gblk m 47 0 36 56 0 0 1467) m') : Eqv pM m (gblk m' 56 0 0 47 0 36 1467) := by
  intro t k i q
  unfold pM at q
  have hq : t = 47 ∨ t = 48 ∨ t = 49 ∨ t = 50 ∨ t = 9 ∧ (i = 4 ∨ i = 5 ∨ i = 6) := Classical.not_not.mp q
  by_cases c : t = 47 ∧ k = 0 ∧ 36 ≤ i ∧ i < 1503
  · obtain ⟨rfl, rfl, c1, c2⟩ := c
    have e2 := e 56 0 (i - 36) (by unfold pFm pCm; omega)
    unfold gblk at e2 ⊢
    rw [if_pos ⟨rfl, rfl, by omega, by omega⟩] at e2
    rw [if_pos ⟨rfl, rfl, by omega, by omega⟩, Nat.zero_add, e2]
    congr 1; omega
  · have e2 := e t k i (by unfold pFm pCm; omega)
    unfold gblk at e2 ⊢
    rw [if_neg (by omega)] at e2
    rw [if_neg (by omega), e2]
theorem q_fittingPlainly {x m : gM} {N : Nat} (h : INV x m N) : Ag (X8_fittingPlainly x) (X9_fittingPlainly m) N := by
  unfold X8_fittingPlainly X9_fittingPlainly
  obtain ⟨g, s, g1, g2, g3, g4, -⟩ := set_is h
  have hB := h.bi
  obtain ⟨m1, l1, l2, l3⟩ := m_layF (m := gblk m 47 0 36 56 0 0 1467) (a := 0) put_mB hB.1.1 hB.1.2.2 hB.2.1.2 (FK_self hB) (Or.inl rfl)
  have om : ∀ i, i < 36 → m1 47 0 i = m 47 0 i := fun i hi => by rw [l3 47 0 i (by unfold pBk; omega)]; exact put_at (by omega)
  have hM : MK m1 (bW (mB m)) (bN (mB m)) plF := by
    have hw := hB.1
    have hn := hB.2.1
    refine ⟨⟨?_, ?_, hw.2.2, hn.2.2⟩, fun w j hw' hj => ⟨?_, ?_⟩⟩
    · show mB m1 0 = _
      rw [l2, fmW0 hn.2.2, if_neg (by omega)]; exact hw.1
    · show mB m1 1 = _
      rw [l2, fmW0 hn.2.2, if_neg (by omega)]; exact hn.1
    · have : m1 47 0 (47 + 4 * w + j) = mB m1 (11 + (4 * w + j)) := by
        show m1 47 0 (47 + 4 * w + j) = m1 47 0 (36 + (11 + (4 * w + j)))
        congr 1; omega
      rw [this, l2, fmW0 hn.2.2, if_pos (by omega), two_shl (by omega), show (11 + (4 * w + j) - 11) % 4 = j by omega]
      rfl
    · have : 2 ^ j ≤ 2 ^ 4 := Nat.pow_le_pow_right (by omega) (by omega)
      show 2 ^ j < 1024
      omega
  obtain ⟨m2, b1, b2⟩ := m_fitP hM g1 (by rw [om 3 (by omega)]; exact g3) (fun i hi => ⟨(g4 i hi).1, by rw [om _ (by omega)]; exact (g4 i hi).2.2⟩)
  obtain ⟨x1, a1, a2⟩ := x_fitP (s := s) (XK_of h.rs h.bi) g1 (fun i hi => ⟨(g4 i hi).1, (g4 i hi).2.1⟩)
  rw [g2, gCall_eq a1, gCall_eq put_ok, gCall_eq l1, gCall_eq b1, gCall_eq back_ok]
  refine ⟨_, _, _, rfl, rfl, INV_congr h (p44_X a2) (back_pM2 ((l3.mono (fun t k i q => ?_)).tr (b2.mono (fun t k i q => ?_))))⟩
  · unfold pBk at q; unfold pFm pCm; omega
  · unfold pRM at q; unfold pFm; omega
