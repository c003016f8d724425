/-! LAYER 2: loops in step; lines that meet. -/
theorem gL2_two {β γ : Type} (I : Nat → Int32 → Int32 → gM → gM → Prop) (P : Option β → Option γ → Prop) (e : Nat) {f : Int32 → Int32 → gM → (Int32 → Int32 → gM → Option β) → Option β} {g : Int32 → Int32 → gM → (Int32 → Int32 → gM → Option γ) → Option γ}
    (hs : ∀ i a b σ τ K K', i < e → I i a b σ τ → (∀ a' b' σ' τ', I (i + 1) a' b' σ' τ' → P (K a' (nI (i + 1)) σ') (K' b' (nI (i + 1)) τ')) → P (f a (nI i) σ K) (g b (nI i) τ K')) (hx : ∀ a b σ τ K K', I e a b σ τ → P (f a (nI e) σ K) (g b (nI e) τ K')) :
    ∀ (n n' i : Nat) a b σ τ, i ≤ e → e - i < n → e - i < n' → I i a b σ τ → P (gL2 n f a (nI i) σ) (gL2 n' g b (nI i) τ) := by
  intro n
  induction n with
  | zero => intro n' i a b σ τ _ h; exact absurd h (Nat.not_lt_zero _)
  | succ n ih =>
    intro n' i a b σ τ ha hn hn' hI
    cases n' with
    | zero => exact absurd hn' (Nat.not_lt_zero _)
    | succ n' =>
      rcases Nat.lt_or_ge i e with h | h
      · exact hs i a b σ τ _ _ h hI (fun a' b' σ' τ' hI' => ih n' (i + 1) a' b' σ' τ' h (by omega) (by omega) hI')
      · have : i = e := by omega
        subst this
        exact hx a b σ τ _ _ hI
theorem gL3_two {β γ : Type} (I : Nat → Int32 → Int32 → Int32 → Int32 → gM → gM → Prop) (P : Option β → Option γ → Prop) (e : Nat) {f : Int32 → Int32 → Int32 → gM → (Int32 → Int32 → Int32 → gM → Option β) → Option β} {g : Int32 → Int32 → Int32 → gM → (Int32 → Int32 → Int32 → gM → Option γ) → Option γ}
    (hs : ∀ i a b c d σ τ K K', i < e → I i a b c d σ τ → (∀ a' b' c' d' σ' τ', I (i + 1) a' b' c' d' σ' τ' → P (K a' b' (nI (i + 1)) σ') (K' c' d' (nI (i + 1)) τ')) → P (f a b (nI i) σ K) (g c d (nI i) τ K')) (hx : ∀ a b c d σ τ K K', I e a b c d σ τ → P (f a b (nI e) σ K) (g c d (nI e) τ K')) :
    ∀ (n n' i : Nat) a b c d σ τ, i ≤ e → e - i < n → e - i < n' → I i a b c d σ τ → P (gL3 n f a b (nI i) σ) (gL3 n' g c d (nI i) τ) := by
  intro n
  induction n with
  | zero => intro n' i a b c d σ τ _ h; exact absurd h (Nat.not_lt_zero _)
  | succ n ih =>
    intro n' i a b c d σ τ ha hn hn' hI
    cases n' with
    | zero => exact absurd hn' (Nat.not_lt_zero _)
    | succ n' =>
      rcases Nat.lt_or_ge i e with h | h
      · exact hs i a b c d σ τ _ _ h hI (fun a' b' c' d' σ' τ' hI' => ih n' (i + 1) a' b' c' d' σ' τ' h (by omega) (by omega) hI')
      · have : i = e := by omega
        subst this
        exact hx a b c d σ τ _ _ hI
theorem nI_p0 (a : Nat) : nI a + 0 = nI a := by rw [show (0 : Int32) = nI 0 from rfl, nI_add, Nat.add_zero]
theorem cntP_all {p : Nat → Bool} : ∀ n, (∀ i, i < n → p i = true) → cntP p n = n := by
  intro n
  induction n with
  | zero => intro _; rfl
  | succ n ih => intro h; simp only [cntP]; rw [ih (fun i hi => h i (by omega)), if_pos (h n (by omega))]
theorem cntP_full {p : Nat → Bool} : ∀ n, cntP p n = n → ∀ i, i < n → p i = true := by
  intro n
  induction n with
  | zero => intro _ i hi; omega
  | succ n ih =>
    intro h i hi
    have hle := cntP_le p n
    simp only [cntP] at h
    by_cases e : p n = true
    · rw [if_pos e] at h
      rcases Nat.lt_or_ge i n with z | z
      · exact ih (by omega) i z
      · rw [show i = n by omega]; exact e
    · rw [if_neg e] at h; omega
theorem cntP_none {p : Nat → Bool} : ∀ n, (∀ i, i < n → p i = false) → cntP p n = 0 := by
  intro n
  induction n with
  | zero => intro _; rfl
  | succ n ih => intro h; simp only [cntP]; rw [ih (fun i hi => h i (by omega)), h n (by omega)]; rfl
theorem cntP_add (p : Nat → Bool) (m : Nat) : ∀ k, cntP p (m + k) = cntP p m + cntP (fun i => p (m + i)) k := by
  intro k
  induction k with
  | zero => rfl
  | succ k ih => rw [← Nat.add_assoc]; simp only [cntP]; rw [ih, Nat.add_assoc]
/-- one more is counted -/
theorem cntP_new {p q : Nat → Bool} {a : Nat} (hq : ∀ i, q i = (p i || decide (i = a))) (hp : p a = false) : ∀ n, cntP q n = cntP p n + (if a < n then 1 else 0) := by
  intro n
  induction n with
  | zero => rfl
  | succ n ih =>
    simp only [cntP]
    rw [ih, hq n]
    by_cases e : n = a
    · subst e
      simp [hp]
    · have h1 : (if a < n + 1 then 1 else 0) = (if a < n then 1 else 0) := by
        by_cases l : a < n
        · rw [if_pos l, if_pos (by omega)]
        · rw [if_neg l, if_neg (by omega)]
      rw [h1, decide_eq_false e, Bool.or_false]
      omega
theorem cntP_mono {p q : Nat → Bool} : ∀ n, (∀ i, i < n → p i = true → q i = true) → cntP p n ≤ cntP q n := by
  intro n
  induction n with
  | zero => intro _; exact Nat.le_refl _
  | succ n ih =>
    intro h
    have := ih (fun i hi => h i (by omega))
    simp only [cntP]
    by_cases e : p n = true
    · rw [if_pos e, if_pos (h n (by omega) e)]; omega
    · rw [if_neg e]; omega
/-- a loop that counts over i = s .. e less 1; the memory may change, but keeps I -/
theorem gL2_cntI {β : Type} (I : gM → Prop) (P : Option β → Prop) (p : Nat → Bool) (s e : Nat) {m : gM} {f : Int32 → Int32 → gM → (Int32 → Int32 → gM → Option β) → Option β} (hp : ∀ i, i < s → p i = false)
    (hs : ∀ i c σ K, s ≤ i → i < e → c ≤ i → I σ → ∃ σ', I σ' ∧ f (nI c) (nI i) σ K = K (nI (c + (if p i then 1 else 0))) (nI (i + 1)) σ') (hx : ∀ σ K, I σ → P (f (nI (cntP p e)) (nI e) σ K)) (he : e < FU) (hse : s ≤ e) (hI : I m) : P (gL2 FU f 0 (nI s) m) := by
  refine gL2_for (fun i x σ => I σ ∧ s ≤ i ∧ x = nI (cntP p i)) P e ?_ ?_ FU s 0 m hse (by omega) ⟨hI, Nat.le_refl _, by rw [cntP_none s hp]; rfl⟩
  · rintro i x σ K hi ⟨h1, h2, rfl⟩ hK
    obtain ⟨σ', g1, g2⟩ := hs i _ σ K h2 hi (cntP_le p i) h1
    rw [g2]
    exact hK _ _ ⟨g1, by omega, rfl⟩
  · rintro x σ K ⟨h1, h2, rfl⟩
    exact hx σ K h1
def shP (B : Nat → Int32) (a b w : Nat) : Bool := decide (bIx B a w = bIx B b w)
def shN (B : Nat → Int32) (a b : Nat) : Nat := cntP (shP B a b) (bW B)
theorem x_shN {m : gM} {k N a b : Nat} {B : Nat → Int32} (hR : RS m k B N) (hB : BI B N) (ha : a < 1024) (hb : b < 1024) : X3_waysShared k (nI a) (nI b) m = some (nI (shN B a b), m) := by
  have hw := hB.1.2.2
  unfold X3_waysShared
  refine gL2_cnt (shP B a b) (bW B) (fun i c K hi hc => ?_) (fun K => ?_) (by rw [FU_eq]; omega)
  · unfold X3_waysShared_b5
    have h1 := bIx_lt hB a i
    have h2 := bIx_lt hB b i
    rw [hR.1.1, hB.1.1, if_neg (by rw [nI_leq (by omega) (by omega)]; omega), gCall_eq (X3_ix hR hB ha hi), gCall_eq (X3_ix hR hB hb hi)]
    by_cases e : bIx B a i = bIx B b i
    · rw [if_pos (by rw [e]), gLet, gLet, nI_1, nI_1, if_pos (show shP B a b i = true from decide_eq_true e)]
    · rw [if_neg (fun z => e ((nI_inj (by omega) (by omega)).mp z)), gLet, nI_1, if_neg (show ¬ shP B a b i = true from fun z => e (of_decide_eq_true z))] <;> rfl
  · unfold X3_waysShared_b5
    rw [hR.1.1, hB.1.1, if_pos (by rw [nI_leq (by omega) (by omega)]; omega)]
    rfl
theorem m_shN {m : gM} {N a b : Nat} (hB : BI (mB m) N) (ha : a < 1024) (hb : b < 1024) : X9_togetherIn (nI a) (nI b) m = some (nI (shN (mB m) a b), m) := by
  have hw := hB.1.2.2
  unfold X9_togetherIn
  refine gL2_cnt (shP (mB m) a b) (bW (mB m)) (fun i c K hi hc => ?_) (fun K => ?_) (by rw [FU_eq]; omega)
  · unfold X9_togetherIn_b5
    have h1 := bIx_lt hB a i
    have h2 := bIx_lt hB b i
    rw [show (36 : Int32) = nI (36 + 0) from rfl, m_get (by omega), hB.1.1, if_neg (by rw [nI_leq (by omega) (by omega)]; omega), gCall_eq (X9_ix hB ha (by omega)), gCall_eq (X9_ix hB hb (by omega))]
    by_cases e : bIx (mB m) a i = bIx (mB m) b i
    · rw [if_pos (by rw [e]), gLet, gLet, nI_1, nI_1, if_pos (show shP (mB m) a b i = true from decide_eq_true e)]
    · rw [if_neg (fun z => e ((nI_inj (by omega) (by omega)).mp z)), gLet, gLet, nI_1, nI_p0, if_neg (show ¬ shP (mB m) a b i = true from fun z => e (of_decide_eq_true z))] <;> rfl
  · unfold X9_togetherIn_b5
    rw [show (36 : Int32) = nI (36 + 0) from rfl, m_get (by omega), hB.1.1, if_pos (by rw [nI_leq (by omega) (by omega)]; omega)]
    rfl
theorem q_together {x m : gM} {N : Nat} (h : INV x m N) (a b : Int32) : Ag (X8_together a b x) (X9_together a b m) N := by
  unfold X8_together X9_together
  rcases line_cases a with ⟨l, hl, rfl⟩ | ⟨h1, h2⟩
  · rw [gCall_eq (lineT hl x).1, if_pos rfl, gCall_eq (lineT hl m).2, if_pos rfl]
    rcases line_cases b with ⟨o, ho, rfl⟩ | ⟨g1, g2⟩
    · rw [gCall_eq (lineT ho x).1, if_pos rfl, gCall_eq (lineT ho m).2, if_pos rfl, gCall_eq (x_shN h.rs h.bi hl ho), gCall_eq (m_shN h.bi hl ho)]
      exact Ag.same h _ rfl rfl
    · rw [gCall_eq (g1 x), gCall_eq (g2 m)]
      exact Ag.same h _ rfl rfl
  · rw [gCall_eq (h1 x), gCall_eq (h2 m)]
    exact Ag.same h _ rfl rfl
theorem ixR_s (mk : Nat → Nat) (l j : Nat) : ixR mk l (j + 1) = ixR mk l j + par (l &&& mk j) * 2 ^ j := by
  have h := Nat.two_pow_add_eq_or_of_lt (ixR_lt mk l j) (par (l &&& mk j))
  simp only [ixR]
  rw [Nat.or_comm, Nat.mul_comm, ← h, Nat.add_comm]
theorem ixR_xor (mk : Nat → Nat) (a o : Nat) : ∀ n, ixR mk (a ^^^ o) n = 0 ↔ ixR mk a n = ixR mk o n := by
  intro n
  induction n with
  | zero => simp [ixR]
  | succ n ih =>
    have h0 := ixR_lt mk (a ^^^ o) n
    have h1 := ixR_lt mk a n
    have h2 := ixR_lt mk o n
    have hp : par ((a ^^^ o) &&& mk n) = (par (a &&& mk n) + par (o &&& mk n)) % 2 := by rw [Nat.and_xor_distrib_right, par_xor]
    have p1 := par_lt (a &&& mk n)
    have p2 := par_lt (o &&& mk n)
    rw [ixR_s, ixR_s, ixR_s, hp]
    have hpos := Nat.two_pow_pos n
    generalize 2 ^ n = T at h0 h1 h2 hpos ⊢
    generalize par (a &&& mk n) = u at p1 ⊢
    generalize par (o &&& mk n) = v at p2 ⊢
    rcases (show u = 0 ∨ u = 1 by omega) with rfl | rfl <;> rcases (show v = 0 ∨ v = 1 by omega) with rfl | rfl <;> simp <;> omega
def twB (B : Nat → Int32) (a o : Nat) : Bool := decide (∀ w, w < bW B → bIx B a w = bIx B o w)
theorem twB_sh {B : Nat → Int32} {a o : Nat} : shN B a o = bW B ↔ twB B a o = true := by
  unfold shN twB
  rw [decide_eq_true_iff]
  constructor
  · intro h w hw
    exact of_decide_eq_true (cntP_full _ h w hw)
  · intro h
    exact cntP_all _ (fun i hi => decide_eq_true (h i hi))
theorem twB_le {B : Nat → Int32} {a o : Nat} : bW B ≤ shN B a o ↔ twB B a o = true := by
  rw [← twB_sh]
  have := cntP_le (shP B a o) (bW B)
  unfold shN
  omega
theorem shN_sym (B : Nat → Int32) (a o : Nat) : shN B a o = shN B o a := cntP_congr _ (fun i _ => by unfold shP; exact decide_eq_decide.mpr ⟨Eq.symm, Eq.symm⟩)
theorem twB_sym (B : Nat → Int32) (a o : Nat) : twB B a o = twB B o a := by
  have h1 := @twB_sh B a o
  have h2 := @twB_sh B o a
  rw [shN_sym] at h1
  exact Bool.eq_iff_iff.mpr (h1.symm.trans h2)
theorem x_twB {m : gM} {k N a o : Nat} {B : Nat → Int32} (hR : RS m k B N) (hB : BI B N) (ha : a < 1024) (ho : o < 1024) : X3_areTwins k (nI a) (nI o) m = some (twB B a o, m) := by
  have hw := hB.1.2.2
  unfold X3_areTwins
  refine gL1_for (fun i σ => σ = m ∧ ∀ w, w < i → bIx B a w = bIx B o w) (fun r => r = some (twB B a o, m)) (bW B) ?_ ?_ FU 0 m (Nat.zero_le _) (by rw [FU_eq]; omega) ⟨rfl, fun w hw => by omega⟩
  · rintro i σ K hi ⟨rfl, hn⟩ hK
    unfold X3_areTwins_b2
    have hxl : a ^^^ o < 1024 := Nat.xor_lt_two_pow (n := 10) ha ho
    have hx := bIx_lt hB (a ^^^ o) i
    have hiff : bIx B (a ^^^ o) i = 0 ↔ bIx B a i = bIx B o i := ixR_xor (bMk B i) a o (bN B)
    rw [hR.1.1, hB.1.1, if_neg (by rw [nI_leq (by omega) (by omega)]; omega), nI_xor, gCall_eq (X3_ix hR hB hxl hi)]
    by_cases e : bIx B a i = bIx B o i
    · rw [if_pos ((nI_z (by omega)).mpr (hiff.mpr e)), gLet, nI_1]
      refine hK _ ⟨rfl, fun w hw => ?_⟩
      rcases Nat.lt_or_ge w i with z | z
      · exact hn w z
      · rw [show w = i by omega]; exact e
    · rw [if_neg (fun z => e (hiff.mp ((nI_z (by omega)).mp z)))]
      rw [show twB B a o = false from decide_eq_false (fun z => e (z i hi))]
  · rintro σ K ⟨rfl, hn⟩
    unfold X3_areTwins_b2
    rw [hR.1.1, hB.1.1, if_pos (by rw [nI_leq (by omega) (by omega)]; omega)]
    rw [show twB B a o = true from decide_eq_true hn]
theorem q_twins {x m : gM} {N : Nat} (h : INV x m N) (a : Int32) : Ag (X8_twins a x) (X9_twins a m) N := by
  unfold X8_twins X9_twins
  have hw := h.bi.1.2.2
  rcases line_cases a with ⟨l, hl, rfl⟩ | ⟨h1, h2⟩
  · rw [gCall_eq (lineT hl x).1, if_pos rfl, gCall_eq (lineT hl m).2, if_pos rfl]
    refine Ag.same h (nI (cntP (twB (mB m) l) 1024)) ?_ ?_
    · refine gL2_cnt (twB (mB m) l) 1024 (fun i c K hi hc => ?_) (fun K => ?_) (by rw [FU_eq]; omega)
      · unfold X8_twins_b13
        rw [if_neg (by rw [li1024, nI_leq (by omega) (by omega)]; omega), gCall_eq (x_twB h.rs h.bi hl hi)]
        by_cases e : twB (mB m) l i = true
        · rw [if_pos e, if_pos e, gLet, gLet, nI_1, nI_1]
        · rw [if_neg e, if_neg e, gLet, nI_1] <;> rfl
      · unfold X8_twins_b13
        rw [if_pos (by rw [li1024, nI_leq (by omega) (by omega)]; omega)]
    · refine gL2_cnt (twB (mB m) l) 1024 (fun i c K hi hc => ?_) (fun K => ?_) (by rw [FU_eq]; omega)
      · unfold X9_twins_b13
        have hs : shN (mB m) l i ≤ bW (mB m) := cntP_le _ _
        rw [if_neg (by rw [li1024, nI_leq (by omega) (by omega)]; omega), gCall_eq (m_shN h.bi hl hi), show (36 : Int32) = nI (36 + 0) from rfl, m_get (by omega), h.bi.1.1]
        by_cases e : twB (mB m) l i = true
        · rw [if_pos (by rw [twB_sh.mpr e]), if_pos e, gLet, gLet, nI_1, nI_1]
        · rw [if_neg (fun z => e (twB_sh.mp ((nI_inj (by omega) (by omega)).mp z))), if_neg e, gLet, gLet, nI_1, nI_p0] <;> rfl
      · unfold X9_twins_b13
        rw [if_pos (by rw [li1024, nI_leq (by omega) (by omega)]; omega)]
  · rw [gCall_eq (h1 x), gCall_eq (h2 m)]
    exact Ag.same h _ rfl rfl
theorem q_twin {x m : gM} {N : Nat} (h : INV x m N) (a b : Int32) : Ag (X8_twin a b x) (X9_twin a b m) N := by
  unfold X8_twin X9_twin
  have hw := h.bi.1.2.2
  rcases line_cases a with ⟨l, hl, rfl⟩ | ⟨h1, h2⟩
  · rw [gCall_eq (lineT hl x).1, if_pos rfl, gCall_eq (lineT hl m).2, if_pos rfl]
    by_cases hb : 0 ≤ b
    · rw [if_pos hb, if_pos hb]
      refine gL2_two (fun i a b σ τ => a = b ∧ σ = x ∧ τ = m) (fun p q => Ag p q N) 1024 ?_ ?_ FU FU 0 0 0 x m (by omega) (by rw [FU_eq]; omega) (by rw [FU_eq]; omega) ⟨rfl, rfl, rfl⟩
      · rintro i c c' σ τ K K' hi ⟨rfl, rfl, rfl⟩ hK
        unfold X8_twin_b18 X9_twin_b18
        have hs : shN (mB τ) l i ≤ bW (mB τ) := cntP_le _ _
        rw [if_neg (by rw [li1024, nI_leq (by omega) (by omega)]; omega), if_neg (by rw [li1024, nI_leq (by omega) (by omega)]; omega), gCall_eq (x_twB h.rs h.bi hl hi), gCall_eq (m_shN h.bi hl hi), show (36 : Int32) = nI (36 + 0) from rfl, m_get (by omega), h.bi.1.1]
        by_cases e : twB (mB τ) l i = true
        · rw [if_pos e, if_pos (show nI (bW (mB τ)) ≤ nI (shN (mB τ) l i) by rw [nI_leq (by omega) (by omega)]; exact twB_le.mpr e)]
          by_cases e2 : c = b
          · rw [if_pos e2, if_pos e2]; exact Ag.same h _ rfl rfl
          · rw [if_neg e2, if_neg e2, gLet, gLet, gLet, gLet, nI_1]
            exact hK _ _ _ _ ⟨rfl, rfl, rfl⟩
        · rw [if_neg e, if_neg (fun z => e (twB_le.mp ((nI_leq (by omega) (by omega)).mp z))), gLet, gLet, nI_1]
          exact hK _ _ _ _ ⟨rfl, rfl, rfl⟩
      · rintro c c' σ τ K K' ⟨rfl, rfl, rfl⟩
        unfold X8_twin_b18 X9_twin_b18
        rw [if_pos (by rw [li1024, nI_leq (by omega) (by omega)]; omega), if_pos (by rw [li1024, nI_leq (by omega) (by omega)]; omega)]
        exact Ag.same h _ rfl rfl
    · rw [if_neg hb, if_neg hb]
      exact Ag.same h _ rfl rfl
  · rw [gCall_eq (h1 x), gCall_eq (h2 m)]
    exact Ag.same h _ rfl rfl
def sumN (f : Nat → Nat) : Nat → Nat
  | 0 => 0
  | n + 1 => sumN f n + f n
theorem sumN_congr {f g : Nat → Nat} : ∀ n, (∀ i, i < n → f i = g i) → sumN f n = sumN g n := by
  intro n
  induction n with
  | zero => intro _; rfl
  | succ n ih => intro h; simp only [sumN]; rw [ih (fun i hi => h i (by omega)), h n (by omega)]
theorem sumN_add {f g : Nat → Nat} : ∀ n, sumN (fun i => f i + g i) n = sumN f n + sumN g n := by
  intro n
  induction n with
  | zero => rfl
  | succ n ih => simp only [sumN]; rw [ih]; omega
theorem sumN_cnt (p : Nat → Bool) : ∀ n, sumN (fun i => if p i then 1 else 0) n = cntP p n := by
  intro n
  induction n with
  | zero => rfl
  | succ n ih => simp only [sumN, cntP]; rw [ih]
def triA (t : Nat → Nat → Bool) (n : Nat) : Nat → Nat := sumN (fun i => cntP (fun j => decide (i < j) && t i j) n)
def triB (t : Nat → Nat → Bool) : Nat → Nat := sumN (fun j => cntP (fun i => t j i) j)
theorem tri_eq {t : Nat → Nat → Bool} (hs : ∀ i j, t i j = t j i) : ∀ n, triA t n n = triB t n := by
  intro n
  induction n with
  | zero => rfl
  | succ n ih =>
    have h1 : cntP (fun j => decide (n < j) && t n j) (n + 1) = 0 := cntP_none _ (fun i hi => by rw [decide_eq_false (by omega)]; rfl)
    have h2 : sumN (fun i => cntP (fun j => decide (i < j) && t i j) (n + 1)) n = sumN (fun i => cntP (fun j => decide (i < j) && t i j) n + (if t n i then 1 else 0)) n := by
      refine sumN_congr n (fun i hi => ?_)
      simp only [cntP]
      simp only [decide_eq_true hi, Bool.true_and, hs i n]
    unfold triA triB at ih ⊢
    simp only [sumN]
    rw [h1, h2, sumN_add, ih, sumN_cnt, Nat.add_zero]
theorem gL2_triA {β : Type} {m : gM} (t : Nat → Nat → Bool) (n : Nat) {R : Option β} {f : Int32 → Int32 → gM → (Int32 → Int32 → gM → Option β) → Option β} (g : (Int32 → Int32 → gM → Option β) → Int32 → Int32 → Int32 → gM → (Int32 → Int32 → gM → Option β) → Option β) (hn : n < FU)
    (hf : ∀ i c K, i < n → f (nI c) (nI i) m K = gL2 FU (g K (nI i)) (nI c) (nI (i + 1)) m)
    (hg : ∀ i j c K K', i < j → j < n → g K (nI i) (nI c) (nI j) m K' = K' (nI (c + (if t i j then 1 else 0))) (nI (j + 1)) m)
    (hgx : ∀ i c K K', i < n → g K (nI i) (nI c) (nI n) m K' = K (nI c) (nI (i + 1)) m)
    (hx : ∀ K, f (nI (triA t n n)) (nI n) m K = R) : gL2 FU f 0 0 m = R := by
  refine gL2_for (fun i x σ => σ = m ∧ x = nI (triA t n i)) (fun o => o = R) n ?_ ?_ FU 0 0 m (Nat.zero_le _) (by omega) ⟨rfl, rfl⟩
  · rintro i x σ K hi ⟨rfl, rfl⟩ hK
    rw [hf i _ K hi]
    refine gL2_for (fun j x τ => τ = σ ∧ i < j ∧ x = nI (triA t n i + cntP (fun j => decide (i < j) && t i j) j)) (fun o => o = R) n ?_ ?_ FU (i + 1) _ σ (by omega) (by omega) ⟨rfl, by omega, ?_⟩
    · rintro j x τ K' hj ⟨rfl, h2, rfl⟩ hK'
      rw [hg i j _ K K' h2 hj]
      refine hK' _ _ ⟨rfl, by omega, ?_⟩
      simp only [cntP]
      simp only [decide_eq_true h2, Bool.true_and, Nat.add_assoc]
    · rintro x τ K' ⟨rfl, h2, rfl⟩
      rw [hgx i _ K K' hi]
      exact hK _ _ ⟨rfl, rfl⟩
    · rw [cntP_none (i + 1) (fun j hj => by rw [decide_eq_false (by omega)]; rfl), Nat.add_zero]
  · rintro x σ K ⟨rfl, rfl⟩
    exact hx K
theorem gL2_triB {β : Type} {m : gM} (t : Nat → Nat → Bool) (n : Nat) {R : Option β} {f : Int32 → Int32 → gM → (Int32 → Int32 → gM → Option β) → Option β} (g : (Int32 → Int32 → gM → Option β) → Int32 → Int32 → Int32 → gM → (Int32 → Int32 → gM → Option β) → Option β) (hn : n < FU)
    (hf : ∀ i c K, i < n → f (nI c) (nI i) m K = gL2 FU (g K (nI i)) (nI c) 0 m)
    (hg : ∀ i j c K K', j < i → i < n → g K (nI i) (nI c) (nI j) m K' = K' (nI (c + (if t i j then 1 else 0))) (nI (j + 1)) m)
    (hgx : ∀ i c K K', i < n → g K (nI i) (nI c) (nI i) m K' = K (nI c) (nI (i + 1)) m)
    (hx : ∀ K, f (nI (triB t n)) (nI n) m K = R) : gL2 FU f 0 0 m = R := by
  refine gL2_for (fun i x σ => σ = m ∧ x = nI (triB t i)) (fun o => o = R) n ?_ ?_ FU 0 0 m (Nat.zero_le _) (by omega) ⟨rfl, rfl⟩
  · rintro i x σ K hi ⟨rfl, rfl⟩ hK
    rw [hf i _ K hi]
    refine gL2_for (fun j x τ => τ = σ ∧ x = nI (triB t i + cntP (t i) j)) (fun o => o = R) i ?_ ?_ FU 0 _ σ (by omega) (by omega) ⟨rfl, rfl⟩
    · rintro j x τ K' hj ⟨rfl, rfl⟩ hK'
      rw [hg i j _ K K' hj hi]
      exact hK' _ _ ⟨rfl, by simp only [cntP]; rw [Nat.add_assoc]⟩
    · rintro x τ K' ⟨rfl, rfl⟩
      rw [hgx i _ K K' hi]
      exact hK _ _ ⟨rfl, rfl⟩
  · rintro x σ K ⟨rfl, rfl⟩
    exact hx K
theorem swept1 (a : Int32) : (∃ n, 1 ≤ n ∧ n ≤ 64 ∧ a = nI n ∧ (∀ m, X8_isSwept a m = some (true, m)) ∧ ∀ m, X9_isIn a 1 64 m = some (true, m)) ∨ ((∀ m, X8_isSwept a m = some (false, m)) ∧ ∀ m, X9_isIn a 1 64 m = some (false, m)) := by
  rcases in_out a 1 64 with ⟨n, n1, n2, -, rfl⟩ | ho
  · refine Or.inl ⟨n, n1, n2, rfl, fun m => ?_, fun m => isIn_T n1 n2 (by omega) m⟩
    unfold X8_isSwept
    rw [if_neg (by rw [li1, nI_ltt (by omega) (by omega)]; omega), if_neg (by rw [li64, nI_ltt (by omega) (by omega)]; omega)]
  · refine Or.inr ⟨fun m => ?_, fun m => isIn_F ho (by omega) (by omega) m⟩
    unfold X8_isSwept
    rcases out1 (by omega) ho with g | ⟨g, g2⟩
    · rw [if_pos g]
    · rw [if_neg g, if_pos (show 64 < a from g2)]
theorem m_twB {m : gM} {N a o : Nat} (hB : BI (mB m) N) (ha : a < 1024) (ho : o < 1024) : X9_areTwins (nI a) (nI o) m = some (twB (mB m) a o, m) := by
  unfold X9_areTwins
  have hw := hB.1.2.2
  have hs : shN (mB m) a o ≤ bW (mB m) := cntP_le _ _
  rw [gCall_eq (m_shN hB ha ho), show (36 : Int32) = nI (36 + 0) from rfl, m_get (by omega), hB.1.1]
  by_cases e : twB (mB m) a o = true
  · rw [if_pos (by rw [twB_sh.mpr e]), e]
  · rw [if_neg (fun z => e (twB_sh.mp ((nI_inj (by omega) (by omega)).mp z))), Bool.eq_false_iff.mpr e]
theorem q_pairs {x m : gM} {N : Nat} (h : INV x m N) (a : Int32) : Ag (X8_pairs a x) (X9_pairs a m) N := by
  unfold X8_pairs X9_pairs
  rcases swept1 a with ⟨n, hn1, hn, rfl, h1, h2⟩ | ⟨h1, h2⟩
  · rw [gCall_eq (h1 x), if_pos rfl, gCall_eq (h2 m), if_pos rfl]
    refine Ag.same h (nI (triB (twB (mB m)) n)) ?_ ?_
    · rw [← tri_eq (twB_sym (mB m))]
      refine gL2_triA (twB (mB m)) n (fun K v4 => X8_pairs_b23 (nI n) K v4) (by rw [FU_eq]; omega) (fun i c K hi => ?_) (fun i j c K K' hij hj => ?_) (fun i c K K' hi => ?_) (fun K => ?_)
      · unfold X8_pairs_b13
        rw [if_neg (by rw [nI_leq (by omega) (by omega)]; omega), gLet, nI_1]
      · unfold X8_pairs_b23
        rw [if_neg (by rw [nI_leq (by omega) (by omega)]; omega), gCall_eq (x_twB h.rs h.bi (by omega) (by omega))]
        by_cases e : twB (mB m) i j = true
        · rw [if_pos e, if_pos e, gLet, gLet, nI_1, nI_1]
        · rw [if_neg e, if_neg e, gLet, nI_1] <;> rfl
      · unfold X8_pairs_b23
        rw [if_pos (by rw [nI_leq (by omega) (by omega)]; omega), gLet, nI_1]
      · unfold X8_pairs_b13
        rw [if_pos (by rw [nI_leq (by omega) (by omega)]; omega)]
    · refine gL2_triB (twB (mB m)) n (fun K v4 => X9_pairs_b24 K v4) (by rw [FU_eq]; omega) (fun i c K hi => ?_) (fun i j c K K' hij hj => ?_) (fun i c K K' hi => ?_) (fun K => ?_)
      · unfold X9_pairs_b16
        rw [if_neg (by rw [nI_leq (by omega) (by omega)]; omega)]
      · unfold X9_pairs_b24
        rw [if_neg (by rw [nI_leq (by omega) (by omega)]; omega), gCall_eq (m_twB h.bi (by omega) (by omega))]
        by_cases e : twB (mB m) i j = true
        · rw [if_pos e, if_pos e, gLet, gLet, nI_1, nI_1]
        · rw [if_neg e, if_neg e, gLet, gLet, nI_1, nI_p0] <;> rfl
      · unfold X9_pairs_b24
        rw [if_pos (by rw [nI_leq (by omega) (by omega)]; omega), gLet, nI_1]
      · unfold X9_pairs_b16
        rw [if_pos (by rw [nI_leq (by omega) (by omega)]; omega)]
  · rw [gCall_eq (h1 x), gCall_eq (h2 m)]
    exact Ag.same h _ rfl rfl
/-- the members of the set, as numbers -/
theorem set_is {x m : gM} {N : Nat} (h : INV x m N) : ∃ g : Nat, ∃ s : Nat → Nat, g ≤ 32 ∧ x 6 0 7 = nI g ∧ m 47 0 3 = nI g ∧ (∀ i, i < g → s i < 1024 ∧ x 40 0 i = nI (s i) ∧ m 47 0 (4 + i) = nI (s i)) ∧ ∀ i j, i < j → j < g → s i ≠ s j := by
  obtain ⟨⟨-, -, -, g, f1, f2, f3, f4, f5⟩, -⟩ := id h
  refine ⟨g, fun i => (x 40 0 i).toNatClampNeg, f3, f1, f2, fun i hi => ?_, fun i j hij hj e => ?_⟩
  · obtain ⟨l, l1, l2, l3⟩ := f4 i hi
    have : (x 40 0 i).toNatClampNeg = l := by rw [l2, nI_cl (by omega)]
    dsimp only
    rw [this]
    exact ⟨l1, l2, l3⟩
  · obtain ⟨l, l1, l2, l3⟩ := f4 i (by omega)
    obtain ⟨o, o1, o2, o3⟩ := f4 j hj
    dsimp only at e
    rw [l2, o2, nI_cl (by omega), nI_cl (by omega)] at e
    exact f5 i j hij hj (by rw [l2, o2, e])
theorem set_x {x : gM} {g i : Nat} {s : Nat → Nat} (hg : g ≤ 32) (hs : ∀ i, i < g → s i < 1024 ∧ x 40 0 i = nI (s i)) (hi : i < g) {β : Type} {kk : Int32 → Option β} : gAt x 40 0 (nI i) kk = kk (nI (s i)) := by
  rw [gAt_nI (show i < 32 by omega) (by omega), (hs i hi).2]
theorem set_m {m : gM} {g i : Nat} {s : Nat → Nat} (hg : g ≤ 32) (hs : ∀ i, i < g → m 47 0 (4 + i) = nI (s i)) (hi : i < g) {β : Type} {kk : Int32 → Option β} : gAt m 47 0 (4 + nI i) kk = kk (nI (s i)) := by
  rw [li4, nI_add, gAt_nI (show 4 + i < 30843 by omega) (by omega), hs i hi]
theorem q_shares {x m : gM} {N : Nat} (h : INV x m N) (a : Int32) : Ag (X8_shares a x) (X9_shares a m) N := by
  unfold X8_shares X9_shares
  obtain ⟨g, s, g1, g2, g3, g4, -⟩ := set_is h
  have hw := h.bi.1.2.2
  have gx := fun i hi => (⟨(g4 i hi).1, (g4 i hi).2.1⟩ : s i < 1024 ∧ x 40 0 i = nI (s i))
  have gm := fun i hi => (g4 i hi).2.2
  rw [show (36 : Int32) = nI (36 + 0) from rfl, m_get (by omega), h.rs.1.1, h.bi.1.1]
  rcases in_out a 0 (bW (mB m)) with ⟨w, -, hw2, -, rfl⟩ | ho
  · have hT : X9_isIn (nI w) 0 (nI (bW (mB m))) m = some (true, m) := isIn_T (Nat.zero_le _) hw2 (by omega) m
    rw [gCall_eq hT, if_pos rfl, if_neg (nI_neg (by omega)), if_pos (by rw [nI_leq (by omega) (by omega)]; exact hw2)]
    have hsym : ∀ i j, (fun i j => decide (shN (mB m) (s i) (s j) = w)) i j = (fun i j => decide (shN (mB m) (s i) (s j) = w)) j i := fun i j => by simp only; rw [shN_sym]
    refine Ag.same h (nI (triB (fun i j => decide (shN (mB m) (s i) (s j) = w)) g)) ?_ ?_
    · rw [← tri_eq hsym]
      refine gL2_triA (fun i j => decide (shN (mB m) (s i) (s j) = w)) g (fun K v2 => X8_shares_b40 (nI w) K v2) (by rw [FU_eq]; omega) (fun i c K hi => ?_) (fun i j c K K' hij hj => ?_) (fun i c K K' hi => ?_) (fun K => ?_)
      · unfold X8_shares_b24
        rw [g2, if_neg (by rw [nI_leq (by omega) (by omega)]; omega), gLet, nI_1]
      · unfold X8_shares_b40
        have hs : shN (mB m) (s i) (s j) ≤ bW (mB m) := cntP_le _ _
        rw [g2, if_neg (by rw [nI_leq (by omega) (by omega)]; omega), set_x g1 gx (by omega), set_x g1 gx (by omega), gCall_eq (x_shN h.rs h.bi (gx i (by omega)).1 (gx j hj).1)]
        by_cases e : shN (mB m) (s i) (s j) = w
        · rw [if_pos (by rw [e]), if_pos (decide_eq_true e), gLet, gLet, nI_1, nI_1]
        · rw [if_neg (fun z => e ((nI_inj (by omega) (by omega)).mp z)), if_neg (fun z => e (of_decide_eq_true z)), gLet, nI_1] <;> rfl
      · unfold X8_shares_b40
        rw [g2, if_pos (by rw [nI_leq (by omega) (by omega)]; omega), gLet, nI_1]
      · unfold X8_shares_b24
        rw [g2, if_pos (by rw [nI_leq (by omega) (by omega)]; omega)]
    · refine gL2_triB (fun i j => decide (shN (mB m) (s i) (s j) = w)) g (fun K v5 => X9_shares_b34 (nI w) K v5) (by rw [FU_eq]; omega) (fun i c K hi => ?_) (fun i j c K K' hij hj => ?_) (fun i c K K' hi => ?_) (fun K => ?_)
      · unfold X9_shares_b21
        rw [show gAt m 47 0 3 _ = _ from gAt_nI (i := 3) (show 3 < 30843 by omega) (by omega), g3, if_neg (by rw [nI_leq (by omega) (by omega)]; omega)]
      · unfold X9_shares_b34
        have hs : shN (mB m) (s i) (s j) ≤ bW (mB m) := cntP_le _ _
        rw [if_neg (by rw [nI_leq (by omega) (by omega)]; omega), set_m g1 gm (by omega), set_m g1 gm (by omega), gCall_eq (m_shN h.bi (gx i hj).1 (gx j (by omega)).1)]
        by_cases e : shN (mB m) (s i) (s j) = w
        · rw [if_pos (by rw [e]), if_pos (decide_eq_true e), gLet, gLet, nI_1, nI_1]
        · rw [if_neg (fun z => e ((nI_inj (by omega) (by omega)).mp z)), if_neg (fun z => e (of_decide_eq_true z)), gLet, gLet, nI_1, nI_p0] <;> rfl
      · unfold X9_shares_b34
        rw [if_pos (by rw [nI_leq (by omega) (by omega)]; omega), gLet, nI_1]
      · unfold X9_shares_b21
        rw [show gAt m 47 0 3 _ = _ from gAt_nI (i := 3) (show 3 < 30843 by omega) (by omega), g3, if_pos (by rw [nI_leq (by omega) (by omega)]; omega)]
  · have hF : X9_isIn a 0 (nI (bW (mB m))) m = some (false, m) := isIn_F ho (by omega) (by omega) m
    rw [gCall_eq hF]
    refine Ag.same h (-1) ?_ rfl
    rcases ho.lt0 with z | ⟨j, hj, rfl, z⟩
    · rw [if_pos z]
    · rw [if_neg (nI_neg hj), if_neg (by rw [nI_leq hj (by omega)]; omega)]
