/-! LAYER 2: ask, write, run. -/
theorem gL1_two {β γ : Type} (I : Nat → gM → gM → Prop) (P : Option β → Option γ → Prop) (e : Nat) {f : Int32 → gM → (Int32 → gM → Option β) → Option β} {g : Int32 → gM → (Int32 → gM → Option γ) → Option γ}
    (hs : ∀ i σ τ K K', i < e → I i σ τ → (∀ σ' τ', I (i + 1) σ' τ' → P (K (nI (i + 1)) σ') (K' (nI (i + 1)) τ')) → P (f (nI i) σ K) (g (nI i) τ K')) (hx : ∀ σ τ K K', I e σ τ → P (f (nI e) σ K) (g (nI e) τ K')) :
    ∀ (n n' a : Nat) σ τ, a ≤ e → e - a < n → e - a < n' → I a σ τ → P (gL1 n f (nI a) σ) (gL1 n' g (nI a) τ) := by
  intro n
  induction n with
  | zero => intro n' a σ τ _ h; exact absurd h (Nat.not_lt_zero _)
  | succ n ih =>
    intro n' a σ τ ha hn hn' hI
    cases n' with
    | zero => exact absurd hn' (Nat.not_lt_zero _)
    | succ n' =>
      rcases Nat.lt_or_ge a e with h | h
      · exact hs a σ τ _ _ h hI (fun σ' τ' hI' => ih n' (a + 1) σ' τ' h (by omega) (by omega) hI')
      · have : a = e := by omega
        subst this
        exact hx σ τ _ _ hI
def wB (B : Nat → Int32) (line : Nat) (v : Int32) : Nat → Int32 := match bAt B line with
  | none => bup B (347 + line) v
  | some p => bup (bup B (28 + 5 * p) v) (29 + 5 * p) 1
theorem wB_BI {B : Nat → Int32} {N line : Nat} {v : Int32} (h : BI B N) : BI (wB B line v) N := by
  unfold wB
  cases hb : bAt B line with
  | none => exact BI_me h _
  | some p =>
    have hl : bL B p ≠ 0 := by rw [(bAt_lt h hb).2.1]; omega
    exact BI_dv (BI_va h (bAt_lt h hb).1 hl v) (bAt_lt h hb).1 1 (Or.inr ⟨rfl, by rw [bL_up (fun q => by omega)]; exact hl⟩)
theorem x_put {x : gM} {k N line : Nat} {B : Nat → Int32} {v : Int32} (hR : RS x k B N) (hB : BI B N) (hl : line < 1024) : ∃ x', X3_put k (nI line) (oI (bAt B line)) v x = some ((), x') ∧ RS x' k (wB B line v) N ∧ Eqv (pCo k) x x' := by
  unfold X3_put wB
  cases hb : bAt B line with
  | none =>
    rw [if_pos (show oI none = -1 from rfl), gPut_nI (show line < 1024 from hl) (by omega)]
    exact ⟨_, rfl, RS_u28 hR hl v, Eqv.up (by unfold pCo; omega)⟩
  | some p =>
    obtain ⟨hp, -⟩ := bAt_lt hB hb
    rw [show oI (some p) = nI p from rfl, if_neg (nI_nm1 (by omega)), gPut_nI (show p < 64 from hp) (by omega), gPut_nI (show p < 64 from hp) (by omega)]
    exact ⟨_, rfl, RS_u31 (RS_u30 hR hp v) hp 1, (Eqv.up (by unfold pCo; omega)).tr (Eqv.up (by unfold pCo; omega))⟩
theorem write_ok {x m : gM} {k N line : Nat} {v : Int32} (hR : RS x k (mB m) N) (hB : BI (mB m) N) (hl : line < 1024) (hN : N + 2 ≤ 1000000000) :
    ∃ r x1 x' m', X3_come k (nI line) x = some (r, x1) ∧ Eqv (pCo k) x x1 ∧ X3_put k (nI line) r v x1 = some ((), x') ∧ X9_writeNow (nI line) v m = some ((bAt (mB m) line).isSome, m') ∧ RS x' k (mB m') (N + 2) ∧ BI (mB m') (N + 2) ∧ Eqv (pCo k) x x' ∧ Eqv pCm m m' := by
  obtain ⟨x1, m1, h1, h2, h3, h4, h5, h6, h7⟩ := come_ok hR hB hl hN
  obtain ⟨x2, g1, g2, g3⟩ := x_put (v := v) h3 h4 hl
  unfold X9_writeNow
  rw [gCall_eq h2, gCall_eq (X9_pw h4 hl)]
  cases hb : bAt (mB m1) line with
  | none =>
    have h0 : (bAt (mB m) line) = none := by
      cases e : bAt (mB m) line with
      | none => rfl
      | some p => exact absurd hb (h7 (by rw [e]; exact Option.some_ne_none p))
    rw [if_pos (show oI none = -1 from rfl), show (383 + nI line : Int32) = nI (36 + (347 + line)) by rw [li383, nI_add]; congr 1; omega, m_put (by omega), h0]
    refine ⟨_, x1, x2, _, h1, h5, g1, rfl, ?_, ?_, h5.tr g3, h6.tr (Eqv.up (by unfold pCm; omega))⟩
    · rw [mB_up]
      unfold wB at g2
      rw [hb] at g2
      exact g2
    · rw [mB_up]; exact BI_me h4 _
  | some p =>
    obtain ⟨hp, -⟩ := bAt_lt h4 hb
    rw [show oI (some p) = nI p from rfl, if_neg (nI_nm1 (by omega)), m_at, show (63 + 5 * nI p + 1 : Int32) = nI (36 + (28 + 5 * p)) by rw [show 28 + 5 * p = 27 + 5 * p + 1 by omega]; exact m_ix, m_put (by omega), m_at, show (63 + 5 * nI p + 2 : Int32) = nI (36 + (29 + 5 * p)) by rw [show 29 + 5 * p = 27 + 5 * p + 2 by omega]; exact m_ix, m_put (by omega)]
    refine ⟨_, x1, x2, _, h1, h5, g1, rfl, ?_, ?_, h5.tr g3, (h6.tr (Eqv.up (by unfold pCm; omega))).tr (Eqv.up (by unfold pCm; omega))⟩
    · rw [mB_up, mB_up]
      unfold wB at g2
      rw [hb] at g2
      exact g2
    · rw [mB_up, mB_up]
      have hl2 : bL (mB m1) p ≠ 0 := by rw [(bAt_lt h4 hb).2.1]; omega
      exact BI_dv (BI_va h4 hp hl2 v) hp 1 (Or.inr ⟨rfl, by rw [bL_up (fun q => by omega)]; exact hl2⟩)
theorem pCo_XS {x x' : gM} (h : Eqv (pCo 0) x x') : Eqv pXS x x' := h.mono (fun t k i q => by unfold pCo at q; unfold pXS pX sT; omega)
theorem pCm_MS {m m' : gM} (h : Eqv pCm m m') : Eqv pMS m m' := h.mono (fun t k i q => by unfold pCm at q; unfold pMS pM; omega)
theorem q_ask {x m : gM} {N : Nat} (h : INV x m N) (hN : N + 2 ≤ 1000000000) (a : Int32) : Ag (X8_ask a x) (X9_ask a m) (N + 2) := by
  unfold X8_ask X9_ask
  rcases line_cases a with ⟨l, hl, rfl⟩ | ⟨h1, h2⟩
  · obtain ⟨x1, m1, k1, k2, h', -⟩ := keep_ok h
    obtain ⟨x2, m2, c1, c2, c3, c4, c5, c6, -⟩ := come_ok h'.rs h'.bi hl hN
    rw [gCall_eq (lineT hl x).1, if_pos rfl, gCall_eq (lineT hl m).2, if_pos rfl, gCall_eq k1, gCall_eq k2, gCall_eq c1, gCall_eq c2, gCall_eq (x_val c3 c4 hl), gCall_eq (m_val c4 hl)]
    exact ⟨_, _, _, rfl, rfl, INV_store h' (pCo_XS c5) (pCm_MS c6) c3 c4 (by omega) hN⟩
  · rw [gCall_eq (h1 x), gCall_eq (h2 m)]
    exact Ag.same (INV_mono h (by omega) hN) _ rfl rfl
theorem run_ok {x m : gM} {k o t N : Nat} (hR : RS x k (mB m) N) (hB : BI (mB m) N) (ht : t < 4) (hT : RT x o (m 49 0) t) (hN : N + 1200 ≤ 1000000000) :
    ∃ r x' m', X8_missesOn k o x = some (r, x') ∧ X9_runNow (nI t) m = some (r, m') ∧ RS x' k (mB m') (N + 1200) ∧ BI (mB m') (N + 1200) ∧ Eqv (pCo k) x x' ∧ Eqv pCm m m' := by
  obtain ⟨s, t1, t2, t3, t4⟩ := hT
  unfold X8_missesOn X9_runNow
  rw [gA1, show (40 : Int32) = nI (36 + 4) from rfl, m_get (by omega), gJ0_e, gJ0_e, hR.2.1.2.1]
  generalize mB m 4 = m0
  refine gL1_two (fun i σ τ => RS σ k (mB τ) (N + 2 * i) ∧ BI (mB τ) (N + 2 * i) ∧ Eqv (pCo k) x σ ∧ Eqv pCm m τ) (fun p q => ∃ r x' m', p = some (r, x') ∧ q = some (r, m') ∧ RS x' k (mB m') (N + 1200) ∧ BI (mB m') (N + 1200) ∧ Eqv (pCo k) x x' ∧ Eqv pCm m m') s ?_ ?_ FU FU 0 x m (Nat.zero_le _) (by rw [FU_eq]; omega) (by rw [FU_eq]; omega) ⟨hR, hB, Eqv.rf, Eqv.rf⟩
  · rintro i σ τ K K' hi ⟨g1, g2, g3, g4⟩ hK
    unfold X8_missesOn_b10 X9_runNow_b10
    obtain ⟨⟨l, hl, u1, u2⟩, u3, u4⟩ := t4 i hi
    have e5 : ∀ q, σ 5 o q = x 5 o q := fun q => g3 5 o q (by unfold pCo; omega)
    have e38 : ∀ σ', Eqv (pCo k) x σ' → σ' 38 o i = nI l := fun σ' g => by rw [g 38 o i (by unfold pCo; omega)]; exact u1
    have e39 : ∀ σ', Eqv (pCo k) x σ' → σ' 39 o i = x 39 o i := fun σ' g => g 39 o i (by unfold pCo; omega)
    have f49 : ∀ τ', Eqv pCm m τ' → ∀ q, τ' 49 0 q = m 49 0 q := fun τ' g q => g 49 0 q (by unfold pCm; omega)
    rw [e5, t1, if_neg (by rw [nI_leq (by omega) (by omega)]; omega), gAt_nI (show i < 600 by omega) (by omega), e38 σ g3]
    rw [gCall_eq (m_len ht (by rw [f49 τ g4]; exact t2)), if_neg (by rw [nI_leq (by omega) (by omega)]; omega), gCall_eq (m_valin ht (by omega)), f49 τ g4, ← u3]
    by_cases hv : x 39 o i = -1
    · obtain ⟨x2, m2, c1, c2, c3, c4, c5, c6, -⟩ := come_ok g1 g2 hl (by omega)
      rw [gCall_eq c1, gAt_nI (show i < 600 by omega) (by omega), e39 x2 (g3.tr c5), if_pos hv, if_pos hv]
      rw [gCall_eq (m_line ht (by omega) (by rw [f49 τ g4]; exact u2)), gCall_eq c2, gLet, gLet, nI_1]
      exact hK _ _ ⟨c3, c4, g3.tr c5, g4.tr c6⟩
    · obtain ⟨r, x1, x2, m2, c1, c0, c7, c2, c3, c4, c5, c6⟩ := write_ok (v := x 39 o i) g1 g2 hl (by omega)
      rw [gCall_eq c1, gAt_nI (show i < 600 by omega) (by omega), e39 x1 (g3.tr c0), if_neg hv, if_neg hv, gAt_nI (show i < 600 by omega) (by omega), e38 x1 (g3.tr c0), gAt_nI (show i < 600 by omega) (by omega), e39 x1 (g3.tr c0), gCall_eq c7]
      rw [gCall_eq (m_line ht (by omega) (by rw [f49 τ g4]; exact u2)), gCall_eq (m_valin ht (by omega)), f49 τ g4, ← u3, gCall_eq c2, gLet, gLet, nI_1]
      exact hK _ _ ⟨c3, c4, g3.tr c5, g4.tr c6⟩
  · rintro σ τ K K' ⟨g1, g2, g3, g4⟩
    unfold X8_missesOn_b10 X9_runNow_b10
    have e5 : ∀ q, σ 5 o q = x 5 o q := fun q => g3 5 o q (by unfold pCo; omega)
    have f49 : ∀ q, τ 49 0 q = m 49 0 q := fun q => g4 49 0 q (by unfold pCm; omega)
    rw [e5, t1, if_pos (by rw [nI_leq (by omega) (by omega)]; omega)]
    rw [gCall_eq (m_len ht (by rw [f49]; exact t2)), if_pos (by rw [nI_leq (by omega) (by omega)]; omega)]
    refine ⟨mB τ 4 - m0, σ, τ, ?_, ?_, RS_mono g1 (by omega), BI_mono g2 (by omega), g3, g4⟩
    · show gAt σ 26 k 1 (fun x3 => some (x3 - m0, σ)) = _
      rw [gA1, g1.2.1.2.1]
    · show gAt τ 47 0 (nI (36 + 4)) (fun x3 => some (x3 - m0, τ)) = _
      rw [m_get (by omega)]
theorem q_run {x m : gM} {N : Nat} (h : INV x m N) (hN : N + 1200 ≤ 1000000000) (a : Int32) : Ag (X8_run a x) (X9_run a m) (N + 1200) := by
  unfold X8_run X9_run
  rcases trace_cases h a with ⟨t, ht, rfl, c1, c2, hT⟩ | ⟨c1, c2⟩
  · obtain ⟨x1, m1, k1, k2, h', f1, f2, f3⟩ := keep_ok h
    have hT' : RT x1 t (m1 49 0) t := by
      have e49 : m1 49 0 = m 49 0 := funext fun i => f2 49 0 i (by omega)
      rw [e49]
      exact RT_congr hT (fun t' i ht' => f3 t' _ i (by omega) (by unfold sT; omega))
    obtain ⟨r, x2, m2, d1, d2, d3, d4, d5, d6⟩ := run_ok h'.rs h'.bi ht hT' hN
    rw [gCall_eq c1, if_pos rfl, gCall_eq c2, if_pos rfl, gCall_eq k1, gCall_eq k2, x_tr ht, z4, gCall_eq d1, gCall_eq d2]
    exact ⟨_, _, _, rfl, rfl, INV_store h' (pCo_XS d5) (pCm_MS d6) d3 d4 (by omega) hN⟩
  · rw [gCall_eq c1, gCall_eq c2]
    exact Ag.same (INV_mono h (by omega) hN) _ rfl rfl
theorem q_write {x m : gM} {N : Nat} (h : INV x m N) (hN : N + 2 ≤ 1000000000) (a v : Int32) : Ag (X8_write a v x) (X9_write a v m) (N + 2) := by
  unfold X8_write X9_write
  rcases line_cases a with ⟨l, hl, rfl⟩ | ⟨h1, h2⟩
  · rw [gCall_eq (lineT hl x).1, if_pos rfl, gCall_eq (lineT hl m).2, if_pos rfl]
    by_cases hv1 : v < -9999
    · have hF : X9_isIn v (-9999) 9999 m = some (false, m) := by
        unfold X9_isIn
        rw [if_pos hv1]
      rw [if_pos hv1, gCall_eq hF]
      exact Ag.same (INV_mono h (by omega) hN) _ rfl rfl
    · by_cases hv2 : v ≤ 9999
      · have hT : X9_isIn v (-9999) 9999 m = some (true, m) := by
          unfold X9_isIn
          rw [if_neg hv1, if_neg (by rw [Int32.not_lt]; exact hv2)]
        obtain ⟨x1, m1, k1, k2, h', -⟩ := keep_ok h
        obtain ⟨r, y1, x2, m2, c1, c0, c7, c2, c3, c4, c5, c6⟩ := write_ok (v := v) h'.rs h'.bi hl hN
        rw [if_neg hv1, if_pos hv2, gCall_eq hT, if_pos rfl, gCall_eq k1, gCall_eq k2, gCall_eq (X3_po h'.rs h'.bi hl), gCall_eq c2, gJ1_e]
        cases hb : bAt (mB m1) l with
        | none =>
          rw [if_pos (show oI none = -1 from rfl)]
          dsimp only
          rw [gCall_eq c1, gCall_eq c7]
          exact ⟨_, _, _, rfl, rfl, INV_store h' (pCo_XS c5) (pCm_MS c6) c3 c4 (by omega) hN⟩
        | some p =>
          obtain ⟨hp, -⟩ := bAt_lt h'.bi hb
          rw [if_neg (show oI (some p) ≠ -1 from nI_nm1 (by omega))]
          dsimp only
          rw [gCall_eq c1, gCall_eq c7]
          exact ⟨_, _, _, rfl, rfl, INV_store h' (pCo_XS c5) (pCm_MS c6) c3 c4 (by omega) hN⟩
      · have hF : X9_isIn v (-9999) 9999 m = some (false, m) := by
          unfold X9_isIn
          rw [if_neg hv1, if_pos (by rw [← Int32.not_le]; exact hv2)]
        rw [if_neg hv1, if_neg hv2, gCall_eq hF]
        exact Ag.same (INV_mono h (by omega) hN) _ rfl rfl
  · rw [gCall_eq (h1 x), gCall_eq (h2 m)]
    exact Ag.same (INV_mono h (by omega) hN) _ rfl rfl
