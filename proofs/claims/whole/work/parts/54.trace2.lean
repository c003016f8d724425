/-! LAYER 2: wide, working, hottest, distance, done. -/
theorem p34_X {x x' : gM} (h : Eqv p34 x x') : Eqv pX x x' := h.mono (fun t k i q => by unfold p34 at q; unfold pX; omega)
theorem mxW_600 {L : Nat → Nat} {s : Nat} (hs : s ≤ 600) : mxW L 600 s = dv L 0 s := by
  apply Nat.le_antisymm
  · exact mxW_ub s (fun j hj => dv_mono (Nat.zero_le _) (by omega))
  · rcases Nat.eq_zero_or_pos s with h | h
    · subst h; rw [dv_nil (Nat.le_refl _)]; exact Nat.zero_le _
    · have h1 := mxW_ge (L := L) (n := 600) s (s - 1) (by omega)
      rw [show s - 1 + 1 = s by omega, show s - 600 = 0 by omega] at h1
      exact h1
theorem pn_z {k : Nat} (hk : k ≤ 1000) : pnI k = -1 ↔ k = 0 := by
  cases k with
  | zero => exact ⟨fun _ => rfl, fun _ => rfl⟩
  | succ k => exact ⟨fun z => absurd z (nI_nm1 (by omega)), fun z => absurd z (by omega)⟩
theorem pn_lt {a k : Nat} (ha : a ≤ 1000) (hk : k ≤ 1000) : nI a ≤ pnI k ↔ a < k := by
  cases k with
  | zero => exact ⟨fun z => absurd z (neg_nle (by decide) (by omega)), fun z => absurd z (by omega)⟩
  | succ k => rw [show pnI (k + 1) = nI k from rfl, nI_leq (by omega) (by omega)]; omega
theorem pn_pn {a k : Nat} (ha : a ≤ 1000) (hk : k ≤ 1000) : pnI a < pnI k ↔ a < k := by
  cases a with
  | zero =>
    cases k with
    | zero => exact ⟨fun z => absurd z (by decide), fun z => absurd z (by omega)⟩
    | succ k => exact ⟨fun _ => by omega, fun _ => neg_lt (by decide) (by omega)⟩
  | succ a =>
    cases k with
    | zero => exact ⟨fun z => absurd z (by
        rw [Int32.not_lt]
        exact Int32.le_of_lt (neg_lt (a := a) (by decide) (by omega))), fun z => absurd z (by omega)⟩
    | succ k => rw [show pnI (k + 1) = nI k from rfl, show pnI (a + 1) = nI a from rfl, nI_ltt (by omega) (by omega)]; omega
theorem m_wide {m : gM} {t s : Nat} {L : Nat → Nat} (h : TRm m t s L) : gL2 FU (X9_wide_b14 (nI t)) 0 0 m = some (nI (dv L 0 s), m) := by
  have hs := h.2.1
  rw [dv_first s (fun i hi => (h.2.2.2 i hi).1)]
  refine gL2_cnt (fun k => decide (0 ≤ k) && decide (lst L (L k) k ≤ 0)) s (fun i c K hi hc => ?_) (fun K => ?_) (by rw [FU_eq]; omega)
  · unfold X9_wide_b14
    have hl := lst_le L (L i) i
    rw [gCall_eq (TRm_len h), if_neg (by rw [nI_leq (by omega) (by omega)]; omega), gCall_eq (m_latest h hi)]
    by_cases e : lst L (L i) i = 0
    · rw [if_pos ((pn_z (by omega)).mpr e), if_pos (by rw [decide_eq_true (Nat.zero_le _), decide_eq_true (by omega)]; rfl), gLet, gLet, nI_1, nI_1]
    · rw [if_neg (fun z => e ((pn_z (by omega)).mp z)), if_neg (by rw [decide_eq_false (p := lst L (L i) i ≤ 0) (by omega), Bool.and_false]; decide), gLet, gLet, nI_1, nI_p0] <;> rfl
  · unfold X9_wide_b14
    rw [gCall_eq (TRm_len h), if_pos (by rw [nI_leq (by omega) (by omega)]; omega)]
theorem q_wide {x m : gM} {N : Nat} (h : INV x m N) (a : Int32) : Ag (X8_wide a x) (X9_wide a m) N := by
  unfold X8_wide X9_wide
  rcases trace_cases h a with ⟨t, ht, rfl, c1, c2, hT⟩ | ⟨c1, c2⟩
  · obtain ⟨s, L, hx, hm⟩ := trc2 ht hT
    obtain ⟨x1, a1, a2⟩ := x_unlike (n := 600) hx ⟨by omega, by omega⟩
    have a1' : X4_mostUnlike t 600 x = some (nI (dv L 0 s), x1) := by rw [← mxW_600 hx.1]; exact a1
    rw [gCall_eq c1, if_pos rfl, gCall_eq c2, if_pos rfl, x_tr ht, z4, gCall_eq a1', m_wide hm]
    exact ⟨_, _, _, rfl, rfl, INV_congr h (p34_X a2) Eqv.rf⟩
  · rw [gCall_eq c1, gCall_eq c2]
    exact Ag.same h _ rfl rfl
/-- the reference's greatest number of unlike ones, over all beginnings -/
def mxR (L : Nat → Nat) (n s : Nat) : Nat → Nat
  | 0 => 0
  | i + 1 => max (mxR L n s i) (dv L i (min (i + n) s))
theorem mxR_ge {L : Nat → Nat} {n s : Nat} : ∀ i j, j < i → dv L j (min (j + n) s) ≤ mxR L n s i := by
  intro i
  induction i with
  | zero => intro j h; omega
  | succ i ih =>
    intro j h
    simp only [mxR]
    by_cases e : j = i
    · subst e; omega
    · have := ih j (by omega); omega
theorem mxR_ub {L : Nat → Nat} {n s M : Nat} : ∀ i, (∀ j, j < i → dv L j (min (j + n) s) ≤ M) → mxR L n s i ≤ M := by
  intro i
  induction i with
  | zero => intro _; exact Nat.zero_le _
  | succ i ih =>
    intro h
    simp only [mxR]
    have := ih (fun j hj => h j (by omega))
    have := h i (by omega)
    omega
theorem mx_eq {L : Nat → Nat} {n s : Nat} (hn : 1 ≤ n) : mxR L n s s = mxW L n s := by
  apply Nat.le_antisymm
  · refine mxR_ub s (fun j hj => ?_)
    have h1 := mxW_ge (L := L) (n := n) s (min (j + n) s - 1) (by omega)
    rw [show min (j + n) s - 1 + 1 = min (j + n) s by omega] at h1
    exact Nat.le_trans (dv_mono (by omega) (Nat.le_refl _)) h1
  · refine mxW_ub s (fun j hj => ?_)
    have h1 := mxR_ge (L := L) (n := n) (s := s) s (j + 1 - n) (by omega)
    exact Nat.le_trans (dv_mono (Nat.le_refl _) (by omega)) h1
theorem m_work {m : gM} {t s n : Nat} {L : Nat → Nat} (h : TRm m t s L) (hn : 1 ≤ n ∧ n ≤ 99) : gL2 FU (X9_working_b25 (nI t) (nI n)) 0 0 m = some (nI (mxR L n s s), m) := by
  have hs := h.2.1
  have hmx : ∀ i, mxR L n s i ≤ 1024 := fun i => mxR_ub i (fun j _ => dv_le _ _ _)
  refine gL2_for (fun i v σ => σ = m ∧ v = nI (mxR L n s i)) (fun o => o = some (nI (mxR L n s s), m)) s ?_ ?_ FU 0 0 m (Nat.zero_le _) (by rw [FU_eq]; omega) ⟨rfl, rfl⟩
  · rintro i v σ K hi ⟨rfl, rfl⟩ hK
    unfold X9_working_b25
    rw [gCall_eq (TRm_len h), if_neg (by rw [nI_leq (by omega) (by omega)]; omega), gJ1_e]
    refine gL2_for (fun j v τ => τ = σ ∧ i ≤ j ∧ v = nI (cntP (fun k => decide (i ≤ k) && decide (lst L (L k) k ≤ i)) j)) (fun o => o = some (nI (mxR L n s s), σ)) (min (i + n) s) ?_ ?_ FU i 0 σ (by omega) (by rw [FU_eq]; omega) ⟨rfl, Nat.le_refl _, by rw [cntP_none i (fun k hk => by rw [decide_eq_false (by omega)]; rfl)]; rfl⟩
    · rintro j v τ K2 hj ⟨rfl, hij, rfl⟩ hK2
      unfold X9_working_b42
      have hl := lst_le L (L j) j
      rw [nI_add, if_neg (by rw [nI_leq (by omega) (by omega)]; omega), gCall_eq (TRm_len h), if_neg (by rw [nI_leq (by omega) (by omega)]; omega), gCall_eq (m_latest h (by omega))]
      by_cases e : lst L (L j) j ≤ i
      · rw [if_neg (by rw [pn_lt (by omega) (by omega)]; omega), gLet, gLet, nI_1, nI_1]
        refine hK2 _ _ ⟨rfl, by omega, ?_⟩
        simp only [cntP, decide_eq_true hij, decide_eq_true e, Bool.and_self, ↓reduceIte]
      · rw [if_pos (by rw [pn_lt (by omega) (by omega)]; omega), gLet, gLet, nI_1, nI_p0]
        refine hK2 _ _ ⟨rfl, by omega, ?_⟩
        simp only [cntP, decide_eq_false e, Bool.and_false, Bool.false_eq_true, ↓reduceIte]
        rfl
    · rintro v τ K2 ⟨rfl, hij, rfl⟩
      have hdv := dv_first (L := L) (a := i) (min (i + n) s) (fun k hk => (h.2.2.2 k (by omega)).1)
      have hd := dv_le L i (min (i + n) s)
      have hex : X9_working_b42 (nI t) (nI n) (fun v10 m11 => if v10 ≤ nI (mxR L n s i) then gLet (nI i + 1) fun x12 => K (nI (mxR L n s i)) x12 m11 else gLet (nI i + 1) fun x13 => K v10 x13 m11) (nI i) (nI (cntP (fun k => decide (i ≤ k) && decide (lst L (L k) k ≤ i)) (min (i + n) s))) (nI (min (i + n) s)) τ K2 = (fun v10 m11 => if v10 ≤ nI (mxR L n s i) then gLet (nI i + 1) fun x12 => K (nI (mxR L n s i)) x12 m11 else gLet (nI i + 1) fun x13 => K v10 x13 m11) (nI (dv L i (min (i + n) s))) τ := by
        unfold X9_working_b42
        rw [hdv, nI_add]
        by_cases c : i + n ≤ s
        · rw [if_pos (by rw [nI_leq (by omega) (by omega)]; omega)]
        · rw [if_neg (by rw [nI_leq (by omega) (by omega)]; omega), gCall_eq (TRm_len h), if_pos (by rw [nI_leq (by omega) (by omega)]; omega)]
      rw [hex]
      dsimp only
      have hmi := hmx i
      by_cases c : dv L i (min (i + n) s) ≤ mxR L n s i
      · rw [if_pos (by rw [nI_leq (by omega) (by omega)]; exact c), gLet, nI_1]
        exact hK _ _ ⟨rfl, by simp only [mxR]; rw [Nat.max_eq_left c]⟩
      · rw [if_neg (by rw [nI_leq (by omega) (by omega)]; exact c), gLet, nI_1]
        exact hK _ _ ⟨rfl, by simp only [mxR]; rw [Nat.max_eq_right (by omega)]⟩
  · rintro v σ K ⟨rfl, rfl⟩
    unfold X9_working_b25
    rw [gCall_eq (TRm_len h), if_pos (by rw [nI_leq (by omega) (by omega)]; omega)]
theorem q_working {x m : gM} {N : Nat} (h : INV x m N) (a b : Int32) : Ag (X8_working a b x) (X9_working a b m) N := by
  unfold X8_working X9_working
  rcases trace_cases h a with ⟨t, ht, rfl, c1, c2, hT⟩ | ⟨c1, c2⟩
  · rw [gCall_eq c1, if_pos rfl, gCall_eq c2, if_pos rfl]
    rcases in_out b 1 99 with ⟨n, n1, n2, -, rfl⟩ | ho
    · have hT' : X9_isIn (nI n) 1 99 m = some (true, m) := isIn_T n1 n2 (by omega) m
      obtain ⟨s, L, hx, hm⟩ := trc2 ht hT
      obtain ⟨x1, a1, a2⟩ := x_unlike (n := n) hx ⟨n1, by omega⟩
      rw [if_neg (by rw [li1, nI_ltt (by omega) (by omega)]; omega), if_pos (by rw [li99, nI_leq (by omega) (by omega)]; exact n2), gCall_eq hT', if_pos rfl, x_tr ht, z4, gCall_eq a1, m_work hm ⟨n1, n2⟩, mx_eq n1]
      exact ⟨_, _, _, rfl, rfl, INV_congr h (p34_X a2) Eqv.rf⟩
    · have hF : X9_isIn b 1 99 m = some (false, m) := isIn_F ho (by omega) (by omega) m
      rw [gCall_eq hF]
      refine Ag.same h (-1) ?_ rfl
      rcases out1 (by omega) ho with g | ⟨g, g2⟩
      · rw [if_pos g]
      · rw [if_neg g, if_neg (by rw [Int32.not_le]; exact g2)]
  · rw [gCall_eq c1, gCall_eq c2]
    exact Ag.same h _ rfl rfl
def htB (T : Nat → Nat) : Nat → Nat × Nat
  | 0 => (0, 0)
  | n + 1 => if T n ≤ (htB T n).2 then htB T n else (n + 1, T n)
theorem htB_ok (T : Nat → Nat) : ∀ n, (htB T n).1 ≤ n ∧ (((htB T n).1 = 0 ∧ (htB T n).2 = 0) ∨ (0 < (htB T n).1 ∧ (htB T n).2 = T ((htB T n).1 - 1))) := by
  intro n
  induction n with
  | zero => exact ⟨Nat.le_refl _, Or.inl ⟨rfl, rfl⟩⟩
  | succ n ih =>
    simp only [htB]
    split
    · exact ⟨by omega, ih.2⟩
    · exact ⟨Nat.le_refl _, Or.inr ⟨Nat.succ_pos _, rfl⟩⟩
theorem x_tally {β : Type} {x : gM} {t s : Nat} {L : Nat → Nat} {R : gM → Option (Int32 × gM)} (P : Option (Int32 × gM) → Prop) (h : TRx x t s L) {x1 : gM} (h0 : ∀ q, q < 1024 → x1 34 0 q = 0) (h1 : Eqv p34 x x1) (hR : ∀ σ, (∀ v, v < 1024 → σ 34 0 v = nI (wc L 0 s v)) → Eqv p34 x σ → P (R σ)) : P (gL1 FU (X4_hottestLine_b10 t R) 0 x1) := by
  obtain ⟨hs, h5, h38⟩ := id h
  refine gL1_for (fun i σ => (∀ v, v < 1024 → σ 34 0 v = nI (wc L 0 i v)) ∧ Eqv p34 x σ) P s ?_ ?_ FU 0 x1 (Nat.zero_le _) (by rw [FU_eq]; omega) ⟨fun v hv => by rw [h0 v hv, wc_nil (Nat.le_refl _)]; rfl, h1⟩
  · rintro i σ K hi ⟨g1, g2⟩ hK
    unfold X4_hottestLine_b10
    obtain ⟨l1, l2⟩ := h38 i hi
    rw [g2 5 t 2 (by unfold p34; omega), h5, if_neg (by rw [nI_leq (by omega) (by omega)]; omega), gAt_nI (show i < 600 by omega) (by omega), g2 38 t i (by unfold p34; omega), l2, gAt_nI (show L i < 1024 from l1) (by omega), g1 _ l1, nI_1, gPut_nI (show L i < 1024 from l1) (by omega), gLet, nI_1]
    refine hK _ ⟨fun v hv => ?_, g2.tr (Eqv.up ⟨rfl, rfl⟩)⟩
    rw [gup_at, wc_s (Nat.zero_le _)]
    by_cases e : v = L i
    · rw [if_pos e, if_pos e.symm, e]
    · rw [if_neg e, if_neg (fun z => e z.symm), g1 v hv]; rfl
  · rintro σ K ⟨g1, g2⟩
    unfold X4_hottestLine_b10
    rw [g2 5 t 2 (by unfold p34; omega), h5, if_pos (by rw [nI_leq (by omega) (by omega)]; omega)]
    exact hR σ g1 g2
theorem x_hot {x : gM} {t s : Nat} {L : Nat → Nat} (h : TRx x t s L) : ∃ x', X4_hottestLine t x = some (pnI (htB (wc L 0 s) 1024).1, x') ∧ (∀ v, v < 1024 → x' 34 0 v = nI (wc L 0 s v)) ∧ Eqv p34 x x' := by
  unfold X4_hottestLine
  obtain ⟨x1, a1, a2, a3⟩ := x_zero34 (x := x) 0
  have hs := h.1
  have hl := wc_le L 0 s
  rw [gCall_eq a1, gJ0_e]
  refine x_tally (β := Nat) (fun o => ∃ x', o = some (pnI (htB (wc L 0 s) 1024).1, x') ∧ (∀ v, v < 1024 → x' 34 0 v = nI (wc L 0 s v)) ∧ Eqv p34 x x') h a2 a3 (fun σ g1 g2 => ?_)
  revert g1 hl
  generalize wc L 0 s = T
  intro hl g1
  generalize hn : (1024 : Nat) = n at g1 ⊢
  have hb : ∀ i, (htB T i).2 ≤ s := fun i => by
    rcases (htB_ok T i).2 with z | z
    · omega
    · rw [z.2]; exact hl _
  refine gL3_for (fun i p q τ => p = pnI (htB T i).1 ∧ q = nI (htB T i).2 ∧ τ = σ) (fun o => ∃ x', o = some (pnI (htB T n).1, x') ∧ (∀ v, v < n → x' 34 0 v = nI (T v)) ∧ Eqv p34 x x') n ?_ ?_ FU 0 (-1) 0 σ (Nat.zero_le _) (by rw [FU_eq]; omega) ⟨rfl, rfl, rfl⟩
  · rintro i p q τ K hi ⟨rfl, rfl, rfl⟩ hK
    unfold X4_hottestLine_b46
    have h1 := hb i
    have h2 := hl i
    rw [if_neg (by rw [li1024, nI_leq (by omega) (by omega)]; omega), gAt_nI (show i < 1024 by omega) (by omega), g1 i hi]
    by_cases e : T i ≤ (htB T i).2
    · rw [if_pos (by rw [nI_leq (by omega) (by omega)]; exact e), gLet, nI_1]
      exact hK _ _ _ ⟨by simp only [htB]; rw [if_pos e], by simp only [htB]; rw [if_pos e], rfl⟩
    · rw [if_neg (by rw [nI_leq (by omega) (by omega)]; exact e), gAt_nI (show i < 1024 by omega) (by omega), g1 i hi, gLet, nI_1]
      exact hK _ _ _ ⟨by simp only [htB]; rw [if_neg e]; rfl, by simp only [htB]; rw [if_neg e], rfl⟩
  · rintro p q τ K ⟨rfl, rfl, rfl⟩
    unfold X4_hottestLine_b46
    rw [if_pos (by rw [li1024, nI_leq (by omega) (by omega)]; omega)]
    exact ⟨τ, rfl, g1, g2⟩
theorem m_times {m : gM} {t s v : Nat} {L : Nat → Nat} (h : TRm m t s L) (hv : v < 1024) : X9_timesOf (nI t) (nI v) m = some (nI (wc L 0 s v), m) := by
  unfold X9_timesOf
  have hs := h.2.1
  refine gL2_cnt (fun k => decide (0 ≤ k) && decide (L k = v)) s (fun i c K hi hc => ?_) (fun K => ?_) (by rw [FU_eq]; omega)
  · unfold X9_timesOf_b5
    have hl := (h.2.2.2 i hi).1
    rw [gCall_eq (TRm_len h), if_neg (by rw [nI_leq (by omega) (by omega)]; omega), gCall_eq (TRm_line h hi)]
    by_cases e : L i = v
    · rw [if_pos (by rw [e]), if_pos (by rw [decide_eq_true (Nat.zero_le _), decide_eq_true e]; rfl), gLet, gLet, nI_1, nI_1]
    · rw [if_neg (fun z => e ((nI_inj (by omega) (by omega)).mp z)), if_neg (by rw [decide_eq_false e, Bool.and_false]; decide), gLet, gLet, nI_1, nI_p0] <;> rfl
  · unfold X9_timesOf_b5
    rw [gCall_eq (TRm_len h), if_pos (by rw [nI_leq (by omega) (by omega)]; omega)]
    rfl
theorem m_hot {m : gM} {t s : Nat} {L : Nat → Nat} {b : Int32} (h : TRm m t s L) : gJ2 (fun (v3 v4 : Int32) (m5 : gM) => if b = 0 then (some (v3, m5)) else (some (v4, m5))) (fun (j58 : Int32 → Int32 → gM → Option (Int32 × gM)) => gL3 FU (X9_hottest_b18 (nI t) j58) (-1) 0 0 m) = some (if b = 0 then pnI (htB (wc L 0 s) 1024).1 else nI (htB (wc L 0 s) 1024).2, m) := by
  rw [gJ2_e]
  have hs := h.2.1
  have hl := wc_le L 0 s
  have ht := fun v hv => m_times (v := v) h hv
  revert ht hl
  generalize wc L 0 s = T
  intro hl ht
  have hb : ∀ i, (htB T i).2 ≤ s := fun i => by
    rcases (htB_ok T i).2 with z | z
    · omega
    · rw [z.2]; exact hl _
  generalize hn : (1024 : Nat) = n at ht ⊢
  refine gL3_for (fun i p q τ => p = pnI (htB T i).1 ∧ q = nI (htB T i).2 ∧ τ = m) (fun o => o = some (if b = 0 then pnI (htB T n).1 else nI (htB T n).2, m)) n ?_ ?_ FU 0 (-1) 0 m (Nat.zero_le _) (by rw [FU_eq]; omega) ⟨rfl, rfl, rfl⟩
  · rintro i p q τ K hi ⟨rfl, rfl, rfl⟩ hK
    unfold X9_hottest_b18
    have h1 := hb i
    have h2 := hl i
    rw [if_neg (by rw [li1024, nI_leq (by omega) (by omega)]; omega), gCall_eq (ht i hi)]
    by_cases e : T i ≤ (htB T i).2
    · rw [if_neg (by rw [nI_ltt (by omega) (by omega)]; omega), gLet, nI_1]
      exact hK _ _ _ ⟨by simp only [htB]; rw [if_pos e], by simp only [htB]; rw [if_pos e], rfl⟩
    · rw [if_pos (by rw [nI_ltt (by omega) (by omega)]; omega), gLet, nI_1]
      exact hK _ _ _ ⟨by simp only [htB]; rw [if_neg e]; rfl, by simp only [htB]; rw [if_neg e], rfl⟩
  · rintro p q τ K ⟨rfl, rfl, rfl⟩
    unfold X9_hottest_b18
    rw [if_pos (by rw [li1024, nI_leq (by omega) (by omega)]; omega)]
    dsimp only
    by_cases c : b = 0
    · rw [if_pos c, if_pos c]
    · rw [if_neg c, if_neg c]
theorem q_hottest {x m : gM} {N : Nat} (h : INV x m N) (a b : Int32) : Ag (X8_hottest a b x) (X9_hottest a b m) N := by
  unfold X8_hottest X9_hottest
  rcases trace_cases h a with ⟨t, ht, rfl, c1, c2, hT⟩ | ⟨c1, c2⟩
  · obtain ⟨s, L, hx, hm⟩ := trc2 ht hT
    obtain ⟨x1, a1, a2, a3⟩ := x_hot hx
    have hk := htB_ok (wc L 0 s) 1024
    rw [gCall_eq c1, if_pos rfl, gCall_eq c2, if_pos rfl, x_tr ht, z4, gCall_eq a1, m_hot hm]
    revert a1 a2 hk
    generalize wc L 0 s = T
    generalize hu : htB T 1024 = u
    intro a1 a2 hk
    rcases hk.2 with ⟨z1, z2⟩ | ⟨z1, z2⟩
    · rw [if_pos (show pnI u.1 = -1 by rw [z1]; rfl), z1, z2]
      by_cases c : b = 0
      · rw [if_pos c, if_pos c]
        exact ⟨_, _, _, rfl, rfl, INV_congr h (p34_X a3) Eqv.rf⟩
      · rw [if_neg c, if_neg c]
        exact ⟨_, _, _, rfl, rfl, INV_congr h (p34_X a3) Eqv.rf⟩
    · have hp : pnI u.1 = nI (u.1 - 1) := by
        obtain ⟨k, hk⟩ := Nat.exists_eq_succ_of_ne_zero (Nat.pos_iff_ne_zero.mp z1)
        rw [hk]; rfl
      have hle := hk.1
      rw [hp, if_neg (nI_nm1 (by omega))]
      by_cases c : b = 0
      · rw [if_pos c, if_pos c]
        exact ⟨_, _, _, rfl, rfl, INV_congr h (p34_X a3) Eqv.rf⟩
      · rw [if_neg c, if_neg c, gAt_nI (show u.1 - 1 < 1024 by omega) (by omega), a2 _ (by omega), z2]
        exact ⟨_, _, _, rfl, rfl, INV_congr h (p34_X a3) Eqv.rf⟩
  · rw [gCall_eq c1, gCall_eq c2]
    exact Ag.same h _ rfl rfl
