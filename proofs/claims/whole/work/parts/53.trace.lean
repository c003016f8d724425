/-! LAYER 2: traces by themselves: wide, working, hottest, distance. -/
theorem trc {x m : gM} {t : Nat} (h : RT x t (m 49 0) t) : ∃ (s : Nat) (L : Nat → Nat), s ≤ 600 ∧ x 5 t 2 = nI s ∧ m 49 0 (1201 * t) = nI s ∧ ∀ i, i < s → L i < 1024 ∧ x 38 t i = nI (L i) ∧ m 49 0 (1201 * t + 1 + 2 * i) = nI (L i) := by
  obtain ⟨s, s1, s2, s3, s4⟩ := h
  refine ⟨s, fun i => (x 38 t i).toNatClampNeg, s3, s1, s2, fun i hi => ?_⟩
  obtain ⟨⟨l, l1, l2, l3⟩, -⟩ := s4 i hi
  have : (x 38 t i).toNatClampNeg = l := by rw [l2, nI_cl (by omega)]
  dsimp only
  rw [this]
  exact ⟨l1, l2, l3⟩
/-- the place behind the latest of v ahead of n; none: 0 -/
def lst (L : Nat → Nat) (v : Nat) : Nat → Nat
  | 0 => 0
  | n + 1 => if L n = v then n + 1 else lst L v n
theorem lst_le (L : Nat → Nat) (v : Nat) : ∀ n, lst L v n ≤ n := by
  intro n
  induction n with
  | zero => exact Nat.le_refl _
  | succ n ih => simp only [lst]; split <;> omega
theorem lst_eq {L : Nat → Nat} {v : Nat} : ∀ n, 0 < lst L v n → L (lst L v n - 1) = v := by
  intro n
  induction n with
  | zero => intro h; exact absurd h (Nat.lt_irrefl _)
  | succ n ih =>
    intro h
    simp only [lst] at h ⊢
    split
    · rename_i e; rw [Nat.add_sub_cancel]; exact e
    · rename_i e; rw [if_neg e] at h; exact ih h
theorem lst_no {L : Nat → Nat} {v : Nat} : ∀ n k, lst L v n ≤ k → k < n → L k ≠ v := by
  intro n
  induction n with
  | zero => intro k _ h; omega
  | succ n ih =>
    intro k h1 h2
    simp only [lst] at h1
    by_cases e : L n = v
    · rw [if_pos e] at h1; omega
    · rw [if_neg e] at h1
      by_cases ek : k = n
      · rw [ek]; exact e
      · exact ih k h1 (by omega)
theorem pn_sub (a : Nat) : nI a - 1 = pnI a := by
  cases a with
  | zero => rfl
  | succ a => rw [nI_sub1 (by omega)]; rfl
def TRm (m : gM) (t s : Nat) (L : Nat → Nat) : Prop := t < 4 ∧ s ≤ 600 ∧ m 49 0 (1201 * t) = nI s ∧ ∀ i, i < s → L i < 1024 ∧ m 49 0 (1201 * t + 1 + 2 * i) = nI (L i)
def TRx (x : gM) (t s : Nat) (L : Nat → Nat) : Prop := s ≤ 600 ∧ x 5 t 2 = nI s ∧ ∀ i, i < s → L i < 1024 ∧ x 38 t i = nI (L i)
theorem TRm_len {m : gM} {t s : Nat} {L : Nat → Nat} (h : TRm m t s L) : X9_lengthOf (nI t) m = some (nI s, m) := m_len h.1 h.2.2.1
theorem TRm_line {m : gM} {t s i : Nat} {L : Nat → Nat} (h : TRm m t s L) (hi : i < s) : X9_lineOf (nI t) (nI i) m = some (nI (L i), m) := m_line h.1 (by have := h.2.1; omega) (h.2.2.2 i hi).2
theorem TRm_cg {m m' : gM} {t s : Nat} {L : Nat → Nat} (h : TRm m t s L) (e : ∀ i, m' 49 0 i = m 49 0 i) : TRm m' t s L := ⟨h.1, h.2.1, by rw [e]; exact h.2.2.1, fun i hi => by rw [e]; exact h.2.2.2 i hi⟩
theorem TRx_cg {x x' : gM} {t s : Nat} {L : Nat → Nat} (h : TRx x t s L) (e : ∀ q i, q = 5 ∨ q = 38 → x' q t i = x q t i) : TRx x' t s L := ⟨h.1, by rw [e 5 _ (Or.inl rfl)]; exact h.2.1, fun i hi => by rw [e 38 _ (Or.inr rfl)]; exact h.2.2 i hi⟩
theorem trc2 {x m : gM} {t : Nat} (ht : t < 4) (h : RT x t (m 49 0) t) : ∃ (s : Nat) (L : Nat → Nat), TRx x t s L ∧ TRm m t s L := by
  obtain ⟨s, L, h1, h2, h3, h4⟩ := trc h
  exact ⟨s, L, ⟨h1, h2, fun i hi => ⟨(h4 i hi).1, (h4 i hi).2.1⟩⟩, ht, h1, h3, fun i hi => ⟨(h4 i hi).1, (h4 i hi).2.2⟩⟩
theorem m_latestOf {m : gM} {t s i v : Nat} {L : Nat → Nat} (h : TRm m t s L) (hi : i ≤ s) (hv : v < 1024) : X9_latestOf (nI t) (nI i) (nI v) m = some (pnI (lst L v i), m) := by
  unfold X9_latestOf
  have hs := h.2.1
  rw [pn_sub, gLet]
  refine gL1_rec (fun q a σ => σ = m ∧ a = pnI q ∧ q ≤ i ∧ lst L v i = lst L v q) (fun o => o = some (pnI (lst L v i), m)) ?_ FU i (pnI i) m (by rw [FU_eq]; omega) ⟨rfl, rfl, Nat.le_refl _, rfl⟩
  rintro q a σ K ⟨rfl, rfl, hq, he⟩ hK
  unfold X9_latestOf_b5
  cases q with
  | zero => rw [if_pos (show pnI 0 < 0 by decide), he]; rfl
  | succ q =>
    have hl := (h.2.2.2 q (by omega)).1
    rw [show pnI (q + 1) = nI q from rfl, if_neg (nI_neg (by omega)), gCall_eq (TRm_line h (by omega)), he]
    simp only [lst]
    by_cases e : L q = v
    · rw [if_pos (by rw [e]), if_pos e]; rfl
    · rw [if_neg (fun z => e ((nI_inj (by omega) (by omega)).mp z)), if_neg e, gLet, pn_dn]
      have := hK q (pnI q) σ (by omega) ⟨rfl, rfl, by omega, by rw [he]; simp only [lst]; rw [if_neg e]⟩
      rw [this, he]
      simp only [lst]
      rw [if_neg e]
theorem m_latest {m : gM} {t s i : Nat} {L : Nat → Nat} (h : TRm m t s L) (hi : i < s) : X9_latest (nI t) (nI i) m = some (pnI (lst L (L i) i), m) := by
  unfold X9_latest
  have hs := h.2.1
  have hli := (h.2.2.2 i hi).1
  rw [pn_sub, gLet]
  refine gL1_rec (fun q a σ => σ = m ∧ a = pnI q ∧ q ≤ i ∧ lst L (L i) i = lst L (L i) q) (fun o => o = some (pnI (lst L (L i) i), m)) ?_ FU i (pnI i) m (by rw [FU_eq]; omega) ⟨rfl, rfl, Nat.le_refl _, rfl⟩
  rintro q a σ K ⟨rfl, rfl, hq, he⟩ hK
  unfold X9_latest_b4
  cases q with
  | zero => rw [if_pos (show pnI 0 < 0 by decide), he]; rfl
  | succ q =>
    have hl := (h.2.2.2 q (by omega)).1
    rw [show pnI (q + 1) = nI q from rfl, if_neg (nI_neg (by omega)), gCall_eq (TRm_line h (by omega)), gCall_eq (TRm_line h hi)]
    by_cases e : L q = L i
    · rw [if_pos (by rw [e]), he]
      simp only [lst]
      rw [if_pos e]; rfl
    · rw [if_neg (fun z => e ((nI_inj (by omega) (by omega)).mp z)), gLet, pn_dn]
      exact hK q (pnI q) σ (by omega) ⟨rfl, rfl, by omega, by rw [he]; simp only [lst]; rw [if_neg e]⟩
/-- how often v comes from a on, ahead of b; how many unlike ones come there -/
def wc (L : Nat → Nat) (a b v : Nat) : Nat := cntP (fun k => decide (a ≤ k) && decide (L k = v)) b
def dv (L : Nat → Nat) (a b : Nat) : Nat := cntP (fun v => decide (0 < wc L a b v)) 1024
theorem wc_le (L : Nat → Nat) (a b v : Nat) : wc L a b v ≤ b := cntP_le _ _
theorem wc_s {L : Nat → Nat} {a b v : Nat} (h : a ≤ b) : wc L a (b + 1) v = wc L a b v + if L b = v then 1 else 0 := by
  unfold wc
  simp only [cntP, decide_eq_true h, Bool.true_and, decide_eq_true_eq]
theorem wc_a {L : Nat → Nat} {a b v : Nat} (h : a < b) : wc L a b v = wc L (a + 1) b v + if L a = v then 1 else 0 := by
  unfold wc
  by_cases e : L a = v
  · rw [if_pos e, cntP_new (p := fun k => decide (a + 1 ≤ k) && decide (L k = v)) (a := a) (fun i => ?_) (by rw [decide_eq_false (by omega)]; rfl) b, if_pos h]
    by_cases ei : i = a
    · subst ei
      simp [e]
    · have : decide (a ≤ i) = decide (a + 1 ≤ i) := decide_eq_decide.mpr ⟨fun _ => by omega, fun _ => by omega⟩
      rw [this, decide_eq_false ei, Bool.or_false]
  · rw [if_neg e, Nat.add_zero]
    refine cntP_congr b (fun i _ => ?_)
    by_cases ei : i = a
    · subst ei
      simp [e]
    · have : decide (a ≤ i) = decide (a + 1 ≤ i) := decide_eq_decide.mpr ⟨fun _ => by omega, fun _ => by omega⟩
      rw [this]
theorem wc_nil {L : Nat → Nat} {a b v : Nat} (h : b ≤ a) : wc L a b v = 0 := cntP_none _ (fun i hi => by rw [decide_eq_false (by omega)]; rfl)
theorem dv_nil {L : Nat → Nat} {a b : Nat} (h : b ≤ a) : dv L a b = 0 := cntP_none _ (fun i _ => by rw [wc_nil h]; rfl)
theorem dv_le (L : Nat → Nat) (a b : Nat) : dv L a b ≤ 1024 := cntP_le _ _
theorem dv_new {T T' : Nat → Nat} {c : Nat} (hc : c < 1024) (h : ∀ v, T' v = T v + if c = v then 1 else 0) : cntP (fun v => decide (0 < T' v)) 1024 = cntP (fun v => decide (0 < T v)) 1024 + if T c = 0 then 1 else 0 := by
  by_cases h0 : T c = 0
  · rw [if_pos h0, cntP_new (p := fun v => decide (0 < T v)) (a := c) (fun i => ?_) (decide_eq_false (by omega)) 1024, if_pos hc]
    rw [h]
    by_cases e : i = c
    · subst e
      simp
    · have e' : ¬ c = i := fun z => e z.symm
      simp [e, e']
  · rw [if_neg h0, Nat.add_zero]
    refine cntP_congr _ (fun i _ => ?_)
    rw [h]
    by_cases e : c = i
    · subst e
      exact decide_eq_decide.mpr ⟨fun _ => by omega, fun _ => by omega⟩
    · simp [e]
theorem dv_s {L : Nat → Nat} {a b : Nat} (h : a ≤ b) (hl : L b < 1024) : dv L a (b + 1) = dv L a b + if wc L a b (L b) = 0 then 1 else 0 := dv_new hl (fun v => wc_s h)
theorem dv_a {L : Nat → Nat} {a b : Nat} (h : a < b) (hl : L a < 1024) : dv L a b = dv L (a + 1) b + if wc L (a + 1) b (L a) = 0 then 1 else 0 := dv_new hl (fun v => wc_a h)
theorem wc_mono {L : Nat → Nat} {a a' b b' v : Nat} (ha : a' ≤ a) (hb : b ≤ b') : wc L a b v ≤ wc L a' b' v := by
  unfold wc
  obtain ⟨k, rfl⟩ := Nat.exists_eq_add_of_le hb
  rw [cntP_add]
  have := cntP_mono (p := fun k => decide (a ≤ k) && decide (L k = v)) (q := fun k => decide (a' ≤ k) && decide (L k = v)) b (fun i _ hi => by
    rw [Bool.and_eq_true] at hi ⊢
    exact ⟨decide_eq_true (by have := of_decide_eq_true hi.1; omega), hi.2⟩)
  omega
theorem dv_mono {L : Nat → Nat} {a a' b b' : Nat} (ha : a' ≤ a) (hb : b ≤ b') : dv L a b ≤ dv L a' b' := by
  refine cntP_mono _ (fun v _ hv => ?_)
  have h1 := of_decide_eq_true hv
  have h2 := wc_mono (L := L) (v := v) ha hb
  exact decide_eq_true (by omega)
theorem wc_lst {L : Nat → Nat} {v : Nat} : ∀ b a, a ≤ b → (wc L a b v = 0 ↔ lst L v b ≤ a) := by
  intro b
  induction b with
  | zero => intro a ha; simp [wc, cntP, lst]
  | succ b ih =>
    intro a ha
    by_cases e : a = b + 1
    · subst e
      rw [wc_nil (Nat.le_refl _)]
      exact ⟨fun _ => lst_le _ _ _, fun _ => rfl⟩
    · rw [wc_s (by omega)]
      simp only [lst]
      by_cases eb : L b = v
      · rw [if_pos eb, if_pos eb]; omega
      · rw [if_neg eb, if_neg eb, Nat.add_zero]; exact ih a (by omega)
/-- unlike ones are counted where they come first -/
theorem dv_first {L : Nat → Nat} {a : Nat} : ∀ b, (∀ i, i < b → L i < 1024) → dv L a b = cntP (fun k => decide (a ≤ k) && decide (lst L (L k) k ≤ a)) b := by
  intro b
  induction b with
  | zero => intro _; exact dv_nil (Nat.zero_le _)
  | succ b ih =>
    intro h
    simp only [cntP]
    by_cases hab : a ≤ b
    · have e1 := wc_lst (L := L) (v := L b) b a hab
      rw [dv_s hab (h b (by omega)), ih (fun i hi => h i (by omega))]
      by_cases e : wc L a b (L b) = 0
      · simp only [if_pos e, decide_eq_true hab, decide_eq_true (e1.mp e), ↓reduceIte, Bool.and_self]
      · simp only [if_neg e, decide_eq_true hab, decide_eq_false (fun z => e (e1.mpr z)), Bool.and_false, Bool.false_eq_true, ↓reduceIte]
    · rw [dv_nil (by omega), ← ih (fun i hi => h i (by omega)), dv_nil (by omega)]
      simp only [decide_eq_false hab, Bool.false_and, Bool.false_eq_true, ↓reduceIte]
def mxW (L : Nat → Nat) (n : Nat) : Nat → Nat
  | 0 => 0
  | i + 1 => max (mxW L n i) (dv L (i + 1 - n) (i + 1))
theorem mxW_le (L : Nat → Nat) (n : Nat) : ∀ i, mxW L n i ≤ 1024 := by
  intro i
  induction i with
  | zero => exact Nat.zero_le _
  | succ i ih => simp only [mxW]; have := dv_le L (i + 1 - n) (i + 1); omega
theorem mxW_ge {L : Nat → Nat} {n : Nat} : ∀ i j, j < i → dv L (j + 1 - n) (j + 1) ≤ mxW L n i := by
  intro i
  induction i with
  | zero => intro j h; omega
  | succ i ih =>
    intro j h
    simp only [mxW]
    by_cases e : j = i
    · subst e; omega
    · have := ih j (by omega); omega
theorem mxW_ub {L : Nat → Nat} {n M : Nat} : ∀ i, (∀ j, j < i → dv L (j + 1 - n) (j + 1) ≤ M) → mxW L n i ≤ M := by
  intro i
  induction i with
  | zero => intro _; exact Nat.zero_le _
  | succ i ih =>
    intro h
    simp only [mxW]
    have := ih (fun j hj => h j (by omega))
    have := h i (by omega)
    omega
def p34 (t k _i : Nat) : Prop := t = 34 ∧ k = 0
theorem x_zero34 {x : gM} (v : Int32) : ∃ x', J7_fill_53178 34 0 v x = some ((), x') ∧ (∀ q, q < 1024 → x' 34 0 q = v) ∧ Eqv p34 x x' := by
  refine ⟨_, fill_ok (by rw [ge34, FU_eq]; omega), fun q hq => ?_, Eqv_fil (fun _ => ⟨rfl, rfl⟩)⟩
  unfold gfil
  rw [if_pos ⟨rfl, rfl, hq⟩]
theorem gJ1_if {β : Type} {J : Int32 → gM → β} {F : (Int32 → gM → β) → β} {u : Int32} {σ : gM} (h : ∀ J, F J = J u σ) : gJ1 J F = J u σ := by rw [gJ1_e]; exact h J
theorem x_unl {x : gM} {t s n : Nat} {L : Nat → Nat} (W : Nat → Nat → Nat → Nat) (D : Nat → Nat → Nat) (M : Nat → Nat) (h : TRx x t s L) (hn : 1 ≤ n ∧ n ≤ 600)
    (hW0 : ∀ v, W 0 0 v = 0) (hD0 : D 0 0 = 0) (hM0 : M 0 = 0) (hWl : ∀ a b v, W a b v ≤ b) (hDl : ∀ a b, D a b ≤ 1024) (hMl : ∀ i, M i ≤ 1024)
    (hWs : ∀ a b v, a ≤ b → W a (b + 1) v = W a b v + if L b = v then 1 else 0) (hWa : ∀ a b v, a < b → W a b v = W (a + 1) b v + if L a = v then 1 else 0)
    (hDs : ∀ a b, a ≤ b → b < s → D a (b + 1) = D a b + if W a b (L b) = 0 then 1 else 0) (hDa : ∀ a b, a < b → a < s → D a b = D (a + 1) b + if W (a + 1) b (L a) = 0 then 1 else 0)
    (hMs : ∀ i, M (i + 1) = max (M i) (D (i + 1 - n) (i + 1))) : ∃ x', X4_mostUnlike t (nI n) x = some (nI (M s), x') ∧ Eqv p34 x x' := by
  unfold X4_mostUnlike
  obtain ⟨hs, h5, h38⟩ := id h
  obtain ⟨x1, a1, a2, a3⟩ := x_zero34 (x := x) 0
  rw [gCall_eq a1]
  refine gL3_for (fun i p q σ => i ≤ s ∧ p = nI (D (i - n) i) ∧ q = nI (M i) ∧ (∀ v, v < 1024 → σ 34 0 v = nI (W (i - n) i v)) ∧ Eqv p34 x σ) (fun o => ∃ x', o = some (nI (M s), x') ∧ Eqv p34 x x') s ?_ ?_ FU 0 0 0 x1 (Nat.zero_le _) (by rw [FU_eq]; omega) ⟨Nat.zero_le _, by rw [Nat.zero_sub, hD0]; rfl, by rw [hM0]; rfl, fun v hv => by rw [a2 v hv, Nat.zero_sub, hW0]; rfl, a3⟩
  · rintro i p q σ K hi ⟨-, rfl, rfl, g1, g2⟩ hK
    unfold X4_mostUnlike_b16
    obtain ⟨l1, l2⟩ := h38 i hi
    have d1 := hDl (i - n) i
    have d2 := hDl (i + 1 - n) (i + 1)
    have d3 := hDl (i - n) (i + 1)
    have m1 := hMl i
    have w1 := hWl (i - n) i (L i)
    have ds := hDs (i - n) i (by omega) hi
    have cond : ∀ (J : Int32 → gM → Option (Int32 × gM)), (if nI (W (i - n) i (L i)) = 0 then (gLet (nI (D (i - n) i) + 1) (fun x22 => J x22 σ)) else J (nI (D (i - n) i)) σ) = J (nI (D (i - n) (i + 1))) σ := by
      intro J
      by_cases e0 : W (i - n) i (L i) = 0
      · rw [if_pos (by rw [e0]; rfl), gLet, nI_1, ds, if_pos e0]
      · rw [if_neg (fun z => e0 ((nI_z (by omega)).mp z)), ds, if_neg e0, Nat.add_zero (D (i - n) i)]
    rw [g2 5 t 2 (by unfold p34; omega), h5, if_neg (by rw [nI_leq (by omega) (by omega)]; omega), gAt_nI (show i < 600 by omega) (by omega), g2 38 t i (by unfold p34; omega), l2, gAt_nI (show L i < 1024 from l1) (by omega), g1 _ l1, gJ1_if (fun J => cond J)]
    rw [gAt_nI (show L i < 1024 from l1) (by omega), g1 _ l1, nI_1, gPut_nI (show L i < 1024 from l1) (by omega), gJ1_e]
    have k1 : ∀ v, v < 1024 → gup σ 34 0 (L i) (nI (W (i - n) i (L i) + 1)) 34 0 v = nI (W (i - n) (i + 1) v) := by
      intro v hv
      rw [gup_at, hWs _ _ _ (by omega)]
      by_cases e : v = L i
      · rw [if_pos e, if_pos e.symm, e]
      · rw [if_neg e, if_neg (fun z => e z.symm), g1 v hv]; rfl
    have k2 : Eqv p34 x (gup σ 34 0 (L i) (nI (W (i - n) i (L i) + 1))) := g2.tr (Eqv.up ⟨rfl, rfl⟩)
    revert k1 k2
    generalize gup σ 34 0 (L i) (nI (W (i - n) i (L i) + 1)) = τ
    intro k1 k2
    by_cases hin : i < n
    · rw [if_pos (by rw [nI_ltt (by omega) (by omega)]; exact hin)]
      dsimp only
      have ew : i - n = i + 1 - n := by omega
      rw [gLet, gLet, gMax_nI (by omega) (by omega), nI_1]
      exact hK _ _ _ ⟨by omega, by rw [ew], by rw [hMs, ew], fun v hv => by rw [k1 v hv, ew], k2⟩
    · have hin' : n ≤ i := by omega
      obtain ⟨o1, o2⟩ := h38 (i - n) (by omega)
      have ew : i - n + 1 = i + 1 - n := by omega
      have hwa := fun v => hWa (i - n) (i + 1) v (by omega)
      have hda := hDa (i - n) (i + 1) (by omega) (by omega)
      have hw0 := hwa (L (i - n))
      rw [if_pos rfl, ew] at hw0
      rw [ew] at hda
      have wl := hWl (i - n) (i + 1) (L (i - n))
      rw [if_neg (by rw [nI_ltt (by omega) (by omega)]; exact hin), pk_sub hin', gAt_nI (show i - n < 600 by omega) (by omega), k2 38 t (i - n) (by unfold p34; omega), o2, gAt_nI (show L (i - n) < 1024 from o1) (by omega), k1 _ o1, hw0, nI_sub1 (by omega), gPut_nI (show L (i - n) < 1024 from o1) (by omega), gAt_nI (show L (i - n) < 1024 from o1) (by omega), gup_at, if_pos rfl, Nat.add_sub_cancel]
      have k3 : ∀ v, v < 1024 → gup τ 34 0 (L (i - n)) (nI (W (i + 1 - n) (i + 1) (L (i - n)))) 34 0 v = nI (W (i + 1 - n) (i + 1) v) := by
        intro v hv
        rw [gup_at]
        by_cases e : v = L (i - n)
        · rw [if_pos e, e]
        · have := hwa v
          rw [if_neg (fun z => e z.symm), ew] at this
          rw [if_neg e, k1 v hv, this]; rfl
      have k4 : Eqv p34 x (gup τ 34 0 (L (i - n)) (nI (W (i + 1 - n) (i + 1) (L (i - n))))) := k2.tr (Eqv.up ⟨rfl, rfl⟩)
      revert k3 k4
      generalize gup τ 34 0 (L (i - n)) (nI (W (i + 1 - n) (i + 1) (L (i - n)))) = ρ
      intro k3 k4
      by_cases e0 : W (i + 1 - n) (i + 1) (L (i - n)) = 0
      · rw [if_pos e0] at hda
        rw [if_pos (by rw [e0]; rfl), gLet, nI_dn (by omega), show D (i - n) (i + 1) - 1 = D (i + 1 - n) (i + 1) by omega]
        dsimp only
        rw [gLet, gLet, gMax_nI (by omega) (by omega), nI_1]
        exact hK _ _ _ ⟨by omega, rfl, by rw [hMs], k3, k4⟩
      · rw [if_neg e0] at hda
        rw [if_neg (fun z => e0 ((nI_z (by omega)).mp z)), show D (i - n) (i + 1) = D (i + 1 - n) (i + 1) by omega]
        dsimp only
        rw [gLet, gLet, gMax_nI (by omega) (by omega), nI_1]
        exact hK _ _ _ ⟨by omega, rfl, by rw [hMs], k3, k4⟩
  · rintro p q σ K ⟨-, rfl, rfl, g1, g2⟩
    unfold X4_mostUnlike_b16
    rw [g2 5 t 2 (by unfold p34; omega), h5, if_pos (by rw [nI_leq (by omega) (by omega)]; omega)]
    exact ⟨σ, rfl, g2⟩
theorem x_unlike {x : gM} {t s n : Nat} {L : Nat → Nat} (h : TRx x t s L) (hn : 1 ≤ n ∧ n ≤ 600) : ∃ x', X4_mostUnlike t (nI n) x = some (nI (mxW L n s), x') ∧ Eqv p34 x x' :=
  x_unl (wc L) (dv L) (mxW L n) h hn (fun v => wc_nil (Nat.le_refl _)) (dv_nil (Nat.le_refl _)) rfl (wc_le L) (dv_le L) (mxW_le L n) (fun a b v hab => wc_s hab) (fun a b v hab => wc_a hab) (fun a b hab hb => dv_s hab (h.2.2 b hb).1) (fun a b hab ha => dv_a hab (h.2.2 a ha).1) (fun i => by simp only [mxW])
