/-! LAYER 2: texts: the reference's tokens. -/
abbrev ws (c : Nat) : Prop := c = 32 ∨ c = 10
abbrev dg (c : Nat) : Prop := 48 ≤ c ∧ c ≤ 57
abbrev sgn (c : Nat) : Prop := c = 114 ∨ c = 119 ∨ c = 43 ∨ c = 42 ∨ c = 58 ∨ c = 40 ∨ c = 41
def nvR (b : Nat → Nat) (q : Nat) : Nat → Nat
  | 0 => 0
  | k + 1 => if nvR b q k ≤ 99999 then 10 * nvR b q k + (b (q + k) - 48) else nvR b q k
theorem nvR_le (b : Nat → Nat) (q : Nat) : ∀ k, (∀ i, i < k → dg (b (q + i))) → nvR b q k ≤ 999999 := by
  intro k
  induction k with
  | zero => intro _; exact Nat.zero_le _
  | succ k ih =>
    intro h
    have h1 := ih (fun i hi => h i (by omega))
    have h2 := h k (by omega)
    unfold dg at h2
    simp only [nvR]
    split <;> omega
theorem ws_ex (b : Nat → Nat) (n : Nat) : ∀ d a, a + d = n → ∃ q, a ≤ q ∧ q ≤ n ∧ (∀ i, a ≤ i → i < q → ws (b i)) ∧ (q < n → ¬ ws (b q)) := by
  intro d
  induction d with
  | zero => intro a h; exact ⟨a, Nat.le_refl _, by omega, fun i h1 h2 => by omega, fun h1 => by omega⟩
  | succ d ih =>
    intro a h
    by_cases c : b a = 32 ∨ b a = 10
    · obtain ⟨q, h1, h2, h3, h4⟩ := ih (a + 1) (by omega)
      refine ⟨q, by omega, h2, fun i i1 i2 => ?_, h4⟩
      by_cases e : i = a
      · rw [e]; exact c
      · exact h3 i (by omega) i2
    · exact ⟨a, Nat.le_refl _, by omega, fun i h1 h2 => by omega, fun _ => c⟩
theorem dg_ex (b : Nat → Nat) (n q : Nat) : ∀ d j, q + j + d = n → ∃ k, j ≤ k ∧ q + k ≤ n ∧ (∀ i, j ≤ i → i < k → dg (b (q + i))) ∧ (q + k < n → ¬ dg (b (q + k))) := by
  intro d
  induction d with
  | zero => intro j h; exact ⟨j, Nat.le_refl _, by omega, fun i h1 h2 => by omega, fun h1 => by omega⟩
  | succ d ih =>
    intro j h
    by_cases c : 48 ≤ b (q + j) ∧ b (q + j) ≤ 57
    · obtain ⟨k, h1, h2, h3, h4⟩ := ih (j + 1) (by omega)
      refine ⟨k, by omega, h2, fun i i1 i2 => ?_, h4⟩
      by_cases e : i = j
      · rw [e]; exact c
      · exact h3 i (by omega) i2
    · exact ⟨j, Nat.le_refl _, by omega, fun i h1 h2 => by omega, fun _ => c⟩
/-- the reference's tape -/
def TPm (n : Nat) (b : Nat → Nat) (τ : gM) : Prop := n ≤ 300 ∧ τ 9 0 4 = nI n ∧ ∀ i, i < n → b i < 256 ∧ τ 50 0 i = nI (b i)
theorem m_byte {n a : Nat} {b : Nat → Nat} {τ : gM} (h : TPm n b τ) (ha : a ≤ n) : X9_byteAt (nI a) τ = some (if a < n then nI (b a) else -1, τ) := by
  obtain ⟨h1, h2, h3⟩ := h
  unfold X9_byteAt
  rw [h2]
  by_cases c : a < n
  · rw [if_neg (by rw [nI_leq (by omega) (by omega)]; omega), gAt_nI (show a < 300 by omega) (by omega), (h3 a c).2, if_pos c]
  · rw [if_pos (by rw [nI_leq (by omega) (by omega)]; omega), if_neg c]
theorem m_fig {c : Nat} {τ : gM} (hc : c < 256) : X9_isFigure (nI c) τ = some (decide (dg c), τ) := by
  unfold X9_isFigure
  by_cases c1 : c < 48
  · rw [if_pos (by rw [show (48 : Int32) = nI 48 from rfl, nI_ltt (by omega) (by omega)]; exact c1), decide_eq_false (fun z => by unfold dg at z; omega)]
  · rw [if_neg (by rw [show (48 : Int32) = nI 48 from rfl, nI_ltt (by omega) (by omega)]; exact c1)]
    by_cases c2 : 57 < c
    · rw [if_pos (by rw [show (57 : Int32) = nI 57 from rfl, nI_ltt (by omega) (by omega)]; exact c2), decide_eq_false (fun z => by unfold dg at z; omega)]
    · rw [if_neg (by rw [show (57 : Int32) = nI 57 from rfl, nI_ltt (by omega) (by omega)]; exact c2), decide_eq_true (by unfold dg; omega)]
theorem nI_is {c d : Nat} (hc : c < 256) (hd : d < 256) : (nI c = nI d) ↔ c = d := nI_inj (by omega) (by omega)
theorem m_sgn {c : Nat} {τ : gM} (hc : c < 256) : X9_isSign (nI c) τ = some (decide (sgn c), τ) := by
  unfold X9_isSign
  rw [show (114 : Int32) = nI 114 from rfl, show (119 : Int32) = nI 119 from rfl, show (43 : Int32) = nI 43 from rfl, show (42 : Int32) = nI 42 from rfl, show (58 : Int32) = nI 58 from rfl, show (40 : Int32) = nI 40 from rfl, show (41 : Int32) = nI 41 from rfl]
  simp only [nI_is hc (show 114 < 256 by omega), nI_is hc (show 119 < 256 by omega), nI_is hc (show 43 < 256 by omega), nI_is hc (show 42 < 256 by omega), nI_is hc (show 58 < 256 by omega), nI_is hc (show 40 < 256 by omega), nI_is hc (show 41 < 256 by omega)]
  unfold sgn
  by_cases a1 : c = 114
  · simp [a1]
  by_cases a2 : c = 119
  · simp [a2]
  by_cases a3 : c = 43
  · simp [a3]
  by_cases a4 : c = 42
  · simp [a4]
  by_cases a5 : c = 58
  · simp [a5]
  by_cases a6 : c = 40
  · simp [a6]
  by_cases a7 : c = 41
  · simp [a7]
  simp [a1, a2, a3, a4, a5, a6, a7]
def pNT (t k i : Nat) : Prop := t = 9 ∧ k = 0 ∧ 7 ≤ i ∧ i ≤ 10
theorem TPm_cg {n : Nat} {b : Nat → Nat} {τ τ' : gM} (h : TPm n b τ) (e1 : τ' 9 0 4 = τ 9 0 4) (e2 : ∀ i, τ' 50 0 i = τ 50 0 i) : TPm n b τ' := ⟨h.1, by rw [e1]; exact h.2.1, fun i hi => ⟨(h.2.2 i hi).1, by rw [e2]; exact (h.2.2 i hi).2⟩⟩
theorem TPm_nt {n : Nat} {b : Nat → Nat} {τ τ' : gM} (h : TPm n b τ) (e : Eqv pNT τ τ') : TPm n b τ' := TPm_cg h (e 9 0 4 (by unfold pNT; omega)) (fun i => e 50 0 i (by unfold pNT; omega))
theorem nt_skip {n a q : Nat} {b : Nat → Nat} {τ : gM} {J : gM → Option (Unit × gM)} {P : Option (Unit × gM) → Prop} (h : TPm n b τ) (h7 : τ 9 0 7 = nI a) (haq : a ≤ q) (hqn : q ≤ n) (hw : ∀ i, a ≤ i → i < q → ws (b i)) (hq : q < n → ¬ ws (b q)) (hP : ∀ τ', Eqv pNT τ τ' → τ' 9 0 7 = nI q → P (J τ')) : P (gL0 FU (X9_nextToken_b0 J) τ) := by
  have hn := h.1
  refine gL0_rec (fun d σ => ∃ i, i + d = q ∧ a ≤ i ∧ σ 9 0 7 = nI i ∧ Eqv pNT τ σ) P ?_ FU (q - a) τ (by rw [FU_eq]; omega) ⟨a, by omega, Nat.le_refl _, h7, Eqv.rf⟩
  rintro d σ K ⟨i, hi, hai, g1, g2⟩ hK
  unfold X9_nextToken_b0
  have hT := TPm_nt h g2
  rw [g1, gCall_eq (m_byte hT (by omega)), gJ0_e, g1]
  cases d with
  | zero =>
    have : i = q := by omega
    subst this
    by_cases c : i < n
    · obtain ⟨b1, b2⟩ := h.2.2 i c
      have hws := hq c
      unfold ws at hws
      rw [if_pos c, if_neg (show ¬ nI (b i) = 32 by rw [li32, nI_is b1 (by omega)]; omega), gCall_eq (m_byte hT (by omega)), if_pos c, if_neg (show ¬ nI (b i) = 10 by rw [li10, nI_is b1 (by omega)]; omega)]
      exact hP σ g2 g1
    · rw [if_neg c, if_neg (show ¬ (-1 : Int32) = 32 by decide), gCall_eq (m_byte hT (by omega)), if_neg c, if_neg (show ¬ (-1 : Int32) = 10 by decide)]
      exact hP σ g2 g1
  | succ d =>
    obtain ⟨b1, b2⟩ := h.2.2 i (by omega)
    have hws := hw i hai (by omega)
    have fin : P (gLet (nI i + 1) (fun (x33 : Int32) => gSet σ 9 0 7 x33 (fun (m34 : gM) => K m34))) := by
      rw [gLet, nI_1, gSet]
      exact hK d _ (by omega) ⟨i + 1, by omega, by omega, by rw [gup_at, if_pos rfl], g2.tr (Eqv.up (by unfold pNT; omega))⟩
    rw [if_pos (show i < n by omega)]
    by_cases c : b i = 32
    · rw [if_pos (show nI (b i) = 32 by rw [c]; rfl)]
      dsimp only
      rw [g1]
      exact fin
    · have c2 : b i = 10 := by
        rcases hws with z | z
        · exact absurd z c
        · exact z
      rw [if_neg (show ¬ nI (b i) = 32 by rw [li32, nI_is b1 (by omega)]; exact c), gCall_eq (m_byte hT (by omega)), if_pos (show i < n by omega), if_pos (show nI (b i) = 10 by rw [c2]; rfl)]
      dsimp only
      rw [g1]
      exact fin
/-- the token at q -/
def TOK (n : Nat) (b : Nat → Nat) (q : Nat) (τ : gM) : Prop :=
  (q = n ∧ τ 9 0 9 = 0 ∧ τ 9 0 7 = nI n) ∨
  (q < n ∧ dg (b q) ∧ τ 9 0 9 = 1 ∧ ∃ k, 0 < k ∧ q + k ≤ n ∧ (∀ i, i < k → dg (b (q + i))) ∧ (q + k < n → ¬ dg (b (q + k))) ∧ τ 9 0 7 = nI (q + k) ∧ τ 9 0 10 = nI (nvR b q k)) ∨
  (q < n ∧ ¬ dg (b q) ∧ ¬ ws (b q) ∧ (sgn (b q) → τ 9 0 9 = nI (b q)) ∧ (¬ sgn (b q) → τ 9 0 9 = 2) ∧ τ 9 0 7 = nI (q + 1))
theorem nt_num {n q k : Nat} {b : Nat → Nat} {τ : gM} {P : Option (Unit × gM) → Prop} (h : TPm n b τ) (h7 : τ 9 0 7 = nI q) (h10 : τ 9 0 10 = 0) (hk : q + k ≤ n) (hd : ∀ i, i < k → dg (b (q + i))) (he : q + k < n → ¬ dg (b (q + k))) (hP : ∀ τ', Eqv pNT τ τ' → τ' 9 0 7 = nI (q + k) → τ' 9 0 10 = nI (nvR b q k) → τ' 9 0 8 = τ 9 0 8 → τ' 9 0 9 = τ 9 0 9 → P (some ((), τ'))) : P (gL0 FU X9_nextToken_b85 τ) := by
  have hn := h.1
  refine gL0_rec (fun d σ => ∃ i, i + d = k ∧ σ 9 0 7 = nI (q + i) ∧ σ 9 0 10 = nI (nvR b q i) ∧ Eqv pNT τ σ ∧ σ 9 0 8 = τ 9 0 8 ∧ σ 9 0 9 = τ 9 0 9) P ?_ FU k τ (by rw [FU_eq]; omega) ⟨0, by omega, h7, h10, Eqv.rf, rfl, rfl⟩
  rintro d σ K ⟨i, hi, g1, g2, g3, g4, g5⟩ hK
  unfold X9_nextToken_b85
  have hT := TPm_nt h g3
  rw [g1, gCall_eq (m_byte hT (by omega))]
  cases d with
  | zero =>
    have : i = k := by omega
    subst this
    by_cases c : q + i < n
    · rw [if_pos c, gCall_eq (m_fig (h.2.2 _ c).1), decide_eq_false (he c), if_neg (by decide)]
      exact hP σ g3 g1 g2 g4 g5
    · rw [if_neg c]
      unfold X9_isFigure
      rw [if_pos (show (-1 : Int32) < 48 by decide), gCall_some, if_neg (by decide)]
      exact hP σ g3 g1 g2 g4 g5
  | succ d =>
    obtain ⟨b1, b2⟩ := h.2.2 (q + i) (by omega)
    have hdi := hd i (by omega)
    have hv := nvR_le b q i (fun j hj => hd j (by omega))
    have fin : ∀ v : Nat, v = nvR b q (i + 1) → P (gSet σ 9 0 10 (nI v) (fun (m23 : gM) => gLet ((m23 9 0 7) + 1) (fun (x24 : Int32) => gSet m23 9 0 7 x24 (fun (m25 : gM) => K m25)))) := by
      intro v hv'
      rw [gSet, gup_at, if_neg (by omega), g1, gLet, nI_1, gSet]
      refine hK d _ (by omega) ⟨i + 1, by omega, by rw [gup_at, if_pos rfl, ← Nat.add_assoc], by rw [gup_at, if_neg (by omega), gup_at, if_pos rfl, hv'], g3.tr ((Eqv.up (by unfold pNT; omega)).tr (Eqv.up (by unfold pNT; omega))), by rw [gup_at, if_neg (by omega), gup_at, if_neg (by omega)]; exact g4, by rw [gup_at, if_neg (by omega), gup_at, if_neg (by omega)]; exact g5⟩
    rw [if_pos (show q + i < n by omega), gCall_eq (m_fig b1), decide_eq_true hdi, if_pos rfl, g2]
    unfold dg at hdi
    by_cases c : nvR b q i ≤ 99999
    · rw [gJ1_e, if_pos (show nI (nvR b q i) ≤ 99999 by rw [li99999, nI_leq (by omega) (by omega)]; exact c), g1, gCall_eq (m_byte hT (by omega)), if_pos (show q + i < n by omega), li10, pk_mul, nI_add, li48, pk_sub (by omega)]
      exact fin _ (by simp only [nvR]; rw [if_pos c]; omega)
    · rw [gJ1_e, if_neg (show ¬ nI (nvR b q i) ≤ 99999 by rw [li99999, nI_leq (by omega) (by omega)]; exact c)]
      exact fin _ (by simp only [nvR]; rw [if_neg c])
theorem nt_ok {n a : Nat} {b : Nat → Nat} {τ : gM} (h : TPm n b τ) (h7 : τ 9 0 7 = nI a) (ha : a ≤ n) : ∃ q τ', X9_nextToken τ = some ((), τ') ∧ a ≤ q ∧ q ≤ n ∧ (∀ i, a ≤ i → i < q → ws (b i)) ∧ Eqv pNT τ τ' ∧ τ' 9 0 8 = nI q ∧ TOK n b q τ' := by
  obtain ⟨q, q1, q2, q3, q4⟩ := ws_ex b n (n - a) a (by omega)
  refine ⟨q, ?_⟩
  have hn := h.1
  unfold X9_nextToken
  rw [gJ0_e]
  refine nt_skip (P := fun o => ∃ τ', o = some ((), τ') ∧ a ≤ q ∧ q ≤ n ∧ (∀ i, a ≤ i → i < q → ws (b i)) ∧ Eqv pNT τ τ' ∧ τ' 9 0 8 = nI q ∧ TOK n b q τ') h h7 q1 q2 q3 q4 (fun τ1 e1 e7 => ?_)
  simp only [gSet]
  rw [e7]
  generalize hτ2 : gup (gup τ1 9 0 8 (nI q)) 9 0 10 0 = τ2
  have e2 : Eqv pNT τ τ2 := by rw [← hτ2]; exact e1.tr ((Eqv.up (by unfold pNT; omega)).tr (Eqv.up (by unfold pNT; omega)))
  have t8 : τ2 9 0 8 = nI q := by rw [← hτ2, gup_at, if_neg (by omega), gup_at, if_pos rfl]
  have t7 : τ2 9 0 7 = nI q := by rw [← hτ2, gup_at, if_neg (by omega), gup_at, if_neg (by omega)]; exact e7
  have t10 : τ2 9 0 10 = 0 := by rw [← hτ2, gup_at, if_pos rfl]
  have hT := TPm_nt h e2
  rw [t7, gCall_eq (m_byte hT q2)]
  by_cases c : q < n
  · obtain ⟨b1, b2⟩ := h.2.2 q c
    rw [if_pos c, if_pos (show 0 ≤ nI (b q) by rw [li0, nI_leq (by omega) (by omega)]; omega), gCall_eq (m_fig b1)]
    by_cases d : 48 ≤ b q ∧ b q ≤ 57
    · obtain ⟨k, k1, k2, k3, k4⟩ := dg_ex b n q (n - (q + 1)) 1 (by omega)
      rw [decide_eq_true (show dg (b q) from d), if_pos rfl]
      have hT3 : TPm n b (gup τ2 9 0 9 1) := TPm_nt hT (Eqv.up (by unfold pNT; omega))
      refine nt_num (P := fun o => ∃ τ', o = some ((), τ') ∧ a ≤ q ∧ q ≤ n ∧ (∀ i, a ≤ i → i < q → ws (b i)) ∧ Eqv pNT τ τ' ∧ τ' 9 0 8 = nI q ∧ TOK n b q τ') (k := k) (b := b) (q := q) hT3 (by rw [gup_at, if_neg (by omega)]; exact t7) (by rw [gup_at, if_neg (by omega)]; exact t10) k2 (fun i hi => ?_) k4 (fun τ' f1 f2 f3 f4 f5 => ?_)
      · by_cases e : i = 0
        · rw [e]; exact d
        · exact k3 i (by omega) hi
      · rw [gup_at, if_neg (by omega)] at f4
        rw [gup_at, if_pos rfl] at f5
        refine ⟨τ', rfl, q1, q2, q3, (e2.tr (Eqv.up (by unfold pNT; omega))).tr f1, f4.trans t8, Or.inr (Or.inl ⟨c, d, f5, k, by omega, k2, fun i hi => ?_, k4, f2, f3⟩)⟩
        by_cases e : i = 0
        · rw [e]; exact d
        · exact k3 i (by omega) hi
    · rw [decide_eq_false (show ¬ dg (b q) from d), if_neg (by decide), gCall_eq (m_sgn b1), gJ1_e]
      have fin : ∀ v : Int32, (sgn (b q) → v = nI (b q)) → (¬ sgn (b q) → v = 2) → ∃ τ', (gLet ((gup τ2 9 0 9 v) 9 0 7 + 1) (fun (x13 : Int32) => some ((), gup (gup τ2 9 0 9 v) 9 0 7 x13))) = some ((), τ') ∧ a ≤ q ∧ q ≤ n ∧ (∀ i, a ≤ i → i < q → ws (b i)) ∧ Eqv pNT τ τ' ∧ τ' 9 0 8 = nI q ∧ TOK n b q τ' := by
        intro v v1 v2
        rw [gup_at, if_neg (by omega), t7, gLet, nI_1]
        refine ⟨_, rfl, q1, q2, q3, e2.tr ((Eqv.up (by unfold pNT; omega)).tr (Eqv.up (by unfold pNT; omega))), by rw [gup_at, if_neg (by omega), gup_at, if_neg (by omega)]; exact t8, Or.inr (Or.inr ⟨c, d, q4 c, fun z => ?_, fun z => ?_, by rw [gup_at, if_pos rfl]⟩)⟩
        · rw [gup_at, if_neg (by omega), gup_at, if_pos rfl]; exact v1 z
        · rw [gup_at, if_neg (by omega), gup_at, if_pos rfl]; exact v2 z
      by_cases sg : sgn (b q)
      · rw [decide_eq_true sg, if_pos rfl]
        exact fin _ (fun _ => rfl) (fun z => absurd sg z)
      · rw [decide_eq_false sg, if_neg (by decide)]
        exact fin _ (fun z => absurd z sg) (fun _ => rfl)
  · rw [if_neg c, if_neg (show ¬ (0 : Int32) ≤ -1 by decide)]
    have : q = n := by omega
    exact ⟨_, rfl, q1, q2, q3, e2.tr (Eqv.up (by unfold pNT; omega)), by rw [gup_at, if_neg (by omega)]; exact t8, Or.inl ⟨this, by rw [gup_at, if_pos rfl], by rw [gup_at, if_neg (by omega), t7, this]⟩⟩
