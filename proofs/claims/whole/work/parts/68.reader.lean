/-! LAYER 2: texts: the component's reader, sign by sign. -/
def JR (n : Nat) : gM → Option (Unit × gM) := fun m8 => gCall (X0_endNumber 8 m8) (fun (_ : Unit) (m9 : gM) => gCall (X0_takeEnd (nI n) m9) (fun (_ : Unit) (m11 : gM) => some ((), m11)))
/-- what holds of the reader's run from p on -/
def CP (n p : Nat) (σ : gM) (Q : Option (Unit × gM) → Prop) : Prop := ∀ n', n - p < n' → Q (gL1 n' (X0_read_b38 46 0 (nI n) 8 (JR n)) (nI p) σ)
def TPx (n : Nat) (b : Nat → Nat) (σ : gM) : Prop := n ≤ 300 ∧ ∀ i, i < n → b i < 256 ∧ σ 46 0 i = nI (b i)
theorem x_dig {c : Nat} {σ : gM} (hc : c < 256) : X0_isDigit (nI c) σ = some (decide (dg c), σ) := by
  unfold X0_isDigit
  by_cases c1 : c < 48
  · rw [if_pos (by rw [show (48 : Int32) = nI 48 from rfl, nI_ltt (by omega) (by omega)]; exact c1), decide_eq_false (fun z => by unfold dg at z; omega)]
  · rw [if_neg (by rw [show (48 : Int32) = nI 48 from rfl, nI_ltt (by omega) (by omega)]; exact c1)]
    by_cases c2 : 57 < c
    · rw [if_pos (by rw [show (57 : Int32) = nI 57 from rfl, nI_ltt (by omega) (by omega)]; exact c2), decide_eq_false (fun z => by unfold dg at z; omega)]
    · rw [if_neg (by rw [show (57 : Int32) = nI 57 from rfl, nI_ltt (by omega) (by omega)]; exact c2), decide_eq_true (by unfold dg; omega)]
theorem CP_dig {n p : Nat} {b : Nat → Nat} {σ σ' : gM} {Q : Option (Unit × gM) → Prop} (hT : TPx n b σ) (hp : p < n) (h8 : σ 0 0 8 = 0) (hd : dg (b p)) (ht : X0_takeDigit (nI (b p - 48)) (nI p) σ = some ((), σ')) (h : CP n (p + 1) σ' Q) : CP n p σ Q := by
  intro n' hn'
  cases n' with
  | zero => exact absurd hn' (Nat.not_lt_zero _)
  | succ n' =>
    obtain ⟨h1, h2⟩ := hT
    obtain ⟨b1, b2⟩ := h2 p hp
    rw [gL1_s, X0_read_b38, if_neg (by rw [nI_leq (by omega) (by omega)]; omega), show Int32.ofNat (glen 46) = nI 300 from rfl, if_neg (by rw [nI_leq (by omega) (by omega)]; omega), if_pos h8, gAt_nI (show p < 300 by omega) (by omega), b2, gCall_eq (x_dig b1), decide_eq_true hd, if_pos rfl, gAt_nI (show p < 300 by omega) (by omega), b2, li48, pk_sub hd.1, gCall_eq ht, gLet, nI_1]
    exact h n' (by omega)
theorem CP_sig {n p : Nat} {b : Nat → Nat} {σ σ1 σ2 : gM} {Q : Option (Unit × gM) → Prop} (hT : TPx n b σ) (hp : p < n) (h8 : σ 0 0 8 = 0) (hd : ¬ dg (b p)) (he : X0_endNumber 8 σ = some ((), σ1)) (h46 : σ1 46 0 p = σ 46 0 p) (ht : X0_takeSign (nI (b p)) (nI p) 8 σ1 = some ((), σ2)) (h : CP n (p + 1) σ2 Q) : CP n p σ Q := by
  intro n' hn'
  cases n' with
  | zero => exact absurd hn' (Nat.not_lt_zero _)
  | succ n' =>
    obtain ⟨h1, h2⟩ := hT
    obtain ⟨b1, b2⟩ := h2 p hp
    rw [gL1_s, X0_read_b38, if_neg (by rw [nI_leq (by omega) (by omega)]; omega), show Int32.ofNat (glen 46) = nI 300 from rfl, if_neg (by rw [nI_leq (by omega) (by omega)]; omega), if_pos h8, gAt_nI (show p < 300 by omega) (by omega), b2, gCall_eq (x_dig b1), decide_eq_false hd, if_neg (by decide), gCall_eq he, gAt_nI (show p < 300 by omega) (by omega), h46, b2, gCall_eq ht, gLet, nI_1]
    exact h n' (by omega)
theorem CP_end {n p : Nat} {σ : gM} {Q : Option (Unit × gM) → Prop} (hn : n ≤ 300) (hp : p ≤ n + 1) (h : n ≤ p ∨ σ 0 0 8 ≠ 0) (hQ : Q (JR n σ)) : CP n p σ Q := by
  intro n' hn'
  cases n' with
  | zero => exact absurd hn' (Nat.not_lt_zero _)
  | succ n' =>
    rw [gL1_s, X0_read_b38]
    by_cases c : n ≤ p
    · rw [if_pos (by rw [nI_leq (by omega) (by omega)]; exact c)]
      exact hQ
    · have h8 := h.resolve_left c
      rw [if_neg (by rw [nI_leq (by omega) (by omega)]; exact c), show Int32.ofNat (glen 46) = nI 300 from rfl, if_neg (by rw [nI_leq (by omega) (by omega)]; omega), if_neg h8]
      exact hQ
theorem end_no {σ : gM} (h : σ 0 0 4 = -1) : X0_endNumber 8 σ = some ((), σ) := by
  unfold X0_endNumber
  rw [if_pos h]
theorem sign_ws {c : Nat} {a : Int32} {σ : gM} (hc : ws c) : X0_takeSign (nI c) a 8 σ = some ((), σ) := by
  unfold X0_takeSign
  rcases hc with rfl | rfl
  · rw [if_pos (show nI 32 = 32 from rfl)]
  · rw [if_neg (show ¬ nI 10 = 32 by decide), if_pos (show nI 10 = 10 from rfl)]
theorem CP_ws {n q : Nat} {b : Nat → Nat} {σ : gM} {Q : Option (Unit × gM) → Prop} (hT : TPx n b σ) (h8 : σ 0 0 8 = 0) (h4 : σ 0 0 4 = -1) (hq : q ≤ n) (h : CP n q σ Q) : ∀ d a, a + d = q → (∀ i, a ≤ i → i < q → ws (b i)) → CP n a σ Q := by
  intro d
  induction d with
  | zero => intro a ha _; rw [show a = q by omega]; exact h
  | succ d ih =>
    intro a ha hw
    have hwa := hw a (Nat.le_refl _) (by omega)
    exact CP_sig hT (by omega) h8 (fun z => by unfold dg at z; unfold ws at hwa; omega) (end_no h4) rfl (sign_ws hwa) (ih (a + 1) (by omega) (fun i h1 h2 => hw i (by omega) h2))
theorem CP_num {n q : Nat} {b : Nat → Nat} {σ : gM} {Q : Option (Unit × gM) → Prop} (hT : TPx n b σ) (h8 : σ 0 0 8 = 0) (h4 : σ 0 0 4 = -1) : ∀ k, 0 < k → q + k ≤ n → (∀ i, i < k → dg (b (q + i))) → (∀ σ', σ' 0 0 4 = nI q → σ' 0 0 3 = nI (min (nvR b q k) 100000) → (∀ t u i, ¬ (t = 0 ∧ u = 0 ∧ (i = 3 ∨ i = 4)) → σ' t u i = σ t u i) → CP n (q + k) σ' Q) → CP n q σ Q := by
  have hn := hT.1
  intro k
  induction k with
  | zero => intro h; omega
  | succ k ih =>
    intro _ hk hd hQ
    have hdk := hd k (by omega)
    unfold dg at hdk
    have hv := nvR_le b q k (fun i hi => hd i (by omega))
    have hmin : min (min (nvR b q k) 100000 * 10 + (b (q + k) - 48)) 100000 = min (nvR b q (k + 1)) 100000 := by
      simp only [nvR]
      split <;> omega
    rcases Nat.eq_zero_or_pos k with z | z
    · subst z
      have hmin0 : min (0 * 10 + (b (q + 0) - 48)) 100000 = min (nvR b q (0 + 1)) 100000 := hmin
      have ht : X0_takeDigit (nI (b q - 48)) (nI q) σ = some ((), gup (gup (gup σ 0 0 4 (nI q)) 0 0 3 0) 0 0 3 (nI (min (nvR b q (0 + 1)) 100000))) := by
        unfold X0_takeDigit
        rw [gJ0_e, if_pos h4]
        simp only [gSet, gLet]
        rw [gup_at, if_pos rfl, ← hmin0, show (0 : Int32) * 10 + nI (b q - 48) = nI (0 * 10 + (b (q + 0) - 48)) by rw [li0, li10, pk_mul, nI_add]; rfl, li100000, gMin_nI (by omega) (by omega)]
      refine CP_dig hT (by omega) h8 (hd 0 (by omega)) ht (hQ _ (by rw [gup_at, if_neg (by omega), gup_at, if_neg (by omega), gup_at, if_pos rfl]) (by rw [gup_at, if_pos rfl]) (fun t u i y => by
        unfold gup
        rw [if_neg (by omega), if_neg (by omega), if_neg (by omega)]))
    · refine ih z (by omega) (fun i hi => hd i (by omega)) (fun σ1 e4 e3 eo => ?_)
      have ht : X0_takeDigit (nI (b (q + k) - 48)) (nI (q + k)) σ1 = some ((), gup σ1 0 0 3 (nI (min (nvR b q (k + 1)) 100000))) := by
        unfold X0_takeDigit
        rw [gJ0_e, if_neg (by rw [e4]; exact nI_nm1 (by omega))]
        simp only [gSet, gLet]
        rw [e3, li10, pk_mul, nI_add, li100000, gMin_nI (by omega) (by omega), hmin]
      refine CP_dig (b := b) ⟨hT.1, fun i hi => ⟨(hT.2 i hi).1, by rw [eo 46 0 i (by omega)]; exact (hT.2 i hi).2⟩⟩ (by omega) (by rw [eo 0 0 8 (by omega)]; exact h8) (hd k (by omega)) ht ?_
      rw [Nat.add_assoc]
      exact hQ _ (by rw [gup_at, if_neg (by omega)]; exact e4) (by rw [gup_at, if_pos rfl]) (fun t u i y => by
        unfold gup
        rw [if_neg (by omega)]
        exact eo t u i y)
theorem CP_flush {n e : Nat} {b : Nat → Nat} {σ σ1 : gM} {Q : Option (Unit × gM) → Prop} (hT : TPx n b σ) (hen : e ≤ n) (hd : e < n → ¬ dg (b e)) (h8 : σ 0 0 8 = 0) (he : X0_endNumber 8 σ = some ((), σ1)) (h4 : σ1 0 0 4 = -1) (h81 : σ1 0 0 8 = 0) (h46 : ∀ i, σ1 46 0 i = σ 46 0 i) (h : CP n e σ1 Q) : CP n e σ Q := by
  intro n' hn'
  have h1 := h n' hn'
  cases n' with
  | zero => exact absurd hn' (Nat.not_lt_zero _)
  | succ n' =>
    have hn := hT.1
    rw [gL1_s, X0_read_b38] at h1 ⊢
    by_cases c : n ≤ e
    · rw [if_pos (by rw [nI_leq (by omega) (by omega)]; exact c)] at h1 ⊢
      unfold JR at h1 ⊢
      rw [gCall_eq he]
      rw [gCall_eq (end_no h4)] at h1
      exact h1
    · obtain ⟨b1, b2⟩ := hT.2 e (by omega)
      have hde := hd (by omega)
      rw [if_neg (by rw [nI_leq (by omega) (by omega)]; exact c), show Int32.ofNat (glen 46) = nI 300 from rfl, if_neg (by rw [nI_leq (by omega) (by omega)]; omega)] at h1 ⊢
      rw [if_pos h81, gAt_nI (show e < 300 by omega) (by omega), h46, b2, gCall_eq (x_dig b1), decide_eq_false hde, if_neg (by decide), gCall_eq (end_no h4), gAt_nI (show e < 300 by omega) (by omega), h46, b2] at h1
      rw [if_pos h8, gAt_nI (show e < 300 by omega) (by omega), b2, gCall_eq (x_dig b1), decide_eq_false hde, if_neg (by decide), gCall_eq he, gAt_nI (show e < 300 by omega) (by omega), h46, b2]
      exact h1
/-- all that a text may change -/
def pRx (t k _i : Nat) : Prop := (t = 0 ∧ k = 0) ∨ (t = 16 ∧ k = 0) ∨ ((t = 5 ∨ t = 38 ∨ t = 39) ∧ k = 8)
def FX (x : gM) (f q : Nat) (o : Option (Unit × gM)) : Prop := ∃ x', o = some ((), x') ∧ x' 0 0 8 = nI f ∧ x' 0 0 9 = nI q ∧ Eqv pRx x x'
theorem fail_f {σ : gM} {a p : Int32} (h : σ 0 0 8 ≠ 0) : X0_fail a p σ = some ((), σ) := by
  unfold X0_fail
  rw [if_neg h]
theorem fail_0 {σ : gM} {a p : Int32} (h : σ 0 0 8 = 0) : X0_fail a p σ = some ((), gup (gup σ 0 0 8 a) 0 0 9 p) := by
  unfold X0_fail
  rw [if_pos h]
  rfl
theorem x_may {σ : gM} {d : Nat} (h : σ 0 0 2 = nI d) (hd : d ≤ 9) : X0_mayItemCome σ = some (decide (d = 0 ∨ d = 2), σ) := by
  unfold X0_mayItemCome
  rw [h]
  by_cases c : d = 0
  · rw [if_pos (by rw [c]; rfl), decide_eq_true (Or.inl c)]
  · rw [if_neg (fun z => c ((nI_z (by omega)).mp z))]
    by_cases c2 : d = 2
    · rw [if_pos (by rw [c2]; rfl), decide_eq_true (Or.inr c2)]
    · rw [if_neg (by rw [li2, nI_inj (by omega) (by omega)]; exact c2), decide_eq_false (by omega)]
theorem takeEnd_f {σ : gM} {a : Int32} {d : Nat} (h : σ 0 0 8 ≠ 0) (h2 : σ 0 0 2 = nI d) (hd : d ≤ 9) : X0_takeEnd a σ = some ((), σ) := by
  unfold X0_takeEnd
  rw [gJ0_e]
  by_cases c : 0 < σ 0 0 1
  · rw [if_pos c]
    dsimp only
    rw [gCall_eq (fail_f h)]
  · rw [if_neg c]
    dsimp only
    rw [gCall_eq (x_may h2 hd)]
    by_cases m : d = 0 ∨ d = 2
    · rw [decide_eq_true m, if_pos rfl]
      by_cases t : σ 0 0 7 = 0
      · rw [if_pos t]
      · rw [if_neg t]
        rw [gCall_eq (fail_f h)]
    · rw [decide_eq_false m, if_neg (by decide)]
      rw [gCall_eq (fail_f h)]
theorem CP_fail {x σ : gM} {n p f q d : Nat} (hn : n ≤ 300) (hp : p ≤ n + 1) (h8 : σ 0 0 8 = nI f) (hf : f ≠ 0 ∧ f ≤ 4) (h9 : σ 0 0 9 = nI q) (h4 : σ 0 0 4 = -1) (h2 : σ 0 0 2 = nI d) (hd : d ≤ 9) (e : Eqv pRx x σ) : CP n p σ (FX x f q) := by
  have hne : σ 0 0 8 ≠ 0 := by rw [h8]; exact fun z => hf.1 ((nI_z (by omega)).mp z)
  refine CP_end hn hp (Or.inr hne) ?_
  unfold JR
  rw [gCall_eq (end_no h4), gCall_eq (takeEnd_f hne h2 hd)]
  exact ⟨σ, rfl, h8, h9, e⟩
/-- a sign, by what is due -/
theorem sign_eq {σ : gM} {c d o : Nat} {a : Int32} (hc : c < 256) (hw : ¬ ws c) (h2 : σ 0 0 2 = nI d) (hd : d ≤ 9) (h1 : σ 0 0 1 = nI o) (ho : o ≤ 4) : X0_takeSign (nI c) a 8 σ =
    if c = 40 ∧ (d = 0 ∨ d = 2) then gCall (X0_openLoop a 8 σ) (fun (_ : Unit) (m24 : gM) => some ((), m24))
    else if c = 41 ∧ (d = 0 ∨ d = 2) ∧ 0 < o then some ((), gup σ 0 0 2 9)
    else if c = 114 ∧ (d = 0 ∨ d = 2) then some ((), gup σ 0 0 2 1)
    else if c = 119 ∧ (d = 0 ∨ d = 2) then some ((), gup σ 0 0 2 6)
    else if c = 43 ∧ d = 2 then some ((), gup σ 0 0 2 3)
    else if c = 42 ∧ d = 4 then some ((), gup σ 0 0 2 5)
    else if c = 58 ∧ d = 7 then some ((), gup σ 0 0 2 8)
    else gCall (X0_fail 1 a σ) (fun (_ : Unit) (m8 : gM) => some ((), m8)) := by
  unfold ws at hw
  unfold X0_takeSign
  have hmay := x_may h2 hd
  rw [show (32 : Int32) = nI 32 from rfl, show (10 : Int32) = nI 10 from rfl, show (40 : Int32) = nI 40 from rfl, show (41 : Int32) = nI 41 from rfl, show (114 : Int32) = nI 114 from rfl, show (119 : Int32) = nI 119 from rfl, show (43 : Int32) = nI 43 from rfl, show (42 : Int32) = nI 42 from rfl, show (58 : Int32) = nI 58 from rfl]
  simp only [nI_is hc (show 32 < 256 by omega), nI_is hc (show 10 < 256 by omega), nI_is hc (show 40 < 256 by omega), nI_is hc (show 41 < 256 by omega), nI_is hc (show 114 < 256 by omega), nI_is hc (show 119 < 256 by omega), nI_is hc (show 43 < 256 by omega), nI_is hc (show 42 < 256 by omega), nI_is hc (show 58 < 256 by omega)]
  rw [if_neg (show ¬ c = 32 by omega), if_neg (show ¬ c = 10 by omega)]
  simp only [gJ0_e, gSet, hmay, gCall_some, h1, h2]
  have e2 : (nI d = 2) = (d = 2) := propext (by rw [li2, nI_inj (by omega) (by omega)])
  have e4 : (nI d = 4) = (d = 4) := propext (by rw [li4, nI_inj (by omega) (by omega)])
  have e7 : (nI d = 7) = (d = 7) := propext (by rw [show (7 : Int32) = nI 7 from rfl, nI_inj (by omega) (by omega)])
  have eo : (nI o ≤ 0) = ¬ (0 < o) := propext (by rw [li0, nI_leq (by omega) (by omega)]; omega)
  simp only [e2, e4, e7, eo, decide_eq_true_eq]
  by_cases m : d = 0 ∨ d = 2
  · by_cases c40 : c = 40
    · simp [c40, m]
    by_cases c41 : c = 41
    · by_cases o0 : 0 < o
      · simp [c41, m, o0]
      · simp [c41, m, o0]
    by_cases c114 : c = 114
    · simp [c114, m]
    by_cases c119 : c = 119
    · simp [c119, m]
    by_cases c43 : c = 43
    · by_cases d2 : d = 2
      · simp [c43, d2]
      · simp [c43, d2]
    by_cases c42 : c = 42
    · have d4 : ¬ d = 4 := by omega
      simp [c42, d4]
    by_cases c58 : c = 58
    · have d7 : ¬ d = 7 := by omega
      simp [c58, d7]
    simp [c40, c41, c114, c119, c43, c42, c58]
  · have d2 : ¬ d = 2 := fun z => m (Or.inr z)
    by_cases c40 : c = 40
    · simp [c40, m]
    by_cases c41 : c = 41
    · simp [c41, m]
    by_cases c114 : c = 114
    · simp [c114, m]
    by_cases c119 : c = 119
    · simp [c119, m]
    by_cases c43 : c = 43
    · simp [c43, d2]
    by_cases c42 : c = 42
    · by_cases d4 : d = 4
      · simp [c42, d4]
      · simp [c42, d4]
    by_cases c58 : c = 58
    · by_cases d7 : d = 7
      · simp [c58, d7]
      · simp [c58, d7]
    simp [c40, c41, c114, c119, c43, c42, c58]
