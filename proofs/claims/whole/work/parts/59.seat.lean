/-! LAYER 2: lines that are seated: the way on. -/
def sgx (sg : Nat → Nat) (n root c : Nat) : Nat := if c = n then root else sg c
def pSX (t k _i : Nat) : Prop := (t = 2 ∨ (20 ≤ t ∧ t ≤ 24)) ∧ k = 0
def pSM (t k _i : Nat) : Prop := (59 ≤ t ∧ t ≤ 62) ∧ k = 0
/-- seats and owners fit -/
def OK (n : Nat) (st : Nat → Nat) (ow : Nat → Option Nat) : Prop := (∀ c, c < n → st c < 64 ∧ ow (st c) = some c) ∧ ∀ p c, p < 64 → ow p = some c → c < n ∧ st c = p
theorem OK_cnt : ∀ n st ow, OK n st ow → cntP (fun p => (ow p).isSome) 64 = n := by
  intro n
  induction n with
  | zero =>
    intro st ow h
    refine cntP_none _ (fun p hp => ?_)
    cases e : ow p with
    | none => rfl
    | some c => exact absurd (h.2 p c hp e).1 (Nat.not_lt_zero _)
  | succ n ih =>
    intro st ow h
    have h1 := ih st (fun p => if p = st n then none else ow p) ⟨fun c hc => ⟨(h.1 c (by omega)).1, by
      have hne : st c ≠ st n := fun e => by
        have a1 := (h.1 c (by omega)).2
        rw [e, (h.1 n (by omega)).2] at a1
        cases a1
        omega
      dsimp only
      rw [if_neg hne]
      exact (h.1 c (by omega)).2⟩, fun p c hp e => by
      dsimp only at e
      by_cases ep : p = st n
      · rw [if_pos ep] at e; cases e
      · rw [if_neg ep] at e
        obtain ⟨b1, b2⟩ := h.2 p c hp e
        refine ⟨?_, b2⟩
        by_cases ec : c = n
        · rw [ec] at b2; exact absurd b2.symm ep
        · omega⟩
    have hn := h.1 n (Nat.lt_succ_self n)
    rw [cntP_new (p := fun p => (if p = st n then none else ow p).isSome) (a := st n) (fun i => ?_) (by rw [if_pos rfl]; rfl) 64, h1, if_pos hn.1]
    by_cases e : i = st n
    · subst e
      rw [hn.2]
      simp
    · simp [e]
def RBQ (n root e : Nat) (st sg : Nat → Nat) (Q : Nat → Nat) (rb : Nat → Option Nat) (σ τ : gM) : Prop :=
  (σ 21 0 n = -1 ∧ τ 61 0 root = -1) ∧ (∀ p, p < 64 → σ 23 0 p = oI (rb p) ∧ τ 60 0 p = oI ((rb p).map (sgx sg n root))) ∧
  Q 0 = n ∧ (∀ q, 0 < q → q < e → Q q < n ∧ τ 61 0 (sg (Q q)) = nI (st (Q q)) ∧ ∃ q', q' < q ∧ rb (st (Q q)) = some (Q q')) ∧ (∀ q q', q < e → q' < e → Q q = Q q' → q = q')
def FIN (n root : Nat) (sg : Nat → Nat) (σ τ σ' τ' : gM) : Prop := ∃ st' ow', OK (n + 1) st' ow' ∧ (∀ c, c < n + 1 → σ' 21 0 c = nI (st' c)) ∧ (∀ p, p < 64 → σ' 22 0 p = oI (ow' p) ∧ τ' 59 0 p = oI ((ow' p).map (sgx sg n root))) ∧ (∀ t k i, ¬ ((t = 21 ∨ t = 22) ∧ k = 0) → σ' t k i = σ t k i) ∧ ∀ t k i, ¬ (t = 59 ∧ k = 0) → τ' t k i = τ t k i
theorem gL2_s {β : Type} {f : Int32 → Int32 → gM → (Int32 → Int32 → gM → Option β) → Option β} {n : Nat} {a b : Int32} {σ : gM} : gL2 (n + 1) f a b σ = f a b σ (gL2 n f) := rfl
theorem gL1_s {β : Type} {f : Int32 → gM → (Int32 → gM → Option β) → Option β} {n : Nat} {a : Int32} {σ : gM} : gL1 (n + 1) f a σ = f a σ (gL1 n f) := rfl
theorem chain_ok {n root e : Nat} {st sg Q : Nat → Nat} {rb : Nat → Option Nat} (hn : n ≤ 63) (hroot : root < 64) (hsg : ∀ c, c < n → sg c < 64) (he : e ≤ 64) : ∀ q, q < e → ∀ (n1 n2 turn p : Nat) (ow1 : Nat → Option Nat) (st1 : Nat → Nat) (σ τ : gM), q + 1 < n1 → q + 1 < n2 → turn + q ≤ 63 → p < 64 → rb p = some (Q q) → RBQ n root e st sg Q rb σ τ →
    (∀ c, c < n → st1 c < 64 ∧ st1 c ≠ p ∧ ow1 (st1 c) = some c ∧ σ 21 0 c = nI (st1 c)) → (∀ p' c, p' ≠ p → p' < 64 → ow1 p' = some c → c < n ∧ st1 c = p') → (∀ p', p' < 64 → σ 22 0 p' = oI (ow1 p') ∧ τ 59 0 p' = oI ((ow1 p').map (sgx sg n root))) → (∀ u, 0 < u → u ≤ q → st1 (Q u) = st (Q u)) →
    ∃ σ' τ', gL2 n1 X2_shiftTo_b4 (nI p) (nI turn) σ = some ((), σ') ∧ gL1 n2 X9_goOn_b2 (nI p) τ = some ((), τ') ∧ FIN n root sg σ τ σ' τ' := by
  intro q
  induction q using Nat.strongRecOn with
  | ind q ih =>
    intro hqe n1 n2 turn p ow1 st1 σ τ h1 h2 ht hp hrb hQ ja jb jc jd
    obtain ⟨⟨r1, r2⟩, r3, r4, r5, r6⟩ := id hQ
    obtain ⟨n1, rfl⟩ : ∃ k, n1 = k + 1 := ⟨n1 - 1, by omega⟩
    obtain ⟨n2, rfl⟩ : ∃ k, n2 = k + 1 := ⟨n2 - 1, by omega⟩
    rw [gL2_s, gL1_s]
    rw [X2_shiftTo_b4, X9_goOn_b2]
    have hQn : Q q ≤ n := by
      rcases Nat.eq_zero_or_pos q with z | z
      · rw [z, r4]; exact Nat.le_refl _
      · exact Nat.le_of_lt (r5 q z hqe).1
    have hsgx : sgx sg n root (Q q) < 64 := by
      unfold sgx
      split
      · exact hroot
      · exact hsg _ (by omega)
    obtain ⟨a1, a2⟩ := r3 p hp
    rw [hrb] at a1 a2
    rw [if_neg (show ¬ 64 ≤ nI turn by rw [li64, nI_leq (by omega) (by omega)]; omega), if_neg (nI_nm1 (show p < 2147483648 by omega)), if_neg (nI_nm1 (show p < 2147483648 by omega)), gAt_nI (show p < 64 from hp) (by omega), a1, show oI (some (Q q)) = nI (Q q) from rfl, gAt_nI (show Q q < 64 by omega) (by omega), gPut_nI (show p < 64 from hp) (by omega), gPut_nI (show Q q < 64 by omega) (by omega), gLet, nI_1, gAt_nI (show p < 64 from hp) (by omega), a2, show oI (Option.map (sgx sg n root) (some (Q q))) = nI (sgx sg n root (Q q)) from rfl, gPut_nI (show p < 64 from hp) (by omega), gAt_nI (show sgx sg n root (Q q) < 64 from hsgx) (by omega), gup_t (show 61 ≠ 59 by omega)]
    -- the new state
    have w22 : ∀ p', p' < 64 → gup (gup σ 22 0 p (nI (Q q))) 21 0 (Q q) (nI p) 22 0 p' = oI (if p' = p then some (Q q) else ow1 p') := by
      intro p' hp'
      rw [gup_t (by omega), gup_at]
      by_cases z : p' = p
      · rw [if_pos z, if_pos z]; rfl
      · rw [if_neg z, if_neg z]; exact (jc p' hp').1
    have w59 : ∀ p', p' < 64 → gup τ 59 0 p (nI (sgx sg n root (Q q))) 59 0 p' = oI (Option.map (sgx sg n root) (if p' = p then some (Q q) else ow1 p')) := by
      intro p' hp'
      rw [gup_at]
      by_cases z : p' = p
      · rw [if_pos z, if_pos z]; rfl
      · rw [if_neg z, if_neg z]; exact (jc p' hp').2
    have w21 : ∀ c, gup (gup σ 22 0 p (nI (Q q))) 21 0 (Q q) (nI p) 21 0 c = if c = Q q then nI p else σ 21 0 c := by
      intro c
      rw [gup_at, gup_t (by omega)]
    have wo : ∀ t k i, ¬ ((t = 21 ∨ t = 22) ∧ k = 0) → gup (gup σ 22 0 p (nI (Q q))) 21 0 (Q q) (nI p) t k i = σ t k i := by
      intro t k i z
      unfold gup
      rw [if_neg (fun y => z ⟨Or.inl y.1, y.2.1⟩), if_neg (fun y => z ⟨Or.inr y.1, y.2.1⟩)]
    have wm : ∀ t k i, ¬ (t = 59 ∧ k = 0) → gup τ 59 0 p (nI (sgx sg n root (Q q))) t k i = τ t k i := by
      intro t k i z
      unfold gup
      rw [if_neg (fun y => z ⟨y.1, y.2.1⟩)]
    rcases Nat.eq_zero_or_pos q with q0 | q0
    · -- the new one sits
      subst q0
      rw [r4] at w22 w59 w21 wo wm ⊢
      rw [show sgx sg n root n = root from if_pos rfl] at w59 wm ⊢
      obtain ⟨n1, rfl⟩ : ∃ k, n1 = k + 1 := ⟨n1 - 1, by omega⟩
      obtain ⟨n2, rfl⟩ : ∃ k, n2 = k + 1 := ⟨n2 - 1, by omega⟩
      rw [r1, r2, gL2_s, gL1_s, X2_shiftTo_b4, X9_goOn_b2]
      refine ⟨_, _, ?_, if_pos rfl, fun c => if c = n then p else st1 c, fun p' => if p' = p then some n else ow1 p', ⟨fun c hc => ?_, fun p' c hp' hc => ?_⟩, fun c hc => ?_, fun p' hp' => ⟨w22 p' hp', w59 p' hp'⟩, wo, wm⟩
      · by_cases z : 64 ≤ nI (turn + 1)
        · rw [if_pos z]
        · rw [if_neg z, if_pos rfl]
      · dsimp only
        by_cases z : c = n
        · rw [if_pos z, if_pos rfl, z]; exact ⟨hp, rfl⟩
        · obtain ⟨k1, k2, k3, k4⟩ := ja c (by omega)
          rw [if_neg z, if_neg k2]; exact ⟨k1, k3⟩
      · dsimp only at hc ⊢
        by_cases z : p' = p
        · rw [if_pos z] at hc
          cases hc
          exact ⟨by omega, by rw [if_pos rfl, z]⟩
        · rw [if_neg z] at hc
          obtain ⟨k1, k2⟩ := jb p' c z hp' hc
          exact ⟨by omega, by rw [if_neg (by omega)]; exact k2⟩
      · rw [w21]
        dsimp only
        by_cases z : c = n
        · rw [if_pos z, if_pos z]
        · rw [if_neg z, if_neg z]; exact (ja c (by omega)).2.2.2
    · -- one goes on
      obtain ⟨c1, c2, q', c3, c4⟩ := r5 q q0 hqe
      have hst := jd q q0 (Nat.le_refl _)
      obtain ⟨k1, k2, k3, k4⟩ := ja (Q q) c1
      rw [k4, show sgx sg n root (Q q) = sg (Q q) from if_neg (by omega), c2, ← hst]
      rw [show sgx sg n root (Q q) = sg (Q q) from if_neg (by omega)] at w59 wm
      have hI1 : RBQ n root e st sg Q rb (gup (gup σ 22 0 p (nI (Q q))) 21 0 (Q q) (nI p)) (gup τ 59 0 p (nI (sg (Q q)))) := by
        refine ⟨⟨by rw [w21, if_neg (by omega)]; exact r1, by rw [wm _ _ _ (by omega)]; exact r2⟩, fun p' hp' => ⟨by rw [wo _ _ _ (by omega)]; exact (r3 p' hp').1, by rw [wm _ _ _ (by omega)]; exact (r3 p' hp').2⟩, r4, fun u u0 ue => ⟨(r5 u u0 ue).1, by rw [wm _ _ _ (by omega)]; exact (r5 u u0 ue).2.1, (r5 u u0 ue).2.2⟩, r6⟩
      obtain ⟨σ', τ', f1, f2, f3⟩ := ih q' c3 (by omega) n1 n2 (turn + 1) (st1 (Q q)) (fun p' => if p' = p then some (Q q) else ow1 p') (fun c => if c = Q q then p else st1 c) (gup (gup σ 22 0 p (nI (Q q))) 21 0 (Q q) (nI p)) (gup τ 59 0 p (nI (sg (Q q)))) (by omega) (by omega) (by omega) k1 (by rw [hst]; exact c4) hI1 (by
        intro c hc
        obtain ⟨b1, b2, b3, b4⟩ := ja c hc
        rw [w21]
        by_cases z : c = Q q
        · simp only [if_pos z]
          exact ⟨hp, fun y => k2 y.symm, by rw [if_pos trivial, z], trivial⟩
        · simp only [if_neg z, if_neg b2]
          refine ⟨b1, fun y => ?_, b3, b4⟩
          rw [y, k3] at b3
          cases b3
          exact z rfl) (by
        intro p' c z1 z2 z3
        by_cases z : p' = p
        · rw [if_pos z] at z3
          cases z3
          exact ⟨c1, by rw [if_pos rfl, z]⟩
        · rw [if_neg z] at z3
          obtain ⟨b1, b2⟩ := jb p' c z z2 z3
          refine ⟨b1, ?_⟩
          rw [if_neg (fun y => z1 (by rw [← b2, y]))]
          exact b2) (fun p' hp' => ⟨w22 p' hp', w59 p' hp'⟩) (by
        intro u u0 uq
        rw [if_neg (fun y => by have := r6 u q (by omega) hqe y; omega)]
        exact jd u u0 (by omega))
      refine ⟨σ', τ', f1, f2, ?_⟩
      obtain ⟨st', ow', g1, g2, g3, g4, g5⟩ := f3
      exact ⟨st', ow', g1, g2, g3, fun t k i z => (g4 t k i z).trans (wo t k i z), fun t k i z => (g5 t k i z).trans (wm t k i z)⟩
