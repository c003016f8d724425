/-! LAYER 2: texts: an item, in both. -/
def pRm (T t k i : Nat) : Prop := (t = 9 ∧ k = 0 ∧ 7 ≤ i ∧ i ≤ 14) ∨ (t = 51 ∧ k = 0) ∨ (t = 49 ∧ k = 0 ∧ 1201 * T ≤ i ∧ i < 1201 * T + 1201)
def RTS (x : gM) (d o : Nat) (σ : gM) : Prop := Eqv pRx x σ ∧ σ 0 0 8 = 0 ∧ σ 0 0 9 = -1 ∧ σ 0 0 4 = -1 ∧ σ 0 0 2 = nI d ∧ d ≤ 9 ∧ σ 0 0 1 = nI o ∧ o ≤ 4
theorem TPx_e {n : Nat} {b : Nat → Nat} {x σ : gM} (h : TPx n b x) (e : Eqv pRx x σ) : TPx n b σ := ⟨h.1, fun i hi => ⟨(h.2 i hi).1, by rw [e 46 0 i (by unfold pRx; omega)]; exact (h.2 i hi).2⟩⟩
theorem TPm_e {n T : Nat} {b : Nat → Nat} {y τ : gM} (h : TPm n b y) (e : Eqv (pRm T) y τ) : TPm n b τ := TPm_cg h (e 9 0 4 (by unfold pRm; omega)) (fun i => e 50 0 i (by unfold pRm; omega))
theorem tok_sg {n q c : Nat} {b : Nat → Nat} {τ : gM} (hb : ∀ i, i < n → b i < 256) (hc : sgn c) (h : TOK n b q τ) : τ 9 0 9 = nI c ↔ q < n ∧ b q = c := by
  have hc2 : c < 256 ∧ c ≠ 0 ∧ c ≠ 1 ∧ c ≠ 2 ∧ ¬ dg c := by unfold sgn at hc; unfold dg; omega
  rcases h with ⟨h1, h2, h3⟩ | ⟨h1, h2, h3, _⟩ | ⟨h1, h2, h3, h4, h5, h6⟩
  · rw [h2, li0, nI_is (by omega) hc2.1]
    constructor
    · intro z; omega
    · intro z; omega
  · rw [h3, li1, nI_is (by omega) hc2.1]
    constructor
    · intro z; omega
    · rintro ⟨z1, z2⟩; rw [z2] at h2; exact absurd h2 hc2.2.2.2.2
  · by_cases s : sgn (b q)
    · rw [h4 s, nI_is (hb q h1) hc2.1]
      exact ⟨fun z => ⟨h1, z⟩, fun z => z.2⟩
    · rw [h5 s, li2, nI_is (by omega) hc2.1]
      constructor
      · intro z; omega
      · rintro ⟨z1, z2⟩; rw [z2] at s; exact absurd hc s
theorem tok_0 {n q : Nat} {b : Nat → Nat} {τ : gM} (hb : ∀ i, i < n → b i < 256) (h : TOK n b q τ) : τ 9 0 9 = 0 ↔ q = n := by
  rcases h with ⟨h1, h2, h3⟩ | ⟨h1, h2, h3, _⟩ | ⟨h1, h2, h3, h4, h5, h6⟩
  · exact ⟨fun _ => h1, fun _ => h2⟩
  · rw [h3]
    exact ⟨fun z => absurd z (by decide), fun z => by omega⟩
  · by_cases s : sgn (b q)
    · rw [h4 s, li0, nI_is (hb q h1) (by omega)]
      constructor
      · intro z; unfold sgn at s; omega
      · intro z; omega
    · rw [h5 s]
      exact ⟨fun z => absurd z (by decide), fun z => by omega⟩
theorem tok_1 {n q : Nat} {b : Nat → Nat} {τ : gM} (hb : ∀ i, i < n → b i < 256) (h : TOK n b q τ) (hd : ¬ (q < n ∧ dg (b q))) : τ 9 0 9 ≠ 1 := by
  rcases h with ⟨h1, h2, h3⟩ | ⟨h1, h2, h3, _⟩ | ⟨h1, h2, h3, h4, h5, h6⟩
  · rw [h2]; decide
  · exact absurd ⟨h1, h2⟩ hd
  · by_cases s : sgn (b q)
    · rw [h4 s, li1]
      intro z
      rw [nI_is (hb q h1) (by omega)] at z
      unfold sgn at s; omega
    · rw [h5 s]; decide
theorem TOK_cg {n q : Nat} {b : Nat → Nat} {τ τ' : gM} (h : TOK n b q τ) (e1 : τ' 9 0 7 = τ 9 0 7) (e2 : τ' 9 0 9 = τ 9 0 9) (e3 : τ' 9 0 10 = τ 9 0 10) : TOK n b q τ' := by
  unfold TOK at h ⊢
  rw [e1, e2, e3]
  exact h
def nS (σ : gM) (q v : Nat) : gM := gup (gup σ 0 0 4 (nI q)) 0 0 3 (nI v)
theorem nS_o {σ : gM} {q v t k i : Nat} (h : ¬ (t = 0 ∧ k = 0 ∧ (i = 3 ∨ i = 4))) : nS σ q v t k i = σ t k i := by
  unfold nS gup
  rw [if_neg (by omega), if_neg (by omega)]
theorem nS_3 {σ : gM} {q v : Nat} : nS σ q v 0 0 3 = nI v := by simp [nS, gup]
theorem nS_4 {σ : gM} {q v : Nat} : nS σ q v 0 0 4 = nI q := by simp [nS, gup]
theorem CP_run {n q k : Nat} {b : Nat → Nat} {σ : gM} {Q : Option (Unit × gM) → Prop} (hT : TPx n b σ) (h8 : σ 0 0 8 = 0) (h4 : σ 0 0 4 = -1) (hk : 0 < k) (hq : q + k ≤ n) (hd : ∀ i, i < k → dg (b (q + i))) (h : CP n (q + k) (nS σ q (min (nvR b q k) 100000)) Q) : CP n q σ Q := by
  refine CP_num hT h8 h4 k hk hq hd (fun σ' e4 e3 eo => ?_)
  have e : σ' = nS σ q (min (nvR b q k) 100000) := by
    funext t u i
    by_cases c : t = 0 ∧ u = 0 ∧ (i = 3 ∨ i = 4)
    · obtain ⟨rfl, rfl, c | c⟩ := c
      · subst c; rw [e3, nS_3]
      · subst c; rw [e4, nS_4]
    · rw [eo t u i c, nS_o c]
  rw [e]
  exact h
theorem nS_e {x σ : gM} {q v : Nat} (e : Eqv pRx x σ) : Eqv pRx x (nS σ q v) := e.tr ((Eqv.up (by unfold pRx; omega)).tr (Eqv.up (by unfold pRx; omega)))
/-- what isn't due -/
theorem CP_bad {n a q d o : Nat} {b : Nat → Nat} {x σ τ : gM} (hT : TPx n b x) (R : RTS x d o σ) (haq : a ≤ q) (hqn : q ≤ n) (hw : ∀ i, a ≤ i → i < q → ws (b i)) (tk : TOK n b q τ) (hN : q < n → dg (b q) → d = 0 ∨ d = 2 ∨ d = 4 ∨ d = 7) (hS : q < n → (b q = 40 ∨ b q = 114 ∨ b q = 119 → ¬ (d = 0 ∨ d = 2)) ∧ (b q = 41 → ¬ ((d = 0 ∨ d = 2) ∧ 0 < o)) ∧ (b q = 43 → d ≠ 2) ∧ (b q = 42 → d ≠ 4) ∧ (b q = 58 → d ≠ 7)) (hE : q = n → d ≠ 0 ∧ d ≠ 2) : CP n a σ (FX x 1 q) := by
  obtain ⟨e, h8, h9, h4, h2, hd9, h1, ho⟩ := R
  have hTs := TPx_e hT e
  have hn := hT.1
  refine CP_ws hTs h8 h4 hqn ?_ (q - a) a (by omega) hw
  rcases tk with ⟨t1, t2, t3⟩ | ⟨t1, t2, t3, k, k1, k2, k3, k4, _, _⟩ | ⟨t1, t2, t3, t4, t5, t6⟩
  · refine CP_end hn (by omega) (Or.inl (by omega)) ?_
    have hE2 := hE t1
    unfold JR
    rw [gCall_eq (end_no h4)]
    have hend : X0_takeEnd (nI n) σ = some ((), gup (gup σ 0 0 8 1) 0 0 9 (nI n)) := by
      unfold X0_takeEnd
      rw [gJ0_e]
      by_cases c : 0 < σ 0 0 1
      · rw [if_pos c]
        dsimp only
        rw [gCall_eq (fail_0 h8)]
      · rw [if_neg c]
        dsimp only
        rw [gCall_eq (x_may h2 hd9), decide_eq_false (by omega), if_neg (by decide), gCall_eq (fail_0 h8)]
    rw [gCall_eq hend]
    exact ⟨_, rfl, by rw [gup_at, if_neg (by decide), gup_at, if_pos rfl]; rfl, by rw [gup_at, if_pos rfl, t1], e.tr ((Eqv.up (by unfold pRx; omega)).tr (Eqv.up (by unfold pRx; omega)))⟩
  · refine CP_run hTs h8 h4 k1 k2 k3 ?_
    have eN := nS_e (q := q) (v := min (nvR b q k) 100000) e
    exact CP_flush_f hT k2 k4 eN (by rw [nS_o (by omega)]; exact h8) (en_bad (by omega) (by rw [nS_o (by omega)]; exact h8) nS_4 (by rw [nS_o (by omega)]; exact h2) (hN t1 t2)) fS_8 (by omega) fS_9 fS_4 (by rw [fS_o (by omega), nS_o (by omega)]; exact h2) hd9 (by rw [fS_o (by omega), nS_o (by omega)]; exact h1) ho (fS_e eN)
  · obtain ⟨s1, s2, s3, s4, s5⟩ := hS t1
    have hs : X0_takeSign (nI (b q)) (nI q) 8 σ = some ((), gup (gup σ 0 0 8 1) 0 0 9 (nI q)) := by
      rw [sign_eq (hT.2 q t1).1 t3 h2 hd9 h1 ho, if_neg (fun z => s1 (Or.inl z.1) z.2), if_neg (fun z => s2 z.1 z.2), if_neg (fun z => s1 (Or.inr (Or.inl z.1)) z.2), if_neg (fun z => s1 (Or.inr (Or.inr z.1)) z.2), if_neg (fun z => s3 z.1 z.2), if_neg (fun z => s4 z.1 z.2), if_neg (fun z => s5 z.1 z.2), gCall_eq (fail_0 h8)]
    exact CP_sig hTs t1 h8 t2 (end_no h4) rfl hs (CP_fail (d := d) hn (by omega) (by rw [gup_at, if_neg (by decide), gup_at, if_pos rfl]; rfl) (by omega) (by rw [gup_at, if_pos rfl]) (by simp [gup]; exact h4) (by simp [gup]; exact h2) hd9 (e.tr ((Eqv.up (by unfold pRx; omega)).tr (Eqv.up (by unfold pRx; omega)))))
/-- a number is due -/
theorem num {n a q d o lo hi : Nat} {b : Nat → Nat} {x σ τ : gM} (hT : TPx n b x) (R : RTS x d o σ) (hdu : due d lo hi) (haq : a ≤ q) (hqn : q ≤ n) (hw : ∀ i, a ≤ i → i < q → ws (b i)) (tk : TOK n b q τ) :
    (∃ f, X9_numberIn (nI lo) (nI hi) τ = some (nI f, τ) ∧ f ≠ 0 ∧ f ≤ 4 ∧ CP n a σ (FX x f q)) ∨
    (∃ v k, X9_numberIn (nI lo) (nI hi) τ = some (0, τ) ∧ lo ≤ v ∧ v ≤ hi ∧ τ 9 0 10 = nI v ∧ 0 < k ∧ q + k ≤ n ∧ τ 9 0 7 = nI (q + k) ∧ (q + k < n → ¬ dg (b (q + k))) ∧ ∀ Q, CP n (q + k) (nS σ q v) Q → CP n a σ Q) := by
  have hb : ∀ i, i < n → b i < 256 := fun i hi => (hT.2 i hi).1
  have hn := hT.1
  have hlh : lo ≤ 9999 ∧ hi ≤ 9999 ∧ d ≠ 0 ∧ d ≠ 2 ∧ d ≠ 4 ∧ d ≠ 7 := by unfold due at hdu; omega
  unfold X9_numberIn
  by_cases hq : q < n ∧ dg (b q)
  · rcases id tk with ⟨t1, t2, t3⟩ | ⟨t1, t2, t3, k, k1, k2, k3, k4, k5, k6⟩ | ⟨t1, t2, t3, t4, t5, t6⟩
    · omega
    · obtain ⟨e, h8, h9, h4, h2, hd9, h1, ho⟩ := R
      have hTs := TPx_e hT e
      have hv := nvR_le b q k k3
      rw [if_pos t3, k6]
      have hin : X9_isIn (nI (nvR b q k)) (nI lo) (nI hi) τ = some (decide (lo ≤ nvR b q k ∧ nvR b q k ≤ hi), τ) := by
        unfold X9_isIn
        by_cases c1 : nvR b q k < lo
        · rw [if_pos (by rw [nI_ltt (by omega) (by omega)]; exact c1), decide_eq_false (by omega)]
        · rw [if_neg (by rw [nI_ltt (by omega) (by omega)]; exact c1)]
          by_cases c2 : nvR b q k ≤ hi
          · rw [if_neg (by rw [nI_ltt (by omega) (by omega)]; omega), decide_eq_true (by omega)]
          · rw [if_pos (by rw [nI_ltt (by omega) (by omega)]; omega), decide_eq_false (by omega)]
      rw [gCall_eq hin]
      by_cases c : lo ≤ nvR b q k ∧ nvR b q k ≤ hi
      · right
        rw [decide_eq_true c]
        refine ⟨nvR b q k, k, by rw [if_pos rfl], c.1, c.2, rfl, k1, k2, k5, k4, fun Q hQ => ?_⟩
        refine CP_ws hTs h8 h4 hqn ?_ (q - a) a (by omega) hw
        refine CP_run hTs h8 h4 k1 k2 k3 ?_
        rw [Nat.min_eq_left (by omega)]
        exact hQ
      · left
        rw [decide_eq_false c]
        refine ⟨2, by rw [if_neg (by decide)]; rfl, by omega, by omega, ?_⟩
        refine CP_ws hTs h8 h4 hqn ?_ (q - a) a (by omega) hw
        refine CP_run hTs h8 h4 k1 k2 k3 ?_
        have eN := nS_e (q := q) (v := min (nvR b q k) 100000) e
        exact CP_flush_f hT k2 k4 eN (by rw [nS_o (by omega)]; exact h8) (en_range (v := min (nvR b q k) 100000) (by omega) hdu (by rw [nS_o (by omega)]; exact h8) nS_4 (by rw [nS_o (by omega)]; exact h2) (by omega) nS_3 (by omega)) fS_8 (by omega) fS_9 fS_4 (by rw [fS_o (by omega), nS_o (by omega)]; exact h2) hd9 (by rw [fS_o (by omega), nS_o (by omega)]; exact h1) ho (fS_e eN)
    · exact absurd hq.2 t2
  · left
    rw [if_neg (tok_1 hb tk hq)]
    exact ⟨1, rfl, by omega, by omega, CP_bad hT R haq hqn hw tk (fun z1 z2 => absurd ⟨z1, z2⟩ hq) (fun _ => by omega) (fun _ => by omega)⟩
