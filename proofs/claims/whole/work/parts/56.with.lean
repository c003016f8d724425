/-! LAYER 2: misses with so much room: ideal, recent, conflicts. -/
def fdx (H : Nat → Nat) (v : Nat) : Nat → Option Nat
  | 0 => none
  | n + 1 => match fdx H v n with
    | some j => some j
    | none => if H n = v then some n else none
theorem fdx_keep {H : Nat → Nat} {v n j : Nat} (h : fdx H v n = some j) : ∀ q, fdx H v (n + q) = some j := by
  intro q
  induction q with
  | zero => exact h
  | succ q ih => rw [← Nat.add_assoc]; simp only [fdx, ih]
theorem fdx_non {H : Nat → Nat} {v : Nat} : ∀ n, fdx H v n = none → ∀ i, i < n → H i ≠ v := by
  intro n
  induction n with
  | zero => intro _ i h; omega
  | succ n ih =>
    intro h i hi
    simp only [fdx] at h
    cases q : fdx H v n with
    | some j => rw [q] at h; cases h
    | none =>
      rw [q] at h
      dsimp only at h
      rcases Nat.lt_or_ge i n with z | z
      · exact ih q i z
      · have : i = n := by omega
        subst this
        intro y
        rw [if_pos y] at h
        cases h
theorem fdx_lt {H : Nat → Nat} {v : Nat} : ∀ n j, fdx H v n = some j → j < n ∧ H j = v := by
  intro n
  induction n with
  | zero => intro j z; cases z
  | succ n ih =>
    intro j z
    simp only [fdx] at z
    cases q : fdx H v n with
    | some i => rw [q] at z; cases z; have := ih j q; exact ⟨by omega, this.2⟩
    | none =>
      rw [q] at z
      dsimp only at z
      by_cases y : H n = v
      · rw [if_pos y] at z; cases z; exact ⟨by omega, y⟩
      · rw [if_neg y] at z; cases z
def uH (H : Nat → Nat) (k v : Nat) : Nat → Nat := fun j => if j = k then v else H j
def sel (bt : Nat → Nat → Bool) : Nat → Nat
  | 0 => 0
  | n + 1 => if n ≠ 0 ∧ bt n (sel bt n) = true then n else sel bt n
theorem sel_1 (bt : Nat → Nat → Bool) : sel bt 1 = 0 := by simp [sel]
theorem sel_lt (bt : Nat → Nat → Bool) : ∀ n, 0 < n → sel bt n < n := by
  intro n
  induction n with
  | zero => intro h; omega
  | succ n ih =>
    intro _
    simp only [sel]
    split
    · omega
    · rcases Nat.eq_zero_or_pos n with h | h
      · subst h; exact Nat.zero_lt_one
      · have := ih h; omega
/-- the reference's store, step by step: misses, how many are stored, which -/
def rS (bt : Nat → (Nat → Nat) → Nat → Nat → Bool) (L : Nat → Nat) (R : Nat) : Nat → Nat × Nat × (Nat → Nat)
  | 0 => (0, 0, fun _ => 0)
  | i + 1 => match fdx (rS bt L R i).2.2 (L i) (rS bt L R i).2.1 with
    | some _ => rS bt L R i
    | none => ((rS bt L R i).1 + 1, if (rS bt L R i).2.1 < R then (rS bt L R i).2.1 + 1 else (rS bt L R i).2.1, uH (rS bt L R i).2.2 (if (rS bt L R i).2.1 < R then (rS bt L R i).2.1 else sel (bt i (rS bt L R i).2.2) (rS bt L R i).2.1) (L i))
theorem rS_le (bt : Nat → (Nat → Nat) → Nat → Nat → Bool) (L : Nat → Nat) (R : Nat) : ∀ i, (rS bt L R i).1 ≤ i ∧ (rS bt L R i).2.1 ≤ R := by
  intro i
  induction i with
  | zero => exact ⟨Nat.le_refl _, Nat.zero_le _⟩
  | succ i ih =>
    simp only [rS]
    split
    · exact ⟨by omega, ih.2⟩
    · have h1 := ih.1
      have h2 := ih.2
      dsimp only
      refine ⟨by omega, ?_⟩
      by_cases c : (rS bt L R i).2.1 < R
      · rw [if_pos c]; omega
      · rw [if_neg c]; exact h2
def pWi (t k i : Nat) : Prop := (t = 63 ∧ k = 0) ∨ (t = 9 ∧ k = 0 ∧ i = 30)
theorem m_stored {m : gM} {h v : Nat} {H : Nat → Nat} (hh : h ≤ 64) (hv : v < 1024) (h30 : m 9 0 30 = nI h) (hH : ∀ k, k < h → m 63 0 k = nI (H k) ∧ H k < 1024) : X9_isStored (nI v) m = some ((fdx H v h).isSome, m) := by
  unfold X9_isStored
  refine gL1_for (fun i σ => σ = m ∧ fdx H v i = none) (fun r => r = some ((fdx H v h).isSome, m)) h ?_ ?_ FU 0 m (Nat.zero_le _) (by rw [FU_eq]; omega) ⟨rfl, rfl⟩
  · rintro i σ K hi ⟨rfl, hn⟩ hK
    unfold X9_isStored_b2
    obtain ⟨k1, k2⟩ := hH i hi
    rw [h30, if_neg (by rw [nI_leq (by omega) (by omega)]; omega), gAt_nI (show i < 64 by omega) (by omega), k1]
    by_cases e : H i = v
    · have f1 : fdx H v (i + 1) = some i := by simp only [fdx, hn, if_pos e]
      have f2 := fdx_keep f1 (h - (i + 1))
      rw [show i + 1 + (h - (i + 1)) = h by omega] at f2
      rw [if_pos (by rw [e]), f2]; rfl
    · rw [if_neg (fun z => e ((nI_inj (by omega) (by omega)).mp z)), gLet, nI_1]
      exact hK _ ⟨rfl, by simp only [fdx, hn, if_neg e]⟩
  · rintro σ K ⟨rfl, hn⟩
    unfold X9_isStored_b2
    rw [h30, if_pos (by rw [nI_leq (by omega) (by omega)]; omega), hn]; rfl
theorem m_with {m : gM} {t s R : Nat} {L : Nat → Nat} {fl : Int32} (bt : Nat → (Nat → Nat) → Nat → Nat → Bool) (h : TRm m t s L) (hR : 1 ≤ R ∧ R ≤ 64)
    (hbt : ∀ i H e k h0 (σ : gM) (J : Int32 → gM → Option (Int32 × gM)), i < s → e < h0 → k < h0 → h0 ≤ R → TRm σ t s L → (∀ q, q < h0 → σ 63 0 q = nI (H q) ∧ H q < 1024) → (if fl = 0 then (gAt σ 63 0 (nI e) (fun (x29 : Int32) => gCall (X9_latestOf (nI t) (nI i) x29 σ) (fun (r31 : Int32) (m30 : gM) => gAt m30 63 0 (nI k) (fun (x32 : Int32) => gCall (X9_latestOf (nI t) (nI i) x32 m30) (fun (r34 : Int32) (m33 : gM) => if r34 ≤ r31 then (J 0 m33) else (J 1 m33)))))) else (gAt σ 63 0 (nI e) (fun (x35 : Int32) => gCall (X9_nextOf (nI t) (nI i) x35 σ) (fun (r37 : Int32) (m36 : gM) => gAt m36 63 0 (nI k) (fun (x38 : Int32) => gCall (X9_nextOf (nI t) (nI i) x38 m36) (fun (r40 : Int32) (m39 : gM) => if r37 ≤ r40 then (J 0 m39) else (J 1 m39))))))) = J (nI (if bt i H e k = true then 1 else 0)) σ) : ∃ m', X9_missesWith (nI t) (nI R) fl m = some (nI (rS bt L R s).1, m') ∧ Eqv pWi m m' := by
  unfold X9_missesWith
  simp only [gSet]
  have hs := h.2.1
  refine gL2_for (fun i v σ => v = nI (rS bt L R i).1 ∧ σ 9 0 30 = nI (rS bt L R i).2.1 ∧ (∀ k, k < (rS bt L R i).2.1 → σ 63 0 k = nI ((rS bt L R i).2.2 k) ∧ (rS bt L R i).2.2 k < 1024) ∧ Eqv pWi m σ) (fun o => ∃ m', o = some (nI (rS bt L R s).1, m') ∧ Eqv pWi m m') s ?_ ?_ FU 0 0 _ (Nat.zero_le _) (by rw [FU_eq]; omega) ⟨rfl, by rw [gup_at, if_pos rfl]; rfl, fun k hk => absurd hk (Nat.not_lt_zero _), Eqv.up (Or.inr ⟨rfl, rfl, rfl⟩)⟩
  · rintro i v σ K hi ⟨rfl, g1, g2, g3⟩ hK
    unfold X9_missesWith_b11
    have hT := TRm_cg h (fun j => g3 49 0 j (by unfold pWi; omega))
    obtain ⟨l1, l2⟩ := h.2.2.2 i hi
    obtain ⟨r1, r2⟩ := rS_le bt L R i
    rw [gCall_eq (TRm_len hT), if_neg (by rw [nI_leq (by omega) (by omega)]; omega), gCall_eq (TRm_line hT hi), gCall_eq (m_stored (by omega) l1 g1 g2)]
    have hnx : rS bt L R (i + 1) = match fdx (rS bt L R i).2.2 (L i) (rS bt L R i).2.1 with
      | some _ => rS bt L R i
      | none => ((rS bt L R i).1 + 1, if (rS bt L R i).2.1 < R then (rS bt L R i).2.1 + 1 else (rS bt L R i).2.1, uH (rS bt L R i).2.2 (if (rS bt L R i).2.1 < R then (rS bt L R i).2.1 else sel (bt i (rS bt L R i).2.2) (rS bt L R i).2.1) (L i)) := rfl
    revert hnx hK g1 g2 r1 r2
    generalize rS bt L R (i + 1) = q'
    generalize rS bt L R i = q
    obtain ⟨c, h0, H⟩ := q
    intro g1 g2 hK r1 r2 hnx
    dsimp only at hK g1 g2 r1 r2 hnx ⊢
    cases hf : fdx H (L i) h0 with
    | some k =>
      rw [hf] at hnx
      dsimp only at hnx
      subst hnx
      rw [Option.isSome_some, if_pos rfl, gLet, nI_1]
      exact hK _ _ ⟨rfl, g1, g2, g3⟩
    | none =>
      rw [hf] at hnx
      dsimp only at hnx
      subst hnx
      rw [Option.isSome_none, if_neg (by decide), gLet, nI_1 c, gJ1_e, g1]
      -- the tail: the line is stored at k
      have tail : ∀ k : Nat, k = (if h0 < R then h0 else sel (bt i H) h0) → ∃ m', (gJ1 (fun (w16 : Int32) (m17 : gM) => gLet ((σ 9 0 30) + w16) (fun (x18 : Int32) => gSet m17 9 0 30 x18 (fun (m19 : gM) => gPut m19 63 0 (nI k) (nI (L i)) (fun (m20 : gM) => gLet (nI i + 1) (fun (x21 : Int32) => K (nI (c + 1)) x21 m20))))) (fun (j197 : Int32 → gM → Option (Int32 × gM)) => if nI R ≤ (σ 9 0 30) then (j197 0 σ) else (j197 1 σ))) = some (nI (rS bt L R s).1, m') ∧ Eqv pWi m m' := by
        intro k hk
        have hk64 : k < 64 := by
          rw [hk]
          split
          · omega
          · have := sel_lt (bt i H) h0 (by omega); omega
        have fin : ∀ h1 : Nat, h1 = (if h0 < R then h0 + 1 else h0) → ∃ m', (gPut (gup σ 9 0 30 (nI h1)) 63 0 (nI k) (nI (L i)) (fun (m20 : gM) => gLet (nI i + 1) (fun (x21 : Int32) => K (nI (c + 1)) x21 m20))) = some (nI (rS bt L R s).1, m') ∧ Eqv pWi m m' := by
          intro h1 hh1
          rw [gPut_nI (show k < 64 from hk64) (by omega), gLet, nI_1]
          refine hK _ _ ⟨rfl, by rw [gup_t (by omega), gup_at, if_pos rfl, hh1], fun q hq => ?_, g3.tr ((Eqv.up (Or.inr ⟨rfl, rfl, rfl⟩)).tr (Eqv.up (Or.inl ⟨rfl, rfl⟩)))⟩
          rw [gup_at, ← hk]
          unfold uH
          dsimp only at hq ⊢
          by_cases e : q = k
          · rw [if_pos e, if_pos e]; exact ⟨rfl, l1⟩
          · rw [if_neg e, if_neg e, gup_t (by omega)]
            refine g2 q ?_
            by_cases c1 : h0 < R
            · rw [if_pos c1] at hq hk; omega
            · rw [if_neg c1] at hq; exact hq
        rw [gJ1_e, g1]
        by_cases c1 : h0 < R
        · rw [if_neg (by rw [nI_leq (by omega) (by omega)]; omega)]
          dsimp only
          rw [gLet, nI_1, gSet]
          exact fin _ (by rw [if_pos c1])
        · rw [if_pos (by rw [nI_leq (by omega) (by omega)]; omega)]
          dsimp only
          rw [gLet, nI_p0, gSet]
          exact fin _ (by rw [if_neg c1])
      generalize hJ : (fun (v14 : Int32) (m15 : gM) => gJ1 (fun (w16 : Int32) (m17 : gM) => gLet ((m15 9 0 30) + w16) (fun (x18 : Int32) => gSet m17 9 0 30 x18 (fun (m19 : gM) => gPut m19 63 0 v14 (nI (L i)) (fun (m20 : gM) => gLet (nI i + 1) (fun (x21 : Int32) => K (nI (c + 1)) x21 m20))))) (fun (j197 : Int32 → gM → Option (Int32 × gM)) => if nI R ≤ (m15 9 0 30) then (j197 0 m15) else (j197 1 m15))) = J
      have hJt : ∀ k : Nat, k = (if h0 < R then h0 else sel (bt i H) h0) → ∃ m', J (nI k) σ = some (nI (rS bt L R s).1, m') ∧ Eqv pWi m m' := by
        rw [← hJ]; exact tail
      by_cases c1 : h0 < R
      · rw [if_neg (by rw [nI_leq (by omega) (by omega)]; omega)]
        dsimp only
        rw [gJ1_e]
        refine gL2_for (fun e v τ => e = 1 ∧ v = nI h0 ∧ τ = σ) (fun o => ∃ m', o = some (nI (rS bt L R s).1, m') ∧ Eqv pWi m m') 1 (fun e v τ K2 he g => absurd he (by omega)) ?_ FU 1 (nI h0) σ (Nat.le_refl _) (by rw [FU_eq]; omega) ⟨rfl, rfl, rfl⟩
        rintro v τ K2 ⟨-, rfl, rfl⟩
        unfold X9_missesWith_b66
        rw [g1]
        by_cases c2 : h0 ≤ 1
        · rw [if_pos (by rw [nI_leq (by omega) (by omega)]; exact c2)]
          exact hJt h0 (by rw [if_pos c1])
        · rw [if_neg (by rw [nI_leq (by omega) (by omega)]; exact c2), if_neg (by rw [nI_inj (by omega) (by omega)]; omega)]
          exact hJt h0 (by rw [if_pos c1])
      · have hRh : h0 = R := by omega
        rw [if_pos (by rw [nI_leq (by omega) (by omega)]; omega)]
        dsimp only
        rw [gJ1_e]
        refine gL2_for (fun e v τ => 1 ≤ e ∧ v = nI (sel (bt i H) e) ∧ τ = σ) (fun o => ∃ m', o = some (nI (rS bt L R s).1, m') ∧ Eqv pWi m m') h0 ?_ ?_ FU 1 0 σ (by omega) (by rw [FU_eq]; omega) ⟨Nat.le_refl _, by rw [sel_1]; rfl, rfl⟩
        · rintro e v τ K2 he ⟨he1, rfl, rfl⟩ hK2
          unfold X9_missesWith_b66
          have hsl := sel_lt (bt i H) e (by omega)
          rw [g1, if_neg (by rw [nI_leq (by omega) (by omega)]; omega), if_pos (by rw [hRh]), gJ1_if (fun J2 => hbt i H e (sel (bt i H) e) h0 τ J2 hi he (by omega) (by omega) hT g2)]
          by_cases c3 : bt i H e (sel (bt i H) e) = true
          · rw [if_pos c3, if_neg (show ¬ nI 1 = 0 by decide), gLet, nI_1]
            exact hK2 _ _ ⟨by omega, by simp only [sel]; rw [if_pos ⟨by omega, c3⟩], rfl⟩
          · rw [if_neg c3, if_pos (show nI 0 = 0 from rfl), gLet, nI_1]
            exact hK2 _ _ ⟨by omega, by simp only [sel]; rw [if_neg (fun z => c3 z.2)], rfl⟩
        · rintro v τ K2 ⟨he1, rfl, rfl⟩
          unfold X9_missesWith_b66
          rw [g1, if_pos (by rw [nI_leq (by omega) (by omega)]; omega)]
          exact hJt _ (by rw [if_neg c1])
  · rintro v σ K ⟨rfl, g1, g2, g3⟩
    unfold X9_missesWith_b11
    have hT := TRm_cg h (fun j => g3 49 0 j (by unfold pWi; omega))
    rw [gCall_eq (TRm_len hT), if_pos (by rw [nI_leq (by omega) (by omega)]; omega)]
    exact ⟨σ, rfl, g3⟩
