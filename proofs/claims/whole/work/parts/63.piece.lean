/-! LAYER 2: pieces. -/
/-- lines of one piece: as every likeness says that takes those that meet -/
def cn (g : Nat) (ad : Nat → Nat → Bool) (i k : Nat) : Prop := ∀ R : Nat → Nat → Prop, (∀ a, R a a) → (∀ a b, R a b → R b a) → (∀ a b c, R a b → R b c → R a c) → (∀ a b, a < g → b < g → ad a b = true → R a b) → R i k
theorem cn_rf {g : Nat} {ad : Nat → Nat → Bool} {i : Nat} : cn g ad i i := fun _ h _ _ _ => h i
theorem cn_sy {g : Nat} {ad : Nat → Nat → Bool} {i k : Nat} (h : cn g ad i k) : cn g ad k i := fun R r s t a => s _ _ (h R r s t a)
theorem cn_tr {g : Nat} {ad : Nat → Nat → Bool} {i k j : Nat} (h : cn g ad i k) (h2 : cn g ad k j) : cn g ad i j := fun R r s t a => t _ _ _ (h R r s t a) (h2 R r s t a)
theorem cn_ad {g : Nat} {ad : Nat → Nat → Bool} {i k : Nat} (hi : i < g) (hk : k < g) (h : ad i k = true) : cn g ad i k := fun _ _ _ _ a => a _ _ hi hk h
def p45 (t k _i : Nat) : Prop := t = 45 ∧ k = 0
/-- the groups as they are under way -/
def GI (g : Nat) (ad : Nat → Nat → Bool) (G : Nat → Nat) : Prop := (∀ a, a < g → G a < g ∧ G (G a) = G a) ∧ ∀ a b, a < g → b < g → G a = G b → cn g ad a b
theorem x_join {x : gM} {g f t : Nat} {G : Nat → Nat} (hg : g ≤ 32) (h7 : x 6 0 7 = nI g) (hf : f < g) (hG : ∀ a, a < g → x 45 0 a = nI (G a) ∧ G a < g) : ∃ x', X8_joinPieces (nI f) (nI t) x = some ((), x') ∧ (∀ a, a < g → x' 45 0 a = nI (if G a = f then t else G a)) ∧ Eqv p45 x x' := by
  unfold X8_joinPieces
  refine gL1_for (fun i σ => (∀ a, a < g → σ 45 0 a = nI (if a < i ∧ G a = f then t else G a)) ∧ Eqv p45 x σ) (fun o => ∃ x', o = some ((), x') ∧ (∀ a, a < g → x' 45 0 a = nI (if G a = f then t else G a)) ∧ Eqv p45 x x') g ?_ ?_ FU 0 x (Nat.zero_le _) (by rw [FU_eq]; omega) ⟨fun a ha => by rw [if_neg (by omega)]; exact (hG a ha).1, Eqv.rf⟩
  · rintro i σ K hi ⟨g1, g2⟩ hK
    unfold X8_joinPieces_b2
    have h1 := g1 i hi
    rw [if_neg (fun z => absurd z.1 (Nat.lt_irrefl _))] at h1
    have h2 := (hG i hi).2
    rw [g2 6 0 7 (by unfold p45; omega), h7, if_neg (by rw [nI_leq (by omega) (by omega)]; omega), gAt_nI (show i < 32 by omega) (by omega), h1]
    by_cases e : G i = f
    · rw [if_pos (by rw [e]), gPut_nI (show i < 32 by omega) (by omega), gLet, nI_1]
      refine hK _ ⟨fun a ha => ?_, g2.tr (Eqv.up ⟨rfl, rfl⟩)⟩
      rw [gup_at]
      by_cases ea : a = i
      · rw [if_pos ea, if_pos ⟨by omega, by rw [ea]; exact e⟩]
      · rw [if_neg ea, g1 a ha]
        by_cases c : a < i ∧ G a = f
        · rw [if_pos c, if_pos ⟨by omega, c.2⟩]
        · rw [if_neg c, if_neg (fun z => c ⟨by omega, z.2⟩)]
    · rw [if_neg (fun z => e ((nI_inj (by omega) (by omega)).mp z)), gLet, nI_1]
      refine hK _ ⟨fun a ha => ?_, g2⟩
      rw [g1 a ha]
      by_cases c : a < i ∧ G a = f
      · rw [if_pos c, if_pos ⟨by omega, c.2⟩]
      · rw [if_neg c, if_neg (fun z => c ⟨by
          have : a ≠ i := fun y => e (by rw [← y]; exact z.2)
          omega, z.2⟩)]
  · rintro σ K ⟨g1, g2⟩
    unfold X8_joinPieces_b2
    rw [g2 6 0 7 (by unfold p45; omega), h7, if_pos (by rw [nI_leq (by omega) (by omega)]; omega)]
    refine ⟨σ, rfl, fun a ha => ?_, g2⟩
    rw [g1 a ha]
    by_cases c : G a = f
    · rw [if_pos c, if_pos ⟨ha, c⟩]
    · rw [if_neg c, if_neg (fun z => c z.2)]
theorem GI_join {g i k : Nat} {ad : Nat → Nat → Bool} {G : Nat → Nat} (h : GI g ad G) (hi : i < g) (hk : k < g) (hne : G i ≠ G k) (ha : ad i k = true) : GI g ad (fun a => if G a = G i then G k else G a) := by
  obtain ⟨h1, h2⟩ := h
  refine ⟨fun a ha' => ?_, fun a b ha' hb' e => ?_⟩
  · dsimp only
    by_cases c : G a = G i
    · rw [if_pos c, (h1 k hk).2, if_neg (fun z => hne z.symm)]
      exact ⟨(h1 k hk).1, rfl⟩
    · rw [if_neg c, (h1 a ha').2, if_neg c]
      exact ⟨(h1 a ha').1, rfl⟩
  · dsimp only at e
    have hik := cn_ad hi hk ha
    by_cases c : G a = G i
    · by_cases d : G b = G i
      · exact h2 a b ha' hb' (by rw [c, d])
      · rw [if_pos c, if_neg d] at e
        exact cn_tr (h2 a i ha' hi c) (cn_tr hik (h2 k b hk hb' e))
    · by_cases d : G b = G i
      · rw [if_neg c, if_pos d] at e
        exact cn_tr (h2 a k ha' hk e) (cn_tr (cn_sy hik) (h2 i b hi hb' d.symm))
      · rw [if_neg c, if_neg d] at e
        exact h2 a b ha' hb' e
def adB (B : Nat → Int32) (s : Nat → Nat) (i k : Nat) : Bool := decide (0 < shN B (s i) (s k))
theorem x_part {x : gM} {N g : Nat} {B : Nat → Int32} {s : Nat → Nat} (hR : RS x 0 B N) (hB : BI B N) (hg : g ≤ 32) (h7 : x 6 0 7 = nI g) (hs : ∀ i, i < g → s i < 1024 ∧ x 40 0 i = nI (s i)) : ∃ x' G, X8_partIntoPieces x = some ((), x') ∧ (∀ a, a < g → x' 45 0 a = nI (G a)) ∧ GI g (adB B s) G ∧ (∀ a b, a < g → b < g → (G a = G b ↔ cn g (adB B s) a b)) ∧ Eqv p45 x x' := by
  unfold X8_partIntoPieces
  have hw := hB.1.2.2
  rw [gJ0_e]
  refine gL1_for (fun i σ => (∀ a, a < i → σ 45 0 a = nI a) ∧ Eqv p45 x σ) (fun o => ∃ x' G, o = some ((), x') ∧ (∀ a, a < g → x' 45 0 a = nI (G a)) ∧ GI g (adB B s) G ∧ (∀ a b, a < g → b < g → (G a = G b ↔ cn g (adB B s) a b)) ∧ Eqv p45 x x') g ?_ ?_ FU 0 x (Nat.zero_le _) (by rw [FU_eq]; omega) ⟨fun a ha => absurd ha (Nat.not_lt_zero _), Eqv.rf⟩
  · rintro i σ K hi ⟨g1, g2⟩ hK
    unfold X8_partIntoPieces_b2
    rw [g2 6 0 7 (by unfold p45; omega), h7, if_neg (by rw [nI_leq (by omega) (by omega)]; omega), gPut_nI (show i < 32 by omega) (by omega), gLet, nI_1]
    refine hK _ ⟨fun a ha => ?_, g2.tr (Eqv.up ⟨rfl, rfl⟩)⟩
    rw [gup_at]
    by_cases e : a = i
    · rw [if_pos e, e]
    · rw [if_neg e]; exact g1 a (by omega)
  · rintro σ K ⟨g1, g2⟩
    unfold X8_partIntoPieces_b2
    rw [g2 6 0 7 (by unfold p45; omega), h7, if_pos (by rw [nI_leq (by omega) (by omega)]; omega)]
    dsimp only
    refine gL1_for (fun i τ => Eqv p45 x τ ∧ ∃ G, (∀ a, a < g → τ 45 0 a = nI (G a)) ∧ GI g (adB B s) G ∧ ∀ a b, a < i → b < a → adB B s a b = true → G a = G b) (fun o => ∃ x' G, o = some ((), x') ∧ (∀ a, a < g → x' 45 0 a = nI (G a)) ∧ GI g (adB B s) G ∧ (∀ a b, a < g → b < g → (G a = G b ↔ cn g (adB B s) a b)) ∧ Eqv p45 x x') g ?_ ?_ FU 0 σ (Nat.zero_le _) (by rw [FU_eq]; omega) ⟨g2, fun a => a, g1, ⟨fun a ha => ⟨ha, rfl⟩, fun a b _ _ e => by rw [show a = b from e]; exact cn_rf⟩, fun a b ha => absurd ha (Nat.not_lt_zero _)⟩
    · rintro i τ K2 hi ⟨k1, G, k2, k3, k4⟩ hK2
      unfold X8_partIntoPieces_b28
      rw [k1 6 0 7 (by unfold p45; omega), h7, if_neg (by rw [nI_leq (by omega) (by omega)]; omega)]
      refine gL1_for (fun k ρ => Eqv p45 x ρ ∧ ∃ G, (∀ a, a < g → ρ 45 0 a = nI (G a)) ∧ GI g (adB B s) G ∧ (∀ a b, a < i → b < a → adB B s a b = true → G a = G b) ∧ ∀ b, b < k → adB B s i b = true → G i = G b) (fun o => ∃ x' G, o = some ((), x') ∧ (∀ a, a < g → x' 45 0 a = nI (G a)) ∧ GI g (adB B s) G ∧ (∀ a b, a < g → b < g → (G a = G b ↔ cn g (adB B s) a b)) ∧ Eqv p45 x x') i ?_ ?_ FU 0 τ (Nat.zero_le _) (by rw [FU_eq]; omega) ⟨k1, G, k2, k3, k4, fun b hb => absurd hb (Nat.not_lt_zero _)⟩
      · rintro k ρ K3 hk ⟨r1, G, r2, r3, r4, r5⟩ hK3
        unfold X8_partIntoPieces_b41
        have gi := (r3.1 i hi).1
        have gk := (r3.1 k (by omega)).1
        have hR' : RS ρ 0 B N := RS_congr hR (fun t j ht => r1 t 0 j (by unfold p45; omega))
        rw [if_neg (by rw [nI_leq (by omega) (by omega)]; omega), gAt_nI (show i < 32 by omega) (by omega), r2 i hi, gAt_nI (show k < 32 by omega) (by omega), r2 k (by omega)]
        by_cases e : G i = G k
        · rw [if_pos (by rw [e]), gLet, nI_1]
          refine hK3 _ ⟨r1, G, r2, r3, r4, fun b hb hab => ?_⟩
          by_cases eb : b = k
          · rw [eb]; exact e
          · exact r5 b (by omega) hab
        · have hsh : shN B (s i) (s k) ≤ bW B := cntP_le _ _
          rw [if_neg (fun z => e ((nI_inj (by omega) (by omega)).mp z)), gAt_nI (show i < 32 by omega) (by omega), r1 40 0 i (by unfold p45; omega), (hs i hi).2, gAt_nI (show k < 32 by omega) (by omega), r1 40 0 k (by unfold p45; omega), (hs k (by omega)).2, gCall_eq (x_shN hR' hB (hs i hi).1 (hs k (by omega)).1)]
          by_cases e0 : 0 < shN B (s i) (s k)
          · obtain ⟨ρ', q1, q2, q3⟩ := x_join (x := ρ) (f := G i) (t := G k) hg (by rw [r1 6 0 7 (by unfold p45; omega)]; exact h7) gi (fun a ha => ⟨r2 a ha, (r3.1 a ha).1⟩)
            rw [if_neg (by rw [li0, nI_leq (by omega) (by omega)]; omega), gAt_nI (show i < 32 by omega) (by omega), r2 i hi, gAt_nI (show k < 32 by omega) (by omega), r2 k (by omega), gCall_eq q1, gLet, nI_1]
            have hk' : k < g := by omega
            refine hK3 _ ⟨r1.tr q3, fun a => if G a = G i then G k else G a, q2, GI_join r3 hi hk' e (decide_eq_true e0), fun a b ha hb hab => ?_, fun b hb hab => ?_⟩
            · dsimp only; rw [r4 a b ha hb hab]
            · dsimp only
              rw [if_pos rfl]
              by_cases eb : b = k
              · rw [eb, if_neg (fun z => e z.symm)]
              · rw [if_pos (r5 b (by omega) hab).symm]
          · rw [if_pos (by rw [li0, nI_leq (by omega) (by omega)]; omega), gLet, nI_1]
            refine hK3 _ ⟨r1, G, r2, r3, r4, fun b hb hab => ?_⟩
            by_cases eb : b = k
            · rw [eb] at hab; exact absurd (of_decide_eq_true hab) e0
            · exact r5 b (by omega) hab
      · rintro ρ K3 ⟨r1, G, r2, r3, r4, r5⟩
        unfold X8_partIntoPieces_b41
        rw [if_pos (by rw [nI_leq (by omega) (by omega)]; omega), gLet, nI_1]
        refine hK2 _ ⟨r1, G, r2, r3, fun a b ha hb hab => ?_⟩
        by_cases ea : a = i
        · subst ea; exact r5 b hb hab
        · exact r4 a b (by omega) hb hab
    · rintro τ K2 ⟨k1, G, k2, k3, k4⟩
      unfold X8_partIntoPieces_b28
      rw [k1 6 0 7 (by unfold p45; omega), h7, if_pos (by rw [nI_leq (by omega) (by omega)]; omega)]
      refine ⟨τ, G, rfl, k2, k3, fun a b ha hb => ⟨k3.2 a b ha hb, fun h => ?_⟩, k1⟩
      have h1 := h (fun a b => a = b ∨ (a < g ∧ b < g ∧ G a = G b)) (fun a => Or.inl rfl) (fun a b z => z.elim (fun y => Or.inl y.symm) (fun y => Or.inr ⟨y.2.1, y.1, y.2.2.symm⟩)) (fun a b c z1 z2 => by
        rcases z1 with y1 | y1
        · rw [y1]; exact z2
        · rcases z2 with y2 | y2
          · rw [← y2]; exact Or.inr y1
          · exact Or.inr ⟨y1.1, y2.2.1, y1.2.2.trans y2.2.2⟩) (fun a b ha hb hab => Or.inr ⟨ha, hb, by
        rcases Nat.lt_trichotomy a b with z | z | z
        · refine (k4 b a hb z ?_).symm
          unfold adB at hab ⊢
          rw [shN_sym]; exact hab
        · rw [z]
        · exact k4 a b ha z hab⟩)
      rcases h1 with z | z
      · rw [z]
      · exact z.2.2
