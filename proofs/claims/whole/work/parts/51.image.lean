/-! LAYER 2: image, back. -/
def pK (k t q _i : Nat) : Prop := (t = 6 ∧ q = k) ∨ (t = 40 ∧ q = k) ∨ (sT t ∧ 21 * k ≤ q ∧ q < 21 * k + 21) ∨ ((t = 5 ∨ t = 38 ∨ t = 39) ∧ 4 * k ≤ q ∧ q < 4 * k + 4)
theorem WR_oth {x x' : gM} {k o N : Nat} {A TX : Nat → Int32} (hk : k < 2) (ho : o < 2) (hne : k ≠ o) (h : WR x o A TX N) (e : Eqv (pK k) x x') : WR x' o A TX N := by
  obtain ⟨⟨a1, a2⟩, ⟨c, e0, f, b1, b2, b3, b4, b5, b6, b7, b8⟩, ⟨tr, d1, d2, d3, d4⟩, g, f1, f2, f3, f4, f5⟩ := h
  have e6 := fun i => e 6 o i (by unfold pK sT; omega)
  have e40 := fun i => e 40 o i (by unfold pK sT; omega)
  refine ⟨⟨RS_congr a1 (fun t i ht => e t _ i (by unfold pK sT; omega)), a2⟩, ⟨c, e0, f, by rw [e6]; exact b1, b2, b3, by rw [e6]; exact b4, b5, b6, b7, fun j hj => ⟨RS_congr (b8 j hj).1 (fun t i ht => e t _ i (by unfold pK sT; omega)), (b8 j hj).2⟩⟩, ⟨tr, by rw [e6]; exact d1, d2, d3, fun t ht => RT_congr (d4 t ht) (fun t' i ht' => e t' _ i (by unfold pK sT; omega))⟩, g, by rw [e6]; exact f1, f2, f3, fun i hi => by rw [e40]; exact f4 i hi, fun i j hi hj => by rw [e40, e40]; exact f5 i j hi hj⟩
theorem gCopy_ok {β : Type} {m : gM} {t0 k0 t1 k1 s : Nat} {kk : gM → Option β} (h0 : s ≤ glen t0) (h1 : s ≤ glen t1) (hs : s < 2147483648) : gCopy m t0 k0 t1 k1 0 0 (nI s) kk = kk (gcp m t0 k0 t1 k1 0 0 s) := by
  unfold gCopy
  rw [if_neg, nI_cl hs]
  · rfl
  · rw [nI_cl hs]
    rintro ((h | h | h) | (h | h))
    · exact absurd h (by decide)
    · exact absurd h (by decide)
    · exact nI_neg hs h
    · rw [show (0 : Int32).toNatClampNeg = 0 from rfl] at h; omega
    · rw [show (0 : Int32).toNatClampNeg = 0 from rfl] at h; omega
theorem gcp_at {m : gM} {t k k' n i : Nat} (h : i < n) : gcp m t k t k' 0 0 n t k' i = m t k i := by simp [gcp, va_cpy, h]
theorem gcp_E {P : Nat → Nat → Nat → Prop} {m : gM} {t k k' n : Nat} (h : ∀ i, P t k' i) : Eqv P m (gcp m t k t k' 0 0 n) := by
  intro t1 k1 i q
  unfold gcp
  rw [if_neg (fun z => q (by rw [z.1, z.2]; exact h i))]
theorem takeTrace_ok {x : gM} {k o t : Nat} {TX : Nat → Int32} (hne : k ≠ o) (h : RT x o TX t) : ∃ x', X5_takeTrace k o x = some ((), x') ∧ RT x' k TX t ∧ Eqv (fun t q _ => (t = 5 ∨ t = 38 ∨ t = 39) ∧ q = k) x x' := by
  unfold X5_takeTrace
  obtain ⟨s, s1, s2, s3, s4⟩ := h
  simp only [gSet]
  rw [s1, gup_at, if_pos rfl, gCopy_ok (show s ≤ 600 from s3) (show s ≤ 600 from s3) (by omega)]
  have e5 : gcp (gup x 5 k 2 (nI s)) 38 o 38 k 0 0 s 5 k 2 = nI s := by rw [gcp_t (by omega), gup_at, if_pos rfl]
  rw [e5, gCopy_ok (show s ≤ 600 from s3) (show s ≤ 600 from s3) (by omega)]
  refine ⟨_, rfl, ⟨s, by rw [gcp_t (by omega)]; exact e5, s2, s3, fun i hi => ?_⟩, ((Eqv.up ⟨Or.inl rfl, rfl⟩).tr (gcp_E (fun _ => ⟨Or.inr (Or.inl rfl), rfl⟩))).tr (gcp_E (fun _ => ⟨Or.inr (Or.inr rfl), rfl⟩))⟩
  rw [gcp_t (show 38 ≠ 39 by omega), gcp_at hi, gcp_at hi, gcp_t (show 39 ≠ 38 by omega), gup_t (show 39 ≠ 5 by omega), gup_t (show 38 ≠ 5 by omega)]
  exact s4 i hi
theorem takeAll_ok {x : gM} {k o N : Nat} {A TX : Nat → Int32} (hk : k < 2) (ho : o < 2) (hne : k ≠ o) (h : WR x o A TX N) : ∃ x', X6_takeAll k o x = some ((), x') ∧ WR x' k A TX N ∧ x' 6 k 6 = x 6 o 6 ∧ Eqv (pK k) x x' := by
  unfold X6_takeAll
  obtain ⟨⟨a1, a2⟩, ⟨c, e0, f, b1, b2, b3, b4, b5, b6, b7, b8⟩, ⟨tr, d1, d2, d3, d4⟩, g, f1, f2, f3, f4, f5⟩ := id h
  obtain ⟨x1, p1, p2, p3, p4⟩ := takeStore_ok (m := x) (k := 21 * k) (o := 21 * o) (by omega)
  have r1 := RS_take a1 p2 p3
  have q1 : Eqv (pK k) x x1 := fun t q i z => p4 t q i (fun y => z (Or.inr (Or.inr (Or.inl ⟨y.1, by omega, by omega⟩))))
  rw [gCall_eq p1]
  simp only [gSet]
  have e5 : gup x1 6 k 4 0 6 o 5 = nI c := by rw [gup_k (by omega), q1 6 o 5 (by unfold pK sT; omega)]; exact b1
  rw [e5, gJ0_e]
  have q2 : Eqv (pK k) x (gup (gup x1 6 k 4 0) 6 k 5 (nI c)) := (q1.tr (Eqv.up (Or.inl ⟨rfl, rfl⟩))).tr (Eqv.up (Or.inl ⟨rfl, rfl⟩))
  have r2 : RS (gup (gup x1 6 k 4 0) 6 k 5 (nI c)) (21 * k) (fun i => A (36 + i)) N := RS_congr r1 (fun t i ht => by rw [gup_t (by omega), gup_t (by omega)])
  have u4 : gup (gup x1 6 k 4 0) 6 k 5 (nI c) 6 k 4 = 0 := by rw [gup_at, if_neg (by omega), gup_at, if_pos rfl]
  have u5 : gup (gup x1 6 k 4 0) 6 k 5 (nI c) 6 k 5 = nI c := by rw [gup_at, if_pos rfl]
  revert q2 r2 u4 u5
  generalize gup (gup x1 6 k 4 0) 6 k 5 (nI c) = x2
  intro q2 r2 u4 u5
  refine gL1_for (fun i σ => i ≤ c ∧ Eqv (pK k) x σ ∧ RS σ (21 * k) (fun i => A (36 + i)) N ∧ σ 6 k 4 = 0 ∧ σ 6 k 5 = nI c ∧ ∀ j, j < i → RS σ (21 * k + 1 + j) (fun i => A (1503 + 1467 * ((f + j) % 20) + i)) N) (fun r => ∃ x', r = some ((), x') ∧ WR x' k A TX N ∧ x' 6 k 6 = x 6 o 6 ∧ Eqv (pK k) x x') c ?_ ?_ FU 0 x2 (Nat.zero_le _) (by rw [FU_eq]; omega) ⟨Nat.zero_le _, q2, r2, u4, u5, fun j hj => by omega⟩
  · rintro i σ K hi ⟨v0, v1, v2, v3, v4, v5⟩ hK
    unfold X6_takeAll_b26
    rw [v4, if_neg (by rw [nI_leq (by omega) (by omega)]; omega), gAtR_nI (show i < 20 by omega) (by omega), v1 6 o 4 (by unfold pK sT; omega), b4, nI_add, li20, nI_rem (by omega) (by omega) (by omega), gAtR_nI (show (e0 + i) % 20 < 20 from Nat.mod_lt _ (by omega)) (by omega)]
    obtain ⟨y1, w1, w2, w3, w4⟩ := takeStore_ok (m := σ) (k := 21 * k + 1 + i) (o := 21 * o + 1 + (e0 + i) % 20) (by omega)
    have hsrc : RS σ (21 * o + 1 + (e0 + i) % 20) (fun q => A (1503 + 1467 * ((f + i) % 20) + q)) N := RS_congr (b8 i hi).1 (fun t q ht => v1 t _ q (by unfold pK sT; omega))
    rw [gCall_eq w1, gLet, nI_1]
    refine hK _ ⟨by omega, v1.tr (fun t q j z => w4 t q j (fun y => z (Or.inr (Or.inr (Or.inl ⟨y.1, by omega, by omega⟩))))), RS_congr v2 (fun t q ht => w4 t _ q (by omega)), by rw [w4 6 k 4 (by unfold sT; omega)]; exact v3, by rw [w4 6 k 5 (by unfold sT; omega)]; exact v4, fun j hj => ?_⟩
    by_cases ej : j = i
    · subst ej
      exact RS_take hsrc w2 w3
    · exact RS_congr (v5 j (by omega)) (fun t q ht => w4 t _ q (by omega))
  · rintro σ K ⟨v0, v1, v2, v3, v4, v5⟩
    unfold X6_takeAll_b26
    rw [v4, if_pos (by rw [nI_leq (by omega) (by omega)]; omega)]
    dsimp only
    rw [v1 6 o 6 (by unfold pK sT; omega), d1, gJ0_e]
    have q3 : Eqv (pK k) x (gup σ 6 k 6 (nI tr)) := v1.tr (Eqv.up (Or.inl ⟨rfl, rfl⟩))
    have r3 : RS (gup σ 6 k 6 (nI tr)) (21 * k) (fun i => A (36 + i)) N := RS_congr v2 (fun t i ht => by rw [gup_t (by omega)])
    have s4 : gup σ 6 k 6 (nI tr) 6 k 4 = 0 := by rw [gup_at, if_neg (by omega)]; exact v3
    have s5 : gup σ 6 k 6 (nI tr) 6 k 5 = nI c := by rw [gup_at, if_neg (by omega)]; exact v4
    have s6 : gup σ 6 k 6 (nI tr) 6 k 6 = nI tr := by rw [gup_at, if_pos rfl]
    have s7 : ∀ j, j < c → RS (gup σ 6 k 6 (nI tr)) (21 * k + 1 + j) (fun i => A (1503 + 1467 * ((f + j) % 20) + i)) N := fun j hj => RS_congr (v5 j hj) (fun t q ht => by rw [gup_t (by omega)])
    revert q3 r3 s4 s5 s6 s7
    generalize gup σ 6 k 6 (nI tr) = x3
    intro q3 r3 s4 s5 s6 s7
    refine gL1_for (fun i σ => i ≤ tr ∧ Eqv (pK k) x σ ∧ Eqv (fun t q _ => (t = 5 ∨ t = 38 ∨ t = 39) ∧ 4 * k ≤ q ∧ q < 4 * k + 4) x3 σ ∧ ∀ t, t < i → RT σ (4 * k + t) TX t) (fun r => ∃ x', r = some ((), x') ∧ WR x' k A TX N ∧ x' 6 k 6 = nI tr ∧ Eqv (pK k) x x') tr ?_ ?_ FU 0 x3 (Nat.zero_le _) (by rw [FU_eq]; omega) ⟨Nat.zero_le _, q3, Eqv.rf, fun t ht => by omega⟩
    · rintro i τ K2 hi ⟨z0, z1, z2, z3⟩ hK2
      unfold X6_takeAll_b73
      have z6 : τ 6 k 6 = nI tr := by rw [z2 6 k 6 (by omega)]; exact s6
      obtain ⟨y1, w1, w2, w3⟩ := takeTrace_ok (x := τ) (k := 4 * k + i) (o := 4 * o + i) (t := i) (TX := TX) (by omega) (RT_congr (d4 i hi) (fun t q ht => z1 t _ q (by unfold pK sT; omega)))
      rw [z6, if_neg (by rw [nI_leq (by omega) (by omega)]; omega), gAtR_nI (show i < 4 by omega) (by omega), gAtR_nI (show i < 4 by omega) (by omega), gCall_eq w1, gLet, nI_1]
      refine hK2 _ ⟨by omega, z1.tr (w3.mono (fun t q j y => Or.inr (Or.inr (Or.inr ⟨y.1, by omega, by omega⟩)))), z2.tr (w3.mono (fun t q j y => ⟨y.1, by omega, by omega⟩)), fun t ht => ?_⟩
      by_cases et : t = i
      · subst et; exact w2
      · exact RT_congr (z3 t (by omega)) (fun t' q ht' => w3 t' _ q (by omega))
    · rintro τ K2 ⟨z0, z1, z2, z3⟩
      unfold X6_takeAll_b73
      have z6 : τ 6 k 6 = nI tr := by rw [z2 6 k 6 (by omega)]; exact s6
      have z7 : τ 6 o 7 = nI g := by rw [z1 6 o 7 (by unfold pK sT; omega)]; exact f1
      rw [z6, if_pos (by rw [nI_leq (by omega) (by omega)]; omega)]
      dsimp only
      rw [z7, gup_at, if_pos rfl, gCopy_ok (show g ≤ 32 from f3) (show g ≤ 32 from f3) (by omega)]
      have oth : ∀ t q i, ¬ (t = 6 ∧ q = k ∧ i = 7) → ¬ (t = 40 ∧ q = k) → gcp (gup τ 6 k 7 (nI g)) 40 o 40 k 0 0 g t q i = τ t q i := by
        intro t q i h1 h2
        unfold gcp gup
        rw [if_neg h2, if_neg h1]
      have o2 : ∀ t q i, ¬ (t = 6 ∧ q = k ∧ i = 7) → ¬ (t = 40 ∧ q = k) → ¬ ((t = 5 ∨ t = 38 ∨ t = 39) ∧ 4 * k ≤ q ∧ q < 4 * k + 4) → gcp (gup τ 6 k 7 (nI g)) 40 o 40 k 0 0 g t q i = x3 t q i := fun t q i h1 h2 h3 => by rw [oth t q i h1 h2]; exact z2 t q i h3
      have s40 : ∀ i, i < g → gcp (gup τ 6 k 7 (nI g)) 40 o 40 k 0 0 g 40 k i = x 40 o i := fun i hi => by rw [gcp_at hi, gup_t (by omega), z1 40 o i (by unfold pK sT; omega)]
      refine ⟨_, rfl, ⟨⟨RS_congr r3 (fun t i ht => o2 t _ i (by omega) (by omega) (by omega)), a2⟩, ⟨c, 0, f, by rw [o2 _ _ _ (by omega) (by omega) (by omega)]; exact s5, b2, b3, by rw [o2 _ _ _ (by omega) (by omega) (by omega)]; exact s4, by omega, b6, b7, fun j hj => ⟨?_, (b8 j hj).2⟩⟩, ⟨tr, by rw [oth _ _ _ (by omega) (by omega)]; exact z6, d2, d3, fun t ht => RT_congr (z3 t ht) (fun t' i ht' => oth t' _ i (by omega) (by omega))⟩, g, by rw [gcp_t (by omega), gup_at, if_pos rfl], f2, f3, fun i hi => by rw [s40 i hi]; exact f4 i hi, fun i j hi hj => by rw [s40 i (by omega), s40 j hj]; exact f5 i j hi hj⟩, by rw [oth _ _ _ (by omega) (by omega)]; exact z6, z1.tr (fun t q i y => oth t q i (fun z => y (Or.inl ⟨z.1, z.2.1⟩)) (fun z => y (Or.inr (Or.inl z))))⟩
      rw [Nat.zero_add, Nat.mod_eq_of_lt (show j < 20 by omega)]
      exact RS_congr (s7 j hj) (fun t i ht => o2 t _ i (by omega) (by omega) (by omega))
theorem WR_A {x : gM} {w N : Nat} {A A' TX : Nat → Int32} (h : WR x w A TX N) (e : ∀ i, i < 30843 → A' i = A i) : WR x w A' TX N := by
  obtain ⟨⟨a1, a2⟩, ⟨c, e0, f, b1, b2, b3, b4, b5, b6, b7, b8⟩, ⟨tr, d1, d2, d3, d4⟩, g, f1, f2, f3, f4, f5⟩ := h
  have eB : ∀ i, i < 1467 → A' (36 + i) = A (36 + i) := fun i hi => e _ (by omega)
  refine ⟨⟨RS_congrB a1 eB, BI_congr a2 eB⟩, ⟨c, e0, f, b1, by rw [e _ (by omega)]; exact b2, b3, b4, b5, by rw [e _ (by omega)]; exact b6, b7, fun j hj => ?_⟩, ⟨tr, d1, by rw [e _ (by omega)]; exact d2, d3, d4⟩, g, f1, by rw [e _ (by omega)]; exact f2, f3, fun i hi => by rw [e _ (by omega)]; exact f4 i hi, f5⟩
  have hm : (f + j) % 20 < 20 := Nat.mod_lt _ (by omega)
  have eB2 : ∀ i, i < 1467 → A' (1503 + 1467 * ((f + j) % 20) + i) = A (1503 + 1467 * ((f + j) % 20) + i) := fun i hi => e _ (by omega)
  exact ⟨RS_congrB (b8 j hj).1 eB2, BI_congr (b8 j hj).2 eB2⟩
theorem m_copy {m : gM} {t u : Nat} (htu : t ≠ u) (ht : t = 47 ∨ t = 48) (hu : u = 47 ∨ u = 48) : X9_copy t 0 u 0 m = some ((), gblk m t 0 0 u 0 0 30843) := by
  unfold X9_copy
  have gt : glen t = 30843 := by rcases ht with rfl | rfl <;> rfl
  have gu : glen u = 30843 := by rcases hu with rfl | rfl <;> rfl
  refine copy_loop (R := fun σ => some ((), σ)) t 0 0 u 0 0 30843 (fun i σ K hi => ?_) (fun σ K => ?_) (fun i j _ _ => by omega) (by rw [FU_eq]; omega)
  · unfold X9_copy_b2
    rw [if_neg (by rw [li30843, nI_leq (by omega) (by omega)]; omega), gAt_nI (show i < glen t by omega) (by omega), gPut_nI (show i < glen u by omega) (by omega), gLet, nI_1, Nat.zero_add]
  · unfold X9_copy_b2
    rw [if_pos (by rw [li30843, nI_leq (by omega) (by omega)]; omega)]
theorem blk_oth {m : gM} {t u t' : Nat} (h : t' ≠ u) : gblk m t 0 0 u 0 0 30843 t' = m t' := by
  funext k i
  unfold gblk
  rw [if_neg (fun z => h z.1)]
theorem blk_in {m : gM} {t u i : Nat} (h : i < 30843) : gblk m t 0 0 u 0 0 30843 u 0 i = m t 0 i := by
  unfold gblk
  rw [if_pos ⟨rfl, rfl, Nat.zero_le _, by omega⟩, Nat.zero_add, Nat.sub_zero]
theorem q_image {x m : gM} {N : Nat} (h : INV x m N) : Ag (X8_image x) (X9_image m) N := by
  unfold X8_image X9_image
  obtain ⟨h1, h2, h3, ⟨tp, h4, h5, h6, h7⟩, h8, h9, h10⟩ := id h
  obtain ⟨x', a1, a2, a3, a4⟩ := takeAll_ok (k := 1) (o := 0) (by omega) (by omega) (by omega) h1
  have e8 := fun i => a4 8 0 i (by unfold pK sT; omega)
  have e46 := fun i => a4 46 0 i (by unfold pK sT; omega)
  have e60 : x' 6 0 6 = x 6 0 6 := a4 6 0 6 (by unfold pK sT; omega)
  have hI : INV x' (gblk m 47 0 0 48 0 0 30843) N := by
    unfold INV
    rw [blk_oth (t' := 47) (by omega), blk_oth (t' := 49) (by omega), blk_oth (t' := 9) (by omega), blk_oth (t' := 50) (by omega)]
    refine ⟨WR_oth (k := 1) (by omega) (by omega) (by omega) h1 a4, WR_A a2 (fun i hi => blk_in hi), by rw [a3, e60]; exact Nat.le_refl _, ⟨tp, h4, by rw [e8]; exact h5, h6, fun i hi => by rw [e46]; exact h7 i hi⟩, by rw [e8]; exact h8, by rw [e8]; exact h9, h10⟩
  have hl := x_held hI.rs hI.bi
  have hr := m_held hI.bi
  have a1' : X6_takeAll 1 0 x = some ((), x') := a1
  rw [gCall_eq a1', gCall_eq (m_copy (by omega) (Or.inl rfl) (Or.inr rfl)), gCall_eq hl, gCall_eq hr]
  exact ⟨_, _, _, rfl, rfl, hI⟩
theorem q_back {x m : gM} {N : Nat} (h : INV x m N) : Ag (X8_back x) (X9_back m) N := by
  unfold X8_back X9_back
  obtain ⟨h1, h2, h3, ⟨tp, h4, h5, h6, h7⟩, h8, h9, h10⟩ := id h
  obtain ⟨x', a1, a2, a3, a4⟩ := takeAll_ok (k := 0) (o := 1) (by omega) (by omega) (by omega) h2
  have e8 := fun i => a4 8 0 i (by unfold pK sT; omega)
  have e46 := fun i => a4 46 0 i (by unfold pK sT; omega)
  have e61 : x' 6 1 6 = x 6 1 6 := a4 6 1 6 (by unfold pK sT; omega)
  have hI : INV x' (gblk m 48 0 0 47 0 0 30843) N := by
    unfold INV
    rw [blk_oth (t' := 48) (by omega), blk_oth (t' := 49) (by omega), blk_oth (t' := 9) (by omega), blk_oth (t' := 50) (by omega)]
    refine ⟨WR_A a2 (fun i hi => blk_in hi), WR_oth (k := 0) (by omega) (by omega) (by omega) h2 a4, by rw [a3, e61]; exact Nat.le_refl _, ⟨tp, h4, by rw [e8]; exact h5, h6, fun i hi => by rw [e46]; exact h7 i hi⟩, by rw [e8]; exact h8, by rw [e8]; exact h9, h10⟩
  have hl := x_held hI.rs hI.bi
  have hr := m_held hI.bi
  have a1' : X6_takeAll 0 1 x = some ((), x') := a1
  rw [gCall_eq a1', gCall_eq (m_copy (by omega) (Or.inr rfl) (Or.inl rfl)), gCall_eq hl, gCall_eq hr]
  exact ⟨_, _, _, rfl, rfl, hI⟩
