/-! LAYER 2: pieces, piece, done. -/
theorem bt_nI {c k : Nat} (hk : k < 32) : bt (nI c) k = c.testBit k := by
  show (BitVec.ofNat 32 c).getLsbD k = c.testBit k
  rw [BitVec.getLsbD_ofNat, decide_eq_true hk, Bool.true_and]
theorem shr_b32 {c k : Nat} (hk : k < 32) : (nI c >>> (nI k &&& 31)) &&& 1 = nI (if c.testBit k then 1 else 0) := by
  apply b_ext
  intro i hi
  rw [b_and, b_sshr k hk _ hi, show (1 : Int32) = nI 1 from rfl, bt_nI hi]
  rcases Nat.eq_zero_or_pos i with z | z
  · subst z
    rw [if_pos (by omega), Nat.add_zero, bt_nI hk, bt_nI (by omega)]
    cases c.testBit k <;> rfl
  · have h1 : Nat.testBit 1 i = false := Nat.testBit_lt_two_pow (show 1 < 2 ^ i from Nat.one_lt_two_pow (by omega))
    rw [h1, Bool.and_false, bt_nI hi]
    cases c.testBit k
    · exact (Nat.zero_testBit i).symm
    · exact h1.symm
theorem two_shl32 {j : Nat} (h : j < 32) : (1 : Int32) <<< (nI j &&& 31) = nI (2 ^ j) := by
  have h2 : 2 ^ j < 2 ^ 32 := Nat.pow_lt_pow_right (by omega) h
  rw [li1, nI_shl h (by rw [Nat.one_mul]; exact h2), Nat.one_mul]
theorem nI_inj32 {a b : Nat} (ha : a < 4294967296) (hb : b < 4294967296) : nI a = nI b ↔ a = b := by
  constructor
  · intro h
    have h1 := congrArg (fun x : Int32 => x.toBitVec.toNat) h
    rw [pk_tn (by omega), pk_tn (by omega)] at h1
    exact h1
  · intro h; rw [h]
theorem cnt_sub {a b : Nat} : ∀ g, (∀ i, i < g → a.testBit i = true → b.testBit i = true) → cntP (fun i => a.testBit i) g = cntP (fun i => b.testBit i) g → ∀ i, i < g → a.testBit i = b.testBit i := by
  intro g
  induction g with
  | zero => intro _ _ i hi; omega
  | succ g ih =>
    intro h1 h2 i hi
    have hm := cntP_mono (p := fun i => a.testBit i) (q := fun i => b.testBit i) g (fun i hi => h1 i (by omega))
    have hb := h1 g (by omega)
    simp only [cntP] at h2
    have h3 : a.testBit g = b.testBit g ∧ cntP (fun i => a.testBit i) g = cntP (fun i => b.testBit i) g := by
      cases ea : a.testBit g <;> cases eb : b.testBit g
      · simp only [ea, eb, Bool.false_eq_true, ↓reduceIte] at h2; exact ⟨rfl, by omega⟩
      · simp only [ea, eb, Bool.false_eq_true, ↓reduceIte] at h2; omega
      · have := hb ea; rw [eb] at this; cases this
      · simp only [ea, eb, ↓reduceIte] at h2; exact ⟨rfl, by omega⟩
    by_cases e : i = g
    · rw [e]; exact h3.1
    · exact ih (fun i hi => h1 i (by omega)) h3.2 i (by omega)
/-- one round: all that meet one of those that were there -/
def rdS (g : Nat) (ad : Nat → Nat → Bool) (was : Nat) (c : Nat) : Prop := ∀ e, c.testBit e = true ↔ was.testBit e = true ∨ (e < g ∧ ∃ k, k < g ∧ was.testBit k = true ∧ ad k e = true)
theorem m_round {β : Type} {m : gM} {N g was : Nat} {s : Nat → Nat} {K : Int32 → Int32 → gM → Option (Int32 × gM)} {P : Option (Int32 × gM) → Prop} (hB : BI (mB m) N) (hg : g ≤ 32) (h3 : m 47 0 3 = nI g) (hs : ∀ i, i < g → s i < 1024 ∧ m 47 0 (4 + i) = nI (s i)) (hw : was < 4294967296) (hP : ∀ c, c < 4294967296 → rdS g (adB (mB m) s) was c → P (K (nI c) (nI was) m)) : P (gL2 FU (X9_pieceOf_b16 K (nI was)) (nI was) 0 m) := by
  have hW := hB.1.2.2
  refine gL2_for (fun k v σ => σ = m ∧ ∃ c, v = nI c ∧ c < 4294967296 ∧ ∀ e, c.testBit e = true ↔ was.testBit e = true ∨ (e < g ∧ ∃ u, u < k ∧ was.testBit u = true ∧ adB (mB m) s u e = true)) P g ?_ ?_ FU 0 _ m (Nat.zero_le _) (by rw [FU_eq]; omega) ⟨rfl, was, rfl, hw, fun e => ⟨fun z => Or.inl z, fun z => z.elim id (fun y => by obtain ⟨-, u, hu, -⟩ := y; exact absurd hu (Nat.not_lt_zero _))⟩⟩
  · rintro k v σ K2 hk ⟨rfl, c, rfl, hc, hb⟩ hK
    unfold X9_pieceOf_b16
    rw [show gAt σ 47 0 3 _ = _ from gAt_nI (i := 3) (show 3 < 30843 by omega) (by omega), h3, if_neg (by rw [nI_leq (by omega) (by omega)]; omega)]
    refine gL2_for (fun e v τ => τ = σ ∧ ∃ c, v = nI c ∧ c < 4294967296 ∧ ∀ e', c.testBit e' = true ↔ was.testBit e' = true ∨ (e' < g ∧ ∃ u, u < g ∧ (u < k ∨ (u = k ∧ e' < e)) ∧ was.testBit u = true ∧ adB (mB σ) s u e' = true)) P g ?_ ?_ FU 0 _ σ (Nat.zero_le _) (by rw [FU_eq]; omega) ⟨rfl, c, rfl, hc, fun e' => ?_⟩
    · rintro e v τ K3 he ⟨rfl, c, rfl, hc, hb⟩ hK2
      unfold X9_pieceOf_b30
      obtain ⟨s1, s2⟩ := hs k hk
      obtain ⟨t1, t2⟩ := hs e he
      rw [show gAt τ 47 0 3 _ = _ from gAt_nI (i := 3) (show 3 < 30843 by omega) (by omega), h3, if_neg (by rw [nI_leq (by omega) (by omega)]; omega), shr_b32 (by omega)]
      by_cases hk1 : was.testBit k = true
      · have hsh : shN (mB τ) (s k) (s e) ≤ bW (mB τ) := cntP_le _ _
        rw [hk1, if_pos rfl, if_pos (show nI 1 = 1 from rfl), li4, nI_add, nI_add, gAt_nI (show 4 + k < 30843 by omega) (by omega), s2, gAt_nI (show 4 + e < 30843 by omega) (by omega), t2, gCall_eq (m_shN hB s1 t1)]
        by_cases e0 : 0 < shN (mB τ) (s k) (s e)
        · rw [if_neg (by rw [li0, nI_leq (by omega) (by omega)]; omega), two_shl32 (by omega), nI_or, gLet, gLet, nI_1]
          refine hK2 _ _ ⟨rfl, _, rfl, Nat.or_lt_two_pow (n := 32) hc (Nat.pow_lt_pow_right (by omega) (by omega)), fun e' => ?_⟩
          rw [Nat.testBit_or, Bool.or_eq_true, hb, Nat.testBit_two_pow, decide_eq_true_iff]
          constructor
          · rintro ((z | ⟨z1, u, z2, z3, z4, z5⟩) | z)
            · exact Or.inl z
            · exact Or.inr ⟨z1, u, z2, by omega, z4, z5⟩
            · exact Or.inr ⟨by omega, k, hk, Or.inr ⟨rfl, by omega⟩, hk1, by rw [← z]; exact decide_eq_true e0⟩
          · rintro (z | ⟨z1, u, z2, z3, z4, z5⟩)
            · exact Or.inl (Or.inl z)
            · by_cases ee : u = k ∧ e' = e
              · exact Or.inr ee.2.symm
              · exact Or.inl (Or.inr ⟨z1, u, z2, by omega, z4, z5⟩)
        · rw [if_pos (by rw [li0, nI_leq (by omega) (by omega)]; omega), gLet, nI_1]
          refine hK2 _ _ ⟨rfl, c, rfl, hc, fun e' => ?_⟩
          rw [hb]
          constructor
          · rintro (z | ⟨z1, u, z2, z3, z4, z5⟩)
            · exact Or.inl z
            · exact Or.inr ⟨z1, u, z2, by omega, z4, z5⟩
          · rintro (z | ⟨z1, u, z2, z3, z4, z5⟩)
            · exact Or.inl z
            · by_cases ee : u = k ∧ e' = e
              · rw [ee.1, ee.2] at z5; exact absurd (of_decide_eq_true z5) e0
              · exact Or.inr ⟨z1, u, z2, by omega, z4, z5⟩
      · rw [Bool.eq_false_iff.mpr hk1, if_neg (show ¬ false = true by decide), if_neg (show ¬ nI 0 = 1 by decide), gLet, nI_1]
        refine hK2 _ _ ⟨rfl, c, rfl, hc, fun e' => ?_⟩
        rw [hb]
        constructor
        · rintro (z | ⟨z1, u, z2, z3, z4, z5⟩)
          · exact Or.inl z
          · exact Or.inr ⟨z1, u, z2, by omega, z4, z5⟩
        · rintro (z | ⟨z1, u, z2, z3, z4, z5⟩)
          · exact Or.inl z
          · by_cases ee : u = k
            · rw [ee] at z4; exact absurd z4 hk1
            · exact Or.inr ⟨z1, u, z2, by omega, z4, z5⟩
    · rintro v τ K3 ⟨rfl, c, rfl, hc, hb⟩
      unfold X9_pieceOf_b30
      rw [show gAt τ 47 0 3 _ = _ from gAt_nI (i := 3) (show 3 < 30843 by omega) (by omega), h3, if_pos (by rw [nI_leq (by omega) (by omega)]; omega), gLet, nI_1]
      refine hK _ _ ⟨rfl, c, rfl, hc, fun e' => ?_⟩
      rw [hb]
      constructor
      · rintro (z | ⟨z1, u, z2, z3, z4, z5⟩)
        · exact Or.inl z
        · exact Or.inr ⟨z1, u, by omega, z4, z5⟩
      · rintro (z | ⟨z1, u, z2, z4, z5⟩)
        · exact Or.inl z
        · exact Or.inr ⟨z1, u, by omega, by omega, z4, z5⟩
    · rw [hb]
      constructor
      · rintro (z | ⟨z1, u, z2, z4, z5⟩)
        · exact Or.inl z
        · exact Or.inr ⟨z1, u, by omega, Or.inl z2, z4, z5⟩
      · rintro (z | ⟨z1, u, z2, z3, z4, z5⟩)
        · exact Or.inl z
        · exact Or.inr ⟨z1, u, by omega, z4, z5⟩
  · rintro v σ K2 ⟨rfl, c, rfl, hc, hb⟩
    unfold X9_pieceOf_b16
    rw [show gAt σ 47 0 3 _ = _ from gAt_nI (i := 3) (show 3 < 30843 by omega) (by omega), h3, if_pos (by rw [nI_leq (by omega) (by omega)]; omega)]
    exact hP c hc hb
theorem m_pieceOf {m : gM} {N g i : Nat} {s : Nat → Nat} (hB : BI (mB m) N) (hg : g ≤ 32) (h3 : m 47 0 3 = nI g) (hs : ∀ i, i < g → s i < 1024 ∧ m 47 0 (4 + i) = nI (s i)) (hi : i < g) : ∃ c, X9_pieceOf (nI i) m = some (nI c, m) ∧ c < 4294967296 ∧ ∀ e, c.testBit e = true ↔ e < g ∧ cn g (adB (mB m) s) i e := by
  unfold X9_pieceOf
  rw [two_shl32 (by omega), gLet]
  have h2i : 2 ^ i < 2 ^ 32 := Nat.pow_lt_pow_right (by omega) (by omega)
  refine gL2_rec (fun q a b σ => σ = m ∧ ∃ c was, a = nI c ∧ b = nI was ∧ c < 4294967296 ∧ was < 4294967296 ∧ q = g + 1 - cntP (fun e => was.testBit e) g ∧ c.testBit i = true ∧ (∀ e, c.testBit e = true → e < g ∧ cn g (adB (mB m) s) i e) ∧ ((was = 0) ∨ rdS g (adB (mB m) s) was c)) (fun o => ∃ c, o = some (nI c, m) ∧ c < 4294967296 ∧ ∀ e, c.testBit e = true ↔ e < g ∧ cn g (adB (mB m) s) i e) ?_ FU (g + 1) _ _ m (by rw [FU_eq]; omega) ⟨rfl, 2 ^ i, 0, rfl, rfl, h2i, by omega, by rw [cntP_none g (fun e _ => Nat.zero_testBit e), Nat.sub_zero], Nat.testBit_two_pow_self, fun e z => ?_, Or.inl rfl⟩
  · rintro q a b σ K ⟨rfl, c, was, rfl, rfl, hc, hw, hq, ci, hcn, hr⟩ hK
    unfold X9_pieceOf_b6
    by_cases e0 : was = c
    · rw [if_pos (by rw [e0])]
      refine ⟨c, rfl, hc, fun e => ⟨hcn e, fun z => ?_⟩⟩
      have hrd : rdS g (adB (mB σ) s) c c := by
        rcases hr with z | z
        · rw [z] at e0
          rw [← e0, Nat.zero_testBit] at ci
          cases ci
        · rw [e0] at z; exact z
      have h1 := z.2 (fun a b => c.testBit a = true ↔ c.testBit b = true) (fun a => Iff.rfl) (fun a b h => h.symm) (fun a b c h1 h2 => h1.trans h2) (fun a b ha hb hab => ⟨fun y => (hrd b).mpr (Or.inr ⟨hb, a, ha, y, hab⟩), fun y => (hrd a).mpr (Or.inr ⟨ha, b, hb, y, by unfold adB at hab ⊢; rw [shN_sym]; exact hab⟩)⟩)
      exact h1.mp ci
    · rw [if_neg (fun z => e0 ((nI_inj32 hw hc).mp z))]
      have hsub : ∀ e, was.testBit e = true → c.testBit e = true := by
        intro e he
        rcases hr with z | z
        · rw [z, Nat.zero_testBit] at he; cases he
        · exact (z e).mpr (Or.inl he)
      have hlt : cntP (fun e => was.testBit e) g < cntP (fun e => c.testBit e) g := by
        have hm := cntP_mono (p := fun e => was.testBit e) (q := fun e => c.testBit e) g (fun e _ => hsub e)
        rcases Nat.lt_or_ge (cntP (fun e => was.testBit e) g) (cntP (fun e => c.testBit e) g) with z | z
        · exact z
        · exfalso
          have hall := cnt_sub g (fun e _ => hsub e) (by omega)
          refine e0 (Nat.eq_of_testBit_eq (fun e => ?_))
          by_cases he : e < g
          · exact hall e he
          · have h1 : ¬ c.testBit e = true := fun z => he (hcn e z).1
            have h2 : ¬ was.testBit e = true := fun z => h1 (hsub e z)
            rw [Bool.eq_false_iff.mpr h1, Bool.eq_false_iff.mpr h2]
      have hcl : cntP (fun e => c.testBit e) g ≤ g := cntP_le _ _
      refine m_round (β := Nat) (P := fun o => ∃ c, o = some (nI c, σ) ∧ c < 4294967296 ∧ ∀ e, c.testBit e = true ↔ e < g ∧ cn g (adB (mB σ) s) i e) hB hg h3 hs hc (fun c' hc' hrd => ?_)
      refine hK (g + 1 - cntP (fun e => c.testBit e) g) _ _ σ (by omega) ⟨rfl, c', c, rfl, rfl, hc', hc, rfl, (hrd i).mpr (Or.inl ci), fun e z => ?_, Or.inr hrd⟩
      rcases (hrd e).mp z with y | ⟨y1, k, y2, y3, y4⟩
      · exact hcn e y
      · exact ⟨y1, cn_tr (hcn k y3).2 (cn_ad y2 y1 y4)⟩
  · rw [Nat.testBit_two_pow, decide_eq_true_iff] at z
    rw [← z]
    exact ⟨hi, cn_rf⟩
theorem firsts {G : Nat → Nat} {g : Nat} (hG : ∀ a, a < g → G a < g) : ∀ n, n ≤ g → cntP (fun i => (fdx G (G i) i).isNone) n = cntP (fun v => (fdx G v n).isSome) g := by
  intro n
  induction n with
  | zero => intro _; exact (cntP_none g (fun _ _ => rfl)).symm
  | succ n ih =>
    intro hn
    rw [show cntP (fun i => (fdx G (G i) i).isNone) (n + 1) = cntP (fun i => (fdx G (G i) i).isNone) n + (if (fdx G (G n) n).isNone = true then 1 else 0) from rfl, ih (by omega)]
    have hs : ∀ v, (fdx G v (n + 1)).isSome = ((fdx G v n).isSome || decide (v = G n)) := by
      intro v
      simp only [fdx]
      cases q : fdx G v n with
      | some j => rfl
      | none =>
        by_cases e : G n = v
        · rw [if_pos e]; simp [e]
        · have e' : ¬ v = G n := fun z => e z.symm
          simp [e, e']
    cases q : fdx G (G n) n with
    | none =>
      rw [cntP_new (p := fun v => (fdx G v n).isSome) (a := G n) hs (by rw [q]; rfl) g, if_pos (hG n (by omega))]
      rfl
    | some j =>
      rw [cntP_congr (p := fun v => (fdx G v (n + 1)).isSome) (q := fun v => (fdx G v n).isSome) g (fun v _ => ?_)]
      · rfl
      · rw [hs]
        by_cases e : v = G n
        · rw [e, q]; rfl
        · rw [decide_eq_false e, Bool.or_false]
theorem x_pieces {x : gM} {g : Nat} {G : Nat → Nat} (hg : g ≤ 32) (h7 : x 6 0 7 = nI g) (hG : ∀ a, a < g → x 45 0 a = nI (G a) ∧ G a < g) : gL2 FU X8_pieces_b8 0 0 x = some (nI (cntP (fun i => decide (G i = i)) g), x) := by
  refine gL2_cnt (fun i => decide (G i = i)) g (fun i c K hi hc => ?_) (fun K => ?_) (by rw [FU_eq]; omega)
  · unfold X8_pieces_b8
    obtain ⟨h1, h2⟩ := hG i hi
    rw [h7, if_neg (by rw [nI_leq (by omega) (by omega)]; omega), gAt_nI (show i < 32 by omega) (by omega), h1]
    by_cases e : G i = i
    · rw [if_pos (by rw [e]), if_pos (decide_eq_true e), gLet, gLet, nI_1, nI_1]
    · rw [if_neg (fun z => e ((nI_inj (by omega) (by omega)).mp z)), if_neg (fun z => e (of_decide_eq_true z)), gLet, nI_1] <;> rfl
  · unfold X8_pieces_b8
    rw [h7, if_pos (by rw [nI_leq (by omega) (by omega)]; omega)]
theorem x_piece {x : gM} {g p : Nat} {G : Nat → Nat} (hg : g ≤ 32) (hp : p < g) (h7 : x 6 0 7 = nI g) (hG : ∀ a, a < g → x 45 0 a = nI (G a) ∧ G a < g) : gL2 FU (X8_piece_b25 (nI p)) 0 0 x = some (nI (cntP (fun i => decide (G i = G p)) g), x) := by
  refine gL2_cnt (fun i => decide (G i = G p)) g (fun i c K hi hc => ?_) (fun K => ?_) (by rw [FU_eq]; omega)
  · unfold X8_piece_b25
    obtain ⟨h1, h2⟩ := hG i hi
    obtain ⟨h3, h4⟩ := hG p hp
    rw [h7, if_neg (by rw [nI_leq (by omega) (by omega)]; omega), gAt_nI (show i < 32 by omega) (by omega), h1, gAt_nI (show p < 32 by omega) (by omega), h3]
    by_cases e : G i = G p
    · rw [if_pos (by rw [e]), if_pos (decide_eq_true e), gLet, gLet, nI_1, nI_1]
    · rw [if_neg (fun z => e ((nI_inj (by omega) (by omega)).mp z)), if_neg (fun z => e (of_decide_eq_true z)), gLet, nI_1] <;> rfl
  · unfold X8_piece_b25
    rw [h7, if_pos (by rw [nI_leq (by omega) (by omega)]; omega)]
theorem m_pieces {m : gM} {N g : Nat} {s G : Nat → Nat} (hB : BI (mB m) N) (hg : g ≤ 32) (h3 : m 47 0 3 = nI g) (hs : ∀ i, i < g → s i < 1024 ∧ m 47 0 (4 + i) = nI (s i)) (hG : ∀ a b, a < g → b < g → (G a = G b ↔ cn g (adB (mB m) s) a b)) : X9_pieces m = some (nI (cntP (fun i => (fdx G (G i) i).isNone) g), m) := by
  unfold X9_pieces
  refine gL3_for (fun i v w σ => σ = m ∧ v = nI (cntP (fun i => (fdx G (G i) i).isNone) i) ∧ ∃ c, w = nI c ∧ c < 4294967296 ∧ ∀ e, c.testBit e = true ↔ e < g ∧ ∃ j, j < i ∧ G j = G e) (fun o => o = some (nI (cntP (fun i => (fdx G (G i) i).isNone) g), m)) g ?_ ?_ FU 0 0 0 m (Nat.zero_le _) (by rw [FU_eq]; omega) ⟨rfl, rfl, 0, rfl, by omega, fun e => by
    rw [Nat.zero_testBit]
    exact ⟨fun z => (by cases z), fun z => by obtain ⟨-, j, hj, -⟩ := z; exact absurd hj (Nat.not_lt_zero _)⟩⟩
  · rintro i v w σ K hi ⟨rfl, rfl, c, rfl, hc, hb⟩ hK
    unfold X9_pieces_b6
    have hcnt : cntP (fun i => (fdx G (G i) i).isNone) (i + 1) = cntP (fun i => (fdx G (G i) i).isNone) i + (if (fdx G (G i) i).isNone = true then 1 else 0) := rfl
    rw [show gAt σ 47 0 3 _ = _ from gAt_nI (i := 3) (show 3 < 30843 by omega) (by omega), h3, if_neg (by rw [nI_leq (by omega) (by omega)]; omega), shr_b32 (by omega)]
    by_cases hk1 : c.testBit i = true
    · obtain ⟨-, j, hj, hji⟩ := (hb i).mp hk1
      have hsome : (fdx G (G i) i).isNone = false := by
        cases q : fdx G (G i) i with
        | none => exact absurd hji (fdx_non _ q j hj)
        | some _ => rfl
      rw [hk1, if_pos rfl, if_pos (show nI 1 = 1 from rfl), gLet, nI_1]
      refine hK _ _ _ ⟨rfl, by rw [hcnt, hsome]; rfl, c, rfl, hc, fun e => ?_⟩
      rw [hb]
      constructor
      · rintro ⟨z1, j', z2, z3⟩; exact ⟨z1, j', by omega, z3⟩
      · rintro ⟨z1, j', z2, z3⟩
        by_cases ej : j' = i
        · exact ⟨z1, j, hj, by rw [hji, ← ej]; exact z3⟩
        · exact ⟨z1, j', by omega, z3⟩
    · have hnone : (fdx G (G i) i).isNone = true := by
        cases q : fdx G (G i) i with
        | none => rfl
        | some j =>
          obtain ⟨j1, j2⟩ := fdx_lt _ _ q
          exact absurd ((hb i).mpr ⟨hi, j, j1, j2⟩) hk1
      obtain ⟨d, d1, d2, d3⟩ := m_pieceOf hB hg h3 hs hi
      rw [Bool.eq_false_iff.mpr hk1, if_neg (show ¬ false = true by decide), if_neg (show ¬ nI 0 = 1 by decide), gCall_eq d1, nI_or, gLet, gLet, gLet, nI_1, nI_1]
      refine hK _ _ _ ⟨rfl, by rw [hcnt, hnone]; rfl, _, rfl, Nat.or_lt_two_pow (n := 32) hc d2, fun e => ?_⟩
      rw [Nat.testBit_or, Bool.or_eq_true, hb, d3]
      constructor
      · rintro (⟨z1, j', z2, z3⟩ | ⟨z1, z2⟩)
        · exact ⟨z1, j', by omega, z3⟩
        · exact ⟨z1, i, by omega, (hG i e hi z1).mpr z2⟩
      · rintro ⟨z1, j', z2, z3⟩
        by_cases ej : j' = i
        · rw [ej] at z3
          exact Or.inr ⟨z1, (hG i e hi z1).mp z3⟩
        · exact Or.inl ⟨z1, j', by omega, z3⟩
  · rintro v w σ K ⟨rfl, rfl, c, rfl, hc, hb⟩
    unfold X9_pieces_b6
    rw [show gAt σ 47 0 3 _ = _ from gAt_nI (i := 3) (show 3 < 30843 by omega) (by omega), h3, if_pos (by rw [nI_leq (by omega) (by omega)]; omega)]
theorem p45_X {x x' : gM} (h : Eqv p45 x x') : Eqv pX x x' := h.mono (fun t k i q => by unfold p45 at q; unfold pX; omega)
theorem q_pieces {x m : gM} {N : Nat} (h : INV x m N) : Ag (X8_pieces x) (X9_pieces m) N := by
  unfold X8_pieces
  obtain ⟨g, s, g1, g2, g3, g4, -⟩ := set_is h
  obtain ⟨x1, G, a1, a2, a3, a4, a5⟩ := x_part (s := s) h.rs h.bi g1 g2 (fun i hi => ⟨(g4 i hi).1, (g4 i hi).2.1⟩)
  have hc : cntP (fun i => decide (G i = i)) g = cntP (fun i => (fdx G (G i) i).isNone) g := by
    rw [firsts (fun a ha => (a3.1 a ha).1) g (Nat.le_refl _)]
    refine cntP_congr g (fun v hv => ?_)
    cases q : fdx G v g with
    | none => exact decide_eq_false (fdx_non _ q v hv)
    | some j =>
      obtain ⟨j1, j2⟩ := fdx_lt _ _ q
      refine decide_eq_true ?_
      rw [← j2]
      exact (a3.1 j j1).2
  rw [gCall_eq a1, x_pieces g1 (by rw [a5 6 0 7 (by unfold p45; omega)]; exact g2) (fun a ha => ⟨a2 a ha, (a3.1 a ha).1⟩), hc, m_pieces h.bi g1 g3 (fun i hi => ⟨(g4 i hi).1, (g4 i hi).2.2⟩) a4]
  exact ⟨_, _, _, rfl, rfl, INV_congr h (p45_X a5) Eqv.rf⟩
theorem q_piece {x m : gM} {N : Nat} (h : INV x m N) (a : Int32) : Ag (X8_piece a x) (X9_piece a m) N := by
  unfold X8_piece X9_piece
  obtain ⟨g, s, g1, g2, g3, g4, -⟩ := set_is h
  obtain ⟨g', f1, f2, f3, p1, p2⟩ := set_find h a
  have hg : g' = g := (nI_inj (by omega) (by omega)).mp (f1.symm.trans g2)
  subst hg
  rw [gCall_eq p1, gCall_eq p2]
  cases hs : stF (x 40 0) a g' with
  | none =>
    rw [if_pos (show oI none = -1 from rfl), if_pos (show oI none = -1 from rfl)]
    exact Ag.same h _ rfl rfl
  | some p =>
    obtain ⟨hp, -⟩ := stF_lt _ _ hs
    obtain ⟨x1, G, a1, a2, a3, a4, a5⟩ := x_part (s := s) h.rs h.bi g1 g2 (fun i hi => ⟨(g4 i hi).1, (g4 i hi).2.1⟩)
    obtain ⟨c, c1, c2, c3⟩ := m_pieceOf h.bi g1 g3 (fun i hi => ⟨(g4 i hi).1, (g4 i hi).2.2⟩) hp
    have hc : popF 32 c = cntP (fun i => decide (G i = G p)) g' := by
      rw [popF_cnt]
      obtain ⟨k, hk⟩ := Nat.exists_eq_add_of_le g1
      rw [hk, cntP_add, cntP_none k (fun i _ => Bool.eq_false_iff.mpr (fun z => by have := ((c3 (g' + i)).mp z).1; omega)), Nat.add_zero]
      refine cntP_congr g' (fun i hi => ?_)
      refine Bool.eq_iff_iff.mpr ?_
      rw [c3, decide_eq_true_iff]
      exact ⟨fun z => ((a4 p i hp hi).mpr z.2).symm, fun z => ⟨hi, (a4 p i hp hi).mp z.symm⟩⟩
    rw [show oI (some p) = nI p from rfl, if_neg (nI_nm1 (by omega)), if_neg (nI_nm1 (by omega)), gCall_eq a1, x_piece g1 hp (by rw [a5 6 0 7 (by unfold p45; omega)]; exact g2) (fun a ha => ⟨a2 a ha, (a3.1 a ha).1⟩), gCall_eq c1, gCall_eq (many_ok c2 m), hc]
    exact ⟨_, _, _, rfl, rfl, INV_congr h (p45_X a5) Eqv.rf⟩
