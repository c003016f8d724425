/-! LAYER 2: ranks: how many of a row of masks are no sums of those ahead of them. -/
theorem nI_dn {a : Nat} (h : 0 < a) : nI a + (-1) = nI (a - 1) := by
  obtain ⟨k, rfl⟩ := Nat.exists_eq_succ_of_ne_zero (Nat.pos_iff_ne_zero.mp h)
  rw [show nI k.succ = nI k + 1 from (nI_1 k).symm, Int32.add_assoc, show (1 : Int32) + -1 = 0 from rfl, Int32.add_zero]
  rfl
theorem shr_bit {v k : Nat} (hv : v < 2147483648) (hk : k < 32) : (nI v >>> (nI k &&& 31)) &&& 1 = nI (if v.testBit k then 1 else 0) := by
  rw [nI_shr hk hv, show (1 : Int32) = nI 1 from rfl, nI_and, Nat.and_one_is_mod, Nat.testBit_eq_decide_div_mod_eq]
  rcases Nat.mod_two_eq_zero_or_one (v / 2 ^ k) with h | h <;> simp [h]
def sp (r : Nat → Nat) : Nat → Nat → Bool
  | 0, v => decide (v = 0)
  | n + 1, v => sp r n v || sp r n (v ^^^ r n)
def rk (r : Nat → Nat) : Nat → Nat
  | 0 => 0
  | n + 1 => rk r n + (if sp r n (r n) then 0 else 1)
theorem xr1 (u r : Nat) : (u ^^^ r) ^^^ r = u := by rw [Nat.xor_assoc, Nat.xor_self, Nat.xor_zero]
theorem xr2 (u v r : Nat) : (u ^^^ v) ^^^ r = (u ^^^ r) ^^^ v := by rw [Nat.xor_assoc, Nat.xor_comm v r, ← Nat.xor_assoc]
theorem xr3 (u v r : Nat) : (u ^^^ r) ^^^ (v ^^^ r) = u ^^^ v := by rw [← Nat.xor_assoc, xr2, xr1]
theorem sp_0 (r : Nat → Nat) : ∀ n, sp r n 0 = true := by
  intro n
  induction n with
  | zero => rfl
  | succ n ih => simp only [sp]; rw [ih]; rfl
theorem sp_xor (r : Nat → Nat) : ∀ n u v, sp r n u = true → sp r n v = true → sp r n (u ^^^ v) = true := by
  intro n
  induction n with
  | zero =>
    intro u v h1 h2
    rw [of_decide_eq_true h1, of_decide_eq_true h2]
    rfl
  | succ n ih =>
    intro u v h1 h2
    simp only [sp, Bool.or_eq_true] at h1 h2 ⊢
    rcases h1 with h1 | h1 <;> rcases h2 with h2 | h2
    · exact Or.inl (ih u v h1 h2)
    · refine Or.inr ?_
      rw [Nat.xor_assoc]
      exact ih _ _ h1 h2
    · refine Or.inr ?_
      rw [xr2]
      exact ih _ _ h1 h2
    · refine Or.inl ?_
      rw [← xr3 u v (r n)]
      exact ih _ _ h1 h2
theorem sp_up {r : Nat → Nat} {n v : Nat} (h : sp r n v = true) : sp r (n + 1) v = true := by
  simp only [sp]; rw [h]; rfl
theorem sp_in {r : Nat → Nat} {n v : Nat} (h : sp r n (r n) = true) : sp r (n + 1) v = sp r n v := by
  simp only [sp]
  by_cases e : sp r n v = true
  · rw [e]; rfl
  · have : sp r n (v ^^^ r n) = false := by
      rw [Bool.eq_false_iff]
      intro z
      have := sp_xor r n _ _ z h
      rw [xr1] at this
      exact e this
    rw [this, Bool.or_false]
theorem pxor {n i : Nat} (h : i < 2 ^ n) : 2 ^ n + i = 2 ^ n ^^^ i := by
  have h1 := Nat.two_pow_add_eq_or_of_lt h 1
  rw [Nat.mul_one] at h1
  rw [h1]
  apply Nat.eq_of_testBit_eq
  intro j
  rw [Nat.testBit_or, Nat.testBit_xor, Nat.testBit_two_pow]
  by_cases e : n = j
  · subst e
    rw [Nat.testBit_lt_two_pow h]
    simp
  · simp [e]
theorem cnt_xor : ∀ (n a : Nat) (p : Nat → Bool), a < 2 ^ n → cntP (fun v => p (v ^^^ a)) (2 ^ n) = cntP p (2 ^ n) := by
  intro n
  induction n with
  | zero =>
    intro a p ha
    have : a = 0 := by omega
    subst this
    simp [cntP]
  | succ n ih =>
    intro a p ha
    rw [Nat.pow_succ, Nat.mul_two] at ha
    rw [Nat.pow_succ, Nat.mul_two, cntP_add, cntP_add]
    rcases Nat.lt_or_ge a (2 ^ n) with h | h
    · rw [ih a p h]
      congr 1
      rw [← ih a (fun i => p (2 ^ n + i)) h]
      refine cntP_congr _ (fun i hi => ?_)
      rw [pxor hi, Nat.xor_assoc, ← pxor (Nat.xor_lt_two_pow hi h)]
    · obtain ⟨b, rfl⟩ := Nat.exists_eq_add_of_le h
      have hb : b < 2 ^ n := by omega
      rw [← ih b p hb, ← ih b (fun i => p (2 ^ n + i)) hb, Nat.add_comm]
      congr 1
      · refine cntP_congr _ (fun i hi => ?_)
        rw [pxor hi, pxor hb, Nat.xor_comm (2 ^ n) i, ← Nat.xor_assoc, xr1]
      · refine cntP_congr _ (fun i hi => ?_)
        rw [pxor hb, Nat.xor_comm (2 ^ n) b, ← Nat.xor_assoc, Nat.xor_comm _ (2 ^ n), ← pxor (Nat.xor_lt_two_pow hi hb)]
theorem cntP_or {p q : Nat → Bool} : ∀ n, (∀ i, i < n → p i = true → q i = false) → cntP (fun i => p i || q i) n = cntP p n + cntP q n := by
  intro n
  induction n with
  | zero => intro _; rfl
  | succ n ih =>
    intro h
    simp only [cntP]
    rw [ih (fun i hi => h i (by omega))]
    have h0 := h n (by omega)
    by_cases e : p n = true
    · have e2 := h0 e
      simp only [e, e2, Bool.or_false, ↓reduceIte, Bool.false_eq_true]
      omega
    · have e2 : p n = false := Bool.eq_false_iff.mpr e
      simp only [e2, Bool.false_or, ↓reduceIte, Bool.false_eq_true]
      omega
theorem sp_size (r : Nat → Nat) : ∀ n, (∀ i, i < n → r i < 1024) → cntP (sp r n) 1024 = 2 ^ rk r n := by
  intro n
  induction n with
  | zero =>
    intro _
    have h := cntP_new (p := fun _ => false) (q := sp r 0) (a := 0) (fun i => by simp [sp]) rfl 1024
    rw [h, cntP_none _ (fun _ _ => rfl)]
    rfl
  | succ n ih =>
    intro hr
    have h0 := ih (fun i hi => hr i (by omega))
    by_cases e : sp r n (r n) = true
    · rw [show sp r (n + 1) = sp r n from funext fun v => sp_in e, h0]
      simp only [rk]
      rw [if_pos e, Nat.add_zero]
    · have hd : ∀ v, sp r n v = true → sp r n (v ^^^ r n) = false := by
        intro v hv
        rw [Bool.eq_false_iff]
        intro z
        have := sp_xor r n _ _ hv z
        rw [← Nat.xor_assoc, Nat.xor_self, Nat.zero_xor] at this
        exact e this
      have h2 := cntP_or (p := sp r n) (q := fun v => sp r n (v ^^^ r n)) 1024 (fun i _ hi => hd i hi)
      have h3 := cnt_xor 10 (r n) (sp r n) (hr n (by omega))
      rw [show (2 : Nat) ^ 10 = 1024 from rfl] at h3
      rw [h3, h0] at h2
      simp only [rk]
      rw [if_neg e, Nat.pow_succ, Nat.mul_two]
      exact h2
theorem sp_congr {r r' : Nat → Nat} : ∀ n, (∀ i, i < n → r i = r' i) → ∀ v, sp r n v = sp r' n v := by
  intro n
  induction n with
  | zero => intro _ v; rfl
  | succ n ih => intro h v; simp only [sp]; rw [ih (fun i hi => h i (by omega)), ih (fun i hi => h i (by omega)), h n (by omega)]
theorem rk_congr {r r' : Nat → Nat} : ∀ n, (∀ i, i < n → r i = r' i) → rk r n = rk r' n := by
  intro n
  induction n with
  | zero => intro _; rfl
  | succ n ih => intro h; simp only [rk]; rw [ih (fun i hi => h i (by omega)), sp_congr n (fun i hi => h i (by omega)), h n (by omega)]
def cat (f g : Nat → Nat) (b t : Nat) : Nat := if t < b then f t else g (t - b)
theorem sp_cat (f g : Nat → Nat) (b : Nat) : ∀ k v, sp (cat f g b) (b + k) v = true ↔ ∃ s, sp f b s = true ∧ sp g k (v ^^^ s) = true := by
  intro k
  induction k with
  | zero =>
    intro v
    rw [Nat.add_zero, sp_congr (r := cat f g b) (r' := f) b (fun i hi => if_pos hi)]
    constructor
    · intro h
      exact ⟨v, h, by rw [Nat.xor_self]; rfl⟩
    · rintro ⟨s, h1, h2⟩
      have h3 := of_decide_eq_true h2
      have : v = s := by
        have := xr1 v s
        rw [h3, Nat.zero_xor] at this
        exact this.symm
      rw [this]; exact h1
  | succ k ih =>
    intro v
    rw [← Nat.add_assoc]
    simp only [sp, Bool.or_eq_true]
    rw [ih, ih, show cat f g b (b + k) = g k by unfold cat; rw [if_neg (by omega), Nat.add_sub_cancel_left]]
    constructor
    · rintro (⟨s, h1, h2⟩ | ⟨s, h1, h2⟩)
      · exact ⟨s, h1, Or.inl h2⟩
      · exact ⟨s, h1, Or.inr (by rw [xr2]; exact h2)⟩
    · rintro ⟨s, h1, h2 | h2⟩
      · exact Or.inl ⟨s, h1, h2⟩
      · exact Or.inr ⟨s, h1, by rw [xr2]; exact h2⟩
theorem rk_swap (f g : Nat → Nat) (b : Nat) (hf : ∀ i, i < b → f i < 1024) (hg : ∀ i, i < b → g i < 1024) : rk (cat f g b) (b + b) = rk (cat g f b) (b + b) := by
  have hc : ∀ f g : Nat → Nat, (∀ i, i < b → f i < 1024) → (∀ i, i < b → g i < 1024) → ∀ i, i < b + b → cat f g b i < 1024 := by
    intro f g hf hg i hi
    unfold cat
    split
    · exact hf i (by omega)
    · exact hg _ (by omega)
  have h1 := sp_size _ _ (hc f g hf hg)
  have h2 := sp_size _ _ (hc g f hg hf)
  have h3 : sp (cat f g b) (b + b) = sp (cat g f b) (b + b) := by
    have hh : ∀ f g v, sp (cat f g b) (b + b) v = true → sp (cat g f b) (b + b) v = true := by
      intro f g v h
      obtain ⟨s, h1, h2⟩ := (sp_cat f g b b v).mp h
      refine (sp_cat g f b b v).mpr ⟨v ^^^ s, h2, ?_⟩
      rw [← Nat.xor_assoc, Nat.xor_self, Nat.zero_xor]
      exact h1
    exact funext fun v => Bool.eq_iff_iff.mpr ⟨hh f g v, hh g f v⟩
  rw [h3] at h1
  exact (Nat.pow_right_inj (by omega)).mp (h1.symm.trans h2)
/-- masks, ways and bits as they lie on both sides -/
def XK (x : gM) (W b : Nat) (mk : Nat → Nat → Nat) : Prop := (x 3 0 0 = nI W ∧ x 3 0 1 = nI b ∧ W ≤ 4 ∧ b ≤ 4) ∧ ∀ w j, w < W → j < b → x 25 0 (4 * w + j) = nI (mk w j) ∧ mk w j < 1024
def MK (m : gM) (W b : Nat) (mk : Nat → Nat → Nat) : Prop := (m 47 0 36 = nI W ∧ m 47 0 37 = nI b ∧ W ≤ 4 ∧ b ≤ 4) ∧ ∀ w j, w < W → j < b → m 47 0 (47 + 4 * w + j) = nI (mk w j) ∧ mk w j < 1024
theorem XK_of {x : gM} {N : Nat} {B : Nat → Int32} (hR : RS x 0 B N) (hB : BI B N) : XK x (bW B) (bN B) (bMk B) := by
  have hw4 := hB.1.2.2
  have hb4 := hB.2.1.2.2
  refine ⟨⟨by rw [hR.1.1]; exact hB.1.1, by rw [hR.1.2.1]; exact hB.2.1.1, hw4, hb4⟩, fun w j hw hj => ?_⟩
  have := hB.2.2.2.2.2.1 w j (by omega) (by omega)
  rw [hR.2.2.1 _ (by omega) (by omega) (by omega), show 11 + (4 * w + j) = 11 + 4 * w + j by omega]
  exact this
theorem MK_of {m : gM} {N : Nat} (hB : BI (mB m) N) : MK m (bW (mB m)) (bN (mB m)) (bMk (mB m)) := by
  have hw4 := hB.1.2.2
  have hb4 := hB.2.1.2.2
  refine ⟨⟨hB.1.1, hB.2.1.1, hw4, hb4⟩, fun w j hw hj => ?_⟩
  have := hB.2.2.2.2.2.1 w j (by omega) (by omega)
  rw [← this.1]
  refine ⟨?_, this.2⟩
  show m 47 0 (47 + 4 * w + j) = m 47 0 (36 + (11 + 4 * w + j))
  congr 1; omega
theorem XK_cg {x x' : gM} {W b : Nat} {mk : Nat → Nat → Nat} (h : XK x W b mk) (e : ∀ t i, t = 3 ∨ t = 25 → x' t 0 i = x t 0 i) : XK x' W b mk := by
  obtain ⟨⟨h1, h2, h3, h4⟩, h5⟩ := h
  exact ⟨⟨by rw [e 3 _ (Or.inl rfl)]; exact h1, by rw [e 3 _ (Or.inl rfl)]; exact h2, h3, h4⟩, fun w j hw hj => by rw [e 25 _ (Or.inr rfl)]; exact h5 w j hw hj⟩
theorem MK_cg {m m' : gM} {W b : Nat} {mk : Nat → Nat → Nat} (h : MK m W b mk) (e : ∀ i, m' 47 0 i = m 47 0 i) : MK m' W b mk := by
  obtain ⟨⟨h1, h2, h3, h4⟩, h5⟩ := h
  exact ⟨⟨by rw [e]; exact h1, by rw [e]; exact h2, h3, h4⟩, fun w j hw hj => by rw [e]; exact h5 w j hw hj⟩
def p43 (t k _i : Nat) : Prop := t = 43 ∧ k = 0
def p55 (t k _i : Nat) : Prop := t = 55 ∧ k = 0
theorem x_add {x : gM} {W b w c : Nat} {mk : Nat → Nat → Nat} {r : Nat → Nat} (h : XK x W b mk) (hw : w < W) (hc : c + b ≤ 16) (hr : ∀ j, j < b → r (c + j) = mk w j) (hx : ∀ k, k < c → x 43 0 k = nI (r k)) : ∃ x', X7_addMasks 0 (nI w) (nI c) x = some (nI (c + b), x') ∧ (∀ k, k < c + b → x' 43 0 k = nI (r k)) ∧ Eqv p43 x x' := by
  unfold X7_addMasks
  obtain ⟨⟨h1, h2, h3, h4⟩, h5⟩ := id h
  refine gL2_for (fun j v σ => v = nI (c + j) ∧ (∀ k, k < c + j → σ 43 0 k = nI (r k)) ∧ Eqv p43 x σ) (fun o => ∃ x', o = some (nI (c + b), x') ∧ (∀ k, k < c + b → x' 43 0 k = nI (r k)) ∧ Eqv p43 x x') b ?_ ?_ FU 0 _ x (Nat.zero_le _) (by rw [FU_eq]; omega) ⟨rfl, hx, Eqv.rf⟩
  · rintro j v σ K hj ⟨rfl, g1, g2⟩ hK
    unfold X7_addMasks_b6
    have hma : X8_maskAt (nI w) (nI j) σ = some (nI (4 * w + j), σ) := by
      unfold X8_maskAt
      rw [li4, pk_mul, nI_add, Nat.mul_comm]
    rw [g2 3 0 1 (by unfold p43; omega), h2, if_neg (by rw [nI_leq (by omega) (by omega)]; omega), if_neg (by rw [li16, nI_leq (by omega) (by omega)]; omega), gCall_eq hma, gAt_nI (show 4 * w + j < 16 by omega) (by omega), g2 25 0 _ (by unfold p43; omega), (h5 w j hw hj).1, gPut_nI (show c + j < 16 by omega) (by omega), gLet, gLet, nI_1, nI_1]
    refine hK _ _ ⟨rfl, fun k hk => ?_, g2.tr (Eqv.up ⟨rfl, rfl⟩)⟩
    rw [gup_at]
    by_cases e : k = c + j
    · rw [if_pos e, e, hr j hj]
    · rw [if_neg e]; exact g1 k (by omega)
  · rintro v σ K ⟨rfl, g1, g2⟩
    unfold X7_addMasks_b6
    rw [g2 3 0 1 (by unfold p43; omega), h2, if_pos (by rw [nI_leq (by omega) (by omega)]; omega)]
    exact ⟨σ, rfl, g1, g2⟩
theorem low_dec : (List.range 1024).all (fun u => decide (u = 0) || (List.range 10).any (fun p => decide (nI u &&& -(nI u) = nI (2 ^ p)) && u.testBit p)) = true := by decide +kernel
theorem low_bit {u : Nat} (hu : u < 1024) (h0 : u ≠ 0) : ∃ p, p < 10 ∧ nI u &&& -(nI u) = nI (2 ^ p) ∧ u.testBit p = true := by
  have h := List.all_eq_true.mp low_dec u (List.mem_range.mpr hu)
  rw [decide_eq_false h0, Bool.false_or, List.any_eq_true] at h
  obtain ⟨p, hp, h2⟩ := h
  rw [Bool.and_eq_true] at h2
  exact ⟨p, List.mem_range.mp hp, of_decide_eq_true h2.1, h2.2⟩
theorem and_bit {u p : Nat} (hu : u < 2147483648) (hp : p < 31) : nI u &&& nI (2 ^ p) = 0 ↔ u.testBit p = false := by
  have h2 : 2 ^ p ≤ 2 ^ 30 := Nat.pow_le_pow_right (by omega) (by omega)
  have hle : u &&& 2 ^ p ≤ u := Nat.and_le_left
  rw [nI_and, nI_z (by omega)]
  constructor
  · intro h
    have h3 := Nat.testBit_and u (2 ^ p) p
    rw [h, Nat.zero_testBit, Nat.testBit_two_pow_self, Bool.and_true] at h3
    exact h3.symm
  · intro h
    apply Nat.eq_of_testBit_eq
    intro i
    rw [Nat.testBit_and, Nat.testBit_two_pow, Nat.zero_testBit]
    by_cases e : p = i
    · subst e; rw [h]; rfl
    · rw [decide_eq_false e, Bool.and_false]
theorem x_clear {x : gM} {n i : Nat} {u : Nat → Nat} (hn : n ≤ 16) (hi : i < n) (hu : ∀ k, i ≤ k → k < n → x 43 0 k = nI (u k) ∧ u k < 1024) (h0 : u i ≠ 0) : ∃ p x', X7_clearBelow (nI i) (nI n) x = some ((), x') ∧ (u i).testBit p = true ∧ (∀ k, i < k → k < n → x' 43 0 k = nI (if (u k).testBit p then u k ^^^ u i else u k)) ∧ Eqv p43 x x' := by
  obtain ⟨p, hp, hp1, hp2⟩ := low_bit (hu i (Nat.le_refl _) hi).2 h0
  unfold X7_clearBelow
  rw [gAt_nI (show i < 16 by omega) (by omega), gAt_nI (show i < 16 by omega) (by omega), (hu i (Nat.le_refl _) hi).1, gLet, hp1, gLet, nI_1]
  refine ⟨p, ?_⟩
  refine gL1_for (fun k σ => i < k ∧ (∀ q, i < q → q < n → σ 43 0 q = nI (if q < k ∧ (u q).testBit p then u q ^^^ u i else u q)) ∧ σ 43 0 i = nI (u i) ∧ Eqv p43 x σ) (fun o => ∃ x', o = some ((), x') ∧ (u i).testBit p = true ∧ (∀ k, i < k → k < n → x' 43 0 k = nI (if (u k).testBit p then u k ^^^ u i else u k)) ∧ Eqv p43 x x') n ?_ ?_ FU (i + 1) x (by omega) (by rw [FU_eq]; omega) ⟨by omega, fun q hq hn => by rw [if_neg (by omega)]; exact (hu q (by omega) hn).1, (hu i (Nat.le_refl _) hi).1, Eqv.rf⟩
  · rintro k σ K hk ⟨hik, g1, g2, g3⟩ hK
    unfold X7_clearBelow_b20
    have hk1 := g1 k hik hk
    rw [if_neg (fun z => absurd z.1 (Nat.lt_irrefl _))] at hk1
    have huk := (hu k (by omega) hk).2
    have hui := (hu i (Nat.le_refl _) hi).2
    rw [if_neg (by rw [nI_leq (by omega) (by omega)]; omega), gAt_nI (show k < 16 by omega) (by omega), hk1]
    by_cases e : (u k).testBit p = false
    · rw [if_pos ((and_bit (by omega) (by omega)).mpr e), gLet, nI_1]
      refine hK _ ⟨by omega, fun q h1 h2 => ?_, g2, g3⟩
      rw [g1 q h1 h2]
      by_cases eq : q = k
      · subst eq
        rw [if_neg (fun z => absurd z.1 (Nat.lt_irrefl _)), if_neg (fun z => by rw [e] at z; exact absurd z.2 (by decide))]
      · by_cases hq : q < k
        · congr 1
          by_cases t : (u q).testBit p = true
          · rw [if_pos ⟨hq, t⟩, if_pos ⟨by omega, t⟩]
          · rw [if_neg (fun z => t z.2), if_neg (fun z => t z.2)]
        · rw [if_neg (fun z => hq z.1), if_neg (fun z => by omega)]
    · rw [if_neg (fun z => e ((and_bit (by omega) (by omega)).mp z)), gAt_nI (show k < 16 by omega) (by omega), hk1, gAt_nI (show i < 16 by omega) (by omega), g2, gPut_nI (show k < 16 by omega) (by omega), gLet, nI_1, nI_xor]
      have e' : (u k).testBit p = true := by rwa [Bool.not_eq_false] at e
      refine hK _ ⟨by omega, fun q h1 h2 => ?_, by rw [gup_at, if_neg (by omega)]; exact g2, g3.tr (Eqv.up ⟨rfl, rfl⟩)⟩
      rw [gup_at]
      by_cases eq : q = k
      · subst eq
        rw [if_pos rfl, if_pos ⟨by omega, e'⟩]
      · rw [if_neg eq, g1 q h1 h2]
        by_cases hq : q < k
        · congr 1
          by_cases t : (u q).testBit p = true
          · rw [if_pos ⟨hq, t⟩, if_pos ⟨by omega, t⟩]
          · rw [if_neg (fun z => t z.2), if_neg (fun z => t z.2)]
        · rw [if_neg (fun z => hq z.1), if_neg (fun z => by omega)]
  · rintro σ K ⟨hik, g1, g2, g3⟩
    unfold X7_clearBelow_b20
    rw [if_pos (by rw [nI_leq (by omega) (by omega)]; omega)]
    refine ⟨σ, rfl, hp2, fun k hk1 hk2 => ?_, g3⟩
    rw [g1 k hk1 hk2]
    congr 1
    by_cases t : (u k).testBit p = true
    · rw [if_pos ⟨hk2, t⟩, if_pos t]
    · rw [if_neg (fun z => t z.2), if_neg t]
theorem x_rows {x : gM} {n : Nat} {r : Nat → Nat} (hn : n ≤ 16) (hr : ∀ k, k < n → x 43 0 k = nI (r k) ∧ r k < 1024) : ∃ x', X7_rankOfRows (nI n) x = some (nI (rk r n), x') ∧ Eqv p43 x x' := by
  unfold X7_rankOfRows
  refine gL2_for (fun i v σ => v = nI (rk r i) ∧ Eqv p43 x σ ∧ ∃ (u : Nat → Nat) (pv : Nat → Prop), (∀ k, i ≤ k → k < n → σ 43 0 k = nI (u k) ∧ u k < 1024 ∧ sp r i (u k ^^^ r k) = true ∧ ∀ b, pv b → (u k).testBit b = false) ∧ ∀ v, sp r i v = true → (∀ b, pv b → v.testBit b = false) → v = 0) (fun o => ∃ x', o = some (nI (rk r n), x') ∧ Eqv p43 x x') n ?_ ?_ FU 0 0 x (Nat.zero_le _) (by rw [FU_eq]; omega) ⟨rfl, Eqv.rf, r, fun _ => False, fun k _ hk => ⟨(hr k hk).1, (hr k hk).2, by rw [Nat.xor_self]; rfl, fun b z => z.elim⟩, fun v hv _ => of_decide_eq_true hv⟩
  · rintro i v σ K hi ⟨rfl, g1, u, pv, g2, g3⟩ hK
    unfold X7_rankOfRows_b4
    obtain ⟨a1, a2, a3, a4⟩ := g2 i (Nat.le_refl _) hi
    rw [if_neg (by rw [nI_leq (by omega) (by omega)]; omega), gAt_nI (show i < 16 by omega) (by omega), a1]
    by_cases e : u i = 0
    · rw [if_pos (by rw [e]; rfl), gLet, nI_1]
      rw [e, Nat.zero_xor] at a3
      refine hK _ _ ⟨by simp only [rk]; rw [if_pos a3, Nat.add_zero], g1, u, pv, fun k h1 h2 => ?_, fun v hv => ?_⟩
      · obtain ⟨b1, b2, b3, b4⟩ := g2 k (by omega) h2
        exact ⟨b1, b2, sp_up b3, b4⟩
      · rw [sp_in a3] at hv
        exact g3 v hv
    · obtain ⟨p, x', c1, c2, c3, c4⟩ := x_clear (u := u) hn hi (fun k h1 h2 => ⟨(g2 k h1 h2).1, (g2 k h1 h2).2.1⟩) e
      rw [if_neg (fun z => e ((nI_z (by omega)).mp z)), gLet, gCall_eq c1, gLet, nI_1, nI_1]
      have hui : sp r (i + 1) (u i) = true := by
        simp only [sp]
        rw [a3, Bool.or_true]
      have hno : ¬ sp r i (r i) = true := by
        intro z
        have h1 := sp_xor r i _ _ a3 z
        rw [xr1] at h1
        exact e (g3 _ h1 a4)
      refine hK _ _ ⟨by simp only [rk]; rw [if_neg hno], g1.tr c4, fun k => if (u k).testBit p then u k ^^^ u i else u k, fun b => pv b ∨ b = p, fun k h1 h2 => ?_, fun v hv hb => ?_⟩
      · obtain ⟨b1, b2, b3, b4⟩ := g2 k (by omega) h2
        refine ⟨c3 k (by omega) h2, ?_, ?_, fun b hb => ?_⟩
        · dsimp only
          split
          · exact Nat.xor_lt_two_pow (n := 10) b2 a2
          · exact b2
        · dsimp only
          split
          · rw [xr2]
            exact sp_xor r (i + 1) _ _ (sp_up b3) hui
          · exact sp_up b3
        · dsimp only
          by_cases t : (u k).testBit p = true
          · rw [if_pos t, Nat.testBit_xor]
            rcases hb with hb | hb
            · rw [b4 b hb, a4 b hb]; rfl
            · rw [hb, t, c2]; rfl
          · rw [if_neg t]
            rcases hb with hb | hb
            · exact b4 b hb
            · rw [hb]; exact Bool.eq_false_iff.mpr t
      · simp only [sp, Bool.or_eq_true] at hv
        rcases hv with hv | hv
        · exact g3 v hv (fun b q => hb b (Or.inl q))
        · have h1 := sp_xor r i _ _ hv a3
          rw [Nat.xor_comm (u i) (r i), ← Nat.xor_assoc, xr1] at h1
          have h2 := g3 _ h1 (fun b q => by rw [Nat.testBit_xor, hb b (Or.inl q), a4 b q]; rfl)
          have h3 : v = u i := by
            have := xr1 v (u i)
            rw [h2, Nat.zero_xor] at this
            exact this.symm
          have := hb p (Or.inr rfl)
          rw [h3, c2] at this
          cases this
  · rintro v σ K ⟨rfl, g1, u, pv, g2, g3⟩
    unfold X7_rankOfRows_b4
    rw [if_pos (by rw [nI_leq (by omega) (by omega)]; omega)]
    exact ⟨σ, rfl, g1⟩
/-- the reference's sums: each by its highest bit -/
def SU (r : Nat → Nat) (i : Nat) (σ : gM) : Prop := ∃ s : Nat → Nat, (∀ k, k < 10 → σ 55 0 k = nI (s k) ∧ s k < 2 ^ (k + 1) ∧ (s k ≠ 0 → (s k).testBit k = true ∧ sp r i (s k) = true)) ∧ ∀ v k, sp r i v = true → k < 10 → v < 2 ^ (k + 1) → v.testBit k = true → s k ≠ 0
theorem SU_in {r : Nat → Nat} {i : Nat} {σ : gM} (h : SU r i σ) (e : sp r i (r i) = true) : SU r (i + 1) σ := by
  obtain ⟨s, h1, h2⟩ := h
  refine ⟨s, fun k hk => ⟨(h1 k hk).1, (h1 k hk).2.1, fun z => ⟨((h1 k hk).2.2 z).1, sp_up ((h1 k hk).2.2 z).2⟩⟩, fun v k hv => ?_⟩
  rw [sp_in e] at hv
  exact h2 v k hv
def pnI : Nat → Int32
  | 0 => -1
  | k + 1 => nI k
theorem half_lt {v k : Nat} (h : v < 2 ^ (k + 1)) (hb : v.testBit k = false) : v < 2 ^ k := by
  apply Nat.lt_pow_two_of_testBit
  intro i hi
  rcases Nat.lt_or_ge k i with z | z
  · exact Nat.testBit_lt_two_pow (Nat.lt_of_lt_of_le h (Nat.pow_le_pow_right (by omega) z))
  · rw [show i = k by omega]; exact hb
theorem m_ins {β : Type} {P : Option β → Prop} {r : Nat → Nat} {i : Nat} {σ0 σ : gM} {kk : Int32 → Int32 → gM → Option β} {j : Int32} {f : Int32 → Int32 → Int32 → gM → (Int32 → Int32 → Int32 → gM → Option β) → Option β}
    (hr : r i < 1024) (hS : SU r i σ) (hE : Eqv p55 σ0 σ) (hc : i < 1000)
    (f0 : ∀ c v σ K, f (nI c) v (-1) σ K = kk (nI c) j σ) (f1 : ∀ c k σ K, k < 10 → f (nI c) 0 (nI k) σ K = kk (nI c) j σ)
    (f2 : ∀ c v k σ K, k < 10 → v ≠ 0 → v < 1024 → v.testBit k = false → f (nI c) (nI v) (nI k) σ K = K (nI c) (nI v) (pnI k) σ)
    (f3 : ∀ c v k σ K, k < 10 → v ≠ 0 → v < 1024 → v.testBit k = true → σ 55 0 k = 0 → f (nI c) (nI v) (nI k) σ K = K (nI (c + 1)) 0 (pnI k) (gup σ 55 0 k (nI v)))
    (f4 : ∀ c v k s σ K, k < 10 → v ≠ 0 → v < 1024 → v.testBit k = true → σ 55 0 k = nI s → s ≠ 0 → s < 1024 → f (nI c) (nI v) (nI k) σ K = K (nI c) (nI (v ^^^ s)) (pnI k) σ)
    (hk : ∀ σ', SU r (i + 1) σ' → Eqv p55 σ0 σ' → P (kk (nI (rk r (i + 1))) j σ')) : P (gL3 FU f (nI (rk r i)) (nI (r i)) (nI 9) σ) := by
  refine gL3_rec (fun q a b c τ => c = pnI q ∧ Eqv p55 σ0 τ ∧ q ≤ 10 ∧ ((a = nI (rk r i) ∧ SU r i τ ∧ ∃ v, b = nI v ∧ v < 2 ^ q ∧ sp r i (v ^^^ r i) = true) ∨ (a = nI (rk r (i + 1)) ∧ b = 0 ∧ SU r (i + 1) τ))) P ?_ FU 10 _ _ _ σ (by rw [FU_eq]; omega) ⟨rfl, hE, Nat.le_refl _, Or.inl ⟨rfl, hS, r i, rfl, hr, by rw [Nat.xor_self]; exact sp_0 r i⟩⟩
  rintro q a b c τ K ⟨rfl, hE, hq, hh⟩ hK
  rcases hh with ⟨rfl, hS, v, rfl, hv, hs⟩ | ⟨rfl, rfl, hS⟩
  · have fin : v = 0 → SU r (i + 1) τ ∧ rk r (i + 1) = rk r i := by
      intro z
      rw [z, Nat.zero_xor] at hs
      exact ⟨SU_in hS hs, by simp only [rk]; rw [if_pos hs, Nat.add_zero]⟩
    cases q with
    | zero =>
      obtain ⟨z1, z2⟩ := fin (by omega)
      show P (f _ _ (-1) τ K)
      rw [f0, ← z2]
      exact hk τ z1 hE
    | succ k =>
      show P (f _ _ (nI k) τ K)
      by_cases hv0 : v = 0
      · obtain ⟨z1, z2⟩ := fin hv0
        rw [hv0, show nI 0 = 0 from rfl, f1 _ _ _ _ (by omega), ← z2]
        exact hk τ z1 hE
      · have hvs : v < 1024 := Nat.lt_of_lt_of_le hv (show 2 ^ (k + 1) ≤ 2 ^ 10 from Nat.pow_le_pow_right (by omega) (by omega))
        by_cases hb : v.testBit k = false
        · rw [f2 _ _ _ _ _ (by omega) hv0 hvs hb]
          exact hK k _ _ _ τ (by omega) ⟨rfl, hE, by omega, Or.inl ⟨rfl, hS, v, rfl, half_lt hv hb, hs⟩⟩
        · have hb' : v.testBit k = true := by rwa [Bool.not_eq_false] at hb
          obtain ⟨s, s1, s2⟩ := id hS
          obtain ⟨t1, t2, t3⟩ := s1 k (by omega)
          by_cases h0 : s k = 0
          · rw [h0] at t1
            rw [f3 _ _ _ _ _ (by omega) hv0 hvs hb' t1]
            have hnv : ¬ sp r i v = true := fun z => s2 v k z (by omega) hv hb' h0
            have hno : ¬ sp r i (r i) = true := by
              intro z
              have := sp_xor r i _ _ hs z
              rw [xr1] at this
              exact hnv this
            have hvin : sp r (i + 1) v = true := by
              simp only [sp]
              rw [hs, Bool.or_true]
            refine hK k _ _ _ _ (by omega) ⟨rfl, hE.tr (Eqv.up ⟨rfl, rfl⟩), by omega, Or.inr ⟨by simp only [rk]; rw [if_neg hno], rfl, fun q => if q = k then v else s q, fun q hq => ?_, fun w q hw hq hlt hbit => ?_⟩⟩
            · rw [gup_at]
              by_cases e : q = k
              · subst e
                simp only [↓reduceIte]
                exact ⟨trivial, hv, fun _ => ⟨hb', hvin⟩⟩
              · simp only [if_neg e]
                obtain ⟨u1, u2, u3⟩ := s1 q hq
                exact ⟨u1, u2, fun z => ⟨(u3 z).1, sp_up (u3 z).2⟩⟩
            · dsimp only
              by_cases e : q = k
              · rw [if_pos e]; exact hv0
              · rw [if_neg e]
                simp only [sp, Bool.or_eq_true] at hw
                rcases hw with hw | hw
                · exact s2 w q hw hq hlt hbit
                · have h1 := sp_xor r i _ _ hw hs
                  rw [Nat.xor_comm v (r i), ← Nat.xor_assoc, xr1] at h1
                  rcases Nat.lt_or_ge q k with z | z
                  · exfalso
                    have hwk : w < 2 ^ k := Nat.lt_of_lt_of_le hlt (Nat.pow_le_pow_right (by omega) z)
                    refine s2 (w ^^^ v) k h1 (by omega) (Nat.xor_lt_two_pow (Nat.lt_trans hwk (Nat.pow_lt_pow_right (by omega) (by omega))) hv) ?_ h0
                    rw [Nat.testBit_xor, Nat.testBit_lt_two_pow hwk, hb']; rfl
                  · have hvq : v < 2 ^ q := Nat.lt_of_lt_of_le hv (Nat.pow_le_pow_right (by omega) (by omega))
                    refine s2 (w ^^^ v) q h1 hq (Nat.xor_lt_two_pow hlt (Nat.lt_trans hvq (Nat.pow_lt_pow_right (by omega) (by omega)))) ?_
                    rw [Nat.testBit_xor, Nat.testBit_lt_two_pow hvq, hbit]; rfl
          · have hsk : s k < 1024 := Nat.lt_of_lt_of_le t2 (show 2 ^ (k + 1) ≤ 2 ^ 10 from Nat.pow_le_pow_right (by omega) (by omega))
            rw [f4 _ _ _ _ _ _ (by omega) hv0 hvs hb' t1 h0 hsk]
            obtain ⟨t4, t5⟩ := t3 h0
            refine hK k _ _ _ τ (by omega) ⟨rfl, hE, by omega, Or.inl ⟨rfl, hS, v ^^^ s k, rfl, half_lt (Nat.xor_lt_two_pow hv t2) (by rw [Nat.testBit_xor, hb', t4]; rfl), ?_⟩⟩
            rw [xr2]
            exact sp_xor r i _ _ hs t5
  · cases q with
    | zero =>
      show P (f _ _ (-1) τ K)
      rw [f0]
      exact hk τ hS hE
    | succ k =>
      show P (f _ _ (nI k) τ K)
      rw [f1 _ _ _ _ (by omega)]
      exact hk τ hS hE
theorem pn_dn (k : Nat) : nI k + (-1) = pnI k := by
  cases k with
  | zero => rfl
  | succ k => rw [nI_dn (Nat.succ_pos _)]; rfl
theorem m_zero55 {m : gM} {β : Type} (R : gM → Option β) {f : Int32 → gM → (Int32 → gM → Option β) → Option β} (h1 : ∀ i σ K, i < 10 → f (nI i) σ K = K (nI (i + 1)) (gup σ 55 0 i 0)) (h2 : ∀ σ K, f (nI 10) σ K = R σ) : ∃ m', gL1 FU f 0 m = R m' ∧ (∀ k, k < 10 → m' 55 0 k = 0) ∧ Eqv p55 m m' := by
  refine gL1_for (fun i σ => (∀ k, k < i → σ 55 0 k = 0) ∧ Eqv p55 m σ) (fun r => ∃ m', r = R m' ∧ (∀ k, k < 10 → m' 55 0 k = 0) ∧ Eqv p55 m m') 10 ?_ ?_ FU 0 m (Nat.zero_le _) (by rw [FU_eq]; omega) ⟨fun k hk => by omega, Eqv.rf⟩
  · rintro i σ K hi ⟨g1, g2⟩ hK
    rw [h1 i σ K hi]
    refine hK _ ⟨fun k hk => ?_, g2.tr (Eqv.up ⟨rfl, rfl⟩)⟩
    rw [gup_at]
    by_cases e : k = i
    · rw [if_pos e]
    · rw [if_neg e]; exact g1 k (by omega)
  · rintro σ K ⟨g1, g2⟩
    rw [h2]
    exact ⟨σ, rfl, g1, g2⟩
theorem m_rank {m : gM} {W b : Nat} {mk : Nat → Nat → Nat} {incl : Nat → Bool} {a : Int32} {r : Nat → Nat} (h : MK m W b mk) (ha : ∀ w, w < W → ((a >>> (nI w &&& 31)) &&& 1 = 1 ↔ incl w = true)) (hr : ∀ w, w < W → incl w = true → ∀ j, j < b → r (b * cntP incl w + j) = mk w j) : ∃ m', X9_rankOf a m = some (nI (rk r (b * cntP incl W)), m') ∧ Eqv p55 m m' := by
  unfold X9_rankOf
  obtain ⟨⟨h1, h2, h3, h4⟩, h5⟩ := id h
  rw [gJ0_e]
  obtain ⟨m0, e0, e1, e2⟩ := m_zero55 (m := m) (fun m1 => gL2 FU (X9_rankOf_b25 a) 0 0 m1) (f := X9_rankOf_b4 (fun m1 => gL2 FU (X9_rankOf_b25 a) 0 0 m1)) (fun i σ K hi => by
    unfold X9_rankOf_b4
    rw [if_neg (by rw [li10, nI_leq (by omega) (by omega)]; omega), gPut_nI (show i < 10 from hi) (by omega), gLet, nI_1]) (fun σ K => by
    unfold X9_rankOf_b4
    rw [if_pos (by rw [li10, nI_leq (by omega) (by omega)]; omega)])
  rw [e0]
  have s0 : SU r 0 m0 := ⟨fun _ => 0, fun k hk => ⟨e1 k hk, Nat.two_pow_pos _, fun z => absurd rfl z⟩, fun v k hv hk hlt hb => by rw [of_decide_eq_true hv, Nat.zero_testBit] at hb; cases hb⟩
  refine gL2_for (fun w v σ => v = nI (rk r (b * cntP incl w)) ∧ SU r (b * cntP incl w) σ ∧ Eqv p55 m σ) (fun o => ∃ m', o = some (nI (rk r (b * cntP incl W)), m') ∧ Eqv p55 m m') W ?_ ?_ FU 0 0 m0 (Nat.zero_le _) (by rw [FU_eq]; omega) ⟨rfl, s0, e2⟩
  · rintro w v σ K hw ⟨rfl, g1, g2⟩ hK
    unfold X9_rankOf_b25
    rw [show gAt σ 47 0 36 _ = _ from gAt_nI (i := 36) (show 36 < 30843 by omega) (by omega), g2 47 0 36 (by unfold p55; omega), h1, if_neg (by rw [nI_leq (by omega) (by omega)]; omega)]
    by_cases hi : incl w = true
    · have hcw : cntP incl (w + 1) = cntP incl w + 1 := by simp only [cntP]; rw [if_pos hi]
      have hcl : cntP incl w ≤ w := cntP_le _ _
      have hmul : b * cntP incl w ≤ 4 * 4 := Nat.mul_le_mul h4 (by omega)
      refine gL2_for (fun j v τ => v = nI (rk r (b * cntP incl w + j)) ∧ SU r (b * cntP incl w + j) τ ∧ Eqv p55 m τ) (fun o => ∃ m', o = some (nI (rk r (b * cntP incl W)), m') ∧ Eqv p55 m m') b ?_ ?_ FU 0 _ σ (Nat.zero_le _) (by rw [FU_eq]; omega) ⟨rfl, g1, g2⟩
      · rintro j v τ K2 hj ⟨rfl, k1, k2⟩ hK2
        unfold X9_rankOf_b39
        have hma : X9_maskAt (nI w) (nI j) τ = some (nI (47 + 4 * w + j), τ) := by
          unfold X9_maskAt
          rw [li47, li4, pk_mul, nI_add, nI_add]
        rw [show gAt τ 47 0 37 _ = _ from gAt_nI (i := 37) (show 37 < 30843 by omega) (by omega), k2 47 0 37 (by unfold p55; omega), h2, if_neg (by rw [nI_leq (by omega) (by omega)]; omega), if_pos ((ha w hw).mpr hi), gCall_eq hma, gAt_nI (show 47 + 4 * w + j < 30843 by omega) (by omega), k2 47 0 _ (by unfold p55; omega), (h5 w j hw hj).1, ← hr w hw hi j hj]
        have hrl : r (b * cntP incl w + j) < 1024 := by rw [hr w hw hi j hj]; exact (h5 w j hw hj).2
        refine m_ins (P := fun o => ∃ m', o = some (nI (rk r (b * cntP incl W)), m') ∧ Eqv p55 m m') (kk := K2) (j := nI (j + 1)) (σ0 := m) hrl k1 k2 (by omega) (fun c v σ' K' => ?_) (fun c k σ' K' hk => ?_) (fun c v k σ' K' hk hv0 hv hb => ?_) (fun c v k σ' K' hk hv0 hv hb hs => ?_) (fun c v k s σ' K' hk hv0 hv hb hs hs0 hs1 => ?_) (fun σ' z1 z2 => ?_)
        · unfold X9_rankOf_b77
          rw [if_pos (by decide), gLet, nI_1]
        · unfold X9_rankOf_b77
          rw [if_neg (nI_neg (by omega)), if_pos rfl, gLet, nI_1]
        · unfold X9_rankOf_b77
          rw [if_neg (nI_neg (by omega)), if_neg (fun z => hv0 ((nI_z (by omega)).mp z)), shr_bit (by omega) (by omega), hb, if_neg (show ¬ false = true by decide), if_pos (show nI 0 = 0 from rfl), gLet, pn_dn]
        · unfold X9_rankOf_b77
          rw [if_neg (nI_neg (by omega)), if_neg (fun z => hv0 ((nI_z (by omega)).mp z)), shr_bit (by omega) (by omega), hb, if_pos rfl, if_neg (by decide), gAt_nI (show k < 10 from hk) (by omega), hs, if_pos rfl, gPut_nI (show k < 10 from hk) (by omega), gLet, gLet, pn_dn, nI_1]
        · unfold X9_rankOf_b77
          rw [if_neg (nI_neg (by omega)), if_neg (fun z => hv0 ((nI_z (by omega)).mp z)), shr_bit (by omega) (by omega), hb, if_pos rfl, if_neg (by decide), gAt_nI (show k < 10 from hk) (by omega), hs, if_neg (fun z => hs0 ((nI_z (by omega)).mp z)), gAt_nI (show k < 10 from hk) (by omega), hs, gLet, gLet, pn_dn, nI_xor]
        · exact hK2 _ _ ⟨by rw [Nat.add_assoc], z1, z2⟩
      · rintro v τ K2 ⟨rfl, k1, k2⟩
        unfold X9_rankOf_b39
        rw [show gAt τ 47 0 37 _ = _ from gAt_nI (i := 37) (show 37 < 30843 by omega) (by omega), k2 47 0 37 (by unfold p55; omega), h2, if_pos (by rw [nI_leq (by omega) (by omega)]; omega), gLet, nI_1]
        have hq : b * cntP incl (w + 1) = b * cntP incl w + b := by rw [hcw, Nat.mul_succ]
        exact hK _ _ ⟨by rw [hq], by rw [hq]; exact k1, k2⟩
    · have hcw : cntP incl (w + 1) = cntP incl w := by simp only [cntP]; rw [if_neg hi, Nat.add_zero]
      refine gL2_for (fun i v τ => v = nI (rk r (b * cntP incl w)) ∧ τ = σ) (fun o => ∃ m', o = some (nI (rk r (b * cntP incl W)), m') ∧ Eqv p55 m m') 0 (fun i x σ K hi => absurd hi (Nat.not_lt_zero _)) ?_ FU 0 _ σ (Nat.le_refl _) (by rw [FU_eq]; omega) ⟨rfl, rfl⟩
      rintro v τ K2 ⟨rfl, rfl⟩
      unfold X9_rankOf_b39
      rw [show gAt τ 47 0 37 _ = _ from gAt_nI (i := 37) (show 37 < 30843 by omega) (by omega), g2 47 0 37 (by unfold p55; omega), h2]
      by_cases hb0 : b = 0
      · rw [if_pos (by rw [nI_leq (by omega) (by omega)]; omega), gLet, nI_1]
        exact hK _ _ ⟨by rw [hcw], by rw [hcw]; exact g1, g2⟩
      · rw [if_neg (by rw [nI_leq (by omega) (by omega)]; omega), if_neg (fun z => hi ((ha w hw).mp z)), gLet, nI_1]
        exact hK _ _ ⟨by rw [hcw], by rw [hcw]; exact g1, g2⟩
  · rintro v σ K ⟨rfl, g1, g2⟩
    unfold X9_rankOf_b25
    rw [show gAt σ 47 0 36 _ = _ from gAt_nI (i := 36) (show 36 < 30843 by omega) (by omega), g2 47 0 36 (by unfold p55; omega), h1, if_pos (by rw [nI_leq (by omega) (by omega)]; omega)]
    exact ⟨σ, rfl, g2⟩
