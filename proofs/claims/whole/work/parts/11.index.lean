/-! LAYER 2: bits and indexes on both sides. -/
theorem bc_dec : (List.range 1024).all (fun x => decide (((((((nI x - ((gUshr (nI x) 1) &&& 1431655765)) &&& 858993459) + ((gUshr (nI x - ((gUshr (nI x) 1) &&& 1431655765)) 2) &&& 858993459)) |> fun x2 => ((x2 + (gUshr x2 4)) &&& 252645135) |> fun x3 => (x3 + (gUshr x3 8)) |> fun x4 => (x4 + (gUshr x4 16)) |> fun x5 => x5 &&& 63))) = nI (popF 10 x))) = true := by decide +kernel
theorem bc_ok {x : Nat} (hx : x < 1024) (m : gM) : J6_bitCount_0f7a4 (nI x) m = some (nI (popF 10 x), m) := by
  have h := List.all_eq_true.mp bc_dec x (List.mem_range.mpr hx)
  have h2 := of_decide_eq_true h
  unfold J6_bitCount_0f7a4
  simp only [gLet]
  exact congrArg some (Prod.ext h2 rfl)
theorem popF_le : ∀ f n, popF f n ≤ f := by
  intro f
  induction f with
  | zero => intro n; exact Nat.le_refl _
  | succ f ih => intro n; have := ih (n / 2); simp only [popF]; omega
theorem popF_0 : ∀ f, popF f 0 = 0 := by
  intro f
  induction f with
  | zero => rfl
  | succ f ih => simp only [popF, Nat.zero_div, ih]
theorem popF_pred : ∀ f n, 0 < n → n < 2 ^ f → popF f (n &&& (n - 1)) + 1 = popF f n := by
  intro f
  induction f with
  | zero => intro n h1 h2; omega
  | succ f ih =>
    intro n h1 h2
    have e1 : (n &&& (n - 1)) / 2 = (n / 2) &&& ((n - 1) / 2) := by
      apply Nat.eq_of_testBit_eq
      intro i
      simp [Nat.testBit_div_two, Nat.testBit_and]
    have e2 : (n &&& (n - 1)) % 2 = 0 := by
      have h := Nat.and_mod_two_pow (a := n) (b := n - 1) (n := 1)
      rw [show (2 : Nat) ^ 1 = 2 from rfl] at h
      rw [h]
      rcases Nat.mod_two_eq_zero_or_one n with ha | ha
      · rw [ha]; simp
      · rw [show (n - 1) % 2 = 0 by omega]; simp
    simp only [popF, e1, e2]
    rcases Nat.mod_two_eq_zero_or_one n with ha | ha
    · have h3 : (n - 1) / 2 = n / 2 - 1 := by omega
      rw [h3, ha]
      have := ih (n / 2) (by omega) (by rw [Nat.pow_succ] at h2; omega)
      omega
    · have h3 : (n - 1) / 2 = n / 2 := by omega
      rw [h3, ha, Nat.and_self]
      omega
theorem nI_sub1 {n : Nat} (h : 0 < n) : nI n - 1 = nI (n - 1) := by
  obtain ⟨k, rfl⟩ := Nat.exists_eq_succ_of_ne_zero (Nat.pos_iff_ne_zero.mp h)
  exact nI_pred k
theorem nI_z32 {a : Nat} (ha : a < 4294967296) : nI a = 0 ↔ a = 0 := by
  constructor
  · intro h
    have h1 : (nI a).toBitVec.toNat = 0 := by rw [h]; rfl
    rw [pk_tn (by omega)] at h1
    exact h1
  · intro h; rw [h]; rfl
theorem many_ok {n : Nat} (hn : n < 4294967296) (m : gM) : X9_many (nI n) m = some (nI (popF 32 n), m) := by
  have hle := popF_le 32
  have h00 := popF_0 32
  have hpp := popF_pred 32
  generalize popF 32 = pp at hle h00 hpp ⊢
  unfold X9_many
  refine gL2_rec (fun j a b σ => σ = m ∧ ∃ c, c < 4294967296 ∧ b = nI c ∧ j = pp c ∧ ∃ d, a = nI d ∧ d + pp c = pp n) (fun o => o = some (nI (pp n), m)) ?_ FU (pp n) 0 (nI n) m (by have := hle n; rw [FU_eq]; omega) ⟨rfl, n, hn, rfl, rfl, 0, rfl, by omega⟩
  rintro j a b σ K ⟨rfl, c, hc, rfl, rfl, d, rfl, hd⟩ hK
  unfold X9_many_b4
  by_cases h0 : c = 0
  · subst h0
    rw [if_pos (by rw [nI_z32 (by omega)])]
    rw [h00] at hd
    rw [← hd]; rfl
  · rw [if_neg (by rw [nI_z32 hc]; exact h0)]
    simp only [gLet]
    have hp := hpp c (by omega) hc
    rw [nI_1, nI_sub1 (by omega), nI_and]
    exact hK (pp (c &&& (c - 1))) _ _ _ (by omega) ⟨rfl, c &&& (c - 1), Nat.lt_of_le_of_lt Nat.and_le_left hc, rfl, rfl, d + 1, rfl, by omega⟩
theorem popF_grow : ∀ f g n, n < 2 ^ f → popF (f + g) n = popF f n := by
  intro f
  induction f with
  | zero => intro g n h; have : n = 0 := by omega
            subst this; rw [popF_0, popF_0]
  | succ f ih =>
    intro g n h
    rw [Nat.succ_add]
    simp only [popF]
    rw [ih g (n / 2) (by rw [Nat.pow_succ] at h; omega)]
/-- the index of a line by the masks mk of a way, n bits of it -/
def ixR (mk : Nat → Nat) (line : Nat) : Nat → Nat
  | 0 => 0
  | j + 1 => ixR mk line j ||| (par (line &&& mk j) * 2 ^ j)
theorem ixR_lt (mk : Nat → Nat) (line : Nat) : ∀ n, ixR mk line n < 2 ^ n := by
  intro n
  induction n with
  | zero => exact Nat.one_pos
  | succ n ih =>
    refine Nat.or_lt_two_pow (Nat.lt_trans ih ?_) ?_
    · rw [Nat.pow_succ]; have := Nat.two_pow_pos n; omega
    · have := par_lt (line &&& mk n)
      rw [Nat.pow_succ]
      have hp := Nat.two_pow_pos n
      rcases (show par (line &&& mk n) = 0 ∨ par (line &&& mk n) = 1 by omega) with h | h <;> rw [h] <;> omega
theorem ixR_congr {mk mk' : Nat → Nat} {line : Nat} : ∀ n, (∀ j, j < n → mk j = mk' j) → ixR mk line n = ixR mk' line n := by
  intro n
  induction n with
  | zero => intro _; rfl
  | succ n ih => intro h; simp only [ixR]; rw [ih (fun j hj => h j (by omega)), h n (by omega)]
/-- of a line's bits and a mask's: the lowest bit is whether they are odd -/
theorem X3_indexOf_ok {m : gM} {k line w b : Nat} {mk : Nat → Nat} (hb : m 3 k 1 = nI b) (hb4 : b ≤ 4) (hw : w < 4) (hm : ∀ j, j < b → m 25 k (4 * w + j) = nI (mk j)) (hl : line < 1024) : X3_indexOf k (nI line) (nI w) m = some (nI (ixR mk line b), m) := by
  unfold X3_indexOf
  refine gL2_for (fun i x σ' => σ' = m ∧ x = nI (ixR mk line i)) (fun o => o = some (nI (ixR mk line b), m)) b ?_ ?_ FU 0 0 m (Nat.zero_le _) (by rw [FU_eq]; omega) ⟨rfl, rfl⟩
  · rintro i x σ' K hi ⟨rfl, rfl⟩ hK
    unfold X3_indexOf_b5
    rw [if_neg (by rw [hb, nI_leq (by omega) (by omega)]; omega)]
    rw [show nI w * 4 + nI i = nI (4 * w + i) by rw [show (4 : Int32) = nI 4 from rfl, pk_mul, nI_add, Nat.mul_comm]]
    rw [gAt_nI (show 4 * w + i < 16 by omega) (by omega), hm i hi, nI_and, gCall_eq (bc_ok (Nat.lt_of_le_of_lt Nat.and_le_left hl) _)]
    simp only [gLet]
    rw [show (1 : Int32) = nI 1 from rfl, nI_and, nI_add]
    rw [nI_shl (by omega) (by have := par_lt (line &&& mk i); have h2 : popF 10 (line &&& mk i) &&& 1 < 2 := by rw [show (1 : Nat) = 2 ^ 1 - 1 from rfl, Nat.and_two_pow_sub_one_eq_mod]; omega
                              have h3 : 2 ^ i ≤ 2 ^ 4 := Nat.pow_le_pow_right (by omega) (by omega)
                              have := Nat.mul_le_mul (Nat.le_of_lt_succ h2) h3; omega), nI_or]
    refine hK _ _ ⟨rfl, ?_⟩
    simp only [ixR, par]
    rw [show (1 : Nat) = 2 ^ 1 - 1 from rfl, Nat.and_two_pow_sub_one_eq_mod]
  · rintro x σ' K ⟨rfl, rfl⟩
    unfold X3_indexOf_b5
    rw [if_pos (by rw [hb, nI_leq (by omega) (by omega)]; omega)]
theorem X9_indexOf_ok {m : gM} {line w b : Nat} {mk : Nat → Nat} (hb : m 47 0 37 = nI b) (hb4 : b ≤ 4) (hw : w < 4) (hm : ∀ j, j < b → m 47 0 (47 + 4 * w + j) = nI (mk j)) (hl : line < 1024) : X9_indexOf (nI line) (nI w) m = some (nI (ixR mk line b), m) := by
  unfold X9_indexOf
  refine gL2_for (fun i x σ' => σ' = m ∧ x = nI (ixR mk line i)) (fun o => o = some (nI (ixR mk line b), m)) b ?_ ?_ FU 0 0 m (Nat.zero_le _) (by rw [FU_eq]; omega) ⟨rfl, rfl⟩
  · rintro i x σ' K hi ⟨rfl, rfl⟩ hK
    unfold X9_indexOf_b5
    rw [show (37 : Int32) = nI 37 from rfl, gAt_nI (show 37 < 30843 by omega) (by omega), hb]
    rw [if_neg (by rw [nI_leq (by omega) (by omega)]; omega)]
    unfold X9_maskAt
    simp only [gCall_some]
    rw [show (47 + 4 * nI w) + nI i = nI (47 + 4 * w + i) by rw [show (4 : Int32) = nI 4 from rfl, show (47 : Int32) = nI 47 from rfl, pk_mul, nI_add, nI_add]]
    rw [gAt_nI (show 47 + 4 * w + i < 30843 by omega) (by omega), hm i hi, nI_and, gCall_eq (many_ok (Nat.lt_of_le_of_lt Nat.and_le_left (by omega)) _)]
    simp only [gLet]
    have hp : popF 32 (line &&& mk i) = popF 10 (line &&& mk i) := popF_grow 10 22 _ (Nat.lt_of_le_of_lt Nat.and_le_left (by omega))
    have hp2 := popF_le 10 (line &&& mk i)
    rw [hp, show (1 : Int32) = nI 1 from rfl, show (2 : Int32) = nI 2 from rfl, nI_rem (by omega) (by omega) (by omega), nI_add]
    rw [nI_shl (by omega) (by have h3 : 2 ^ i ≤ 2 ^ 4 := Nat.pow_le_pow_right (by omega) (by omega)
                              have h2 : popF 10 (line &&& mk i) % 2 ≤ 1 := by omega
                              have := Nat.mul_le_mul h2 h3; omega), nI_or]
    exact hK _ _ ⟨rfl, rfl⟩
  · rintro x σ' K ⟨rfl, rfl⟩
    unfold X9_indexOf_b5
    rw [show (37 : Int32) = nI 37 from rfl, gAt_nI (show 37 < 30843 by omega) (by omega), hb]
    rw [if_pos (by rw [nI_leq (by omega) (by omega)]; omega)]
