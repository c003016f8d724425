/-! LAYER 2, tools: numbers as nI of naturals, reads and writes, loops by a measure. -/
theorem lit (n : Nat) : (OfNat.ofNat n : Int32) = nI n := rfl
theorem nI_inj {a b : Nat} (ha : a < 2147483648) (hb : b < 2147483648) : nI a = nI b ↔ a = b := nI_eq (by omega) (by omega)
theorem nI_leq {a b : Nat} (ha : a < 2147483648) (hb : b < 2147483648) : nI a ≤ nI b ↔ a ≤ b := nI_leI (by omega) (by omega)
theorem nI_ltt {a b : Nat} (ha : a < 2147483648) (hb : b < 2147483648) : nI a < nI b ↔ a < b := nI_ltI (by omega) (by omega)
theorem nI_cl {a : Nat} (ha : a < 2147483648) : (nI a).toNatClampNeg = a := nI_clamp (by omega)
theorem nI_nm1 {a : Nat} (ha : a < 2147483648) : nI a ≠ -1 := by
  intro h
  have h1 := congrArg Int32.toInt h
  rw [nI_toInt (by omega)] at h1
  have h2 : (-1 : Int32).toInt = -1 := by decide
  omega
theorem nI_z {a : Nat} (ha : a < 2147483648) : nI a = 0 ↔ a = 0 := by
  rw [show (0 : Int32) = nI 0 from rfl, nI_inj ha (by omega)]
theorem nI_neg {a : Nat} (ha : a < 2147483648) : ¬ nI a < 0 := by
  rw [show (0 : Int32) = nI 0 from rfl, nI_ltt ha (by omega)]; omega
theorem nI_rem {a d : Nat} (ha : a < 2147483648) (h0 : 0 < d) (hd : d < 2147483648) : gRem (nI a) (nI d) = nI (a % d) := pk_rem (by omega) h0 (by omega)
theorem nI_div {a d : Nat} (ha : a < 2147483648) (h0 : 0 < d) (hd : d < 2147483648) : nI a / nI d = nI (a / d) := pk_div (by omega) h0 (by omega)
theorem nI_shs : ∀ n, n < 32 → ((nI n &&& 31).toBitVec.smod 32).toNat = n := by decide +kernel
theorem nI_shl {a b : Nat} (hb : b < 32) (h : a * 2 ^ b < 4294967296) : nI a <<< (nI b &&& 31) = nI (a * 2 ^ b) := pk_shlN (nI b &&& 31) b (nI_shs b hb) (by omega)
theorem nI_shr {a b : Nat} (hb : b < 32) (h : a < 2147483648) : nI a >>> (nI b &&& 31) = nI (a / 2 ^ b) := pk_shrN (by omega) (nI b &&& 31) b (nI_shs b hb)
theorem nI_and (a b : Nat) : nI a &&& nI b = nI (a &&& b) := by
  apply Int32.toBitVec_inj.1
  show BitVec.ofNat 32 a &&& BitVec.ofNat 32 b = BitVec.ofNat 32 (a &&& b)
  apply BitVec.eq_of_getLsbD_eq
  intro i hi
  simp [BitVec.getLsbD_ofNat, hi]
theorem nI_or (a b : Nat) : nI a ||| nI b = nI (a ||| b) := by
  apply Int32.toBitVec_inj.1
  show BitVec.ofNat 32 a ||| BitVec.ofNat 32 b = BitVec.ofNat 32 (a ||| b)
  apply BitVec.eq_of_getLsbD_eq
  intro i hi
  simp [BitVec.getLsbD_ofNat, hi]
theorem nI_xor (a b : Nat) : nI a ^^^ nI b = nI (a ^^^ b) := by
  apply Int32.toBitVec_inj.1
  show BitVec.ofNat 32 a ^^^ BitVec.ofNat 32 b = BitVec.ofNat 32 (a ^^^ b)
  apply BitVec.eq_of_getLsbD_eq
  intro i hi
  simp [BitVec.getLsbD_ofNat, hi]
theorem nI_of0 {x : Int32} (h : ¬ x < 0) : ∃ j : Nat, j < 2147483648 ∧ x = nI j := by
  obtain ⟨j, h1, h2⟩ := nI_of h
  exact ⟨j, by omega, h2⟩
/-- any number: below 0, or one of nI -/
theorem nI_any (x : Int32) : x < 0 ∨ ∃ j : Nat, j < 2147483648 ∧ x = nI j := by
  by_cases h : x < 0
  · exact Or.inl h
  · exact Or.inr (nI_of0 h)
theorem neg_lt {x : Int32} (h : x < 0) {a : Nat} (ha : a < 2147483648) : x < nI a := by
  rw [Int32.lt_iff_toInt_lt] at h ⊢
  rw [nI_toInt (by omega)]
  have : (0 : Int32).toInt = 0 := by decide
  omega
theorem neg_nle {x : Int32} (h : x < 0) {a : Nat} (ha : a < 2147483648) : ¬ nI a ≤ x := by
  have := neg_lt h ha
  rw [Int32.lt_iff_toInt_lt] at this
  rw [Int32.le_iff_toInt_le]
  omega
theorem neg_ne {x : Int32} (h : x < 0) {a : Nat} (ha : a < 2147483648) : x ≠ nI a := by
  intro e
  rw [e] at h
  exact nI_neg ha h
/-- reads and writes -/
theorem gAt_nI {β : Type} {m : gM} {t k i : Nat} {kk : Int32 → Option β} (h : i < glen t) (hi : i < 2147483648) : gAt m t k (nI i) kk = kk (m t k i) := by
  unfold gAt
  rw [if_neg (by rw [nI_cl hi]; exact fun q => q.elim (nI_neg hi) (by omega)), nI_cl hi]
theorem gPut_nI {β : Type} {m : gM} {t k i : Nat} {x : Int32} {kk : gM → Option β} (h : i < glen t) (hi : i < 2147483648) : gPut m t k (nI i) x kk = kk (gup m t k i x) := by
  unfold gPut
  rw [if_neg (by rw [nI_cl hi]; exact fun q => q.elim (nI_neg hi) (by omega)), nI_cl hi]
theorem gAtR_nI {β : Type} {t i : Nat} {kk : Nat → Option β} (h : i < glen t) (hi : i < 2147483648) : gAtR t (nI i) kk = kk i := by
  unfold gAtR
  rw [if_neg (by rw [nI_cl hi]; exact fun q => q.elim (nI_neg hi) (by omega)), nI_cl hi]
theorem gCall_some {α β : Type} {r : α} {m : gM} {kk : α → gM → Option β} : gCall (some (r, m)) kk = kk r m := rfl
theorem gCall_eq {α β : Type} {o : Option (α × gM)} {r : α} {m : gM} {kk : α → gM → Option β} (h : o = some (r, m)) : gCall o kk = kk r m := by rw [h]; rfl
theorem gup_t {m : gM} {t k i t' : Nat} {v : Int32} (h : t' ≠ t) : gup m t k i v t' = m t' := by
  funext k' i'
  unfold gup
  rw [if_neg (fun q => h q.1)]
theorem gup_k {m : gM} {t k i k' : Nat} {v : Int32} (h : k' ≠ k) : gup m t k i v t k' = m t k' := by
  funext i'
  unfold gup
  rw [if_neg (fun q => h q.2.1)]
theorem gup_at {m : gM} {t k i i' : Nat} {v : Int32} : gup m t k i v t k i' = if i' = i then v else m t k i' := by
  rw [gup_row]; rfl
theorem upd_at {f : Nat → Int32} {i j : Nat} {v : Int32} : upd f i v j = if j = i then v else f j := rfl
theorem upd_same {f : Nat → Int32} {i : Nat} {v : Int32} : upd f i v i = v := if_pos rfl
theorem upd_ne {f : Nat → Int32} {i j : Nat} {v : Int32} (h : j ≠ i) : upd f i v j = f j := if_neg h
theorem gcp_t {m : gM} {t0 k0 t1 k1 a b n t : Nat} (h : t ≠ t1) : gcp m t0 k0 t1 k1 a b n t = m t := by
  funext k i
  unfold gcp
  rw [if_neg (fun q => h q.1)]
theorem gcp_k {m : gM} {t0 k0 t1 k1 a b n k : Nat} (h : k ≠ k1) : gcp m t0 k0 t1 k1 a b n t1 k = m t1 k := by
  funext i
  unfold gcp
  rw [if_neg (fun q => h q.2)]
theorem gcp_row {m : gM} {t0 k0 t1 k1 a b n : Nat} : gcp m t0 k0 t1 k1 a b n t1 k1 = va_cpy (m t0 k0) (m t1 k1) a b n := by
  unfold gcp
  rw [if_pos ⟨rfl, rfl⟩]
/-- loops: a measure that falls -/
theorem gL0_rec {β : Type} (I : Nat → gM → Prop) (P : Option β → Prop) {f : gM → (gM → Option β) → Option β} (h : ∀ j σ K, I j σ → (∀ j' σ', j' < j → I j' σ' → P (K σ')) → P (f σ K)) : ∀ n j σ, j < n → I j σ → P (gL0 n f σ) := by
  intro n
  induction n with
  | zero => intro j σ hj _; exact absurd hj (Nat.not_lt_zero _)
  | succ n ih => intro j σ hj hI; exact h j σ _ hI (fun j' σ' hj' hI' => ih j' σ' (by omega) hI')
theorem gL1_rec {β : Type} (I : Nat → Int32 → gM → Prop) (P : Option β → Prop) {f : Int32 → gM → (Int32 → gM → Option β) → Option β} (h : ∀ j a σ K, I j a σ → (∀ j' a' σ', j' < j → I j' a' σ' → P (K a' σ')) → P (f a σ K)) : ∀ n j a σ, j < n → I j a σ → P (gL1 n f a σ) := by
  intro n
  induction n with
  | zero => intro j a σ hj _; exact absurd hj (Nat.not_lt_zero _)
  | succ n ih => intro j a σ hj hI; exact h j a σ _ hI (fun j' a' σ' hj' hI' => ih j' a' σ' (by omega) hI')
theorem gL2_rec {β : Type} (I : Nat → Int32 → Int32 → gM → Prop) (P : Option β → Prop) {f : Int32 → Int32 → gM → (Int32 → Int32 → gM → Option β) → Option β} (h : ∀ j a b σ K, I j a b σ → (∀ j' a' b' σ', j' < j → I j' a' b' σ' → P (K a' b' σ')) → P (f a b σ K)) : ∀ n j a b σ, j < n → I j a b σ → P (gL2 n f a b σ) := by
  intro n
  induction n with
  | zero => intro j a b σ hj _; exact absurd hj (Nat.not_lt_zero _)
  | succ n ih => intro j a b σ hj hI; exact h j a b σ _ hI (fun j' a' b' σ' hj' hI' => ih j' a' b' σ' (by omega) hI')
theorem gL3_rec {β : Type} (I : Nat → Int32 → Int32 → Int32 → gM → Prop) (P : Option β → Prop) {f : Int32 → Int32 → Int32 → gM → (Int32 → Int32 → Int32 → gM → Option β) → Option β} (h : ∀ j a b c σ K, I j a b c σ → (∀ j' a' b' c' σ', j' < j → I j' a' b' c' σ' → P (K a' b' c' σ')) → P (f a b c σ K)) : ∀ n j a b c σ, j < n → I j a b c σ → P (gL3 n f a b c σ) := by
  intro n
  induction n with
  | zero => intro j a b c σ hj _; exact absurd hj (Nat.not_lt_zero _)
  | succ n ih => intro j a b c σ hj hI; exact h j a b c σ _ hI (fun j' a' b' c' σ' hj' hI' => ih j' a' b' c' σ' (by omega) hI')
theorem gL4_rec {β : Type} (I : Nat → Int32 → Int32 → Int32 → Int32 → gM → Prop) (P : Option β → Prop) {f : Int32 → Int32 → Int32 → Int32 → gM → (Int32 → Int32 → Int32 → Int32 → gM → Option β) → Option β} (h : ∀ j a b c d σ K, I j a b c d σ → (∀ j' a' b' c' d' σ', j' < j → I j' a' b' c' d' σ' → P (K a' b' c' d' σ')) → P (f a b c d σ K)) : ∀ n j a b c d σ, j < n → I j a b c d σ → P (gL4 n f a b c d σ) := by
  intro n
  induction n with
  | zero => intro j a b c d σ hj _; exact absurd hj (Nat.not_lt_zero _)
  | succ n ih => intro j a b c d σ hj hI; exact h j a b c d σ _ hI (fun j' a' b' c' d' σ' hj' hI' => ih j' a' b' c' d' σ' (by omega) hI')
/-- a counting loop over i = a .. e less 1, that leaves at e: by an invariant of the other numbers and the memory -/
theorem gL1_for {β : Type} (I : Nat → gM → Prop) (P : Option β → Prop) (e : Nat) {f : Int32 → gM → (Int32 → gM → Option β) → Option β}
    (hs : ∀ i σ K, i < e → I i σ → (∀ σ', I (i + 1) σ' → P (K (nI (i + 1)) σ')) → P (f (nI i) σ K)) (hx : ∀ σ K, I e σ → P (f (nI e) σ K)) :
    ∀ (n a : Nat) σ, a ≤ e → e - a < n → I a σ → P (gL1 n f (nI a) σ) := by
  intro n
  induction n with
  | zero => intro a σ _ h; exact absurd h (Nat.not_lt_zero _)
  | succ n ih =>
    intro a σ ha hn hI
    rcases Nat.lt_or_ge a e with h | h
    · exact hs a σ _ h hI (fun σ' hI' => ih (a + 1) σ' h (by omega) hI')
    · have : a = e := by omega
      subst this
      exact hx σ _ hI
theorem gL2_for {β : Type} (I : Nat → Int32 → gM → Prop) (P : Option β → Prop) (e : Nat) {f : Int32 → Int32 → gM → (Int32 → Int32 → gM → Option β) → Option β}
    (hs : ∀ i x σ K, i < e → I i x σ → (∀ x' σ', I (i + 1) x' σ' → P (K x' (nI (i + 1)) σ')) → P (f x (nI i) σ K)) (hx : ∀ x σ K, I e x σ → P (f x (nI e) σ K)) :
    ∀ (n a : Nat) x σ, a ≤ e → e - a < n → I a x σ → P (gL2 n f x (nI a) σ) := by
  intro n
  induction n with
  | zero => intro a x σ _ h; exact absurd h (Nat.not_lt_zero _)
  | succ n ih =>
    intro a x σ ha hn hI
    rcases Nat.lt_or_ge a e with h | h
    · exact hs a x σ _ h hI (fun x' σ' hI' => ih (a + 1) x' σ' h (by omega) hI')
    · have : a = e := by omega
      subst this
      exact hx x σ _ hI
theorem gL3_for {β : Type} (I : Nat → Int32 → Int32 → gM → Prop) (P : Option β → Prop) (e : Nat) {f : Int32 → Int32 → Int32 → gM → (Int32 → Int32 → Int32 → gM → Option β) → Option β}
    (hs : ∀ i x y σ K, i < e → I i x y σ → (∀ x' y' σ', I (i + 1) x' y' σ' → P (K x' y' (nI (i + 1)) σ')) → P (f x y (nI i) σ K)) (hx : ∀ x y σ K, I e x y σ → P (f x y (nI e) σ K)) :
    ∀ (n a : Nat) x y σ, a ≤ e → e - a < n → I a x y σ → P (gL3 n f x y (nI a) σ) := by
  intro n
  induction n with
  | zero => intro a x y σ _ h; exact absurd h (Nat.not_lt_zero _)
  | succ n ih =>
    intro a x y σ ha hn hI
    rcases Nat.lt_or_ge a e with h | h
    · exact hs a x y σ _ h hI (fun x' y' σ' hI' => ih (a + 1) x' y' σ' h (by omega) hI')
    · have : a = e := by omega
      subst this
      exact hx x y σ _ hI
theorem FU_eq : FU = 100000 := rfl
/-- what a call leaves as it was -/
def Eqv (P : Nat → Nat → Nat → Prop) (m m' : gM) : Prop := ∀ t k i, ¬ P t k i → m' t k i = m t k i
theorem Eqv.rf {P : Nat → Nat → Nat → Prop} {m : gM} : Eqv P m m := fun _ _ _ _ => rfl
theorem Eqv.tr {P : Nat → Nat → Nat → Prop} {a b c : gM} (h : Eqv P a b) (g : Eqv P b c) : Eqv P a c := fun t k i q => (g t k i q).trans (h t k i q)
theorem Eqv.mono {P Q : Nat → Nat → Nat → Prop} {a b : gM} (h : Eqv P a b) (hq : ∀ t k i, P t k i → Q t k i) : Eqv Q a b := fun t k i q => h t k i (fun z => q (hq t k i z))
theorem Eqv.up {P : Nat → Nat → Nat → Prop} {m : gM} {t k i : Nat} {v : Int32} (h : P t k i) : Eqv P m (gup m t k i v) := by
  intro t' k' i' q
  unfold gup
  rw [if_neg (fun z => q (by rw [z.1, z.2.1, z.2.2]; exact h))]
/-- bits: how many, and whether they are odd -/
def popF : Nat → Nat → Nat
  | 0, _ => 0
  | f + 1, n => n % 2 + popF f (n / 2)
def par (n : Nat) : Nat := popF 10 n % 2
theorem par_lt (n : Nat) : par n < 2 := Nat.mod_lt _ (by decide)
theorem popF_xor : ∀ (f a b : Nat), (popF f (a ^^^ b)) % 2 = (popF f a + popF f b) % 2 := by
  intro f
  induction f with
  | zero => intro a b; rfl
  | succ f ih =>
    intro a b
    have h1 : (a ^^^ b) / 2 = (a / 2) ^^^ (b / 2) := by
      apply Nat.eq_of_testBit_eq
      intro i
      simp [Nat.testBit_div_two, Nat.testBit_xor]
    have h2 : (a ^^^ b) % 2 = (a % 2 + b % 2) % 2 := by
      have h := Nat.xor_mod_two_pow (a := a) (b := b) (n := 1)
      rw [show (2 : Nat) ^ 1 = 2 from rfl] at h
      rw [h]
      rcases Nat.mod_two_eq_zero_or_one a with ha | ha <;> rcases Nat.mod_two_eq_zero_or_one b with hb | hb <;> rw [ha, hb] <;> rfl
    simp only [popF, h1]
    have := ih (a / 2) (b / 2)
    omega
theorem par_xor (a b : Nat) : par (a ^^^ b) = (par a + par b) % 2 := by
  have := popF_xor 10 a b
  unfold par
  omega
theorem li0 : (0 : Int32) = nI 0 := rfl
theorem li1 : (1 : Int32) = nI 1 := rfl
theorem li2 : (2 : Int32) = nI 2 := rfl
theorem li3 : (3 : Int32) = nI 3 := rfl
theorem li4 : (4 : Int32) = nI 4 := rfl
theorem li5 : (5 : Int32) = nI 5 := rfl
theorem li6 : (6 : Int32) = nI 6 := rfl
theorem li7 : (7 : Int32) = nI 7 := rfl
theorem li8 : (8 : Int32) = nI 8 := rfl
theorem li9 : (9 : Int32) = nI 9 := rfl
theorem li10 : (10 : Int32) = nI 10 := rfl
theorem li11 : (11 : Int32) = nI 11 := rfl
theorem li12 : (12 : Int32) = nI 12 := rfl
theorem li13 : (13 : Int32) = nI 13 := rfl
theorem li14 : (14 : Int32) = nI 14 := rfl
theorem li15 : (15 : Int32) = nI 15 := rfl
theorem li16 : (16 : Int32) = nI 16 := rfl
theorem li17 : (17 : Int32) = nI 17 := rfl
theorem li18 : (18 : Int32) = nI 18 := rfl
theorem li19 : (19 : Int32) = nI 19 := rfl
theorem li20 : (20 : Int32) = nI 20 := rfl
theorem li21 : (21 : Int32) = nI 21 := rfl
theorem li22 : (22 : Int32) = nI 22 := rfl
theorem li23 : (23 : Int32) = nI 23 := rfl
theorem li24 : (24 : Int32) = nI 24 := rfl
theorem li25 : (25 : Int32) = nI 25 := rfl
theorem li26 : (26 : Int32) = nI 26 := rfl
theorem li27 : (27 : Int32) = nI 27 := rfl
theorem li28 : (28 : Int32) = nI 28 := rfl
theorem li29 : (29 : Int32) = nI 29 := rfl
theorem li30 : (30 : Int32) = nI 30 := rfl
theorem li31 : (31 : Int32) = nI 31 := rfl
theorem li32 : (32 : Int32) = nI 32 := rfl
theorem li33 : (33 : Int32) = nI 33 := rfl
theorem li34 : (34 : Int32) = nI 34 := rfl
theorem li35 : (35 : Int32) = nI 35 := rfl
theorem li36 : (36 : Int32) = nI 36 := rfl
theorem li37 : (37 : Int32) = nI 37 := rfl
theorem li38 : (38 : Int32) = nI 38 := rfl
theorem li39 : (39 : Int32) = nI 39 := rfl
theorem li40 : (40 : Int32) = nI 40 := rfl
theorem li41 : (41 : Int32) = nI 41 := rfl
theorem li42 : (42 : Int32) = nI 42 := rfl
theorem li43 : (43 : Int32) = nI 43 := rfl
theorem li44 : (44 : Int32) = nI 44 := rfl
theorem li45 : (45 : Int32) = nI 45 := rfl
theorem li46 : (46 : Int32) = nI 46 := rfl
theorem li47 : (47 : Int32) = nI 47 := rfl
theorem li48 : (48 : Int32) = nI 48 := rfl
theorem li49 : (49 : Int32) = nI 49 := rfl
theorem li50 : (50 : Int32) = nI 50 := rfl
theorem li51 : (51 : Int32) = nI 51 := rfl
theorem li52 : (52 : Int32) = nI 52 := rfl
theorem li53 : (53 : Int32) = nI 53 := rfl
theorem li54 : (54 : Int32) = nI 54 := rfl
theorem li55 : (55 : Int32) = nI 55 := rfl
theorem li56 : (56 : Int32) = nI 56 := rfl
theorem li57 : (57 : Int32) = nI 57 := rfl
theorem li58 : (58 : Int32) = nI 58 := rfl
theorem li59 : (59 : Int32) = nI 59 := rfl
theorem li60 : (60 : Int32) = nI 60 := rfl
theorem li61 : (61 : Int32) = nI 61 := rfl
theorem li62 : (62 : Int32) = nI 62 := rfl
theorem li63 : (63 : Int32) = nI 63 := rfl
theorem li64 : (64 : Int32) = nI 64 := rfl
theorem li80 : (80 : Int32) = nI 80 := rfl
theorem li99 : (99 : Int32) = nI 99 := rfl
theorem li100 : (100 : Int32) = nI 100 := rfl
theorem li114 : (114 : Int32) = nI 114 := rfl
theorem li119 : (119 : Int32) = nI 119 := rfl
theorem li255 : (255 : Int32) = nI 255 := rfl
theorem li300 : (300 : Int32) = nI 300 := rfl
theorem li383 : (383 : Int32) = nI 383 := rfl
theorem li431 : (431 : Int32) = nI 431 := rfl
theorem li461 : (461 : Int32) = nI 461 := rfl
theorem li600 : (600 : Int32) = nI 600 := rfl
theorem li853 : (853 : Int32) = nI 853 := rfl
theorem li1023 : (1023 : Int32) = nI 1023 := rfl
theorem li1024 : (1024 : Int32) = nI 1024 := rfl
theorem li1201 : (1201 : Int32) = nI 1201 := rfl
theorem li1407 : (1407 : Int32) = nI 1407 := rfl
theorem li1467 : (1467 : Int32) = nI 1467 := rfl
theorem li1499 : (1499 : Int32) = nI 1499 := rfl
theorem li1503 : (1503 : Int32) = nI 1503 := rfl
theorem li9999 : (9999 : Int32) = nI 9999 := rfl
theorem li30046 : (30046 : Int32) = nI 30046 := rfl
theorem li30047 : (30047 : Int32) = nI 30047 := rfl
theorem li30843 : (30843 : Int32) = nI 30843 := rfl
theorem li99999 : (99999 : Int32) = nI 99999 := rfl
theorem li100000 : (100000 : Int32) = nI 100000 := rfl
theorem ge16 : glen 16 = 4 := rfl
theorem ge17 : glen 17 = 64 := rfl
theorem ge18 : glen 18 = 64 := rfl
theorem ge19 : glen 19 = 64 := rfl
theorem ge20 : glen 20 = 64 := rfl
theorem ge21 : glen 21 = 64 := rfl
theorem ge22 : glen 22 = 64 := rfl
theorem ge23 : glen 23 = 64 := rfl
theorem ge24 : glen 24 = 64 := rfl
theorem ge25 : glen 25 = 16 := rfl
theorem ge26 : glen 26 = 6 := rfl
theorem ge27 : glen 27 = 96 := rfl
theorem ge28 : glen 28 = 1024 := rfl
theorem ge29 : glen 29 = 64 := rfl
theorem ge30 : glen 30 = 64 := rfl
theorem ge31 : glen 31 = 64 := rfl
theorem ge32 : glen 32 = 64 := rfl
theorem ge33 : glen 33 = 64 := rfl
theorem ge34 : glen 34 = 1024 := rfl
theorem ge35 : glen 35 = 600 := rfl
theorem ge36 : glen 36 = 64 := rfl
theorem ge37 : glen 37 = 64 := rfl
theorem ge38 : glen 38 = 600 := rfl
theorem ge39 : glen 39 = 600 := rfl
theorem ge40 : glen 40 = 32 := rfl
theorem ge41 : glen 41 = 20 := rfl
theorem ge42 : glen 42 = 4 := rfl
theorem ge43 : glen 43 = 16 := rfl
theorem ge44 : glen 44 = 16 := rfl
theorem ge45 : glen 45 = 32 := rfl
theorem ge46 : glen 46 = 300 := rfl
theorem ge47 : glen 47 = 30843 := rfl
theorem ge48 : glen 48 = 30843 := rfl
theorem ge49 : glen 49 = 4804 := rfl
theorem ge50 : glen 50 = 300 := rfl
theorem ge51 : glen 51 = 4 := rfl
theorem ge52 : glen 52 = 64 := rfl
theorem ge53 : glen 53 = 64 := rfl
theorem ge54 : glen 54 = 64 := rfl
theorem ge55 : glen 55 = 10 := rfl
theorem ge56 : glen 56 = 1467 := rfl
theorem ge57 : glen 57 = 16 := rfl
theorem ge58 : glen 58 = 64 := rfl
theorem ge59 : glen 59 = 64 := rfl
theorem ge60 : glen 60 = 64 := rfl
theorem ge61 : glen 61 = 64 := rfl
theorem ge62 : glen 62 = 64 := rfl
theorem ge63 : glen 63 = 64 := rfl

def nM : Int32 := -1
def nT : Int32 := -10000
def nW : Int32 := -2
theorem lim1 : (-1 : Int32) = nM := rfl
theorem lim10000 : (-10000 : Int32) = nT := rfl
theorem lim2 : (-2 : Int32) = nW := rfl
theorem nM_ne {a : Nat} (ha : a < 2147483648) : (nI a = nM) = False := eq_false (nI_nm1 ha)
theorem nM_ne' {a : Nat} (ha : a < 2147483648) : (nM = nI a) = False := eq_false (fun h => nI_nm1 ha h.symm)
theorem nM_lt0 : nM < 0 := by decide
theorem nM_ltI {a : Nat} (ha : a < 2147483648) : (nM < nI a) = True := eq_true (neg_lt nM_lt0 ha)
theorem nM_leI {a : Nat} (ha : a < 2147483648) : (nI a ≤ nM) = False := eq_false (neg_nle nM_lt0 ha)
